/-! ===== the operations of a scene, one beside the other ===== -/
/-- both sides do the same: a result and related scenes, or a reason and its place -/
def Sim (T : Nat) (ks : List (Int32 × Int32)) (FX : Nat → Me → Rs Int32) (FM : Nat → Me → Rs Int32) : Prop := ∀ (μ ν : Me) (s m : Nat) (σ : Sg) (M : Mg), 0 < s → 0 < m → RR T σ (M 0) →
  (∃ (r : Nat) (σ' : Sg) (M' : Mg), FX s (put μ s σ) = rt (nI r) (put μ s σ') ∧ FM m (pum ν m M) = rt (nI r) (pum ν m M') ∧ r < 2 ^ 31 ∧ RR (T + 30) σ' (M' 0) ∧ ∀ k, k ≠ 0 → k ≠ 5 → M' k = M k) ∨
  (∃ p, p ∈ ks ∧ FX s (put μ s σ) = rt p.1 (put μ s σ) ∧ FM m (pum ν m M) = rt 0 (pum ν m (mF M p.2)))
theorem RX_up {T : Nat} {σ : Sg} {v : Nat → Int32} {n q c : Nat} (h : RX T σ v n q c) : RR (T + 30) σ v := ⟨n, q, c, RX_mono h (by omega)⟩
theorem fo_cnt {P : Nat → Prop} [DecidablePred P] : ∀ k i a, fo (fun d (a : Int32) => if P d then a else a + 1) i k (nI a) = nI (a + ctb (fun j => decide (¬ P (i + j))) k) := by
  intro k
  induction k with
  | zero => intro i a; rfl
  | succ k ih =>
    intro i a
    have e : ctb (fun j => decide (¬ P (i + j))) (k + 1) = (if P i then 0 else 1) + ctb (fun j => decide (¬ P (i + 1 + j))) k := by
      rw [show k + 1 = 1 + k by omega, ctb_split]
      congr 1
      · simp only [ctb, Nat.add_zero]
        by_cases h : P i <;> simp [h]
      · exact ctb_cong (fun j _ => by rw [show i + (1 + j) = i + 1 + j by omega])
    simp only [fo]
    by_cases h : P i
    · rw [if_pos h, ih, e, if_pos h, Nat.zero_add]
    · rw [if_neg h, nI_1, ih, e, if_neg h]
      congr 1
      omega
theorem flc_n (σ : Sg) (n : Nat) : flc σ n = nI (ctb (fun d => decide (¬ σ.1 4 d = 0)) n) := by
  unfold flc
  rw [show (0 : Int32) = nI 0 from rfl, fo_cnt n 0 0, Nat.zero_add]
  simp only [Nat.zero_add]
def far0 (a b : Nat) : Nat := (if b / 8 ≤ a / 8 then a / 8 - b / 8 else b / 8 - a / 8) + (if b % 8 ≤ a % 8 then a % 8 - b % 8 else b % 8 - a % 8)
theorem dst_n : ∀ a, a < 64 → ∀ b, b < 64 → dst (nI a) (nI b) = nI (far0 a b) := by decide +kernel
theorem far0_le {a b : Nat} (ha : a < 64) (hb : b < 64) : far0 a b ≤ 14 := by
  unfold far0
  split <;> split <;> omega
theorem S_add {T : Nat} (x : Int32) : Sim T [(-1, 1), (-3, 2), (-4, 3)] (fun s => FX4_enlist s x) (fun m => FX8_adds m x) := by
  intro μ ν s m σ M hs hm ⟨n, q, c, h⟩
  dsimp only
  have hn9 := h.1.1
  rcases in_or (x := x) (n := 64) (by decide) with hx | ⟨k, hk, rfl⟩
  · exact Or.inr ⟨(-1, 1), by simp, e_enlist_out hx, e_adds_out hm hx⟩
  · rw [e_enlist hs hk h.1.2.1 hn9, e_adds hk hm h.1.2.2.1 hn9, R_occ h.1 rfl]
    by_cases h10 : n = 10
    · rw [if_neg (by omega), if_pos h10]
      exact Or.inr ⟨(-3, 2), by simp, rfl, rfl⟩
    · rw [if_pos (by omega), if_neg h10]
      rcases ocp_in σ n (nI k) with e | ⟨j, hj, e, e2⟩
      · rw [e, if_pos rfl, if_pos (by decide)]
        refine Or.inl ⟨n, _, _, rfl, rfl, by omega, ⟨n + 1, q, c, ?_, ?_, ?_, ?_, ?_, ?_⟩, fun r h0 _ => ?_⟩
        · refine ⟨by omega, ?_, ?_, fun d hd => ?_, fun d i hd hi he => ?_⟩
          · unfold enl; simp (disch := omega) only [m_same, m_col, m_row, s_same, s_col, s_row]
          · unfold madd; simp (disch := omega) only [m_same, m_col, m_row, s_same, s_col, s_row]
          · by_cases hdn : d = n
            · subst hdn
              unfold DrR DrV enl grn madd mgr
              simp (disch := omega) only [m_same, m_col, m_row, s_same, s_col, s_row]
              exact ⟨⟨(by first | trivial | rfl), (by first | trivial | rfl), (by first | trivial | rfl), (by first | trivial | rfl), by decide, (by first | trivial | rfl)⟩, ⟨k, hk, (by first | trivial | rfl)⟩, ⟨100, by decide, (by first | trivial | rfl)⟩, Or.inl (by first | trivial | rfl), fun _ => ⟨(by first | trivial | rfl), (by first | trivial | rfl)⟩⟩
            · have hd2 : d < n := by omega
              have ho := h.1.2.2.2.1 d hd2
              unfold DrR DrV at ho ⊢
              unfold enl grn madd mgr
              simp (disch := omega) only [m_same, m_col, m_row, s_same, s_col, s_row]
              exact ho
          · have hf := (ocp_none hn9).mp e
            by_cases hdn : d = n
            · by_cases hin : i = n
              · omega
              · subst hdn
                unfold enl grn at he
                simp (disch := omega) only [m_same, m_col, m_row, s_same, s_col, s_row] at he
                exact absurd he.symm (hf i (by omega))
            · by_cases hin : i = n
              · subst hin
                unfold enl grn at he
                simp (disch := omega) only [m_same, m_col, m_row, s_same, s_col, s_row] at he
                exact absurd he (hf d (by omega))
              · unfold enl grn at he
                simp (disch := omega) only [m_same, m_col, m_row, s_same, s_col, s_row] at he
                exact h.1.2.2.2.2 d i (by omega) (by omega) he
        · exact RP_c h.2.1 (by unfold madd mgr; simp (disch := omega) only [m_same, m_col, m_row, s_same, s_col, s_row]) (fun j h1 h2 => by unfold madd mgr; simp (disch := omega) only [m_same, m_col, m_row, s_same, s_col, s_row])
        · exact RC_n (RC_c h.2.2.1 (by unfold enl grn; simp (disch := omega) only [m_same, m_col, m_row, s_same, s_col, s_row]) (fun r h1 h2 e he => by unfold enl grn; simp (disch := omega) only [m_same, m_col, m_row, s_same, s_col, s_row]) (by unfold madd mgr; simp (disch := omega) only [m_same, m_col, m_row, s_same, s_col, s_row]) (fun j h1 h2 => by unfold madd mgr; simp (disch := omega) only [m_same, m_col, m_row, s_same, s_col, s_row])) (by omega)
        · exact RF_c h.2.2.2.1 (fun f _ => rfl) (fun j h1 h2 => by unfold madd mgr; simp (disch := omega) only [m_same, m_col, m_row, s_same, s_col, s_row])
        · exact RN_c (RX_mono h (by omega) : RX (T + 30) _ _ _ _ _).2.2.2.2.1 (fun j h1 h2 => by unfold enl grn; simp (disch := omega) only [m_same, m_col, m_row, s_same, s_col, s_row]) (fun j h1 h2 => by unfold madd mgr; simp (disch := omega) only [m_same, m_col, m_row, s_same, s_col, s_row])
        · unfold enl grn
          exact Bz_updo (Bz_updo (Bz_upd5 (Bz_upd4 (Bz_updo (Bz_updo (Bz_updo h.2.2.2.2.2 (by decide) (by decide)) (by decide) (by decide)) (by decide) (by decide)) (Or.inl rfl)) (Or.inl rfl)) (by decide) (by decide)) (by decide) (by decide)
        · funext e; unfold madd mgr; simp (disch := omega) only [m_same, m_col, m_row, s_same, s_col, s_row]
      · rw [e, if_neg (m1_ne (by omega)), if_neg (nI_pos (by omega))]
        exact Or.inr ⟨(-4, 3), by simp, rfl, rfl⟩
theorem S_pad {T : Nat} (x : Int32) : Sim T [(-1, 1), (-2, 2), (-3, 3)] (fun s => FX4_markPad s x) (fun m => FX8_addsPad m x) := by
  intro μ ν s m σ M hs hm ⟨n, q, c, h⟩
  dsimp only
  rcases in_or (x := x) (n := 64) (by decide) with hx | ⟨k, hk, rfl⟩
  · exact Or.inr ⟨(-1, 1), by simp, e_markPad_out hx, e_addsPad_out hm hx⟩
  · have hP := h.2.1
    have hq9 := hP.1
    rw [e_markPad hs hk, e_addsPad hk hm hP.2.1 hP.1, R_pad hP rfl hk, bcn_ct, hP.2.2.1, cnt_tb hk]
    by_cases g : tb σ.2.2 k = true
    · rw [if_pos g, if_neg (by decide), if_neg (by decide)]
      exact Or.inr ⟨(-2, 2), by simp, rfl, rfl⟩
    · rw [if_neg g, if_pos rfl, if_pos rfl]
      have g0 : tb σ.2.2 k = false := by simpa using g
      by_cases h4 : q = 4
      · rw [if_neg (by subst h4; decide), if_pos h4]
        exact Or.inr ⟨(-3, 3), by simp, rfl, rfl⟩
      · rw [if_pos (show nI q < 4 from nI_lt (b := 4) (by omega) (by decide)), if_neg h4]
        have e1 := bcn_or hk g0
        rw [hP.2.2.1] at e1
        rw [bcn_ct, e1]
        refine Or.inl ⟨q + 1, _, _, rfl, rfl, by omega, ⟨n, q + 1, c, ?_, ?_, ?_, ?_, ?_, ?_⟩, fun r h0 _ => ?_⟩
        · exact RD_c h.1 rfl (fun r _ d _ => rfl) (by unfold mpad; simp (disch := omega) only [m_same, m_col, m_row, s_same, s_col, s_row]) (fun j h1 h2 => by unfold mpad; simp (disch := omega) only [m_same, m_col, m_row, s_same, s_col, s_row])
        · refine ⟨by omega, by unfold mpad; simp (disch := omega) only [m_same, m_col, m_row, s_same, s_col, s_row], e1, fun j hj => ?_, fun i hi hb => ?_⟩
          · by_cases hjq : j = q
            · subst hjq
              refine ⟨k, hk, by unfold mpad; simp (disch := omega) only [m_same, m_col, m_row, s_same, s_col, s_row], ?_⟩
              show tb (σ.2.2 ||| bit1 (nI k)) k = true
              rw [tb_or, tb_bit1 hk hk]
              simp
            · obtain ⟨i, hi, e2, e3⟩ := hP.2.2.2.1 j (by omega)
              refine ⟨i, hi, by unfold mpad; simp (disch := omega) only [m_same, m_col, m_row, s_same, s_col, s_row]; exact e2, ?_⟩
              show tb (σ.2.2 ||| bit1 (nI k)) i = true
              rw [tb_or, e3]
              rfl
          · have hb2 : tb (σ.2.2 ||| bit1 (nI k)) i = true := hb
            rw [tb_or, tb_bit1 hk hi, Bool.or_eq_true, decide_eq_true_eq] at hb2
            rcases hb2 with hb3 | hb3
            · obtain ⟨j, hj, e2⟩ := hP.2.2.2.2 i hi hb3
              exact ⟨j, by omega, by unfold mpad; simp (disch := omega) only [m_same, m_col, m_row, s_same, s_col, s_row]; exact e2⟩
            · subst hb3
              exact ⟨q, by omega, by unfold mpad; simp (disch := omega) only [m_same, m_col, m_row, s_same, s_col, s_row]⟩
        · exact RC_c h.2.2.1 rfl (fun r _ _ e _ => rfl) (by unfold mpad; simp (disch := omega) only [m_same, m_col, m_row, s_same, s_col, s_row]) (fun j h1 h2 => by unfold mpad; simp (disch := omega) only [m_same, m_col, m_row, s_same, s_col, s_row])
        · exact RF_c h.2.2.2.1 (fun f _ => rfl) (fun j h1 h2 => by unfold mpad; simp (disch := omega) only [m_same, m_col, m_row, s_same, s_col, s_row])
        · exact RN_c (RX_mono h (by omega) : RX (T + 30) _ _ _ _ _).2.2.2.2.1 (fun j h1 h2 => rfl) (fun j h1 h2 => by unfold mpad; simp (disch := omega) only [m_same, m_col, m_row, s_same, s_col, s_row])
        · exact h.2.2.2.2.2
        · funext e; unfold mpad; simp (disch := omega) only [m_same, m_col, m_row, s_same, s_col, s_row]
/-- one drone's fields change, its cell stays -/
theorem RX_dr {T : Nat} {σ σ' : Sg} {v v' : Nat → Int32} {n q c d : Nat} (h : RX T σ v n q c) (hd : d < n) (h9 : ∀ j, j < 8 → σ'.1 9 j = σ.1 9 j) (h2 : σ'.2 = σ.2) (hr : ∀ r, 6 ≤ r → r < 9 → σ'.1 r = σ.1 r) (ho : ∀ r, r < 6 → ∀ e, e ≠ d → σ'.1 r e = σ.1 r e) (h0 : σ'.1 0 d = σ.1 0 d) (hv : ∀ j, (j < 13 + 6 * d ∨ 19 + 6 * d ≤ j) → v' j = v j) (hR : DrR σ' v' d) (hV : DrV σ' d) (hB : Bz σ') : RX T σ' v' n q c := by
  have hn := h.1.1
  refine ⟨RD_one (d := d) h.1 (h9 0 (by omega)) (hv 0 (by omega)) (fun r hr e _ he => ho r hr e he) (fun e he hed j hj => hv _ (by omega)) ⟨hR, hV⟩ (fun e he hed => ?_), ?_, RC_c h.2.2.1 (h9 1 (by omega)) (fun r a b e _ => by rw [hr r a b]) (hv 8 (by omega)) (fun j a _ => hv j (by omega)), RF_c h.2.2.2.1 (fun f _ => by rw [h2]) (fun j a _ => hv j (by omega)), RN_c h.2.2.2.2.1 (fun j _ b => h9 j b) (fun j _ b => hv j (by omega)), hB⟩
  · rw [h0]
    exact fun e2 => hed (h.1.2.2.2.2 d e hd he e2).symm
  · rw [h2]
    exact RP_c h.2.1 (hv 1 (by omega)) (fun j _ b => hv j (by omega))
/-- grounded on both sides -/
theorem RX_gr {T : Nat} {σ : Sg} {M : Mg} {n q c d : Nat} (h : RX T σ (M 0) n q c) (hd : d < n) : RX T (grn σ d) ((mgr M d) 0) n q c := by
  have ho := h.1.2.2.2.1 d hd
  refine RX_dr h hd (fun j hj => by unfold grn; simp (disch := omega) only [m_same, m_col, m_row, s_same, s_col, s_row]) rfl (fun r a b => ?_) (fun r a e he => by unfold grn; simp (disch := omega) only [m_same, m_col, m_row, s_same, s_col, s_row]) (by unfold grn; simp (disch := omega) only [m_same, m_col, m_row, s_same, s_col, s_row]) (fun j hj => by unfold mgr; simp (disch := omega) only [m_same, m_col, m_row, s_same, s_col, s_row]) ?_ ?_ ?_
  · funext e
    unfold grn; simp (disch := omega) only [m_same, m_col, m_row, s_same, s_col, s_row]
  · unfold DrR at ho ⊢
    unfold grn mgr
    simp (disch := omega) only [m_same, m_col, m_row, s_same, s_col, s_row]
    exact ⟨ho.1.1, (by first | trivial | rfl), ho.1.2.2.1, ho.1.2.2.2.1, by decide, (by first | trivial | rfl)⟩
  · unfold DrV at ho ⊢
    unfold grn
    simp (disch := omega) only [m_same, m_col, m_row, s_same, s_col, s_row]
    exact ⟨ho.2.1, ho.2.2.1, Or.inl (by first | trivial | rfl), fun _ => ⟨(by first | trivial | rfl), (by first | trivial | rfl)⟩⟩
  · unfold grn
    exact Bz_updo (Bz_upd5 (Bz_upd4 h.2.2.2.2.2 (Or.inl rfl)) (Or.inl rfl)) (by decide) (by decide)
theorem S_off {T : Nat} (x : Int32) : Sim T [(-1, 1), (-3, 2), (-4, 3)] (fun s => FX4_lift s x) (fun m => FX8_starts m x) := by
  intro μ ν s m σ M hs hm ⟨n, q, c, h⟩
  dsimp only
  have hn9 := h.1.1
  rcases in_or (x := x) (n := n) (by omega) with hx | ⟨d, hd, rfl⟩
  · exact Or.inr ⟨(-1, 1), by simp, e_lift_out hs h.1.2.1 hx, e_starts_out hm h.1.2.2.1 hn9 hx⟩
  · have ho := h.1.2.2.2.1 d hd
    rw [e_lift hs hd h.1.2.1 hn9, e_starts hm h.1.2.2.1 hn9 hd, R_fl h hd, h.2.2.2.2.1.1, ho.1.2.2.1]
    by_cases g : σ.1 4 d = 0
    · rw [if_pos g, if_pos g]
      by_cases g2 : σ.1 9 2 < σ.1 1 d
      · rw [if_pos g2, if_pos g2]
        have hX : RX T (sI2 σ 4 d 1) ((mS M 0 (13 + 6 * d + 1) 1) 0) n q c := by
          refine RX_dr h hd (fun j hj => by simp (disch := omega) only [m_same, m_col, m_row, s_same, s_col, s_row]) rfl (fun r a b => by funext e; simp (disch := omega) only [m_same, m_col, m_row, s_same, s_col, s_row]) (fun r a e he => by simp (disch := omega) only [m_same, m_col, m_row, s_same, s_col, s_row]) (by simp (disch := omega) only [m_same, m_col, m_row, s_same, s_col, s_row]) (fun j hj => by simp (disch := omega) only [m_same, m_col, m_row, s_same, s_col, s_row]) ?_ ?_ (Bz_upd4 h.2.2.2.2.2 (Or.inr rfl))
          · unfold DrR at ho ⊢
            simp (disch := omega) only [m_same, m_col, m_row, s_same, s_col, s_row]
            exact ⟨ho.1.1, (by first | trivial | rfl), ho.1.2.2⟩
          · unfold DrV at ho ⊢
            simp (disch := omega) only [m_same, m_col, m_row, s_same, s_col, s_row]
            exact ⟨ho.2.1, ho.2.2.1, ho.2.2.2.1, fun e => absurd e (by decide)⟩
        rw [R_fly hX rfl, flc_n]
        refine Or.inl ⟨_, _, _, rfl, rfl, ?_, RX_up hX, fun r h0 _ => by funext e; simp (disch := omega) only [m_same, m_col, m_row, s_same, s_col, s_row]⟩
        have := ctb_le (fun e => decide (¬ (sI2 σ 4 d 1).1 4 e = 0)) n
        omega
      · rw [if_neg g2, if_neg g2]
        exact Or.inr ⟨(-4, 3), by simp, rfl, rfl⟩
    · rw [if_neg g, if_neg g]
      exact Or.inr ⟨(-3, 2), by simp, rfl, rfl⟩
theorem S_land {T : Nat} (x : Int32) : Sim T [(-1, 1), (-3, 2), (-4, 3)] (fun s => FX4_setDown s x) (fun m => FX8_lands m x) := by
  intro μ ν s m σ M hs hm ⟨n, q, c, h⟩
  dsimp only
  have hn9 := h.1.1
  rcases in_or (x := x) (n := n) (by omega) with hx | ⟨d, hd, rfl⟩
  · exact Or.inr ⟨(-1, 1), by simp, e_setDown_out hs h.1.2.1 hx, e_lands_out hm h.1.2.2.1 hn9 hx⟩
  · have ho := h.1.2.2.2.1 d hd
    obtain ⟨k, hk, hk2⟩ := ho.2.1
    rw [e_setDown hs hd h.1.2.1 hn9, e_lands hm h.1.2.2.1 hn9 h.2.1.2.1 h.2.1.1 hd, R_fl h hd, ho.1.1, hk2, R_pad h.2.1 rfl hk]
    by_cases g : σ.1 4 d = 0
    · rw [if_pos g, if_pos g]
      exact Or.inr ⟨(-3, 2), by simp, rfl, rfl⟩
    · rw [if_neg g, if_neg g]
      by_cases g2 : cnt σ.2.2 (nI k) = 0
      · rw [if_pos g2, if_pos g2]
        exact Or.inr ⟨(-4, 3), by simp, rfl, rfl⟩
      · rw [if_neg g2, if_neg g2]
        have hX := RX_gr h hd
        rw [R_fly hX rfl, flc_n]
        refine Or.inl ⟨_, _, _, rfl, rfl, ?_, RX_up hX, fun r h0 _ => by funext e; unfold mgr; simp (disch := omega) only [m_same, m_col, m_row, s_same, s_col, s_row]⟩
        have := ctb_le (fun e => decide (¬ (grn σ d).1 4 e = 0)) n
        omega
theorem S_send {T : Nat} (x y : Int32) : Sim T [(-1, 1), (-3, 2)] (fun s => FX4_aim s x y) (fun m => FX8_sends m x y) := by
  intro μ ν s m σ M hs hm ⟨n, q, c, h⟩
  dsimp only
  have hn9 := h.1.1
  rcases in_or (x := x) (n := n) (by omega) with hx | ⟨d, hd, rfl⟩
  · exact Or.inr ⟨(-1, 1), by simp, e_aim_out1 hs h.1.2.1 hx, e_sends_out1 hm h.1.2.2.1 hn9 hx⟩
  · rcases in_or (x := y) (n := 64) (by decide) with hy | ⟨k, hk, rfl⟩
    · exact Or.inr ⟨(-1, 1), by simp, e_aim_out2 hs hd h.1.2.1 hn9 hy, e_sends_out2 hm h.1.2.2.1 hn9 hd hy⟩
    · have ho := h.1.2.2.2.1 d hd
      obtain ⟨a, ha, ha2⟩ := ho.2.1
      rw [e_aim hs hd hk h.1.2.1 hn9, e_sends hm h.1.2.2.1 hn9 hd hk, R_fl h hd, R_ur h hd, ho.1.1, ha2, dst_n a ha k hk]
      by_cases g : σ.1 4 d = 0
      · rw [if_pos g, if_pos g]
        exact Or.inr ⟨(-3, 2), by simp, rfl, rfl⟩
      · rw [if_neg g, if_neg g]
        by_cases g2 : σ.1 5 d = 0
        · rw [if_pos g2, if_pos g2]
          have := far0_le ha hk
          refine Or.inl ⟨_, _, _, rfl, rfl, by omega, RX_up (n := n) (q := q) (c := c) ?_, fun r h0 _ => by funext e; simp (disch := omega) only [m_same, m_col, m_row, s_same, s_col, s_row]⟩
          refine RX_dr h hd (fun j hj => by simp (disch := omega) only [m_same, m_col, m_row, s_same, s_col, s_row]) rfl (fun r a b => by funext e; simp (disch := omega) only [m_same, m_col, m_row, s_same, s_col, s_row]) (fun r a e he => by simp (disch := omega) only [m_same, m_col, m_row, s_same, s_col, s_row]) (by simp (disch := omega) only [m_same, m_col, m_row, s_same, s_col, s_row]) (fun j hj => by simp (disch := omega) only [m_same, m_col, m_row, s_same, s_col, s_row]) ?_ ?_ (Bz_updo h.2.2.2.2.2 (by decide) (by decide))
          · unfold DrR at ho ⊢
            simp (disch := omega) only [m_same, m_col, m_row, s_same, s_col, s_row]
            exact ⟨ho.1.1, ho.1.2.1, ho.1.2.2.1, ho.1.2.2.2.1, (nI_1 k).symm, ho.1.2.2.2.2.2⟩
          · unfold DrV at ho ⊢
            simp (disch := omega) only [m_same, m_col, m_row, s_same, s_col, s_row]
            exact ⟨ho.2.1, ho.2.2.1, Or.inr ⟨k, hk, (by first | trivial | rfl)⟩, fun e => absurd e g⟩
        · rw [if_neg g2, if_neg g2]
          exact Or.inr ⟨(-3, 2), by simp, rfl, rfl⟩
theorem S_res {T : Nat} (x : Int32) : Sim T [(-2, 1)] (fun s => FX4_changeReserve s x) (fun m => FX8_reserves m x) := by
  intro μ ν s m σ M hs hm ⟨n, q, c, h⟩
  dsimp only
  have hN := h.2.2.2.2.1
  obtain ⟨r, hr, hr2⟩ := hN.2.2.2.2.2.2.1
  rw [e_reserve hs, e_reserves hm, hN.1, hr2]
  unfold isI
  by_cases g : x < 5
  · rw [if_pos g, if_pos g, if_pos rfl]
    exact Or.inr ⟨(-2, 1), by simp, rfl, rfl⟩
  · rw [if_neg g, if_neg g]
    by_cases g2 : x ≤ 30
    · rw [if_pos g2, if_neg (fun e => absurd (Int32.lt_of_lt_of_le e g2) (by decide)), if_neg (by decide)]
      obtain ⟨j, hj, rfl⟩ := nI_of2 (x := x) (M := 30) (n := 30) (by decide) (fun e => g (Int32.lt_of_lt_of_le e (by decide))) g2
      refine Or.inl ⟨r, _, _, rfl, rfl, by omega, ⟨n, q, c, ?_, ?_, ?_, ?_, ?_, ?_⟩, fun r h0 _ => by funext e; simp (disch := omega) only [m_same, m_col, m_row, s_same, s_col, s_row]⟩
      · exact RD_c h.1 (by simp (disch := omega) only [m_same, m_col, m_row, s_same, s_col, s_row]) (fun r a d b => by simp (disch := omega) only [m_same, m_col, m_row, s_same, s_col, s_row]) (by simp (disch := omega) only [m_same, m_col, m_row, s_same, s_col, s_row]) (fun j h1 h2 => by simp (disch := omega) only [m_same, m_col, m_row, s_same, s_col, s_row])
      · exact RP_c h.2.1 (by simp (disch := omega) only [m_same, m_col, m_row, s_same, s_col, s_row]) (fun j h1 h2 => by simp (disch := omega) only [m_same, m_col, m_row, s_same, s_col, s_row])
      · exact RC_c h.2.2.1 (by simp (disch := omega) only [m_same, m_col, m_row, s_same, s_col, s_row]) (fun r a b e he => by simp (disch := omega) only [m_same, m_col, m_row, s_same, s_col, s_row]) (by simp (disch := omega) only [m_same, m_col, m_row, s_same, s_col, s_row]) (fun j h1 h2 => by simp (disch := omega) only [m_same, m_col, m_row, s_same, s_col, s_row])
      · exact RF_c h.2.2.2.1 (fun f _ => rfl) (fun j h1 h2 => by simp (disch := omega) only [m_same, m_col, m_row, s_same, s_col, s_row])
      · obtain ⟨t, ht, ht2⟩ := hN.2.2.2.2.2.2.2
        unfold RN at hN ⊢
        simp (disch := omega) only [m_same, m_col, m_row, s_same, s_col, s_row]
        exact ⟨(by first | trivial | rfl), hN.2.1, hN.2.2.1, hN.2.2.2.1, hN.2.2.2.2.1, hN.2.2.2.2.2.1, ⟨j, hj, (by first | trivial | rfl)⟩, ⟨t, by omega, ht2⟩⟩
      · exact Bz_updo h.2.2.2.2.2 (by decide) (by decide)
    · have g3 : (30 : Int32) < x := Int32.not_le.mp g2
      rw [if_neg g2, if_pos g3, if_pos rfl]
      exact Or.inr ⟨(-2, 1), by simp, rfl, rfl⟩
theorem S_cue {T : Nat} (hT : T < 2 ^ 30) (x y z : Int32) : Sim T [(-1, 1), (-2, 2), (-3, 3)] (fun s => FX4_schedule s x y z) (fun m => FX8_addsCue m x y z) := by
  intro μ ν s m σ M hs hm ⟨n, q, c, h⟩
  dsimp only
  have hn9 := h.1.1
  have hC := h.2.2.1
  have hN := h.2.2.2.2.1
  rcases in_or (x := x) (n := n) (by omega) with hx | ⟨d, hd, rfl⟩
  · exact Or.inr ⟨(-1, 1), by simp, e_sched_out hs h.1.2.1 hx, e_addsCue_out hm h.1.2.2.1 hn9 hx⟩
  · rw [e_sched hs hd h.1.2.1 hn9 hC.2.1 hC.1, e_addsCue hm h.1.2.2.1 hn9 hd hC.2.2.1 hC.1, hN.2.1]
    have e7 : (z < 0 ∨ ¬ z < 8) ↔ isI z 0 7 = 0 := by
      unfold isI
      by_cases g : z < 0
      · rw [if_pos g]; exact ⟨fun _ => rfl, fun _ => Or.inl g⟩
      · rw [if_neg g]
        by_cases g2 : (7 : Int32) < z
        · rw [if_pos g2]
          refine ⟨fun _ => rfl, fun _ => Or.inr (fun e => ?_)⟩
          rw [Int32.lt_iff_toInt_lt] at e g2
          have e8 : (8 : Int32).toInt = 8 := by decide
          have e7 : (7 : Int32).toInt = 7 := by decide
          omega
        · rw [if_neg g2]
          refine ⟨fun e => ?_, fun e => absurd e (by decide)⟩
          rcases e with e | e
          · exact absurd e g
          · exact absurd (by rw [Int32.lt_iff_toInt_lt] at g2 ⊢; have e8 : (8 : Int32).toInt = 8 := by decide
                             have e7 : (7 : Int32).toInt = 7 := by decide
                             omega) e
    by_cases g : y ≤ σ.1 9 3 ∨ 999 < y ∨ isI z 0 7 = 0
    · rw [if_pos g, if_pos (by rw [← e7] at g; exact g)]
      exact Or.inr ⟨(-2, 2), by simp, rfl, rfl⟩
    · rw [if_neg g, if_neg (by rw [← e7] at g; exact g)]
      have hc9 := hC.1
      by_cases h12 : c = 12
      · rw [if_neg (by omega), if_pos h12]
        exact Or.inr ⟨(-3, 3), by simp, rfl, rfl⟩
      · rw [if_pos (by omega), if_neg h12]
        obtain ⟨t, ht, ht2⟩ := hN.2.2.2.2.2.2.2
        refine Or.inl ⟨c + 1, _, _, rfl, rfl, by omega, ⟨n, q, c + 1, ?_, ?_, ?_, ?_, ?_, ?_⟩, fun r h0 _ => by funext e; unfold mcq; simp (disch := omega) only [m_same, m_col, m_row, s_same, s_col, s_row]⟩
        · exact RD_c h.1 (by unfold scd; simp (disch := omega) only [m_same, m_col, m_row, s_same, s_col, s_row]) (fun r a d b => by unfold scd; simp (disch := omega) only [m_same, m_col, m_row, s_same, s_col, s_row]) (by unfold mcq; simp (disch := omega) only [m_same, m_col, m_row, s_same, s_col, s_row]) (fun j h1 h2 => by unfold mcq; simp (disch := omega) only [m_same, m_col, m_row, s_same, s_col, s_row])
        · exact RP_c h.2.1 (by unfold mcq; simp (disch := omega) only [m_same, m_col, m_row, s_same, s_col, s_row]) (fun j h1 h2 => by unfold mcq; simp (disch := omega) only [m_same, m_col, m_row, s_same, s_col, s_row])
        · refine ⟨by omega, by unfold scd; simp (disch := omega) only [m_same, m_col, m_row, s_same, s_col, s_row], by unfold mcq; simp (disch := omega) only [m_same, m_col, m_row, s_same, s_col, s_row], fun e he => ?_⟩
          by_cases hec : e = c
          · subst hec
            unfold scd mcq
            simp (disch := omega) only [m_same, m_col, m_row, s_same, s_col, s_row]
            refine ⟨(by first | trivial | rfl), (by first | trivial | rfl), (by first | trivial | rfl), ⟨d, hd, (by first | trivial | rfl)⟩, ?_⟩
            have g2 : ¬ (999 : Int32) < y := fun e => g (Or.inr (Or.inl e))
            have g3 : ¬ y ≤ σ.1 9 3 := fun e => g (Or.inl e)
            obtain ⟨j, hj, hj2⟩ := nI_of2 (x := y) (M := 999) (n := 999) (by decide) (fun e => g3 (by rw [ht2]; exact Int32.le_of_lt (Int32.lt_of_lt_of_le e (nI_pos' (by have := hT; omega))))) (Int32.not_lt.mp g2)
            exact ⟨j, hj, hj2⟩
          · have ho := hC.2.2.2 e (by omega)
            unfold scd mcq
            simp (disch := omega) only [m_same, m_col, m_row, s_same, s_col, s_row]
            exact ho
        · exact RF_c h.2.2.2.1 (fun f _ => rfl) (fun j h1 h2 => by unfold mcq; simp (disch := omega) only [m_same, m_col, m_row, s_same, s_col, s_row])
        · exact RN_c (RX_mono h (by omega) : RX (T + 30) _ _ _ _ _).2.2.2.2.1 (fun j h1 h2 => by unfold scd; simp (disch := omega) only [m_same, m_col, m_row, s_same, s_col, s_row]) (fun j h1 h2 => by unfold mcq; simp (disch := omega) only [m_same, m_col, m_row, s_same, s_col, s_row])
        · unfold scd
          exact Bz_updo (Bz_updo (Bz_updo (Bz_updo h.2.2.2.2.2 (by decide) (by decide)) (by decide) (by decide)) (by decide) (by decide)) (by decide) (by decide)
