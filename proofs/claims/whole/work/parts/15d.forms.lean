/-! ===== formations: masks and halves; assignments ===== -/
def ib_ (x : Int32) (i : Nat) : Bool := x.toBitVec.getLsbD i
theorem ib_l : ∀ n, n < 32 → ((nI n &&& 31).toBitVec.smod 32).toNat = n := by decide +kernel
theorem ib_or (x y : Int32) (i : Nat) : ib_ (x ||| y) i = (ib_ x i || ib_ y i) := by unfold ib_; rw [Int32.toBitVec_or, BitVec.getLsbD_or]
theorem ib_0 (i : Nat) : ib_ 0 i = false := BitVec.getLsbD_zero
theorem ib_shl : ∀ l, l < 32 → ((1 : Int32) <<< (nI l &&& 31)).toBitVec = BitVec.twoPow 32 l := by decide +kernel
theorem ib_one {l i : Nat} (hl : l < 32) (hi : i < 32) : ib_ ((1 : Int32) <<< (nI l &&& 31)) i = decide (l = i) := by
  unfold ib_
  rw [ib_shl l hl, BitVec.getLsbD_twoPow]
  simp [hl]
theorem ib_shr {n : Nat} (hn : n < 32) (x : Int32) : ib_ (x >>> (nI n &&& 31)) 0 = ib_ x n := by
  unfold ib_
  rw [Int32.toBitVec_shiftRight]
  show (x.toBitVec.sshiftRight ((nI n &&& 31).toBitVec.smod 32).toNat).getLsbD 0 = _
  rw [ib_l n hn, BitVec.getLsbD_sshiftRight]
  simp [hn]
theorem ib_a1 (x : Int32) : (x &&& 1) = 1 ↔ ib_ x 0 = true := by
  rw [pk_and x 1 (by decide)]
  unfold ib_
  rw [BitVec.getLsbD, Nat.testBit_zero]
  have h : x.toBitVec.toNat % 2 < 2 := Nat.mod_lt _ (by decide)
  simp only [decide_eq_true_eq]
  rw [show (1 : Int32) = nI 1 from rfl, show (2 : Nat) ^ 1 = 2 from rfl]
  exact nI_eq (by omega) (by decide)
theorem nI_r32 {k : Nat} (hk : k < 64) : nI k - nI k / 32 * 32 = nI (k % 32) := pk_rem (d := 32) (by omega) (by decide) (by decide)
theorem blg_b {h : Int32} {k : Nat} (hk : k < 64) : blg h (nI k) = if ib_ h (k % 32) = true then 1 else 0 := by
  unfold blg
  rw [nI_r32 hk]
  have hl : k % 32 < 32 := Nat.mod_lt _ (by decide)
  by_cases g : ib_ h (k % 32) = true
  · rw [if_pos g, if_pos ((ib_a1 _).mpr (by rw [ib_shr hl]; exact g))]
  · rw [if_neg g, if_neg (fun e => g (by rw [← ib_shr hl]; exact (ib_a1 _).mp e))]
theorem le32 {k : Nat} (hk : k < 64) : (32 : Int32) ≤ nI k ↔ 32 ≤ k := nI_leI (a := 32) (by decide) (by omega)
theorem R_mbl {T : Nat} {σ : Sg} {M : Mg} {n q c f k : Nat} (h : RX T σ (M 0) n q c) (hf : f < 4) (hk : k < 64) : mbl M f (nI k) = cnt (σ.2.1 f) (nI k) := by
  rw [cnt_tb hk]
  exact (h.2.2.2.1 f hf).1 k hk
theorem R_mcl {T : Nat} {σ : Sg} {M : Mg} {n q c f : Nat} (h : RX T σ (M 0) n q c) (hf : f < 4) : mcl M f = nI (ctb (tb (σ.2.1 f)) 64) := by
  unfold mcl
  rw [show (0 : Int32) = nI 0 from rfl, fo_cnt 64 0 0, Nat.zero_add]
  congr 1
  refine ctb_cong (fun k hk => ?_)
  rw [Nat.zero_add, show nI 0 = (0 : Int32) from rfl, R_mbl h hf hk, cnt_tb hk]
  cases tb (σ.2.1 f) k <;> decide
theorem S_form {T : Nat} (x y : Int32) : Sim T [(-1, 1), (-2, 2), (-3, 3)] (fun s => FX4_extend s x y) (fun m => FX8_forms m x y) := by
  intro μ ν s m σ M hs hm ⟨n, q, c, h⟩
  dsimp only
  rcases in_or (x := x) (n := 4) (by decide) with hx | ⟨f, hf, rfl⟩
  · exact Or.inr ⟨(-1, 1), by simp, e_extend_out1 hx, e_forms_out1 hm hx⟩
  · rcases in_or (x := y) (n := 64) (by decide) with hy | ⟨k, hk, rfl⟩
    · exact Or.inr ⟨(-1, 1), by simp, e_extend_out2 hf hy, e_forms_out2 hm hf hy⟩
    · have hF := h.2.2.2.1
      have hc10 := (hF f hf).2
      rw [e_extend hs hf hk, e_forms hm hf hk, R_mbl h hf hk, R_mcl h hf, bcn_ct, cnt_tb hk]
      by_cases g : tb (σ.2.1 f) k = true
      · rw [if_pos g, if_neg (by decide), if_neg (by decide)]
        exact Or.inr ⟨(-2, 2), by simp, rfl, rfl⟩
      · rw [if_neg g, if_pos rfl, if_pos rfl]
        have g0 : tb (σ.2.1 f) k = false := by simpa using g
        by_cases h10 : ctb (tb (σ.2.1 f)) 64 = 10
        · rw [if_neg (by rw [h10]; decide), if_pos (by rw [h10]; rfl)]
          exact Or.inr ⟨(-3, 3), by simp, rfl, rfl⟩
        · rw [if_pos (show nI (ctb (tb (σ.2.1 f)) 64) < 10 from nI_lt (b := 10) (by omega) (by decide)), if_neg (show ¬ nI (ctb (tb (σ.2.1 f)) 64) = 10 from fun e => h10 ((nI_eq (b := 10) (by omega) (by decide)).mp e))]
          have e1 := bcn_or hk g0
          have hv : ∀ j, j < 73 ∨ 81 ≤ j → (mfm M f (nI k)) 0 j = M 0 j := fun j hj => by
            unfold mfm
            split <;> simp (disch := omega) only [m_same, m_col, m_row, s_same, s_col, s_row]
          have hX : RX T (sF2 σ f (σ.2.1 f ||| bit1 (nI k))) ((mfm M f (nI k)) 0) n q c := by
            refine ⟨RD_c h.1 rfl (fun r _ d _ => rfl) (hv _ (by omega)) (fun j h1 h2 => hv _ (by omega)), RP_c h.2.1 (hv _ (by omega)) (fun j h1 h2 => hv _ (by omega)), RC_c h.2.2.1 rfl (fun r _ _ e _ => rfl) (hv _ (by omega)) (fun j h1 h2 => hv _ (by omega)), fun e he => ?_, RN_c h.2.2.2.2.1 (fun j _ _ => rfl) (fun j h1 h2 => hv _ (by omega)), h.2.2.2.2.2⟩
            by_cases hef : e = f
            · subst hef
              have e2 : (sF2 σ e (σ.2.1 e ||| bit1 (nI k))).2.1 e = σ.2.1 e ||| bit1 (nI k) := by simp [sF2, vp_updL]
              rw [e2]
              refine ⟨fun i hi => ?_, by omega⟩
              rw [tb_or, tb_bit1 hk hi, blg_b hi]
              have h0 := (hF e he).1 i hi
              rw [blg_b hi] at h0
              have l1 : k % 32 < 32 := Nat.mod_lt _ (by decide)
              have l2 : i % 32 < 32 := Nat.mod_lt _ (by decide)
              have e3 : ib_ (if 32 ≤ nI i then (mfm M e (nI k)) 0 (77 + e) else (mfm M e (nI k)) 0 (73 + e)) (i % 32) = (ib_ (if 32 ≤ nI i then M 0 (77 + e) else M 0 (73 + e)) (i % 32) || decide (k = i)) := by
                unfold mfm hlf
                rw [nI_r32 hk]
                by_cases a : 32 ≤ k
                · have a' := (le32 hk).mpr a
                  by_cases b : 32 ≤ i
                  · have b' := (le32 hi).mpr b
                    simp only [a', b', if_true]
                    simp (disch := omega) only [m_same, m_col, m_row, s_same, s_col, s_row]
                    rw [ib_or, ib_one l1 l2]
                    congr 1
                    exact decide_eq_decide.mpr (by omega)
                  · have b' : ¬ 32 ≤ nI i := fun e => b ((le32 hi).mp e)
                    simp only [a', b', if_true, if_false]
                    simp (disch := omega) only [m_same, m_col, m_row, s_same, s_col, s_row]
                    rw [show decide (k = i) = false from decide_eq_false (by omega), Bool.or_false]
                · have a' : ¬ 32 ≤ nI k := fun e => a ((le32 hk).mp e)
                  by_cases b : 32 ≤ i
                  · have b' := (le32 hi).mpr b
                    simp only [a', b', if_true, if_false]
                    simp (disch := omega) only [m_same, m_col, m_row, s_same, s_col, s_row]
                    rw [show decide (k = i) = false from decide_eq_false (by omega), Bool.or_false]
                  · have b' : ¬ 32 ≤ nI i := fun e => b ((le32 hi).mp e)
                    simp only [a', b', if_false]
                    simp (disch := omega) only [m_same, m_col, m_row, s_same, s_col, s_row]
                    rw [ib_or, ib_one l1 l2]
                    congr 1
                    exact decide_eq_decide.mpr (by omega)
              rw [e3]
              have e4 : ib_ (if 32 ≤ nI i then M 0 (77 + e) else M 0 (73 + e)) (i % 32) = tb (σ.2.1 e) i := by
                cases ha : ib_ (if 32 ≤ nI i then M 0 (77 + e) else M 0 (73 + e)) (i % 32) <;> cases hb : tb (σ.2.1 e) i <;> rw [ha, hb] at h0 <;> first | rfl | exact absurd h0 (by decide)
              rw [e4]
            · have e2 : (sF2 σ f (σ.2.1 f ||| bit1 (nI k))).2.1 e = σ.2.1 e := by simp [sF2, vp_updL, hef]
              have e3 : ∀ j, j = 73 + e ∨ j = 77 + e → (mfm M f (nI k)) 0 j = M 0 j := fun j hj => by
                unfold mfm
                split <;> simp (disch := omega) only [m_same, m_col, m_row, s_same, s_col, s_row]
              rw [e2, e3 _ (Or.inl rfl), e3 _ (Or.inr rfl)]
              exact hF e he
          have e5 : (sF2 σ f (σ.2.1 f ||| bit1 (nI k))).2.1 f = σ.2.1 f ||| bit1 (nI k) := by simp [sF2, vp_updL]
          rw [R_mcl hX hf, e5, bcn_ct, e1]
          exact Or.inl ⟨_, _, _, rfl, rfl, by omega, RX_up hX, fun r h0 _ => by funext e; unfold mfm; simp (disch := omega) only [m_same, m_col, m_row, s_same, s_col, s_row]⟩
theorem S_clr {T : Nat} (x : Int32) : Sim T [(-1, 1)] (fun s => FX4_empty s x) (fun m => FX8_clears m x) := by
  intro μ ν s m σ M hs hm ⟨n, q, c, h⟩
  dsimp only
  rcases in_or (x := x) (n := 4) (by decide) with hx | ⟨f, hf, rfl⟩
  · exact Or.inr ⟨(-1, 1), by simp, e_empty_out hx, e_clears_out hm hx⟩
  · have hF := h.2.2.2.1
    have hc10 := (hF f hf).2
    rw [e_empty hs hf, e_clears hm hf, R_mcl h hf, bcn_ct]
    refine Or.inl ⟨_, _, _, rfl, rfl, by omega, RX_up (n := n) (q := q) (c := c) ?_, fun r h0 _ => by funext e; simp (disch := omega) only [m_same, m_col, m_row, s_same, s_col, s_row]⟩
    refine ⟨RD_c h.1 rfl (fun r _ d _ => rfl) (by simp (disch := omega) only [m_same, m_col, m_row, s_same, s_col, s_row]) (fun j h1 h2 => by simp (disch := omega) only [m_same, m_col, m_row, s_same, s_col, s_row]), RP_c h.2.1 (by simp (disch := omega) only [m_same, m_col, m_row, s_same, s_col, s_row]) (fun j h1 h2 => by simp (disch := omega) only [m_same, m_col, m_row, s_same, s_col, s_row]), RC_c h.2.2.1 rfl (fun r _ _ e _ => rfl) (by simp (disch := omega) only [m_same, m_col, m_row, s_same, s_col, s_row]) (fun j h1 h2 => by simp (disch := omega) only [m_same, m_col, m_row, s_same, s_col, s_row]), fun e he => ?_, RN_c h.2.2.2.2.1 (fun j _ _ => rfl) (fun j h1 h2 => by simp (disch := omega) only [m_same, m_col, m_row, s_same, s_col, s_row]), h.2.2.2.2.2⟩
    by_cases hef : e = f
    · subst hef
      have e2 : (sF2 σ e 0).2.1 e = 0 := by simp [sF2, vp_updL]
      rw [e2]
      refine ⟨fun i hi => ?_, ?_⟩
      · rw [tb_0, blg_b hi]
        have e3 : (if 32 ≤ nI i then (mS (mS M 0 (73 + e) 0) 0 (77 + e) 0) 0 (77 + e) else (mS (mS M 0 (73 + e) 0) 0 (77 + e) 0) 0 (73 + e)) = 0 := by
          split <;> simp (disch := omega) only [m_same, m_col, m_row, s_same, s_col, s_row]
        rw [e3, ib_0]
      · rw [ctb_zero (fun k _ => tb_0 k)]
        decide
    · have e2 : (sF2 σ f 0).2.1 e = σ.2.1 e := by simp [sF2, vp_updL, hef]
      have e3 : ∀ j, j = 73 + e ∨ j = 77 + e → (mS (mS M 0 (73 + f) 0) 0 (77 + f) 0) 0 j = M 0 j := fun j hj => by simp (disch := omega) only [m_same, m_col, m_row, s_same, s_col, s_row]
      rw [e2, e3 _ (Or.inl rfl), e3 _ (Or.inr rfl)]
      exact hF e he
/-! assignments -/
theorem R_asg {T : Nat} {σ : Sg} {M : Mg} {n q c d : Nat} (h : RX T σ (M 0) n q c) (hd : d < n) : mtp M d = asg σ d := by
  unfold mtp asg
  rw [R_fl h hd, R_ur h hd]
theorem tgt_neg {x : Int32} (h : x = -1 ∨ ∃ k, k < 64 ∧ x = nI k) : (x + 1 - 1 < 0 ↔ x = -1) ∧ x + 1 - 1 = x := by
  have e : x + 1 - 1 = x := by
    rcases h with h | ⟨k, hk, h⟩
    · rw [h]; decide
    · rw [h, nI_1, nI_pred]
  refine ⟨?_, e⟩
  rw [e]
  rcases h with h | ⟨k, hk, h⟩
  · rw [h]; decide
  · rw [h]
    exact ⟨fun g => absurd g (nI_pos (by omega)), fun g => absurd g (m1_ne (by omega))⟩
/-- setting a target, or none -/
theorem RX_tg {T : Nat} {σ : Sg} {M : Mg} {n q c d : Nat} {x y : Int32} (h : RX T σ (M 0) n q c) (hd : d < n) (hx : x = -1 ∨ ∃ k, k < 64 ∧ x = nI k) (hy : y = x + 1) (hf : x ≠ -1 → σ.1 4 d ≠ 0) : RX T (sI2 σ 2 d x) ((mS M 0 (13 + 6 * d + 4) y) 0) n q c := by
  have ho := h.1.2.2.2.1 d hd
  refine RX_dr h hd (fun j hj => by simp (disch := omega) only [m_same, m_col, m_row, s_same, s_col, s_row]) rfl (fun r a b => by funext e; simp (disch := omega) only [m_same, m_col, m_row, s_same, s_col, s_row]) (fun r a e he => by simp (disch := omega) only [m_same, m_col, m_row, s_same, s_col, s_row]) (by simp (disch := omega) only [m_same, m_col, m_row, s_same, s_col, s_row]) (fun j hj => by simp (disch := omega) only [m_same, m_col, m_row, s_same, s_col, s_row]) ?_ ?_ (Bz_updo h.2.2.2.2.2 (by decide) (by decide))
  · unfold DrR at ho ⊢
    simp (disch := omega) only [m_same, m_col, m_row, s_same, s_col, s_row]
    exact ⟨ho.1.1, ho.1.2.1, ho.1.2.2.1, ho.1.2.2.2.1, hy, ho.1.2.2.2.2.2⟩
  · unfold DrV at ho ⊢
    simp (disch := omega) only [m_same, m_col, m_row, s_same, s_col, s_row]
    refine ⟨ho.2.1, ho.2.2.1, hx, fun e => ⟨?_, (ho.2.2.2.2 e).2⟩⟩
    by_cases g : x = -1
    · exact g
    · exact absurd e (hf g)
theorem R_drop {T : Nat} {σ : Sg} {M : Mg} {n q c : Nat} (h : RX T σ (M 0) n q c) : RX T (fo drt 0 n σ) ((fo mdr 0 n M) 0) n q c ∧ (∀ k, k ≠ 0 → (fo mdr 0 n M) k = M k) ∧ (fo drt 0 n σ).2 = σ.2 := by
  have h2 := fo_rel (R := fun _ (a : Sg) (b : Mg) => RX T a (b 0) n q c ∧ (∀ k, k ≠ 0 → b k = M k) ∧ a.2 = σ.2) (f := drt) (g := mdr) (k := n) (i := 0) (a := σ) (b := M) ⟨h, fun _ _ => rfl, rfl⟩ (fun d a b _ hd hR => by
    obtain ⟨r1, r2, r3⟩ := hR
    unfold drt mdr
    rw [R_asg r1 (by omega : d < n)]
    by_cases g : asg a d = 0
    · rw [if_pos g, if_pos g]; exact ⟨r1, r2, r3⟩
    · rw [if_neg g, if_neg g]
      exact ⟨RX_tg r1 (by omega) (Or.inl rfl) (by decide) (fun e => absurd rfl e), fun k hk => by rw [← r2 k hk]; funext e; simp (disch := omega) only [m_same, m_col, m_row, s_same, s_col, s_row], r3⟩)
  exact h2
theorem R_nid {T : Nat} {σ : Sg} {M : Mg} {n q c k : Nat} (h : RX T σ (M 0) n q c) (hk : k < 64) : fo (mnf M (nI k)) 0 n (-1) = fo (nid σ (nI k)) 0 n (-1) ∧ (fo (nid σ (nI k)) 0 n (-1) = -1 ∨ ∃ j, j < n ∧ fo (nid σ (nI k)) 0 n (-1) = nI j ∧ asg σ j ≠ 0) := by
  have h2 := fo_rel (R := fun i (a b : Int32) => a = b ∧ (a = -1 ∨ ∃ j, j < i ∧ a = nI j ∧ asg σ j ≠ 0)) (f := nid σ (nI k)) (g := mnf M (nI k)) (k := n) (i := 0) (a := -1) (b := -1) ⟨rfl, Or.inl rfl⟩ (fun d a b _ hd hR => by
    obtain ⟨rfl, hb⟩ := hR
    have hn9 := h.1.1
    have hb2 : a = -1 ∨ ∃ j, j < d + 1 ∧ a = nI j ∧ asg σ j ≠ 0 := by
      rcases hb with e | ⟨j, hj, e⟩
      · exact Or.inl e
      · exact Or.inr ⟨j, by omega, e⟩
    have ho := h.1.2.2.2.1 d (by omega)
    unfold nid mnf
    rw [R_asg h (by omega : d < n), ho.1.2.2.2.2.1, ho.1.1]
    by_cases g : asg σ d = 0
    · rw [if_pos g, if_pos g]; exact ⟨rfl, hb2⟩
    · rw [if_neg g, if_neg g]
      obtain ⟨t1, t2⟩ := tgt_neg ho.2.2.2.1
      by_cases g2 : σ.1 2 d = -1
      · rw [if_pos g2, if_pos (t1.mpr g2)]
        have hdn : nI d = -1 ∨ ∃ j, j < d + 1 ∧ nI d = nI j ∧ asg σ j ≠ 0 := Or.inr ⟨d, by omega, rfl, g⟩
        rcases hb with e | ⟨j, hj, e, -⟩
        · rw [if_pos e, if_pos (by rw [e]; decide)]
          exact ⟨rfl, hdn⟩
        · have hoj := h.1.2.2.2.1 j (by omega)
          rw [if_neg (show ¬ a = -1 by rw [e]; exact m1_ne (by omega)), if_neg (show ¬ a < 0 by rw [e]; exact nI_pos (by omega)), e, nI_clamp (show j < 2 ^ 31 by omega), hoj.1.1]
          rw [e] at hb2
          by_cases g3 : dst (σ.1 0 j) (nI k) ≤ dst (σ.1 0 d) (nI k)
          · rw [if_pos g3]; exact ⟨rfl, hb2⟩
          · rw [if_neg g3]; exact ⟨rfl, hdn⟩
      · rw [if_neg g2, if_neg (fun e => g2 (t1.mp e))]
        exact ⟨rfl, hb2⟩)
  rw [Nat.zero_add] at h2
  exact ⟨h2.1.symm, h2.2⟩
theorem lg_0 {x : Int64} : lg_cmp x 0 = 0 ↔ x = 0 := by
  unfold lg_cmp
  constructor
  · intro h
    by_cases g : x > 0
    · rw [if_pos g] at h; exact absurd h (by decide)
    · rw [if_neg g] at h
      by_cases e : x = 0
      · exact e
      · rw [if_neg e] at h; exact absurd h (by decide)
  · intro h
    rw [h]
    decide
theorem S_asg {T : Nat} (x : Int32) : Sim T [(-1, 1), (-3, 2)] (fun s => FX4_distribute s x) (fun m => FX8_assigns m x) := by
  intro μ ν s m σ M hs hm ⟨n, q, c, h⟩
  dsimp only
  have hn9 := h.1.1
  rcases in_or (x := x) (n := 4) (by decide) with hx | ⟨f, hf, rfl⟩
  · exact Or.inr ⟨(-1, 1), by simp, e_dist_out hx, e_assigns_out hm hx⟩
  · have hc10 := (h.2.2.2.1 f hf).2
    rw [e_dist hs hf h.1.2.1 hn9, e_assigns hm hf h.1.2.2.1 hn9, R_mcl h hf]
    have e0 : lg_cmp (σ.2.1 f) 0 = 0 ↔ nI (ctb (tb (σ.2.1 f)) 64) = 0 := by
      rw [lg_0, show (0 : Int32) = nI 0 from rfl, nI_eq (by omega) (by decide)]
      constructor
      · intro e
        rw [e]
        exact ctb_zero (fun k _ => tb_0 k)
      · intro e
        refine tb_ext (fun k hk => ?_)
        rw [tb_0]
        cases hb : tb (σ.2.1 f) k with
        | false => rfl
        | true => have := ctb_pos hk hb; omega
    by_cases g : lg_cmp (σ.2.1 f) 0 = 0
    · rw [if_pos g, if_pos (e0.mp g)]
      exact Or.inr ⟨(-3, 2), by simp, rfl, rfl⟩
    · rw [if_neg g, if_neg (fun e => g (e0.mpr e))]
      have h1 := R_drop h
      have h2 := fo_rel (R := fun i (a : Sg × Int32) (b : Mg × Int32) => RX T a.1 (b.1 0) n q c ∧ (∀ k, k ≠ 0 → b.1 k = M k) ∧ a.1.2 = σ.2 ∧ a.2 = b.2 ∧ ∃ r, r ≤ i ∧ a.2 = nI r) (f := dsb (σ.2.1 f) n) (g := mas f n) (k := 64) (i := 0) (a := (fo drt 0 n σ, 0)) (b := (fo mdr 0 n M, 0)) ⟨h1.1, h1.2.1, h1.2.2, rfl, 0, Nat.le_refl _, rfl⟩ (fun k a b _ hk hR => by
        obtain ⟨r1, r2, r3, r4, r, hr, hr2⟩ := hR
        obtain ⟨n1, n2⟩ := R_nid r1 (show k < 64 by omega)
        unfold dsb mas
        rw [R_mbl r1 hf (show k < 64 by omega), n1, r3]
        by_cases g2 : cnt (σ.2.1 f) (nI k) = 0
        · rw [if_pos g2, if_pos g2]
          exact ⟨r1, r2, r3, r4, r, by omega, hr2⟩
        · rw [if_neg g2, if_neg g2]
          rcases n2 with e | ⟨j, hj, e, e2⟩
          · rw [if_pos e, if_neg (by rw [e]; decide)]
            exact ⟨r1, r2, r3, r4, r, by omega, hr2⟩
          · rw [if_neg (by rw [e]; exact m1_ne (by omega)), if_pos (by rw [e]; exact nI_pos' (by omega)), e, nI_clamp (show j < 2 ^ 31 by omega)]
            have hfl : a.1.1 4 j ≠ 0 := fun e3 => e2 (by unfold asg; rw [if_pos e3])
            exact ⟨RX_tg r1 hj (Or.inr ⟨k, by omega, rfl⟩) (nI_1 k).symm (fun _ => hfl), fun i hi => by rw [← r2 i hi]; funext e; simp (disch := omega) only [m_same, m_col, m_row, s_same, s_col, s_row], r3, by show a.2 + 1 = b.2 + 1; rw [r4], r + 1, by omega, by show a.2 + 1 = _; rw [hr2, nI_1]⟩)
      obtain ⟨r1, r2, -, r4, r, hr, hr2⟩ := h2
      rw [← r4, hr2]
      exact Or.inl ⟨r, _, _, rfl, rfl, by omega, RX_up r1, fun i hi _ => r2 i hi⟩
