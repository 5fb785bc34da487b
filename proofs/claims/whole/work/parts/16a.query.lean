/-! ===== what the two sides answer of a scene: masks, matches, pairs, ranks ===== -/
section QA
variable {T n q c d : Nat} {σ : Sg} {M : Mg}
theorem tb_shl32 (x : Int64) {k : Nat} (hk : k < 64) : tb (x <<< ((32 : Int32).toInt64 &&& 63)) k = (decide (32 ≤ k) && tb x (k - 32)) := by
  unfold tb
  rw [Int64.toBitVec_shiftLeft]
  have h1 : ((32 : Int32).toInt64 &&& 63).toBitVec.smod 64 = 32#64 := by decide +kernel
  rw [h1]
  show (x.toBitVec <<< (32#64).toNat).getLsbD k = _
  rw [BitVec.getLsbD_shiftLeft]
  have h2 : (32#64).toNat = 32 := by decide
  rw [h2]
  by_cases g : k < 32
  · simp [g, Nat.not_le.mpr g]
  · simp [hk, g, Nat.not_lt.mp g]
theorem tb_i32 (x : Int32) {k : Nat} (hk : k < 32) : tb x.toInt64 k = ib_ x k := by
  unfold tb ib_
  show (x.toBitVec.signExtend 64).getLsbD k = _
  rw [BitVec.getLsbD_signExtend]
  simp [hk, show k < 64 by omega]
theorem tb_mask32 : ∀ k, k < 64 → tb 4294967295 k = decide (k < 32) := by decide +kernel
theorem R_form {f : Nat} (h : RX T σ (M 0) n q c) (hf : f < 4) : ((M 0 (77 + f) : Int32).toInt64 <<< ((32 : Int32).toInt64 &&& 63)) ||| ((M 0 (73 + f) : Int32).toInt64 &&& 4294967295) = σ.2.1 f := by
  refine tb_ext (fun k hk => ?_)
  have h0 := (h.2.2.2.1 f hf).1 k hk
  rw [blg_b hk] at h0
  rw [tb_or, tb_and, tb_shl32 _ hk, tb_mask32 k hk]
  by_cases g : k < 32
  · rw [if_neg (show ¬ (32 : Int32) ≤ nI k from fun e => by have := (le32 hk).mp e; omega), Nat.mod_eq_of_lt g] at h0
    rw [decide_eq_false (by omega), decide_eq_true g, Bool.false_and, Bool.false_or, Bool.and_true, tb_i32 _ g]
    cases ha : ib_ (M 0 (73 + f)) k <;> cases hb : tb (σ.2.1 f) k <;> rw [ha, hb] at h0 <;> first | rfl | exact absurd h0 (by decide)
  · rw [if_pos ((le32 hk).mpr (by omega)), show k % 32 = k - 32 by omega] at h0
    rw [decide_eq_true (show 32 ≤ k by omega), decide_eq_false g, Bool.true_and, Bool.and_false, Bool.or_false, tb_i32 _ (by omega)]
    cases ha : ib_ (M 0 (77 + f)) (k - 32) <;> cases hb : tb (σ.2.1 f) k <;> rw [ha, hb] at h0 <;> first | rfl | exact absurd h0 (by decide)
/-! matches -/
theorem R_mmt {f : Nat} (h : RX T σ (M 0) n q c) (hf : f < 4) : mmt M f n = nI (ctb (tb (σ.2.1 f &&& flm σ n)) 64) ∧ ∀ k, k < 64 → (tb (flm σ n) k = true ↔ ∃ d, d < n ∧ σ.1 4 d ≠ 0 ∧ σ.1 0 d = nI k) := by
  have h2 := fo_rel (R := fun i (a : Int64) (b : Int32) => b = nI (ctb (tb (σ.2.1 f &&& a)) 64) ∧ ∀ k, k < 64 → (tb a k = true ↔ ∃ d, d < i ∧ σ.1 4 d ≠ 0 ∧ σ.1 0 d = nI k)) (f := fun d a => if σ.1 4 d = 0 then a else a ||| (1 <<< ((σ.1 0 d : Int32).toInt64 &&& 63))) (g := fun d a => if fl1 (M 0 (13 + 6 * d + 1)) = 0 then a else if mbl M f (M 0 (13 + 6 * d + 0)) = 0 then a else a + 1) (k := n) (i := 0) (a := 0) (b := 0) ⟨by
      rw [ctb_zero (fun k _ => by rw [tb_and, tb_0, Bool.and_false])]; rfl, fun k hk => by
      rw [tb_0]
      exact ⟨fun e => absurd e (by decide), fun ⟨d, hd, _⟩ => absurd hd (Nat.not_lt_zero d)⟩⟩ (fun d a b _ hd hR => by
    obtain ⟨r1, r2⟩ := hR
    have hd2 : d < n := by omega
    have ho := h.1.2.2.2.1 d hd2
    obtain ⟨x, hx, hx2⟩ := ho.2.1
    rw [R_fl h hd2, ho.1.1, hx2, R_mbl h hf hx, cnt_tb hx]
    by_cases g : σ.1 4 d = 0
    · rw [if_pos g, if_pos g]
      refine ⟨r1, fun k hk => ?_⟩
      rw [r2 k hk]
      constructor
      · rintro ⟨e, he, h3⟩; exact ⟨e, by omega, h3⟩
      · rintro ⟨e, he, h3, h4⟩
        refine ⟨e, ?_, h3, h4⟩
        have : e ≠ d := fun z => h3 (z ▸ g)
        omega
    · rw [if_neg g, if_neg g]
      have hb1 : ((1 : Int64) <<< ((nI x : Int32).toInt64 &&& 63)) = bit1 (nI x) := rfl
      rw [hb1]
      have hnot : tb a x = false := by
        cases hb : tb a x with
        | false => rfl
        | true =>
          obtain ⟨e, he, -, h4⟩ := (r2 x hx).mp hb
          have := h.1.2.2.2.2 e d (by omega) hd2 (h4.trans hx2.symm)
          omega
      refine ⟨?_, fun k hk => ?_⟩
      · have e2 : ∀ k, k < 64 → tb (σ.2.1 f &&& (a ||| bit1 (nI x))) k = (tb (σ.2.1 f &&& a) k || (tb (σ.2.1 f) x && decide (x = k))) := fun k hk => by
          rw [tb_and, tb_or, tb_bit1 hx hk, tb_and]
          by_cases e : x = k
          · subst e; cases tb (σ.2.1 f) x <;> cases tb a x <;> simp
          · simp [e]
        by_cases g2 : tb (σ.2.1 f) x = true
        · rw [if_pos g2, if_neg (by decide), r1, nI_1]
          congr 1
          rw [ctb_cong e2, ctb_upd (p := tb (σ.2.1 f &&& a)) (q := fun k => tb (σ.2.1 f &&& a) k || (tb (σ.2.1 f) x && decide (x = k))) (i := x) (by rw [tb_and, hnot, Bool.and_false]) (by simp [g2]) (fun k hk => by simp [Ne.symm hk]) 64, if_pos hx]
        · have g3 : tb (σ.2.1 f) x = false := by simpa using g2
          rw [if_neg g2, if_pos rfl, r1]
          congr 1
          exact ctb_cong (fun k hk => by rw [e2 k hk, g3]; simp)
      · rw [tb_or, tb_bit1 hx hk, Bool.or_eq_true, decide_eq_true_eq, r2 k hk]
        constructor
        · rintro (⟨e, he, h3⟩ | e)
          · exact ⟨e, by omega, h3⟩
          · subst e; exact ⟨d, by omega, g, hx2⟩
        · rintro ⟨e, he, h3, h4⟩
          by_cases hed : e = d
          · subst hed
            rw [hx2] at h4
            exact Or.inr ((nI_eq (by omega) (by omega)).mp h4)
          · exact Or.inl ⟨e, by omega, h3, h4⟩)
  rw [Nat.zero_add] at h2
  exact h2
theorem R_mbs {f : Nat} (h : RX T σ (M 0) n q c) (hf : f < 4) : fo (mbs σ n (σ.2.1 f)) 0 64 0 = nI (ctb (tb (σ.2.1 f &&& flm σ n)) 64) := by
  have h2 := (R_mmt h hf).2
  have hn9 := h.1.1
  have e1 : fo (mbs σ n (σ.2.1 f)) 0 64 0 = fo (fun k (a : Int32) => if ¬ tb (σ.2.1 f &&& flm σ n) k = true then a else a + 1) 0 64 0 := by
    refine fo_congr (fun k a _ hk => ?_)
    have hk6 : k < 64 := by omega
    unfold mbs
    rw [cnt_tb hk6, tb_and]
    by_cases g : tb (σ.2.1 f) k = true
    · rw [if_pos g, if_neg (by decide), g, Bool.true_and]
      rcases ocp_in σ n (nI k) with e | ⟨j, hj, e, e2⟩
      · rw [if_pos e, if_pos]
        intro x
        obtain ⟨d, hd, -, h4⟩ := (h2 k hk6).mp x
        exact (ocp_none hn9).mp e d hd h4
      · rw [e, if_neg (m1_ne (by omega)), nI_clamp (show j < 2 ^ 31 by omega)]
        by_cases g2 : σ.1 4 j = 0
        · rw [if_pos g2, if_pos]
          intro x
          obtain ⟨d, hd, h3, h4⟩ := (h2 k hk6).mp x
          have := h.1.2.2.2.2 d j hd hj (h4.trans e2.symm)
          subst this
          exact h3 g2
        · rw [if_neg g2, if_neg (fun x => x ((h2 k hk6).mpr ⟨j, hj, g2, e2⟩))]
    · have g3 : tb (σ.2.1 f) k = false := by simpa using g
      rw [if_neg g, if_pos rfl, g3, Bool.false_and, if_pos (by decide)]
  rw [e1, show (0 : Int32) = nI 0 from rfl, fo_cnt 64 0 0, Nat.zero_add]
  congr 1
  refine ctb_cong (fun k _ => ?_)
  rw [Nat.zero_add]
  cases tb (σ.2.1 f &&& flm σ n) k <;> decide
/-- all drones' cells: as many as drones -/
theorem R_all (h : RD σ (M 0) n) : ctb (tb (fo (fun d (a : Int64) => a ||| (1 <<< ((σ.1 0 d : Int32).toInt64 &&& 63))) 0 n 0)) 64 = n := by
  have h2 := fo_inv (P := fun i (a : Int64) => ctb (tb a) 64 = i ∧ ∀ k, k < 64 → (tb a k = true ↔ ∃ d, d < i ∧ σ.1 0 d = nI k)) (f := fun d a => a ||| (1 <<< ((σ.1 0 d : Int32).toInt64 &&& 63))) (k := n) (i := 0) (a := 0) ⟨ctb_zero (fun k _ => tb_0 k), fun k hk => by
      rw [tb_0]
      exact ⟨fun e => absurd e (by decide), fun ⟨d, hd, _⟩ => absurd hd (Nat.not_lt_zero d)⟩⟩ (fun d a _ hd hR => by
    obtain ⟨r1, r2⟩ := hR
    have hd2 : d < n := by omega
    obtain ⟨x, hx, hx2⟩ := (h.2.2.2.1 d hd2).2.1
    rw [hx2]
    have hb1 : ((1 : Int64) <<< ((nI x : Int32).toInt64 &&& 63)) = bit1 (nI x) := rfl
    rw [hb1]
    have hnot : tb a x = false := by
      cases hb : tb a x with
      | false => rfl
      | true =>
        obtain ⟨e, he, h4⟩ := (r2 x hx).mp hb
        have := h.2.2.2.2 e d (by omega) hd2 (h4.trans hx2.symm)
        omega
    refine ⟨by rw [bcn_or hx hnot, r1], fun k hk => ?_⟩
    rw [tb_or, tb_bit1 hx hk, Bool.or_eq_true, decide_eq_true_eq, r2 k hk]
    constructor
    · rintro (⟨e, he, h3⟩ | e)
      · exact ⟨e, by omega, h3⟩
      · subst e; exact ⟨d, by omega, hx2⟩
    · rintro ⟨e, he, h4⟩
      by_cases hed : e = d
      · subst hed
        rw [hx2] at h4
        exact Or.inr ((nI_eq (by omega) (by omega)).mp h4)
      · exact Or.inl ⟨e, by omega, h4⟩)
  rw [Nat.zero_add] at h2
  exact h2.1
/-! pairs -/
def smm (f : Nat → Nat) : Nat → Nat
  | 0 => 0
  | n + 1 => smm f n + f n
theorem smm_cong {f g : Nat → Nat} : ∀ {n : Nat}, (∀ k, k < n → f k = g k) → smm f n = smm g n := by
  intro n
  induction n with
  | zero => intro _; rfl
  | succ n ih => intro h; simp only [smm]; rw [ih (fun k hk => h k (by omega)), h n (by omega)]
theorem smm_add (f g : Nat → Nat) : ∀ n, smm (fun k => f k + g k) n = smm f n + smm g n := by
  intro n
  induction n with
  | zero => rfl
  | succ n ih => simp only [smm]; rw [ih]; omega
theorem smm_ctb (p : Nat → Bool) : ∀ n, smm (fun k => if p k = true then 1 else 0) n = ctb p n := by
  intro n
  induction n with
  | zero => rfl
  | succ n ih => simp only [smm, ctb]; rw [ih]
theorem pairs_sym {p : Nat → Nat → Bool} (hs : ∀ a b, p a b = p b a) : ∀ n, smm (fun d => ctb (fun j => p d (d + 1 + j)) (n - (d + 1))) n = smm (fun d => ctb (fun o => p d o) d) n := by
  intro n
  induction n with
  | zero => rfl
  | succ n ih =>
    simp only [smm]
    have e1 : smm (fun d => ctb (fun j => p d (d + 1 + j)) (n + 1 - (d + 1))) n = smm (fun d => ctb (fun j => p d (d + 1 + j)) (n - (d + 1)) + (if p d n = true then 1 else 0)) n := by
      refine smm_cong (fun d hd => ?_)
      rw [show n + 1 - (d + 1) = (n - (d + 1)) + 1 by omega]
      simp only [ctb]
      have e9 : d + 1 + (n - (d + 1)) = n := by omega
      simp only [e9]
    rw [e1, smm_add, ih, smm_ctb, show n + 1 - (n + 1) = 0 by omega]
    simp only [ctb, Nat.add_zero]
    congr 1
    exact ctb_cong (fun k _ => hs k n)
theorem fo_smm {g : Nat → Int32 → Int32} {f : Nat → Nat} : ∀ k i a, (∀ d, i ≤ d → d < i + k → ∀ b, g d (nI b) = nI (b + f d)) → fo g i k (nI a) = nI (a + smm (fun j => f (i + j)) k) := by
  intro k
  induction k with
  | zero => intro i a _; rfl
  | succ k ih =>
    intro i a h
    simp only [fo]
    rw [h i (Nat.le_refl _) (by omega), ih (i + 1) _ (fun d h1 h2 b => h d (by omega) (by omega) b)]
    congr 1
    have e : smm (fun j => f (i + j)) (k + 1) = f i + smm (fun j => f (i + 1 + j)) k := by
      have e2 : ∀ m, smm (fun j => f (i + j)) (m + 1) = f i + smm (fun j => f (i + 1 + j)) m := by
        intro m
        induction m with
        | zero => simp [smm]
        | succ m ihm =>
          show smm (fun j => f (i + j)) (m + 1) + f (i + (m + 1)) = f i + (smm (fun j => f (i + 1 + j)) m + f (i + 1 + m))
          rw [ihm, show i + (m + 1) = i + 1 + m by omega]
          omega
      exact e2 k
    rw [e]
    omega
def prq (σ : Sg) (a b : Nat) : Bool := decide (wis σ a ≠ -1 ∧ wis σ a = wis σ b)
theorem prq_sym (σ : Sg) (a b : Nat) : prq σ a b = prq σ b a := by
  unfold prq
  refine decide_eq_decide.mpr ⟨fun h => ⟨fun e => h.1 (h.2.trans e), h.2.symm⟩, fun h => ⟨fun e => h.1 (h.2.trans e), h.2.symm⟩⟩
/-- the number of pairs -/
def prN (σ : Sg) (n : Nat) : Nat := smm (fun d => ctb (fun o => prq σ d o) d) n
theorem conf_n (σ : Sg) (n : Nat) : fo (fun d a => fo (fun e a => if wis σ d = -1 then a else if wis σ d = wis σ e then a + 1 else a) (d + 1) (n - (d + 1)) a) 0 n 0 = nI (prN σ n) := by
  have h := fo_smm (g := fun d a => fo (fun e a => if wis σ d = -1 then a else if wis σ d = wis σ e then a + 1 else a) (d + 1) (n - (d + 1)) a) (f := fun d => ctb (fun j => prq σ d (d + 1 + j)) (n - (d + 1))) n 0 0 (fun d _ _ b => by
    have e : fo (fun e (a : Int32) => if wis σ d = -1 then a else if wis σ d = wis σ e then a + 1 else a) (d + 1) (n - (d + 1)) (nI b) = fo (fun e (a : Int32) => if ¬ (wis σ d ≠ -1 ∧ wis σ d = wis σ e) then a else a + 1) (d + 1) (n - (d + 1)) (nI b) := by
      refine fo_congr (fun e a _ _ => ?_)
      by_cases g : wis σ d = -1
      · rw [if_pos g, if_pos (fun x => x.1 g)]
      · rw [if_neg g]
        by_cases g2 : wis σ d = wis σ e
        · rw [if_pos g2, if_neg (fun x => x ⟨g, g2⟩)]
        · rw [if_neg g2, if_pos (fun x => g2 x.2)]
    show fo _ _ _ _ = _
    rw [e, fo_cnt]
    congr 2
    refine ctb_cong (fun j _ => ?_)
    unfold prq
    exact decide_eq_decide.mpr Classical.not_not)
  rw [show (0 : Int32) = nI 0 from rfl, h, Nat.zero_add]
  congr 1
  unfold prN
  simp only [Nat.zero_add]
  exact pairs_sym (prq_sym σ) n
theorem mcf_n (h : RX T σ (M 0) n q c) : mcf M n = nI (prN σ n) := by
  unfold mcf
  have h1 := fo_smm (g := fun d a => if mwa M d = 0 then a else fo (fun o a => if mwa M o = 0 then a else if mwi M o = mwi M d then a + 1 else a) 0 d a) (f := fun d => ctb (fun o => prq σ d o) d) n 0 0 (fun d _ hd b => by
    have hd2 : d < n := by omega
    show (if mwa M d = 0 then nI b else _) = _
    rcases R_wis h hd2 with ⟨w1, w2⟩ | ⟨w1, w2, w3, -⟩
    · rw [if_pos w1, ctb_zero (fun k _ => by unfold prq; rw [decide_eq_false (fun x => x.1 w2)])]
      rfl
    · rw [if_neg (by rw [w1]; decide)]
      have e : fo (fun o (a : Int32) => if mwa M o = 0 then a else if mwi M o = mwi M d then a + 1 else a) 0 d (nI b) = fo (fun o (a : Int32) => if ¬ (wis σ d ≠ -1 ∧ wis σ d = wis σ o) then a else a + 1) 0 d (nI b) := by
        refine fo_congr (fun o a _ ho => ?_)
        rcases R_wis h (show o < n by omega) with ⟨v1, v2⟩ | ⟨v1, v2, v3, -⟩
        · rw [if_pos v1, if_pos (fun x => w2 (x.2.trans v2))]
        · rw [if_neg (by rw [v1]; decide), v3, w3]
          by_cases g : wis σ o = wis σ d
          · rw [if_pos g, if_neg (fun x => x ⟨w2, g.symm⟩)]
          · rw [if_neg g, if_pos (fun x => g x.2.symm)]
      rw [e, fo_cnt]
      congr 2
      refine ctb_cong (fun j _ => ?_)
      unfold prq
      rw [Nat.zero_add]
      exact decide_eq_decide.mpr Classical.not_not)
  rw [nI_0] at h1
  rw [h1, Nat.zero_add]
  congr 1
  unfold prN
  simp only [Nat.zero_add]
theorem prN_le (σ : Sg) (n : Nat) : prN σ n ≤ n * n := by
  unfold prN
  have : ∀ m, smm (fun d => ctb (fun o => prq σ d o) d) m ≤ m * m := by
    intro m
    induction m with
    | zero => exact Nat.le_refl _
    | succ m ih =>
      simp only [smm]
      have := ctb_le (fun o => prq σ m o) m
      rw [Nat.succ_mul, Nat.mul_succ]
      omega
  exact this n
/-! ranks -/
theorem R_rank (h : RX T σ (M 0) n q c) {d o : Nat} (hd : d < n) (ho : o < n) (a : Int32) : mr1 M d o a = if prc σ o d = 0 then a else a + 1 := by
  have rd := h.1.2.2.2.1 d hd
  have ro := h.1.2.2.2.1 o ho
  have hn9 := h.1.1
  obtain ⟨x, hx, hx2⟩ := rd.2.2.1
  obtain ⟨y, hy, hy2⟩ := ro.2.2.1
  obtain ⟨s1, s2⟩ := (show (nI x - nI y = 0 ↔ x = y) ∧ (0 < nI x - nI y ↔ y < x) from by
    have hh := pk_sub_toInt (a := x) (b := y) (by omega) (by omega)
    have h0 : (0 : Int32).toInt = 0 := by decide
    refine ⟨⟨fun e => ?_, fun e => by rw [e]; exact Int32.sub_self _⟩, ?_⟩
    · rw [e, h0] at hh; omega
    · rw [Int32.lt_iff_toInt_lt, hh, h0]; omega)
  unfold mr1 mby prc
  rw [rd.1.2.2.1, ro.1.2.2.1, rd.1.2.1, ro.1.2.1, hx2, hy2]
  have hz1 := (h.2.2.2.2.2 d (by omega)).1
  have hz2 := (h.2.2.2.2.2 o (by omega)).1
  by_cases g : x = y
  · subst g
    rw [if_pos (s1.mpr rfl), if_pos rfl]
    rcases hz1 with e1 | e1 <;> rcases hz2 with e2 | e2 <;> rw [e1, e2]
    · rw [if_neg (by decide), if_pos (by decide), if_pos rfl]
      by_cases g2 : d ≤ o
      · rw [if_pos g2, if_pos g2, if_pos rfl]
      · rw [if_neg g2, if_neg g2, if_neg (by decide)]
    · rw [if_pos (show (0 : Int32) < 1 - 0 by decide), if_neg (show ¬ (1 : Int32) = 0 by decide), if_neg (show ¬ (1 : Int32) = 0 by decide)]
    · rw [if_neg (show ¬ (0 : Int32) < 0 - 1 by decide), if_neg (show ¬ (0 : Int32) - 1 = 0 by decide), if_neg (show ¬ (0 : Int32) = 1 by decide), if_pos rfl]
    · rw [if_neg (by decide), if_pos (by decide), if_pos rfl]
      by_cases g2 : d ≤ o
      · rw [if_pos g2, if_pos g2, if_pos rfl]
      · rw [if_neg g2, if_neg g2, if_neg (by decide)]
  · rw [if_neg (fun e => g (s1.mp e)), if_neg (fun e => g ((nI_eq (by omega) (by omega)).mp e).symm)]
    by_cases g2 : y < x
    · rw [if_pos (s2.mpr g2), if_neg (nI_ge g2 (by omega)), if_neg (by decide)]
    · rw [if_neg (fun e => g2 (s2.mp e)), if_neg (fun e => g (s1.mp e)), if_pos (nI_le (by omega) (by omega)), if_pos rfl]
theorem R_ranked (h : RX T σ (M 0) n q c) (x : Int32) : ffi (fun d => fo (mr1 M d) 0 n (0 : Int32) = x) 0 n = ffi (fun j => fo (fun d a => if prc σ d j = 0 then a else a + 1) 0 n (0 : Int32) = x) 0 n := by
  refine ffi_congr (fun j _ hj => ?_)
  have e : fo (mr1 M j) 0 n (0 : Int32) = fo (fun d a => if prc σ d j = 0 then a else a + 1) 0 n (0 : Int32) := fo_congr (fun o a _ ho => R_rank h (by omega) (by omega) a)
  rw [e]
/-! the earliest cue -/
theorem R_ear (h : RX T σ (M 0) n q c) : (c = 0 → fo (ear σ) 0 c (-1) = -1) ∧ ∀ c', c = c' + 1 → fo (ear σ) 0 c (-1) = fo (fun d a => if a ≤ M 0 (81 + 3 * d + 1) then a else M 0 (81 + 3 * d + 1)) 1 c' (M 0 82) ∧ ∃ t, t ≤ 999 ∧ fo (ear σ) 0 c (-1) = nI t := by
  refine ⟨fun e => by subst e; rfl, fun c' e => ?_⟩
  subst e
  have hC := h.2.2.1.2.2.2
  have c0 := hC 0 (by omega)
  have h2 := fo_rel (R := fun _ (a b : Int32) => a = b ∧ ∃ t, t ≤ 999 ∧ a = nI t) (f := ear σ) (g := fun d a => if a ≤ M 0 (81 + 3 * d + 1) then a else M 0 (81 + 3 * d + 1)) (k := c') (i := 1) (a := σ.1 7 0) (b := M 0 82) ⟨c0.2.1.symm, c0.2.2.2.2⟩ (fun d a b _ hd hR => by
    obtain ⟨rfl, t, ht, ht2⟩ := hR
    have cd := hC d (by omega)
    unfold ear
    show (if a = -1 then σ.1 7 d else if a ≤ σ.1 7 d then a else σ.1 7 d) = (if a ≤ M 0 (81 + 3 * d + 1) then a else M 0 (81 + 3 * d + 1)) ∧ _
    rw [cd.2.1, if_neg (by rw [ht2]; exact m1_ne (by omega))]
    refine ⟨rfl, ?_⟩
    split
    · exact ⟨t, ht, ht2⟩
    · exact cd.2.2.2.2)
  have e1 : fo (ear σ) 0 (c' + 1) (-1) = fo (ear σ) 1 c' (σ.1 7 0) := by
    simp only [fo]
    unfold ear
    rw [if_pos rfl]
  rw [e1]
  exact h2
/-! pictures -/
theorem R_pic {k : Nat} (h : RX T σ (M 0) n q c) (hk : k < 64) : mpi M n q (nI k) = pic σ n (nI k) := by
  unfold mpi pic
  rw [R_occ h.1 rfl, R_pad h.2.1 rfl hk]
  rcases ocp_in σ n (nI k) with e | ⟨j, hj, e, -⟩
  · rw [e, if_neg (by decide), if_pos rfl]
  · have hn9 := h.1.1
    rw [e, if_pos (nI_pos' (by omega)), if_neg (m1_ne (by omega)), nI_clamp (show j < 2 ^ 31 by omega), R_fl h hj]
/-! means -/
theorem R_bsum (h : RX T σ (M 0) n q c) : fo (fun d a => a + M 0 (13 + 6 * d + 2)) 0 n 0 = fo (fun d a => a + σ.1 1 d) 0 n 0 ∧ ∃ s, s ≤ 100 * n ∧ fo (fun d a => a + σ.1 1 d) 0 n (0 : Int32) = nI s := by
  have h2 := fo_rel (R := fun i (a b : Int32) => a = b ∧ ∃ s, s ≤ 100 * i ∧ b = nI s) (f := fun d a => a + M 0 (13 + 6 * d + 2)) (g := fun d a => a + σ.1 1 d) (k := n) (i := 0) (a := 0) (b := 0) ⟨rfl, 0, Nat.le_refl _, rfl⟩ (fun d a b _ hd hR => by
    obtain ⟨rfl, s, hs, hs2⟩ := hR
    have rd := h.1.2.2.2.1 d (by omega)
    obtain ⟨x, hx, hx2⟩ := rd.2.2.1
    refine ⟨by rw [rd.1.2.2.1], s + x, by omega, by rw [hs2, hx2, nI_add]⟩)
  rw [Nat.zero_add] at h2
  exact h2
theorem R_mmd (h : RX T σ (M 0) n q c) : (mmD M n).2 = fo (fun d a => if σ.1 2 d = -1 then a else a + 1) 0 n 0 ∧ (mmD M n).1 = fo (fun d a => if σ.1 2 d = -1 then a else a + dst (σ.1 0 d) (σ.1 2 d)) 0 n 0 ∧ ∃ s w, s ≤ 14 * n ∧ w ≤ n ∧ (mmD M n).1 = nI s ∧ (mmD M n).2 = nI w := by
  have h2 := fo_rel (R := fun i (z : Int32 × Int32) (b : Int32 × Int32) => z = b ∧ ∃ s w, s ≤ 14 * i ∧ w ≤ i ∧ z.1 = nI s ∧ z.2 = nI w) (f := mmd M) (g := fun d (b : Int32 × Int32) => (if σ.1 2 d = -1 then b.1 else b.1 + dst (σ.1 0 d) (σ.1 2 d), if σ.1 2 d = -1 then b.2 else b.2 + 1)) (k := n) (i := 0) (a := (0, 0)) (b := (0, 0)) ⟨rfl, 0, 0, Nat.le_refl _, Nat.le_refl _, rfl, rfl⟩ (fun d z b _ hd hR => by
    obtain ⟨rfl, s, w, hs, hw, hs2, hw2⟩ := hR
    have hd2 : d < n := by omega
    have rd := h.1.2.2.2.1 d hd2
    obtain ⟨t1, t2⟩ := tgt_neg rd.2.2.2.1
    unfold mmd
    rw [R_fl h hd2, rd.1.2.2.2.2.1, rd.1.1, t2]
    rw [t2] at t1
    by_cases g : σ.1 4 d = 0
    · rw [if_pos g, if_pos (rd.2.2.2.2 g).1, if_pos (rd.2.2.2.2 g).1]
      exact ⟨rfl, s, w, by omega, by omega, hs2, hw2⟩
    · rw [if_neg g]
      rcases rd.2.2.2.1 with e | ⟨k, hk, e⟩
      · rw [if_pos e, if_pos e, e, if_neg (by decide)]
        exact ⟨rfl, s, w, by omega, by omega, hs2, hw2⟩
      · obtain ⟨x, hx, hx2⟩ := rd.2.1
        rw [e, if_neg (m1_ne (by omega)), if_neg (m1_ne (by omega)), if_pos (nI_pos' (by omega)), hx2, dst_n x hx k hk]
        have := far0_le hx hk
        exact ⟨rfl, s + far0 x k, w + 1, by omega, by omega, by show z.1 + _ = _; rw [hs2, nI_add], by show z.2 + 1 = _; rw [hw2, nI_1]⟩)
  rw [Nat.zero_add] at h2
  have hsp : ∀ k i (b : Int32 × Int32), fo (fun d (b : Int32 × Int32) => (if σ.1 2 d = -1 then b.1 else b.1 + dst (σ.1 0 d) (σ.1 2 d), if σ.1 2 d = -1 then b.2 else b.2 + 1)) i k b = (fo (fun d a => if σ.1 2 d = -1 then a else a + dst (σ.1 0 d) (σ.1 2 d)) i k b.1, fo (fun d a => if σ.1 2 d = -1 then a else a + 1) i k b.2) := by
    intro k
    induction k with
    | zero => intro i b; rfl
    | succ k ih => intro i b; simp only [fo]; rw [ih]
  rw [hsp] at h2
  obtain ⟨e, s, w, hs, hw, hs2, hw2⟩ := h2
  unfold mmD
  exact ⟨by rw [e], by rw [e], s, w, hs, hw, hs2, hw2⟩
end QA
