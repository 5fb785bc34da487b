/-! ===== pads by rings; means ===== -/
def adf (x y : Nat) : Nat := if x ≤ y then y - x else x - y
theorem rch_t : ∀ a, a < 64 → ∀ i, i < 8 → (if 0 ≤ nI i - nI a / 8 then nI i - nI a / 8 else 0 - (nI i - nI a / 8)) = nI (adf (a / 8) i) := by decide +kernel
theorem rch_n {a r i : Nat} (ha : a < 64) (hi : i < 8) : rch (nI a) (nI r) i = nI r - nI (adf (a / 8) i) := by
  unfold rch
  rw [rch_t a ha i hi]
theorem nI_r8 {a : Nat} (ha : a < 64) : nI a - nI a / 8 * 8 = nI (a % 8) := pk_rem (d := 8) (by omega) (by decide) (by decide)
theorem cell_n (i x : Nat) : 8 * nI i + nI x = nI (8 * i + x) := by rw [show (8 : Int32) = nI 8 from rfl, pk_mul, nI_add]
theorem rngA_n {p : Int64} {a r i : Nat} {z : Int32} (ha : a < 64) (hr : r < 15) (hi : i < 8) : rngA p (nI a) (nI r) i z = if r < adf (a / 8) i then z else if r - adf (a / 8) i ≤ a % 8 ∧ tb p (8 * i + (a % 8 - (r - adf (a / 8) i))) = true then nI (8 * i + (a % 8 - (r - adf (a / 8) i))) else if a % 8 + (r - adf (a / 8) i) < 8 ∧ tb p (8 * i + (a % 8 + (r - adf (a / 8) i))) = true then nI (8 * i + (a % 8 + (r - adf (a / 8) i))) else z := by
  have hu : adf (a / 8) i < 8 := by unfold adf; split <;> omega
  unfold rngA rngB
  rw [rch_n ha hi, nI_r8 ha]
  generalize adf (a / 8) i = u at hu ⊢
  have hc : a % 8 < 8 := Nat.mod_lt _ (by decide)
  generalize a % 8 = c at hc ⊢
  by_cases g : r < u
  · rw [if_pos g, if_pos (pk_sneg (by omega) g), if_pos (pk_sneg (by omega) g)]
  · rw [if_neg g, pk_sub (show u ≤ r by omega), if_neg (nI_pos (by omega)), if_neg (nI_pos (by omega))]
    generalize hw : r - u = w
    have hw15 : w < 15 := by omega
    have hB : (if 8 ≤ nI c + nI w then z else if cnt p (8 * nI i + (nI c + nI w)) = 0 then z else 8 * nI i + (nI c + nI w)) = if c + w < 8 ∧ tb p (8 * i + (c + w)) = true then nI (8 * i + (c + w)) else z := by
      rw [nI_add, cell_n]
      by_cases g2 : c + w < 8
      · rw [if_neg (show ¬ (8 : Int32) ≤ nI (c + w) from nI_ge (b := 8) g2 (by decide)), cnt_tb (by omega)]
        by_cases g3 : tb p (8 * i + (c + w)) = true
        · rw [if_pos g3, if_neg (by decide), if_pos ⟨g2, g3⟩]
        · rw [if_neg g3, if_pos rfl, if_neg (fun x => g3 x.2)]
      · rw [if_pos (show (8 : Int32) ≤ nI (c + w) from nI_le (a := 8) (by omega) (by omega)), if_neg (fun x => g2 x.1)]
    rw [hB]
    by_cases g2 : w ≤ c
    · rw [pk_sub g2, if_neg (nI_pos (by omega)), cell_n, cnt_tb (by omega)]
      by_cases g3 : tb p (8 * i + (c - w)) = true
      · rw [if_pos g3, if_neg (by decide), if_pos ⟨g2, g3⟩]
      · rw [if_neg g3, if_pos rfl, if_neg (fun x => g3 x.2)]
    · rw [if_pos (pk_sneg (by omega) (by omega)), if_neg (fun x => g2 x.1)]
theorem far_r {a r i c : Nat} (hi : i < 8) (hc : c < 8) : far0 a (8 * i + c) = r ↔ adf (a / 8) i ≤ r ∧ (c + (r - adf (a / 8) i) = a % 8 ∨ c = a % 8 + (r - adf (a / 8) i)) := by
  have e1 : (8 * i + c) / 8 = i := by omega
  have e2 : (8 * i + c) % 8 = c := by omega
  unfold far0 adf
  rw [e1, e2]
  split <;> split <;> split <;> omega
theorem rng_s {p : Int64} {a r : Nat} (ha : a < 64) (hr : r < 15) : ∀ k i, i + k = 8 → (rng p (nI a) (nI r) i k = -1 ∧ ∀ j, 8 * i ≤ j → j < 64 → far0 a j = r → tb p j = false) ∨ ∃ j, 8 * i ≤ j ∧ j < 64 ∧ rng p (nI a) (nI r) i k = nI j ∧ tb p j = true ∧ far0 a j = r ∧ ∀ l, 8 * i ≤ l → l < 64 → tb p l = true → far0 a l = r → j ≤ l := by
  intro k
  induction k with
  | zero => intro i hi; exact Or.inl ⟨rfl, fun j h1 h2 => by omega⟩
  | succ k ih =>
    intro i hi
    have hi8 : i < 8 := by omega
    have h0 := ih (i + 1) (by omega)
    simp only [rng]
    rw [rngA_n ha hr hi8]
    have hrow : ∀ j, 8 * i ≤ j → j < 8 * (i + 1) → ∃ c, c < 8 ∧ j = 8 * i + c := fun j h1 h2 => ⟨j - 8 * i, by omega, by omega⟩
    by_cases g : r < adf (a / 8) i
    · rw [if_pos g]
      have hno : ∀ j, 8 * i ≤ j → j < 8 * (i + 1) → far0 a j ≠ r := fun j h1 h2 e => by
        obtain ⟨c, hc, rfl⟩ := hrow j h1 h2
        have := (far_r hi8 hc).mp e
        omega
      rcases h0 with ⟨e, h⟩ | ⟨j, h1, h2, e, h3, h4, h5⟩
      · exact Or.inl ⟨e, fun j j1 j2 j3 => if x : j < 8 * (i + 1) then absurd j3 (hno j j1 x) else h j (by omega) j2 j3⟩
      · exact Or.inr ⟨j, by omega, h2, e, h3, h4, fun l l1 l2 l3 l4 => if x : l < 8 * (i + 1) then absurd l4 (hno l l1 x) else h5 l (by omega) l2 l3 l4⟩
    · rw [if_neg g]
      generalize hw : r - adf (a / 8) i = w
      have hc8 : a % 8 < 8 := Nat.mod_lt _ (by decide)
      have hfl : w ≤ a % 8 → far0 a (8 * i + (a % 8 - w)) = r := fun x => (far_r hi8 (by omega)).mpr ⟨by omega, Or.inl (by omega)⟩
      have hfr : a % 8 + w < 8 → far0 a (8 * i + (a % 8 + w)) = r := fun x => (far_r hi8 (by omega)).mpr ⟨by omega, Or.inr (by omega)⟩
      have hall : ∀ j, 8 * i ≤ j → j < 8 * (i + 1) → far0 a j = r → (w ≤ a % 8 ∧ j = 8 * i + (a % 8 - w)) ∨ (a % 8 + w < 8 ∧ j = 8 * i + (a % 8 + w)) := fun j h1 h2 e => by
        obtain ⟨c, hc, rfl⟩ := hrow j h1 h2
        have := (far_r hi8 hc).mp e
        omega
      by_cases gl : w ≤ a % 8 ∧ tb p (8 * i + (a % 8 - w)) = true
      · rw [if_pos gl]
        refine Or.inr ⟨_, by omega, by omega, rfl, gl.2, hfl gl.1, fun l l1 l2 l3 l4 => ?_⟩
        by_cases x : l < 8 * (i + 1)
        · rcases hall l l1 x l4 with ⟨y1, y2⟩ | ⟨y1, y2⟩ <;> omega
        · omega
      · rw [if_neg gl]
        by_cases gr : a % 8 + w < 8 ∧ tb p (8 * i + (a % 8 + w)) = true
        · rw [if_pos gr]
          refine Or.inr ⟨_, by omega, by omega, rfl, gr.2, hfr gr.1, fun l l1 l2 l3 l4 => ?_⟩
          by_cases x : l < 8 * (i + 1)
          · rcases hall l l1 x l4 with ⟨y1, y2⟩ | ⟨y1, y2⟩
            · subst y2; exact absurd ⟨y1, l3⟩ gl
            · omega
          · omega
        · rw [if_neg gr]
          have hno : ∀ j, 8 * i ≤ j → j < 8 * (i + 1) → far0 a j = r → tb p j = true → False := fun j h1 h2 e e2 => by
            rcases hall j h1 h2 e with ⟨y1, y2⟩ | ⟨y1, y2⟩
            · subst y2; exact gl ⟨y1, e2⟩
            · subst y2; exact gr ⟨y1, e2⟩
          rcases h0 with ⟨e, h⟩ | ⟨j, h1, h2, e, h3, h4, h5⟩
          · refine Or.inl ⟨e, fun j j1 j2 j3 => ?_⟩
            by_cases x : j < 8 * (i + 1)
            · cases hb : tb p j with
              | false => rfl
              | true => exact absurd (hno j j1 x j3 hb) id
            · exact h j (by omega) j2 j3
          · exact Or.inr ⟨j, by omega, h2, e, h3, h4, fun l l1 l2 l3 l4 => if x : l < 8 * (i + 1) then absurd (hno l l1 x l4 l3) id else h5 l (by omega) l2 l3 l4⟩
theorem rgs_s {p : Int64} {a : Nat} (ha : a < 64) : ∀ k i, i + k = 15 → (rgs p (nI a) i k = -1 ∧ ∀ j, j < 64 → i ≤ far0 a j → tb p j = false) ∨ ∃ j, j < 64 ∧ rgs p (nI a) i k = nI j ∧ tb p j = true ∧ ∀ l, l < 64 → tb p l = true → i ≤ far0 a l → lexle a j l := by
  intro k
  induction k with
  | zero => intro i hi; exact Or.inl ⟨rfl, fun j h1 h2 => by have := far0_le ha h1; omega⟩
  | succ k ih =>
    intro i hi
    have h0 := ih (i + 1) (by omega)
    simp only [rgs]
    rcases rng_s (p := p) (r := i) ha (by omega) 8 0 rfl with ⟨e, h⟩ | ⟨j, -, h2, e, h3, h4, h5⟩
    · rw [if_pos e]
      rcases h0 with ⟨e0, g⟩ | ⟨j, g2, e0, g3, g5⟩
      · exact Or.inl ⟨e0, fun j h1 h2 => if x : far0 a j = i then h j (by omega) h1 x else g j h1 (by omega)⟩
      · refine Or.inr ⟨j, g2, e0, g3, fun l l1 l2 l3 => ?_⟩
        by_cases x : far0 a l = i
        · rw [h l (by omega) l1 x] at l2; exact absurd l2 (by decide)
        · exact g5 l l1 l2 (by omega)
    · rw [e, if_neg (m1_ne (by omega))]
      refine Or.inr ⟨j, h2, rfl, h3, fun l l1 l2 l3 => ?_⟩
      unfold lexle
      by_cases x : far0 a l = i
      · have := h5 l (by omega) l1 l2 x
        omega
      · omega
/-- both ways find the same pad -/
theorem rgs_npd {p : Int64} {a : Nat} (ha : a < 64) : rgs p (nI a) 0 15 = npd p (nI a) := by
  rcases rgs_s (p := p) ha 15 0 rfl with ⟨e, h⟩ | ⟨j, h2, e, h3, h5⟩
  · rcases npd_s (p := p) ha with ⟨e2, -⟩ | ⟨k, -, k2⟩
    · rw [e, e2]
    · rw [h k k2.1 (Nat.zero_le _)] at k2; exact absurd k2.2.1 (by decide)
  · rw [e, npd_u ha ⟨h2, h3, fun l l1 l2 => h5 l l1 l2 (Nat.zero_le _)⟩]
/-! means -/
theorem cov_t : ∀ b, b < 11 → ∀ a, a < 11 → 0 < b → nn32 (FP.fdiv (FP.i2f (nI a)) (FP.i2f (nI b))) = true ∧ nn64 (FP.f2d (FP.fdiv (FP.i2f (nI a)) (FP.i2f (nI b)))) = true ∧ Op.cmpValue (FP.dcmp (FP.f2d (FP.fdiv (FP.i2f (nI a)) (FP.i2f (nI b)))) (FP.f2d (FP.fdiv (FP.i2f (nI a)) (FP.i2f (nI b))))) .l = 0 := by decide +kernel
theorem mdi_t : ∀ b, b < 11 → ∀ a, a < 141 → 0 < b → nn64 (FP.ddiv (FP.i2d (nI a)) (FP.i2d (nI b))) = true ∧ Op.cmpValue (FP.dcmp (FP.ddiv (FP.i2d (nI a)) (FP.i2d (nI b))) (FP.ddiv (FP.i2d (nI a)) (FP.i2d (nI b)))) .l = 0 := by decide +kernel
def fb57 (v1 : UInt32) (v2 : Int32) : Option Int32 := if nn32 (FP.fsub v1 FP.fconst1) = true then (if nn32 (FP.fmul (FP.fsub v1 FP.fconst1) 1258291200) = true then some ((v2 <<< (23 &&& 31)) ||| (FP.f2i (FP.fmul (FP.fsub v1 FP.fconst1) 1258291200))) else none) else none
def fb36 : Nat → UInt32 → Int32 → Option Int32
  | 0, _, _ => none
  | f + 1, v1, v2 => if 0 ≤ (Op.cmpValue (FP.fcmp v1 FP.fconst1) .g) then fb57 v1 v2 else if v2 ≤ 1 then fb57 v1 v2 else if nn32 (FP.fmul v1 FP.fconst2) = true then fb36 f (FP.fmul v1 FP.fconst2) (v2 + (-1)) else none
def fb13 : Nat → UInt32 → Int32 → Option Int32
  | 0, _, _ => none
  | f + 1, v1, v2 => if (Op.cmpValue (FP.fcmp v1 FP.fconst2) .l) < 0 then fb36 FU v1 v2 else if 254 ≤ v2 then fb36 FU v1 v2 else if nn32 (FP.fdiv v1 FP.fconst2) = true then fb13 f (FP.fdiv v1 FP.fconst2) (v2 + 1) else none
def fbo (v : UInt32) : Option Int32 := if 0 < (Op.cmpValue (FP.fcmp v FP.fconst0) .g) then fb13 FU v 127 else some 0
def orr (o : Option Int32) (μ : Me) : Rs Int32 := match o with
  | some r => rt r μ
  | none => none
theorem fb57_e (v1 : UInt32) (v2 : Int32) (μ : Me) : FX7_bitsOf_B57 v1 v2 μ = orr (fb57 v1 v2) μ := by
  unfold FX7_bitsOf_B57 fb57 gd
  split
  · split <;> rfl
  · rfl
theorem fb36_e : ∀ f v1 v2 (μ : Me), FX7_bitsOf_L36 f v1 v2 μ = orr (fb36 f v1 v2) μ := by
  intro f
  induction f with
  | zero => intros; rfl
  | succ f ih =>
    intro v1 v2 μ
    simp only [FX7_bitsOf_L36, FX7_bitsOf_B36, fb36, gd]
    split
    · exact fb57_e _ _ _
    · split
      · exact fb57_e _ _ _
      · split
        · exact ih _ _ _
        · rfl
theorem fb13_e : ∀ f v1 v2 (μ : Me), FX7_bitsOf_L13 f v1 v2 μ = orr (fb13 f v1 v2) μ := by
  intro f
  induction f with
  | zero => intros; rfl
  | succ f ih =>
    intro v1 v2 μ
    simp only [FX7_bitsOf_L13, FX7_bitsOf_B13, fb13, gd]
    split
    · exact fb36_e _ _ _ _
    · split
      · exact fb36_e _ _ _ _
      · split
        · exact ih _ _ _
        · rfl
theorem fbo_e (v : UInt32) (μ : Me) : FX7_bitsOf v μ = orr (fbo v) μ := by
  unfold FX7_bitsOf fbo
  split
  · exact fb13_e _ _ _ _
  · rfl
def mbv (n s : Nat) : UInt32 := FP.fdiv (FP.i2f (nI s)) (FP.i2f (nI n))
def mbok (n s : Nat) : Bool := nn32 (mbv n s) && decide (fbo (mbv n s) = some (mbv n s).toInt32) && decide (Op.cmpValue (FP.fcmp (mbv n s) (mbv n s)) .l = 0)
theorem mb_1 : ∀ s, s < 101 → mbok 1 s = true := by decide +kernel
theorem mb_2 : ∀ s, s < 201 → mbok 2 s = true := by decide +kernel
theorem mb_3 : ∀ s, s < 301 → mbok 3 s = true := by decide +kernel
theorem mb_4 : ∀ s, s < 401 → mbok 4 s = true := by decide +kernel
theorem mb_5 : ∀ s, s < 501 → mbok 5 s = true := by decide +kernel
theorem mb_6 : ∀ s, s < 601 → mbok 6 s = true := by decide +kernel
theorem mb_7 : ∀ s, s < 701 → mbok 7 s = true := by decide +kernel
theorem mb_8 : ∀ s, s < 801 → mbok 8 s = true := by decide +kernel
theorem mb_9 : ∀ s, s < 901 → mbok 9 s = true := by decide +kernel
theorem mb_10 : ∀ s, s < 1001 → mbok 10 s = true := by decide +kernel
theorem mb_all {n s : Nat} (h0 : 0 < n) (hn : n ≤ 10) (hs : s ≤ 100 * n) : mbok n s = true := by
  match n, h0, hn with
  | 1, _, _ => exact mb_1 s (by omega)
  | 2, _, _ => exact mb_2 s (by omega)
  | 3, _, _ => exact mb_3 s (by omega)
  | 4, _, _ => exact mb_4 s (by omega)
  | 5, _, _ => exact mb_5 s (by omega)
  | 6, _, _ => exact mb_6 s (by omega)
  | 7, _, _ => exact mb_7 s (by omega)
  | 8, _, _ => exact mb_8 s (by omega)
  | 9, _, _ => exact mb_9 s (by omega)
  | 10, _, _ => exact mb_10 s (by omega)
  | 0, h, _ => exact absurd h (Nat.lt_irrefl 0)
  | k + 11, _, h => exact absurd h (by omega)
theorem mb_use {n s : Nat} (h0 : 0 < n) (hn : n ≤ 10) (hs : s ≤ 100 * n) (μ : Me) : nn32 (FP.fdiv (FP.i2f (nI s)) (FP.i2f (nI n))) = true ∧ FX7_bitsOf (FP.fdiv (FP.i2f (nI s)) (FP.i2f (nI n))) μ = rt (FP.fdiv (FP.i2f (nI s)) (FP.i2f (nI n))).toInt32 μ ∧ FJxf58ca_floatToIntBits_5c35a (FP.fdiv (FP.i2f (nI s)) (FP.i2f (nI n))) μ = rt (FP.fdiv (FP.i2f (nI s)) (FP.i2f (nI n))).toInt32 μ := by
  have h := mb_all h0 hn hs
  unfold mbok at h
  rw [Bool.and_eq_true, Bool.and_eq_true, decide_eq_true_eq, decide_eq_true_eq] at h
  obtain ⟨⟨h1, h2⟩, h3⟩ := h
  refine ⟨h1, ?_, ?_⟩
  · rw [fbo_e]
    show orr (fbo (mbv n s)) μ = _
    rw [h2]
    rfl
  · have h3 : Op.cmpValue (FP.fcmp (FP.fdiv (FP.i2f (nI s)) (FP.i2f (nI n))) (FP.fdiv (FP.i2f (nI s)) (FP.i2f (nI n)))) .l = 0 := h3
    simp only [FJxf58ca_floatToIntBits_5c35a, FJxf58ca_isNaN_12338, h3, if_true, bnd, rt]
