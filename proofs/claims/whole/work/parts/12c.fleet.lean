/-! ===== the fleet's own loops ===== -/
def rowS (p q : Int32) : Int32 := if p / 8 = q / 8 then -1 else if q / 8 ≤ p / 8 then p - 8 else p + 8
def colS (p q : Int32) : Int32 := if (p - p / 8 * 8) = (q - q / 8 * 8) then -1 else if (q - q / 8 * 8) ≤ (p - p / 8 * 8) then p - 1 else p + 1
def dst (p q : Int32) : Int32 := (if 0 ≤ ((p / 8) - (q / 8)) then ((p / 8) - (q / 8)) else 0 - ((p / 8) - (q / 8))) + (if 0 ≤ ((p - p / 8 * 8) - (q - q / 8 * 8)) then ((p - p / 8 * 8) - (q - q / 8 * 8)) else 0 - ((p - p / 8 * 8) - (q - q / 8 * 8)))
theorem e_rowStep (p q : Int32) (μ : Me) : FX7_rowStep p q μ = rt (rowS p q) μ := by
  unfold FX7_rowStep rowS
  split
  · rfl
  · split <;> rfl
theorem e_colStep (p q : Int32) (μ : Me) : FX7_columnStep p q μ = rt (colS p q) μ := by
  unfold FX7_columnStep colS
  split
  · rfl
  · split <;> rfl
theorem e_dst (p q : Int32) (μ : Me) : FX7_distance p q μ = rt (dst p q) μ := rfl
def isC (c : Int32) : Int32 := if c < 0 then 0 else if 64 ≤ c then 0 else 1
theorem e_isCell (p : Int32) (μ : Me) : FX7_isCell p μ = rt (isC p) μ := by
  unfold FX7_isCell isC
  split
  · rfl
  · split <;> rfl
def isF (c : Int32) : Int32 := if c < 0 then 0 else if 4 ≤ c then 0 else 1
theorem e_isForm (p : Int32) (μ : Me) : FX7_isFormation p μ = rt (isF p) μ := by
  unfold FX7_isFormation isF
  split
  · rfl
  · split <;> rfl
/-- a mask's bit -/
def cnt (m : Int64) (c : Int32) : Int32 := if (lg_cmp (m &&& (1 <<< ((c : Int32).toInt64 &&& 63))) 0) = 0 then 0 else 1
theorem e_contains (m : Int64) (c : Int32) (μ : Me) : FX7_contains m c μ = rt (cnt m c) μ := by
  unfold FX7_contains cnt
  split <;> rfl
section FL
variable {μ : Me} {s : Nat} {σ : Sg} {n : Nat}
theorem l_occ {x : Int32} (hn : σ.1 9 0 = nI n) (hn9 : n ≤ 10) : ∀ k f i , i + k = n → k < f → FX2_occupant_L2 f (s + 1) x (nI i) (put μ s σ) = rt (ffi (fun d => σ.1 0 d = x) i k) (put μ s σ) := by
  intro k
  induction k with
  | zero =>
    intro f i   hi hfuu
    obtain ⟨f, rfl⟩ : ∃ g, f = g + 1 := ⟨f - 1, by omega⟩
    have h1 : nI n ≤ nI i := by rw [show i = n by omega]; exact Int32.le_refl _
    simp only [FX2_occupant_L2, FX2_occupant_B2, b_R0_0, b_R0_1, b_R0_2, b_J0_3, b_I0_4, b_I0_5, b_I0_6, b_I0_7, b_I0_8, b_I0_9, b_R1_0, b_R1_1, b_R1_2, b_R1_3, b_R1_4, b_R1_5, b_I1_6, b_R8_0, b_R8_1, b_R8_2, b_I8_3, b_vc0, b_vc1, b_vc8, b_a0, b_s0, b_a1, b_s1, b_a2, b_s2, b_a3, b_s3, b_a4, b_s4, b_a5, b_s5, b_a6, b_s6, b_a7, b_s7, b_a8, b_s8, b_a12, b_s12, b_p0_3, b_p0_4, b_p0_5, b_p0_6, b_p0_7, b_p0_8, b_p0_9, b_p1_6, b_p8_3, hn, h1, if_true, bnd, rt]
    rfl
  | succ k ih =>
    intro f i   hi hfuu
    obtain ⟨f, rfl⟩ : ∃ g, f = g + 1 := ⟨f - 1, by omega⟩
    have h1 : ¬ nI n ≤ nI i := nI_ge (by omega) (by omega)
    have h2_10 : inb (nI i) 10 = true := inb_n (by omega) (by omega)
    have h3 : (nI i).toNatClampNeg = i := nI_clamp (by omega)
    simp only [FX2_occupant_L2, FX2_occupant_B2, b_R0_0, b_R0_1, b_R0_2, b_J0_3, b_I0_4, b_I0_5, b_I0_6, b_I0_7, b_I0_8, b_I0_9, b_R1_0, b_R1_1, b_R1_2, b_R1_3, b_R1_4, b_R1_5, b_I1_6, b_R8_0, b_R8_1, b_R8_2, b_I8_3, b_vc0, b_vc1, b_vc8, b_a0, b_s0, b_a1, b_s1, b_a2, b_s2, b_a3, b_s3, b_a4, b_s4, b_a5, b_s5, b_a6, b_s6, b_a7, b_s7, b_a8, b_s8, b_a12, b_s12, b_p0_3, b_p0_4, b_p0_5, b_p0_6, b_p0_7, b_p0_8, b_p0_9, b_p1_6, b_p8_3, hn, h1, h2_10, h3, nI_1, if_true, if_false, bnd, rt]
    simp only [ffi]
    split
    · rfl
    · exact ih f (i + 1) (by omega) (by omega)
theorem e_occ {x : Int32} (hn : σ.1 9 0 = nI n) (hn9 : n ≤ 10) : FX2_occupant (s + 1) x (put μ s σ) = rt (ffi (fun d => σ.1 0 d = x) 0 n) (put μ s σ) := l_occ hn hn9 n FU 0 (by omega) (by unfold FU; omega)
theorem l_flyingCount (hn : σ.1 9 0 = nI n) (hn9 : n ≤ 10) : ∀ k f i (acc : Int32), i + k = n → k < f → FX2_flyingCount_L4 f (s + 1) acc (nI i) (put μ s σ) = rt (fo (fun d a => if σ.1 4 d = 0 then a else a + 1) i k acc) (put μ s σ) := by
  intro k
  induction k with
  | zero =>
    intro f i acc  hi hfuu
    obtain ⟨f, rfl⟩ : ∃ g, f = g + 1 := ⟨f - 1, by omega⟩
    have h1 : nI n ≤ nI i := by rw [show i = n by omega]; exact Int32.le_refl _
    simp only [FX2_flyingCount_L4, FX2_flyingCount_B4, b_R0_0, b_R0_1, b_R0_2, b_J0_3, b_I0_4, b_I0_5, b_I0_6, b_I0_7, b_I0_8, b_I0_9, b_R1_0, b_R1_1, b_R1_2, b_R1_3, b_R1_4, b_R1_5, b_I1_6, b_R8_0, b_R8_1, b_R8_2, b_I8_3, b_vc0, b_vc1, b_vc8, b_a0, b_s0, b_a1, b_s1, b_a2, b_s2, b_a3, b_s3, b_a4, b_s4, b_a5, b_s5, b_a6, b_s6, b_a7, b_s7, b_a8, b_s8, b_a12, b_s12, b_p0_3, b_p0_4, b_p0_5, b_p0_6, b_p0_7, b_p0_8, b_p0_9, b_p1_6, b_p8_3, hn, h1, if_true, bnd, rt]
    rfl
  | succ k ih =>
    intro f i acc  hi hfuu
    obtain ⟨f, rfl⟩ : ∃ g, f = g + 1 := ⟨f - 1, by omega⟩
    have h1 : ¬ nI n ≤ nI i := nI_ge (by omega) (by omega)
    have h2_10 : inb (nI i) 10 = true := inb_n (by omega) (by omega)
    have h3 : (nI i).toNatClampNeg = i := nI_clamp (by omega)
    simp only [FX2_flyingCount_L4, FX2_flyingCount_B4, b_R0_0, b_R0_1, b_R0_2, b_J0_3, b_I0_4, b_I0_5, b_I0_6, b_I0_7, b_I0_8, b_I0_9, b_R1_0, b_R1_1, b_R1_2, b_R1_3, b_R1_4, b_R1_5, b_I1_6, b_R8_0, b_R8_1, b_R8_2, b_I8_3, b_vc0, b_vc1, b_vc8, b_a0, b_s0, b_a1, b_s1, b_a2, b_s2, b_a3, b_s3, b_a4, b_s4, b_a5, b_s5, b_a6, b_s6, b_a7, b_s7, b_a8, b_s8, b_a12, b_s12, b_p0_3, b_p0_4, b_p0_5, b_p0_6, b_p0_7, b_p0_8, b_p0_9, b_p1_6, b_p8_3, hn, h1, h2_10, h3, nI_1, if_true, if_false, bnd, rt]
    simp only [fo]
    split <;> exact ih _ _ _ (by omega) (by omega)
theorem e_flyingCount (hn : σ.1 9 0 = nI n) (hn9 : n ≤ 10) : FX2_flyingCount (s + 1) (put μ s σ) = rt (fo (fun d a => if σ.1 4 d = 0 then a else a + 1) 0 n 0) (put μ s σ) := l_flyingCount hn hn9 n FU 0 _ (by omega) (by unfold FU; omega)
theorem l_allCells (hn : σ.1 9 0 = nI n) (hn9 : n ≤ 10) : ∀ k f i (acc : Int64), i + k = n → k < f → FX2_allCells_L4 f (s + 1) acc (nI i) (put μ s σ) = rt (fo (fun d a => a ||| (1 <<< ((σ.1 0 d : Int32).toInt64 &&& 63))) i k acc) (put μ s σ) := by
  intro k
  induction k with
  | zero =>
    intro f i acc  hi hfuu
    obtain ⟨f, rfl⟩ : ∃ g, f = g + 1 := ⟨f - 1, by omega⟩
    have h1 : nI n ≤ nI i := by rw [show i = n by omega]; exact Int32.le_refl _
    simp only [FX2_allCells_L4, FX2_allCells_B4, b_R0_0, b_R0_1, b_R0_2, b_J0_3, b_I0_4, b_I0_5, b_I0_6, b_I0_7, b_I0_8, b_I0_9, b_R1_0, b_R1_1, b_R1_2, b_R1_3, b_R1_4, b_R1_5, b_I1_6, b_R8_0, b_R8_1, b_R8_2, b_I8_3, b_vc0, b_vc1, b_vc8, b_a0, b_s0, b_a1, b_s1, b_a2, b_s2, b_a3, b_s3, b_a4, b_s4, b_a5, b_s5, b_a6, b_s6, b_a7, b_s7, b_a8, b_s8, b_a12, b_s12, b_p0_3, b_p0_4, b_p0_5, b_p0_6, b_p0_7, b_p0_8, b_p0_9, b_p1_6, b_p8_3, hn, h1, if_true, bnd, rt]
    rfl
  | succ k ih =>
    intro f i acc  hi hfuu
    obtain ⟨f, rfl⟩ : ∃ g, f = g + 1 := ⟨f - 1, by omega⟩
    have h1 : ¬ nI n ≤ nI i := nI_ge (by omega) (by omega)
    have h2_10 : inb (nI i) 10 = true := inb_n (by omega) (by omega)
    have h3 : (nI i).toNatClampNeg = i := nI_clamp (by omega)
    simp only [FX2_allCells_L4, FX2_allCells_B4, b_R0_0, b_R0_1, b_R0_2, b_J0_3, b_I0_4, b_I0_5, b_I0_6, b_I0_7, b_I0_8, b_I0_9, b_R1_0, b_R1_1, b_R1_2, b_R1_3, b_R1_4, b_R1_5, b_I1_6, b_R8_0, b_R8_1, b_R8_2, b_I8_3, b_vc0, b_vc1, b_vc8, b_a0, b_s0, b_a1, b_s1, b_a2, b_s2, b_a3, b_s3, b_a4, b_s4, b_a5, b_s5, b_a6, b_s6, b_a7, b_s7, b_a8, b_s8, b_a12, b_s12, b_p0_3, b_p0_4, b_p0_5, b_p0_6, b_p0_7, b_p0_8, b_p0_9, b_p1_6, b_p8_3, hn, h1, h2_10, h3, nI_1, if_true, if_false, bnd, rt]
    simp only [fo]
    exact ih _ _ _ (by omega) (by omega)
theorem e_allCells (hn : σ.1 9 0 = nI n) (hn9 : n ≤ 10) : FX2_allCells (s + 1) (put μ s σ) = rt (fo (fun d a => a ||| (1 <<< ((σ.1 0 d : Int32).toInt64 &&& 63))) 0 n 0) (put μ s σ) := l_allCells hn hn9 n FU 0 _ (by omega) (by unfold FU; omega)
theorem l_flyingCells (hn : σ.1 9 0 = nI n) (hn9 : n ≤ 10) : ∀ k f i (acc : Int64), i + k = n → k < f → FX2_flyingCells_L4 f (s + 1) acc (nI i) (put μ s σ) = rt (fo (fun d a => if σ.1 4 d = 0 then a else a ||| (1 <<< ((σ.1 0 d : Int32).toInt64 &&& 63))) i k acc) (put μ s σ) := by
  intro k
  induction k with
  | zero =>
    intro f i acc  hi hfuu
    obtain ⟨f, rfl⟩ : ∃ g, f = g + 1 := ⟨f - 1, by omega⟩
    have h1 : nI n ≤ nI i := by rw [show i = n by omega]; exact Int32.le_refl _
    simp only [FX2_flyingCells_L4, FX2_flyingCells_B4, b_R0_0, b_R0_1, b_R0_2, b_J0_3, b_I0_4, b_I0_5, b_I0_6, b_I0_7, b_I0_8, b_I0_9, b_R1_0, b_R1_1, b_R1_2, b_R1_3, b_R1_4, b_R1_5, b_I1_6, b_R8_0, b_R8_1, b_R8_2, b_I8_3, b_vc0, b_vc1, b_vc8, b_a0, b_s0, b_a1, b_s1, b_a2, b_s2, b_a3, b_s3, b_a4, b_s4, b_a5, b_s5, b_a6, b_s6, b_a7, b_s7, b_a8, b_s8, b_a12, b_s12, b_p0_3, b_p0_4, b_p0_5, b_p0_6, b_p0_7, b_p0_8, b_p0_9, b_p1_6, b_p8_3, hn, h1, if_true, bnd, rt]
    rfl
  | succ k ih =>
    intro f i acc  hi hfuu
    obtain ⟨f, rfl⟩ : ∃ g, f = g + 1 := ⟨f - 1, by omega⟩
    have h1 : ¬ nI n ≤ nI i := nI_ge (by omega) (by omega)
    have h2_10 : inb (nI i) 10 = true := inb_n (by omega) (by omega)
    have h3 : (nI i).toNatClampNeg = i := nI_clamp (by omega)
    simp only [FX2_flyingCells_L4, FX2_flyingCells_B4, b_R0_0, b_R0_1, b_R0_2, b_J0_3, b_I0_4, b_I0_5, b_I0_6, b_I0_7, b_I0_8, b_I0_9, b_R1_0, b_R1_1, b_R1_2, b_R1_3, b_R1_4, b_R1_5, b_I1_6, b_R8_0, b_R8_1, b_R8_2, b_I8_3, b_vc0, b_vc1, b_vc8, b_a0, b_s0, b_a1, b_s1, b_a2, b_s2, b_a3, b_s3, b_a4, b_s4, b_a5, b_s5, b_a6, b_s6, b_a7, b_s7, b_a8, b_s8, b_a12, b_s12, b_p0_3, b_p0_4, b_p0_5, b_p0_6, b_p0_7, b_p0_8, b_p0_9, b_p1_6, b_p8_3, hn, h1, h2_10, h3, nI_1, if_true, if_false, bnd, rt]
    simp only [fo]
    split <;> exact ih _ _ _ (by omega) (by omega)
theorem e_flyingCells (hn : σ.1 9 0 = nI n) (hn9 : n ≤ 10) : FX2_flyingCells (s + 1) (put μ s σ) = rt (fo (fun d a => if σ.1 4 d = 0 then a else a ||| (1 <<< ((σ.1 0 d : Int32).toInt64 &&& 63))) 0 n 0) (put μ s σ) := l_flyingCells hn hn9 n FU 0 _ (by omega) (by unfold FU; omega)
theorem l_batterySum (hn : σ.1 9 0 = nI n) (hn9 : n ≤ 10) : ∀ k f i (acc : Int32), i + k = n → k < f → FX2_batterySum_L4 f (s + 1) acc (nI i) (put μ s σ) = rt (fo (fun d a => a + σ.1 1 d) i k acc) (put μ s σ) := by
  intro k
  induction k with
  | zero =>
    intro f i acc  hi hfuu
    obtain ⟨f, rfl⟩ : ∃ g, f = g + 1 := ⟨f - 1, by omega⟩
    have h1 : nI n ≤ nI i := by rw [show i = n by omega]; exact Int32.le_refl _
    simp only [FX2_batterySum_L4, FX2_batterySum_B4, b_R0_0, b_R0_1, b_R0_2, b_J0_3, b_I0_4, b_I0_5, b_I0_6, b_I0_7, b_I0_8, b_I0_9, b_R1_0, b_R1_1, b_R1_2, b_R1_3, b_R1_4, b_R1_5, b_I1_6, b_R8_0, b_R8_1, b_R8_2, b_I8_3, b_vc0, b_vc1, b_vc8, b_a0, b_s0, b_a1, b_s1, b_a2, b_s2, b_a3, b_s3, b_a4, b_s4, b_a5, b_s5, b_a6, b_s6, b_a7, b_s7, b_a8, b_s8, b_a12, b_s12, b_p0_3, b_p0_4, b_p0_5, b_p0_6, b_p0_7, b_p0_8, b_p0_9, b_p1_6, b_p8_3, hn, h1, if_true, bnd, rt]
    rfl
  | succ k ih =>
    intro f i acc  hi hfuu
    obtain ⟨f, rfl⟩ : ∃ g, f = g + 1 := ⟨f - 1, by omega⟩
    have h1 : ¬ nI n ≤ nI i := nI_ge (by omega) (by omega)
    have h2_10 : inb (nI i) 10 = true := inb_n (by omega) (by omega)
    have h3 : (nI i).toNatClampNeg = i := nI_clamp (by omega)
    simp only [FX2_batterySum_L4, FX2_batterySum_B4, b_R0_0, b_R0_1, b_R0_2, b_J0_3, b_I0_4, b_I0_5, b_I0_6, b_I0_7, b_I0_8, b_I0_9, b_R1_0, b_R1_1, b_R1_2, b_R1_3, b_R1_4, b_R1_5, b_I1_6, b_R8_0, b_R8_1, b_R8_2, b_I8_3, b_vc0, b_vc1, b_vc8, b_a0, b_s0, b_a1, b_s1, b_a2, b_s2, b_a3, b_s3, b_a4, b_s4, b_a5, b_s5, b_a6, b_s6, b_a7, b_s7, b_a8, b_s8, b_a12, b_s12, b_p0_3, b_p0_4, b_p0_5, b_p0_6, b_p0_7, b_p0_8, b_p0_9, b_p1_6, b_p8_3, hn, h1, h2_10, h3, nI_1, if_true, if_false, bnd, rt]
    simp only [fo]
    exact ih _ _ _ (by omega) (by omega)
theorem e_batterySum (hn : σ.1 9 0 = nI n) (hn9 : n ≤ 10) : FX2_batterySum (s + 1) (put μ s σ) = rt (fo (fun d a => a + σ.1 1 d) 0 n 0) (put μ s σ) := l_batterySum hn hn9 n FU 0 _ (by omega) (by unfold FU; omega)
theorem l_targetCount (hn : σ.1 9 0 = nI n) (hn9 : n ≤ 10) : ∀ k f i (acc : Int32), i + k = n → k < f → FX2_targetCount_L4 f (s + 1) acc (nI i) (put μ s σ) = rt (fo (fun d a => if σ.1 2 d = -1 then a else a + 1) i k acc) (put μ s σ) := by
  intro k
  induction k with
  | zero =>
    intro f i acc  hi hfuu
    obtain ⟨f, rfl⟩ : ∃ g, f = g + 1 := ⟨f - 1, by omega⟩
    have h1 : nI n ≤ nI i := by rw [show i = n by omega]; exact Int32.le_refl _
    simp only [FX2_targetCount_L4, FX2_targetCount_B4, b_R0_0, b_R0_1, b_R0_2, b_J0_3, b_I0_4, b_I0_5, b_I0_6, b_I0_7, b_I0_8, b_I0_9, b_R1_0, b_R1_1, b_R1_2, b_R1_3, b_R1_4, b_R1_5, b_I1_6, b_R8_0, b_R8_1, b_R8_2, b_I8_3, b_vc0, b_vc1, b_vc8, b_a0, b_s0, b_a1, b_s1, b_a2, b_s2, b_a3, b_s3, b_a4, b_s4, b_a5, b_s5, b_a6, b_s6, b_a7, b_s7, b_a8, b_s8, b_a12, b_s12, b_p0_3, b_p0_4, b_p0_5, b_p0_6, b_p0_7, b_p0_8, b_p0_9, b_p1_6, b_p8_3, hn, h1, if_true, bnd, rt]
    rfl
  | succ k ih =>
    intro f i acc  hi hfuu
    obtain ⟨f, rfl⟩ : ∃ g, f = g + 1 := ⟨f - 1, by omega⟩
    have h1 : ¬ nI n ≤ nI i := nI_ge (by omega) (by omega)
    have h2_10 : inb (nI i) 10 = true := inb_n (by omega) (by omega)
    have h3 : (nI i).toNatClampNeg = i := nI_clamp (by omega)
    simp only [FX2_targetCount_L4, FX2_targetCount_B4, b_R0_0, b_R0_1, b_R0_2, b_J0_3, b_I0_4, b_I0_5, b_I0_6, b_I0_7, b_I0_8, b_I0_9, b_R1_0, b_R1_1, b_R1_2, b_R1_3, b_R1_4, b_R1_5, b_I1_6, b_R8_0, b_R8_1, b_R8_2, b_I8_3, b_vc0, b_vc1, b_vc8, b_a0, b_s0, b_a1, b_s1, b_a2, b_s2, b_a3, b_s3, b_a4, b_s4, b_a5, b_s5, b_a6, b_s6, b_a7, b_s7, b_a8, b_s8, b_a12, b_s12, b_p0_3, b_p0_4, b_p0_5, b_p0_6, b_p0_7, b_p0_8, b_p0_9, b_p1_6, b_p8_3, hn, h1, h2_10, h3, nI_1, if_true, if_false, bnd, rt]
    simp only [fo]
    split <;> exact ih _ _ _ (by omega) (by omega)
theorem e_targetCount (hn : σ.1 9 0 = nI n) (hn9 : n ≤ 10) : FX2_targetCount (s + 1) (put μ s σ) = rt (fo (fun d a => if σ.1 2 d = -1 then a else a + 1) 0 n 0) (put μ s σ) := l_targetCount hn hn9 n FU 0 _ (by omega) (by unfold FU; omega)
theorem l_targetDistanceSum (hn : σ.1 9 0 = nI n) (hn9 : n ≤ 10) : ∀ k f i (acc : Int32), i + k = n → k < f → FX2_targetDistanceSum_L4 f (s + 1) acc (nI i) (put μ s σ) = rt (fo (fun d a => if σ.1 2 d = -1 then a else a + dst (σ.1 0 d) (σ.1 2 d)) i k acc) (put μ s σ) := by
  intro k
  induction k with
  | zero =>
    intro f i acc  hi hfuu
    obtain ⟨f, rfl⟩ : ∃ g, f = g + 1 := ⟨f - 1, by omega⟩
    have h1 : nI n ≤ nI i := by rw [show i = n by omega]; exact Int32.le_refl _
    simp only [FX2_targetDistanceSum_L4, FX2_targetDistanceSum_B4, e_dst, b_R0_0, b_R0_1, b_R0_2, b_J0_3, b_I0_4, b_I0_5, b_I0_6, b_I0_7, b_I0_8, b_I0_9, b_R1_0, b_R1_1, b_R1_2, b_R1_3, b_R1_4, b_R1_5, b_I1_6, b_R8_0, b_R8_1, b_R8_2, b_I8_3, b_vc0, b_vc1, b_vc8, b_a0, b_s0, b_a1, b_s1, b_a2, b_s2, b_a3, b_s3, b_a4, b_s4, b_a5, b_s5, b_a6, b_s6, b_a7, b_s7, b_a8, b_s8, b_a12, b_s12, b_p0_3, b_p0_4, b_p0_5, b_p0_6, b_p0_7, b_p0_8, b_p0_9, b_p1_6, b_p8_3, hn, h1, if_true, bnd, rt]
    rfl
  | succ k ih =>
    intro f i acc  hi hfuu
    obtain ⟨f, rfl⟩ : ∃ g, f = g + 1 := ⟨f - 1, by omega⟩
    have h1 : ¬ nI n ≤ nI i := nI_ge (by omega) (by omega)
    have h2_10 : inb (nI i) 10 = true := inb_n (by omega) (by omega)
    have h3 : (nI i).toNatClampNeg = i := nI_clamp (by omega)
    simp only [FX2_targetDistanceSum_L4, FX2_targetDistanceSum_B4, e_dst, b_R0_0, b_R0_1, b_R0_2, b_J0_3, b_I0_4, b_I0_5, b_I0_6, b_I0_7, b_I0_8, b_I0_9, b_R1_0, b_R1_1, b_R1_2, b_R1_3, b_R1_4, b_R1_5, b_I1_6, b_R8_0, b_R8_1, b_R8_2, b_I8_3, b_vc0, b_vc1, b_vc8, b_a0, b_s0, b_a1, b_s1, b_a2, b_s2, b_a3, b_s3, b_a4, b_s4, b_a5, b_s5, b_a6, b_s6, b_a7, b_s7, b_a8, b_s8, b_a12, b_s12, b_p0_3, b_p0_4, b_p0_5, b_p0_6, b_p0_7, b_p0_8, b_p0_9, b_p1_6, b_p8_3, hn, h1, h2_10, h3, nI_1, if_true, if_false, bnd, rt]
    simp only [fo]
    split <;> exact ih _ _ _ (by omega) (by omega)
theorem e_targetDistanceSum (hn : σ.1 9 0 = nI n) (hn9 : n ≤ 10) : FX2_targetDistanceSum (s + 1) (put μ s σ) = rt (fo (fun d a => if σ.1 2 d = -1 then a else a + dst (σ.1 0 d) (σ.1 2 d)) 0 n 0) (put μ s σ) := l_targetDistanceSum hn hn9 n FU 0 _ (by omega) (by unfold FU; omega)
def wis (σ : Sg) (d : Nat) : Int32 := if σ.1 4 d = 0 then -1 else if σ.1 2 d = -1 then -1 else if rowS (σ.1 0 d) (σ.1 2 d) = -1 then colS (σ.1 0 d) (σ.1 2 d) else rowS (σ.1 0 d) (σ.1 2 d)
theorem e_wish {i : Nat} (hi : i < 10) : FX2_wish (s + 1) (nI i) (put μ s σ) = rt (wis σ i) (put μ s σ) := by
  have h2 : inb (nI i) 10 = true := inb_n hi (by omega)
  have h3 : (nI i).toNatClampNeg = i := nI_clamp (by omega)
  simp only [FX2_wish, b_R0_0, b_R0_1, b_R0_2, b_J0_3, b_I0_4, b_I0_5, b_I0_6, b_I0_7, b_I0_8, b_I0_9, b_R1_0, b_R1_1, b_R1_2, b_R1_3, b_R1_4, b_R1_5, b_I1_6, b_R8_0, b_R8_1, b_R8_2, b_I8_3, b_vc0, b_vc1, b_vc8, b_a0, b_s0, b_a1, b_s1, b_a2, b_s2, b_a3, b_s3, b_a4, b_s4, b_a5, b_s5, b_a6, b_s6, b_a7, b_s7, b_a8, b_s8, b_a12, b_s12, b_p0_3, b_p0_4, b_p0_5, b_p0_6, b_p0_7, b_p0_8, b_p0_9, b_p1_6, b_p8_3, h2, h3, if_true, e_rowStep, e_colStep, bnd, rt, wis]
  split
  · rfl
  · split
    · rfl
    · split <;> rfl
/-- where a drone that wants to move can move -/
def fre (σ : Sg) (n d : Nat) : Int32 := if ¬ rowS (σ.1 0 d) (σ.1 2 d) = -1 ∧ ffi (fun e => σ.1 0 e = rowS (σ.1 0 d) (σ.1 2 d)) 0 n = -1 then rowS (σ.1 0 d) (σ.1 2 d) else if ¬ colS (σ.1 0 d) (σ.1 2 d) = -1 ∧ ffi (fun e => σ.1 0 e = colS (σ.1 0 d) (σ.1 2 d)) 0 n = -1 then colS (σ.1 0 d) (σ.1 2 d) else -1
theorem e_free {i : Nat} (hi : i < 10) (hn : σ.1 9 0 = nI n) (hn9 : n ≤ 10) : FX2_freeStep (s + 1) (nI i) (put μ s σ) = rt (fre σ n i) (put μ s σ) := by
  have h2 : inb (nI i) 10 = true := inb_n hi (by omega)
  have h3 : (nI i).toNatClampNeg = i := nI_clamp (by omega)
  simp only [FX2_freeStep, FX2_freeStep_B32, b_R0_0, b_R0_1, b_R0_2, b_J0_3, b_I0_4, b_I0_5, b_I0_6, b_I0_7, b_I0_8, b_I0_9, b_R1_0, b_R1_1, b_R1_2, b_R1_3, b_R1_4, b_R1_5, b_I1_6, b_R8_0, b_R8_1, b_R8_2, b_I8_3, b_vc0, b_vc1, b_vc8, b_a0, b_s0, b_a1, b_s1, b_a2, b_s2, b_a3, b_s3, b_a4, b_s4, b_a5, b_s5, b_a6, b_s6, b_a7, b_s7, b_a8, b_s8, b_a12, b_s12, b_p0_3, b_p0_4, b_p0_5, b_p0_6, b_p0_7, b_p0_8, b_p0_9, b_p1_6, b_p8_3, h2, h3, if_true, e_rowStep, e_colStep, e_occ hn hn9, bnd, rt, fre]
  by_cases a : rowS (σ.1 0 i) (σ.1 2 i) = -1 <;> by_cases b : ffi (fun e => σ.1 0 e = rowS (σ.1 0 i) (σ.1 2 i)) 0 n = -1 <;> by_cases c : colS (σ.1 0 i) (σ.1 2 i) = -1 <;> by_cases e : ffi (fun e => σ.1 0 e = colS (σ.1 0 i) (σ.1 2 i)) 0 n = -1 <;> simp only [a, b, c, e, if_true, if_false, not_true, not_false_iff, and_true, true_and, false_and, and_false]
theorem e_has {x : Int32} (hn : σ.1 9 0 = nI n) : FX2_has (s + 1) x (put μ s σ) = rt (if x < 0 then 0 else if nI n ≤ x then 0 else 1) (put μ s σ) := by
  simp only [FX2_has, b_R0_0, b_R0_1, b_R0_2, b_J0_3, b_I0_4, b_I0_5, b_I0_6, b_I0_7, b_I0_8, b_I0_9, b_R1_0, b_R1_1, b_R1_2, b_R1_3, b_R1_4, b_R1_5, b_I1_6, b_R8_0, b_R8_1, b_R8_2, b_I8_3, b_vc0, b_vc1, b_vc8, b_a0, b_s0, b_a1, b_s1, b_a2, b_s2, b_a3, b_s3, b_a4, b_s4, b_a5, b_s5, b_a6, b_s6, b_a7, b_s7, b_a8, b_s8, b_a12, b_s12, b_p0_3, b_p0_4, b_p0_5, b_p0_6, b_p0_7, b_p0_8, b_p0_9, b_p1_6, b_p8_3, hn]
  split
  · rfl
  · split <;> rfl
theorem nar0 : vp_nar .boolean 0 = 0 := by decide
theorem nar1 : vp_nar .boolean 1 = 1 := by decide
def grn (σ : Sg) (d : Nat) : Sg := sI2 (sI2 (sI2 σ 4 d 0) 5 d 0) 2 d (-1)
theorem e_ground {i : Nat} (hi : i < 10) : FX2_ground (s + 1) (nI i) (put μ s σ) = rt () (put μ s (grn σ i)) := by
  have h2 : inb (nI i) 10 = true := inb_n hi (by omega)
  have h3 : (nI i).toNatClampNeg = i := nI_clamp (by omega)
  simp only [FX2_ground, b_R0_0, b_R0_1, b_R0_2, b_J0_3, b_I0_4, b_I0_5, b_I0_6, b_I0_7, b_I0_8, b_I0_9, b_R1_0, b_R1_1, b_R1_2, b_R1_3, b_R1_4, b_R1_5, b_I1_6, b_R8_0, b_R8_1, b_R8_2, b_I8_3, b_vc0, b_vc1, b_vc8, b_a0, b_s0, b_a1, b_s1, b_a2, b_s2, b_a3, b_s3, b_a4, b_s4, b_a5, b_s5, b_a6, b_s6, b_a7, b_s7, b_a8, b_s8, b_a12, b_s12, b_p0_3, b_p0_4, b_p0_5, b_p0_6, b_p0_7, b_p0_8, b_p0_9, b_p1_6, b_p8_3, h2, h3, if_true, nar0, grn]
def asg (σ : Sg) (d : Nat) : Int32 := if σ.1 4 d = 0 then 0 else if σ.1 5 d = 0 then 1 else 0
theorem e_isAss {i : Nat} (hi : i < 10) : FX2_isAssignable (s + 1) (nI i) (put μ s σ) = rt (asg σ i) (put μ s σ) := by
  have h2 : inb (nI i) 10 = true := inb_n hi (by omega)
  have h3 : (nI i).toNatClampNeg = i := nI_clamp (by omega)
  simp only [FX2_isAssignable, b_R0_0, b_R0_1, b_R0_2, b_J0_3, b_I0_4, b_I0_5, b_I0_6, b_I0_7, b_I0_8, b_I0_9, b_R1_0, b_R1_1, b_R1_2, b_R1_3, b_R1_4, b_R1_5, b_I1_6, b_R8_0, b_R8_1, b_R8_2, b_I8_3, b_vc0, b_vc1, b_vc8, b_a0, b_s0, b_a1, b_s1, b_a2, b_s2, b_a3, b_s3, b_a4, b_s4, b_a5, b_s5, b_a6, b_s6, b_a7, b_s7, b_a8, b_s8, b_a12, b_s12, b_p0_3, b_p0_4, b_p0_5, b_p0_6, b_p0_7, b_p0_8, b_p0_9, b_p1_6, b_p8_3, h2, h3, if_true, asg]
  split
  · rfl
  · split <;> rfl
theorem l_cp {cell : Int32} {j : Nat} {k4 : Nat → Int32 → Int32 → Me → Rs Int32} (hn : σ.1 9 0 = nI n) (hn9 : n ≤ 10) : ∀ k f i (acc : Int32), i + k = n → k < f → FX2_conflictingPairs_L23 k4 f (s + 1) acc (nI j) cell (nI i) (put μ s σ) = k4 (s + 1) (fo (fun d a => if cell = -1 then a else if cell = wis σ d then a + 1 else a) i k acc) (nI (j + 1)) (put μ s σ) := by
  intro k
  induction k with
  | zero =>
    intro f i acc  hi hfuu
    obtain ⟨f, rfl⟩ : ∃ g, f = g + 1 := ⟨f - 1, by omega⟩
    have h1 : nI n ≤ nI i := by rw [show i = n by omega]; exact Int32.le_refl _
    simp only [FX2_conflictingPairs_L23, FX2_conflictingPairs_B23, b_R0_0, b_R0_1, b_R0_2, b_J0_3, b_I0_4, b_I0_5, b_I0_6, b_I0_7, b_I0_8, b_I0_9, b_R1_0, b_R1_1, b_R1_2, b_R1_3, b_R1_4, b_R1_5, b_I1_6, b_R8_0, b_R8_1, b_R8_2, b_I8_3, b_vc0, b_vc1, b_vc8, b_a0, b_s0, b_a1, b_s1, b_a2, b_s2, b_a3, b_s3, b_a4, b_s4, b_a5, b_s5, b_a6, b_s6, b_a7, b_s7, b_a8, b_s8, b_a12, b_s12, b_p0_3, b_p0_4, b_p0_5, b_p0_6, b_p0_7, b_p0_8, b_p0_9, b_p1_6, b_p8_3, hn, nI_1, h1, if_true, bnd, rt]
    rfl
  | succ k ih =>
    intro f i acc  hi hfuu
    obtain ⟨f, rfl⟩ : ∃ g, f = g + 1 := ⟨f - 1, by omega⟩
    have h1 : ¬ nI n ≤ nI i := nI_ge (by omega) (by omega)
    have h2_10 : inb (nI i) 10 = true := inb_n (by omega) (by omega)
    have h3 : (nI i).toNatClampNeg = i := nI_clamp (by omega)
    simp only [FX2_conflictingPairs_L23, FX2_conflictingPairs_B23, b_R0_0, b_R0_1, b_R0_2, b_J0_3, b_I0_4, b_I0_5, b_I0_6, b_I0_7, b_I0_8, b_I0_9, b_R1_0, b_R1_1, b_R1_2, b_R1_3, b_R1_4, b_R1_5, b_I1_6, b_R8_0, b_R8_1, b_R8_2, b_I8_3, b_vc0, b_vc1, b_vc8, b_a0, b_s0, b_a1, b_s1, b_a2, b_s2, b_a3, b_s3, b_a4, b_s4, b_a5, b_s5, b_a6, b_s6, b_a7, b_s7, b_a8, b_s8, b_a12, b_s12, b_p0_3, b_p0_4, b_p0_5, b_p0_6, b_p0_7, b_p0_8, b_p0_9, b_p1_6, b_p8_3, hn, e_wish (show i < 10 by omega), h1, h2_10, h3, nI_1, if_true, if_false, bnd, rt]
    simp only [fo]
    by_cases h9 : cell = -1
    · simp only [h9, if_true]
      simp only [h9, if_true] at ih
      exact ih _ _ _ (by omega) (by omega)
    · simp only [h9, if_false]
      simp only [h9, if_false] at ih
      by_cases h8 : cell = wis σ i
      · simp only [← h8, if_true]
        exact ih _ _ _ (by omega) (by omega)
      · simp only [h8, if_false]
        exact ih _ _ _ (by omega) (by omega)
theorem l_cpo (hn : σ.1 9 0 = nI n) (hn9 : n ≤ 10) : ∀ k f i (acc : Int32), i + k = n → k < f → FX2_conflictingPairs_L4 f (s + 1) acc (nI i) (put μ s σ) = rt (fo (fun d a => fo (fun e a => if wis σ d = -1 then a else if wis σ d = wis σ e then a + 1 else a) (d + 1) (n - (d + 1)) a) i k acc) (put μ s σ) := by
  intro k
  induction k with
  | zero =>
    intro f i acc  hi hfuu
    obtain ⟨f, rfl⟩ : ∃ g, f = g + 1 := ⟨f - 1, by omega⟩
    have h1 : nI n ≤ nI i := by rw [show i = n by omega]; exact Int32.le_refl _
    simp only [FX2_conflictingPairs_L4, FX2_conflictingPairs_B4, b_R0_0, b_R0_1, b_R0_2, b_J0_3, b_I0_4, b_I0_5, b_I0_6, b_I0_7, b_I0_8, b_I0_9, b_R1_0, b_R1_1, b_R1_2, b_R1_3, b_R1_4, b_R1_5, b_I1_6, b_R8_0, b_R8_1, b_R8_2, b_I8_3, b_vc0, b_vc1, b_vc8, b_a0, b_s0, b_a1, b_s1, b_a2, b_s2, b_a3, b_s3, b_a4, b_s4, b_a5, b_s5, b_a6, b_s6, b_a7, b_s7, b_a8, b_s8, b_a12, b_s12, b_p0_3, b_p0_4, b_p0_5, b_p0_6, b_p0_7, b_p0_8, b_p0_9, b_p1_6, b_p8_3, hn, h1, if_true, bnd, rt]
    rfl
  | succ k ih =>
    intro f i acc  hi hfuu
    obtain ⟨f, rfl⟩ : ∃ g, f = g + 1 := ⟨f - 1, by omega⟩
    have h1 : ¬ nI n ≤ nI i := nI_ge (by omega) (by omega)
    have h2_10 : inb (nI i) 10 = true := inb_n (by omega) (by omega)
    have h3 : (nI i).toNatClampNeg = i := nI_clamp (by omega)
    simp only [FX2_conflictingPairs_L4, FX2_conflictingPairs_B4, b_R0_0, b_R0_1, b_R0_2, b_J0_3, b_I0_4, b_I0_5, b_I0_6, b_I0_7, b_I0_8, b_I0_9, b_R1_0, b_R1_1, b_R1_2, b_R1_3, b_R1_4, b_R1_5, b_I1_6, b_R8_0, b_R8_1, b_R8_2, b_I8_3, b_vc0, b_vc1, b_vc8, b_a0, b_s0, b_a1, b_s1, b_a2, b_s2, b_a3, b_s3, b_a4, b_s4, b_a5, b_s5, b_a6, b_s6, b_a7, b_s7, b_a8, b_s8, b_a12, b_s12, b_p0_3, b_p0_4, b_p0_5, b_p0_6, b_p0_7, b_p0_8, b_p0_9, b_p1_6, b_p8_3, hn, e_wish (show i < 10 by omega), h1, h2_10, h3, nI_1, if_true, if_false, bnd, rt]
    rw [l_cp hn hn9 (n - (i + 1)) FU (i + 1) acc (by omega) (by unfold FU; omega)]
    simp only [fo]
    exact ih _ _ _ (by omega) (by omega)
theorem e_conf (hn : σ.1 9 0 = nI n) (hn9 : n ≤ 10) : FX2_conflictingPairs (s + 1) (put μ s σ) = rt (fo (fun d a => fo (fun e a => if wis σ d = -1 then a else if wis σ d = wis σ e then a + 1 else a) (d + 1) (n - (d + 1)) a) 0 n 0) (put μ s σ) := l_cpo hn hn9 n FU 0 _ (by omega) (by unfold FU; omega)
def prc (σ : Sg) (a b : Nat) : Int32 := if σ.1 1 a = σ.1 1 b then (if σ.1 4 a = σ.1 4 b then (if b ≤ a then 0 else 1) else σ.1 4 a) else if σ.1 1 b ≤ σ.1 1 a then 0 else 1
theorem e_prec {a b : Nat} (ha : a < 10) (hb : b < 10) (hz : σ.1 4 a = 0 ∨ σ.1 4 a = 1) : FX2_precedes (s + 1) (nI a) (nI b) (put μ s σ) = rt (prc σ a b) (put μ s σ) := by
  have h2 : inb (nI a) 10 = true := inb_n ha (by omega)
  have h3 : (nI a).toNatClampNeg = a := nI_clamp (by omega)
  have h4 : inb (nI b) 10 = true := inb_n hb (by omega)
  have h5 : (nI b).toNatClampNeg = b := nI_clamp (by omega)
  have h6 : vp_nar .boolean (σ.1 4 a) = σ.1 4 a := by rcases hz with h | h <;> rw [h] <;> decide
  have h7 : nI b ≤ nI a ↔ b ≤ a := nI_leI (by omega) (by omega)
  simp only [FX2_precedes, b_R0_0, b_R0_1, b_R0_2, b_J0_3, b_I0_4, b_I0_5, b_I0_6, b_I0_7, b_I0_8, b_I0_9, b_R1_0, b_R1_1, b_R1_2, b_R1_3, b_R1_4, b_R1_5, b_I1_6, b_R8_0, b_R8_1, b_R8_2, b_I8_3, b_vc0, b_vc1, b_vc8, b_a0, b_s0, b_a1, b_s1, b_a2, b_s2, b_a3, b_s3, b_a4, b_s4, b_a5, b_s5, b_a6, b_s6, b_a7, b_s7, b_a8, b_s8, b_a12, b_s12, b_p0_3, b_p0_4, b_p0_5, b_p0_6, b_p0_7, b_p0_8, b_p0_9, b_p1_6, b_p8_3, h2, h3, h4, h5, h6, h7, if_true, gd, prc]
  split
  · split
    · split <;> rfl
    · rfl
  · split <;> rfl
theorem l_rankOf {j : Nat} (hj : j < n) (hz : ∀ d, d < n → σ.1 4 d = 0 ∨ σ.1 4 d = 1) (hn : σ.1 9 0 = nI n) (hn9 : n ≤ 10) : ∀ k f i (acc : Int32), i + k = n → k < f → FX2_rankOf_L4 f (s + 1) (nI j) acc (nI i) (put μ s σ) = rt (fo (fun d a => if prc σ d j = 0 then a else a + 1) i k acc) (put μ s σ) := by
  intro k
  induction k with
  | zero =>
    intro f i acc  hi hfuu
    obtain ⟨f, rfl⟩ : ∃ g, f = g + 1 := ⟨f - 1, by omega⟩
    have h1 : nI n ≤ nI i := by rw [show i = n by omega]; exact Int32.le_refl _
    simp only [FX2_rankOf_L4, FX2_rankOf_B4, b_R0_0, b_R0_1, b_R0_2, b_J0_3, b_I0_4, b_I0_5, b_I0_6, b_I0_7, b_I0_8, b_I0_9, b_R1_0, b_R1_1, b_R1_2, b_R1_3, b_R1_4, b_R1_5, b_I1_6, b_R8_0, b_R8_1, b_R8_2, b_I8_3, b_vc0, b_vc1, b_vc8, b_a0, b_s0, b_a1, b_s1, b_a2, b_s2, b_a3, b_s3, b_a4, b_s4, b_a5, b_s5, b_a6, b_s6, b_a7, b_s7, b_a8, b_s8, b_a12, b_s12, b_p0_3, b_p0_4, b_p0_5, b_p0_6, b_p0_7, b_p0_8, b_p0_9, b_p1_6, b_p8_3, hn, h1, if_true, bnd, rt]
    rfl
  | succ k ih =>
    intro f i acc  hi hfuu
    obtain ⟨f, rfl⟩ : ∃ g, f = g + 1 := ⟨f - 1, by omega⟩
    have h1 : ¬ nI n ≤ nI i := nI_ge (by omega) (by omega)
    have h2_10 : inb (nI i) 10 = true := inb_n (by omega) (by omega)
    have h3 : (nI i).toNatClampNeg = i := nI_clamp (by omega)
    simp only [FX2_rankOf_L4, FX2_rankOf_B4, b_R0_0, b_R0_1, b_R0_2, b_J0_3, b_I0_4, b_I0_5, b_I0_6, b_I0_7, b_I0_8, b_I0_9, b_R1_0, b_R1_1, b_R1_2, b_R1_3, b_R1_4, b_R1_5, b_I1_6, b_R8_0, b_R8_1, b_R8_2, b_I8_3, b_vc0, b_vc1, b_vc8, b_a0, b_s0, b_a1, b_s1, b_a2, b_s2, b_a3, b_s3, b_a4, b_s4, b_a5, b_s5, b_a6, b_s6, b_a7, b_s7, b_a8, b_s8, b_a12, b_s12, b_p0_3, b_p0_4, b_p0_5, b_p0_6, b_p0_7, b_p0_8, b_p0_9, b_p1_6, b_p8_3, hn, e_prec (show i < 10 by omega) (show j < 10 by omega) (hz i (by omega)), h1, h2_10, h3, nI_1, if_true, if_false, bnd, rt]
    simp only [fo]
    split <;> exact ih _ _ _ (by omega) (by omega)
theorem e_rankOf {j : Nat} (hj : j < n) (hz : ∀ d, d < n → σ.1 4 d = 0 ∨ σ.1 4 d = 1) (hn : σ.1 9 0 = nI n) (hn9 : n ≤ 10) : FX2_rankOf (s + 1) (nI j) (put μ s σ) = rt (fo (fun d a => if prc σ d j = 0 then a else a + 1) 0 n 0) (put μ s σ) := l_rankOf hj hz hn hn9 n FU 0 _ (by omega) (by unfold FU; omega)
theorem l_ranked {x : Int32} (hz : ∀ d, d < n → σ.1 4 d = 0 ∨ σ.1 4 d = 1) (hn : σ.1 9 0 = nI n) (hn9 : n ≤ 10) : ∀ k f i , i + k = n → k < f → FX2_ranked_L2 f (s + 1) x (nI i) (put μ s σ) = rt (ffi (fun j => fo (fun d a => if prc σ d j = 0 then a else a + 1) 0 n (0 : Int32) = x) i k) (put μ s σ) := by
  intro k
  induction k with
  | zero =>
    intro f i   hi hfuu
    obtain ⟨f, rfl⟩ : ∃ g, f = g + 1 := ⟨f - 1, by omega⟩
    have h1 : nI n ≤ nI i := by rw [show i = n by omega]; exact Int32.le_refl _
    simp only [FX2_ranked_L2, FX2_ranked_B2, b_R0_0, b_R0_1, b_R0_2, b_J0_3, b_I0_4, b_I0_5, b_I0_6, b_I0_7, b_I0_8, b_I0_9, b_R1_0, b_R1_1, b_R1_2, b_R1_3, b_R1_4, b_R1_5, b_I1_6, b_R8_0, b_R8_1, b_R8_2, b_I8_3, b_vc0, b_vc1, b_vc8, b_a0, b_s0, b_a1, b_s1, b_a2, b_s2, b_a3, b_s3, b_a4, b_s4, b_a5, b_s5, b_a6, b_s6, b_a7, b_s7, b_a8, b_s8, b_a12, b_s12, b_p0_3, b_p0_4, b_p0_5, b_p0_6, b_p0_7, b_p0_8, b_p0_9, b_p1_6, b_p8_3, hn, h1, if_true, bnd, rt]
    rfl
  | succ k ih =>
    intro f i   hi hfuu
    obtain ⟨f, rfl⟩ : ∃ g, f = g + 1 := ⟨f - 1, by omega⟩
    have h1 : ¬ nI n ≤ nI i := nI_ge (by omega) (by omega)
    have h2_10 : inb (nI i) 10 = true := inb_n (by omega) (by omega)
    have h3 : (nI i).toNatClampNeg = i := nI_clamp (by omega)
    simp only [FX2_ranked_L2, FX2_ranked_B2, b_R0_0, b_R0_1, b_R0_2, b_J0_3, b_I0_4, b_I0_5, b_I0_6, b_I0_7, b_I0_8, b_I0_9, b_R1_0, b_R1_1, b_R1_2, b_R1_3, b_R1_4, b_R1_5, b_I1_6, b_R8_0, b_R8_1, b_R8_2, b_I8_3, b_vc0, b_vc1, b_vc8, b_a0, b_s0, b_a1, b_s1, b_a2, b_s2, b_a3, b_s3, b_a4, b_s4, b_a5, b_s5, b_a6, b_s6, b_a7, b_s7, b_a8, b_s8, b_a12, b_s12, b_p0_3, b_p0_4, b_p0_5, b_p0_6, b_p0_7, b_p0_8, b_p0_9, b_p1_6, b_p8_3, hn, e_rankOf (show i < n by omega) hz hn hn9, h1, h2_10, h3, nI_1, if_true, if_false, bnd, rt]
    simp only [ffi]
    split
    · rfl
    · exact ih f (i + 1) (by omega) (by omega)
theorem e_ranked {x : Int32} (hz : ∀ d, d < n → σ.1 4 d = 0 ∨ σ.1 4 d = 1) (hn : σ.1 9 0 = nI n) (hn9 : n ≤ 10) : FX2_ranked (s + 1) x (put μ s σ) = rt (ffi (fun j => fo (fun d a => if prc σ d j = 0 then a else a + 1) 0 n (0 : Int32) = x) 0 n) (put μ s σ) := l_ranked hz hn hn9 n FU 0 (by omega) (by unfold FU; omega)
/-- the best so far, a drone's number or -1 -/
def nid (σ : Sg) (c : Int32) (d : Nat) (b : Int32) : Int32 := if asg σ d = 0 then b else if σ.1 2 d = -1 then (if b = -1 then nI d else if dst (σ.1 0 b.toNatClampNeg) c ≤ dst (σ.1 0 d) c then b else nI d) else b
theorem l_nid {c : Int32} (hn : σ.1 9 0 = nI n) (hn9 : n ≤ 10) : ∀ k f i (b : Int32), (b = -1 ∨ ∃ j, j < i ∧ b = nI j) → i + k = n → k < f → FX2_nearestIdle_L4 f (s + 1) c b (nI i) (put μ s σ) = rt (fo (nid σ c) i k b) (put μ s σ) := by
  intro k
  induction k with
  | zero =>
    intro f i b hb hi hfuu
    obtain ⟨f, rfl⟩ : ∃ g, f = g + 1 := ⟨f - 1, by omega⟩
    have h1 : nI n ≤ nI i := by rw [show i = n by omega]; exact Int32.le_refl _
    simp only [FX2_nearestIdle_L4, FX2_nearestIdle_B4, b_R0_0, b_R0_1, b_R0_2, b_J0_3, b_I0_4, b_I0_5, b_I0_6, b_I0_7, b_I0_8, b_I0_9, b_R1_0, b_R1_1, b_R1_2, b_R1_3, b_R1_4, b_R1_5, b_I1_6, b_R8_0, b_R8_1, b_R8_2, b_I8_3, b_vc0, b_vc1, b_vc8, b_a0, b_s0, b_a1, b_s1, b_a2, b_s2, b_a3, b_s3, b_a4, b_s4, b_a5, b_s5, b_a6, b_s6, b_a7, b_s7, b_a8, b_s8, b_a12, b_s12, b_p0_3, b_p0_4, b_p0_5, b_p0_6, b_p0_7, b_p0_8, b_p0_9, b_p1_6, b_p8_3, hn, h1, if_true, bnd, rt]
    rfl
  | succ k ih =>
    intro f i b hb hi hfuu
    obtain ⟨f, rfl⟩ : ∃ g, f = g + 1 := ⟨f - 1, by omega⟩
    have h1 : ¬ nI n ≤ nI i := nI_ge (by omega) (by omega)
    have h2_10 : inb (nI i) 10 = true := inb_n (by omega) (by omega)
    have h3 : (nI i).toNatClampNeg = i := nI_clamp (by omega)
    have hb2 : ¬ b = -1 → inb b 10 = true := fun hne => by
      rcases hb with h | ⟨j, hj, h⟩
      · exact absurd h hne
      · rw [h]; exact inb_n (by omega) (by omega)
    simp only [FX2_nearestIdle_L4, FX2_nearestIdle_B4, b_R0_0, b_R0_1, b_R0_2, b_J0_3, b_I0_4, b_I0_5, b_I0_6, b_I0_7, b_I0_8, b_I0_9, b_R1_0, b_R1_1, b_R1_2, b_R1_3, b_R1_4, b_R1_5, b_I1_6, b_R8_0, b_R8_1, b_R8_2, b_I8_3, b_vc0, b_vc1, b_vc8, b_a0, b_s0, b_a1, b_s1, b_a2, b_s2, b_a3, b_s3, b_a4, b_s4, b_a5, b_s5, b_a6, b_s6, b_a7, b_s7, b_a8, b_s8, b_a12, b_s12, b_p0_3, b_p0_4, b_p0_5, b_p0_6, b_p0_7, b_p0_8, b_p0_9, b_p1_6, b_p8_3, hn, hb2, e_isAss (show i < 10 by omega), e_dst, h1, h2_10, h3, nI_1, if_true, if_false, bnd, rt]
    simp only [fo]
    have hbi : nI i = -1 ∨ ∃ j, j < i + 1 ∧ nI i = nI j := Or.inr ⟨i, by omega, rfl⟩
    have hbb : b = -1 ∨ ∃ j, j < i + 1 ∧ b = nI j := by
      rcases hb with h | ⟨j, hj, h⟩
      · exact Or.inl h
      · exact Or.inr ⟨j, by omega, h⟩
    unfold nid
    by_cases a : asg σ i = 0
    · simp only [a, if_true]
      exact ih _ _ _ hbb (by omega) (by omega)
    · simp only [a, if_false]
      by_cases a2 : σ.1 2 i = -1
      · simp only [a2, if_true]
        by_cases a3 : b = -1
        · simp only [a3, if_true]
          exact ih _ _ _ hbi (by omega) (by omega)
        · simp only [a3, if_false, hb2 a3, if_true]
          by_cases a4 : dst (σ.1 0 b.toNatClampNeg) c ≤ dst (σ.1 0 i) c
          · simp only [a4, if_true]
            exact ih _ _ _ hbb (by omega) (by omega)
          · simp only [a4, if_false]
            exact ih _ _ _ hbi (by omega) (by omega)
      · simp only [a2, if_false]
        exact ih _ _ _ hbb (by omega) (by omega)
theorem e_nid {c : Int32} (hn : σ.1 9 0 = nI n) (hn9 : n ≤ 10) : FX2_nearestIdle (s + 1) c (put μ s σ) = rt (fo (nid σ c) 0 n (-1)) (put μ s σ) := l_nid hn hn9 n FU 0 _ (Or.inl rfl) (by omega) (by unfold FU; omega)
def drt (d : Nat) (σ : Sg) : Sg := if asg σ d = 0 then σ else sI2 σ 2 d (-1)
theorem drt_n {d : Nat} {σ : Sg} : (drt d σ).1 9 0 = σ.1 9 0 := by
  unfold drt
  split
  · rfl
  · rfl
end FL
section FL2
variable {μ : Me} {s n : Nat}
theorem l_drop (hn9 : n ≤ 10) : ∀ k f i (σ : Sg), σ.1 9 0 = nI n → i + k = n → k < f → FX2_dropTargets_L2 f (s + 1) (nI i) (put μ s σ) = rt () (put μ s (fo drt i k σ)) := by
  intro k
  induction k with
  | zero =>
    intro f i σ hn hi hfuu
    obtain ⟨f, rfl⟩ : ∃ g, f = g + 1 := ⟨f - 1, by omega⟩
    have h1 : nI n ≤ nI i := by rw [show i = n by omega]; exact Int32.le_refl _
    simp only [FX2_dropTargets_L2, FX2_dropTargets_B2, b_R0_0, b_R0_1, b_R0_2, b_J0_3, b_I0_4, b_I0_5, b_I0_6, b_I0_7, b_I0_8, b_I0_9, b_R1_0, b_R1_1, b_R1_2, b_R1_3, b_R1_4, b_R1_5, b_I1_6, b_R8_0, b_R8_1, b_R8_2, b_I8_3, b_vc0, b_vc1, b_vc8, b_a0, b_s0, b_a1, b_s1, b_a2, b_s2, b_a3, b_s3, b_a4, b_s4, b_a5, b_s5, b_a6, b_s6, b_a7, b_s7, b_a8, b_s8, b_a12, b_s12, b_p0_3, b_p0_4, b_p0_5, b_p0_6, b_p0_7, b_p0_8, b_p0_9, b_p1_6, b_p8_3, hn, h1, if_true, bnd, rt]
    rfl
  | succ k ih =>
    intro f i σ hn hi hfuu
    obtain ⟨f, rfl⟩ : ∃ g, f = g + 1 := ⟨f - 1, by omega⟩
    have h1 : ¬ nI n ≤ nI i := nI_ge (by omega) (by omega)
    have h2_10 : inb (nI i) 10 = true := inb_n (by omega) (by omega)
    have h3 : (nI i).toNatClampNeg = i := nI_clamp (by omega)
    simp only [FX2_dropTargets_L2, FX2_dropTargets_B2, b_R0_0, b_R0_1, b_R0_2, b_J0_3, b_I0_4, b_I0_5, b_I0_6, b_I0_7, b_I0_8, b_I0_9, b_R1_0, b_R1_1, b_R1_2, b_R1_3, b_R1_4, b_R1_5, b_I1_6, b_R8_0, b_R8_1, b_R8_2, b_I8_3, b_vc0, b_vc1, b_vc8, b_a0, b_s0, b_a1, b_s1, b_a2, b_s2, b_a3, b_s3, b_a4, b_s4, b_a5, b_s5, b_a6, b_s6, b_a7, b_s7, b_a8, b_s8, b_a12, b_s12, b_p0_3, b_p0_4, b_p0_5, b_p0_6, b_p0_7, b_p0_8, b_p0_9, b_p1_6, b_p8_3, hn, e_isAss (show i < 10 by omega), h1, h2_10, h3, nI_1, if_true, if_false, bnd, rt]
    have hn2 : (drt i σ).1 9 0 = nI n := drt_n.trans hn
    have h := ih f (i + 1) (drt i σ) hn2 (by omega) (by omega)
    simp only [fo]
    refine Eq.trans ?_ h
    unfold drt
    split <;> rfl
theorem e_drop (hn9 : n ≤ 10) {σ : Sg} (hn : σ.1 9 0 = nI n) : FX2_dropTargets (s + 1) (put μ s σ) = rt () (put μ s (fo drt 0 n σ)) := l_drop hn9 n FU 0 _ hn (by omega) (by unfold FU; omega)
end FL2
