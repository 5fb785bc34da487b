/-! means -/
theorem cov_t : ∀ b, b < 11 → ∀ a, a < 11 → 0 < b → nn32 (FP.fdiv (FP.i2f (nI a)) (FP.i2f (nI b))) = true ∧ nn64 (FP.f2d (FP.fdiv (FP.i2f (nI a)) (FP.i2f (nI b)))) = true ∧ Op.cmpValue (FP.dcmp (FP.f2d (FP.fdiv (FP.i2f (nI a)) (FP.i2f (nI b)))) (FP.f2d (FP.fdiv (FP.i2f (nI a)) (FP.i2f (nI b))))) .l = 0 := by decide +kernel
theorem mdi_t : ∀ b, b < 11 → ∀ a, a < 141 → 0 < b → nn64 (FP.ddiv (FP.i2d (nI a)) (FP.i2d (nI b))) = true ∧ Op.cmpValue (FP.dcmp (FP.ddiv (FP.i2d (nI a)) (FP.i2d (nI b))) (FP.ddiv (FP.i2d (nI a)) (FP.i2d (nI b)))) .l = 0 := by decide +kernel
def fb57 (v1 : UInt32) (v2 : Int32) : Option Int32 := if nn32 (FP.fsub v1 FP.fconst1) = true then (if nn32 (FP.fmul (FP.fsub v1 FP.fconst1) 1258291200) = true then some ((v2 <<< (23 &&& 31)) ||| (FP.f2i (FP.fmul (FP.fsub v1 FP.fconst1) 1258291200))) else none) else none
def fb36 : Nat → UInt32 → Int32 → Option Int32
  | 0, _, _ => none
  | f + 1, v1, v2 => if 0 ≤ (Op.cmpValue (FP.fcmp v1 FP.fconst1) .g) then fb57 v1 v2 else if v2 ≤ 1 then fb57 v1 v2 else if nn32 (FP.fmul v1 FP.fconst2) = true then fb36 f (FP.fmul v1 FP.fconst2) (v2 + (-1)) else none
def fb13 : Nat → UInt32 → Int32 → Option Int32
  | 0, _, _ => none
  | f + 1, v1, v2 => if (Op.cmpValue (FP.fcmp v1 FP.fconst2) .l) < 0 then fb36 FU v1 v2 else if 254 ≤ v2 then fb36 FU v1 v2 else if nn32 (FP.fdiv v1 FP.fconst2) = true then fb13 f (FP.fdiv v1 FP.fconst2) (v2 + 1) else none
def fbo (v : UInt32) : Option Int32 := if 0 < (Op.cmpValue (FP.fcmp v FP.fconst0) .g) then fb13 FU v 127 else some 0
def orr (o : Option Int32) (μ : Me) : Rs Int32 := match o with
  | some r => rt r μ
  | none => none
theorem fb57_e (v1 : UInt32) (v2 : Int32) (μ : Me) : FX7_bitsOf_B57 v1 v2 μ = orr (fb57 v1 v2) μ := by
  unfold FX7_bitsOf_B57 fb57 gd
  split
  · split <;> rfl
  · rfl
theorem fb36_e : ∀ f v1 v2 (μ : Me), FX7_bitsOf_L36 f v1 v2 μ = orr (fb36 f v1 v2) μ := by
  intro f
  induction f with
  | zero => intros; rfl
  | succ f ih =>
    intro v1 v2 μ
    simp only [FX7_bitsOf_L36, FX7_bitsOf_B36, fb36, gd]
    split
    · exact fb57_e _ _ _
    · split
      · exact fb57_e _ _ _
      · split
        · exact ih _ _ _
        · rfl
theorem fb13_e : ∀ f v1 v2 (μ : Me), FX7_bitsOf_L13 f v1 v2 μ = orr (fb13 f v1 v2) μ := by
  intro f
  induction f with
  | zero => intros; rfl
  | succ f ih =>
    intro v1 v2 μ
    simp only [FX7_bitsOf_L13, FX7_bitsOf_B13, fb13, gd]
    split
    · exact fb36_e _ _ _ _
    · split
      · exact fb36_e _ _ _ _
      · split
        · exact ih _ _ _
        · rfl
theorem fbo_e (v : UInt32) (μ : Me) : FX7_bitsOf v μ = orr (fbo v) μ := by
  unfold FX7_bitsOf fbo
  split
  · exact fb13_e _ _ _ _
  · rfl
def mbv (n s : Nat) : UInt32 := FP.fdiv (FP.i2f (nI s)) (FP.i2f (nI n))
def mbok (n s : Nat) : Bool := nn32 (mbv n s) && decide (fbo (mbv n s) = some (mbv n s).toInt32) && decide (Op.cmpValue (FP.fcmp (mbv n s) (mbv n s)) .l = 0)
theorem mb_1 : ∀ s, s < 101 → mbok 1 s = true := by decide +kernel
theorem mb_2 : ∀ s, s < 201 → mbok 2 s = true := by decide +kernel
theorem mb_3 : ∀ s, s < 301 → mbok 3 s = true := by decide +kernel
theorem mb_4 : ∀ s, s < 401 → mbok 4 s = true := by decide +kernel
theorem mb_5 : ∀ s, s < 501 → mbok 5 s = true := by decide +kernel
theorem mb_6 : ∀ s, s < 601 → mbok 6 s = true := by decide +kernel
theorem mb_7 : ∀ s, s < 701 → mbok 7 s = true := by decide +kernel
theorem mb_8 : ∀ s, s < 801 → mbok 8 s = true := by decide +kernel
theorem mb_9 : ∀ s, s < 901 → mbok 9 s = true := by decide +kernel
theorem mb_10 : ∀ s, s < 1001 → mbok 10 s = true := by decide +kernel
theorem mb_all {n s : Nat} (h0 : 0 < n) (hn : n ≤ 10) (hs : s ≤ 100 * n) : mbok n s = true := by
  match n, h0, hn with
  | 1, _, _ => exact mb_1 s (by omega)
  | 2, _, _ => exact mb_2 s (by omega)
  | 3, _, _ => exact mb_3 s (by omega)
  | 4, _, _ => exact mb_4 s (by omega)
  | 5, _, _ => exact mb_5 s (by omega)
  | 6, _, _ => exact mb_6 s (by omega)
  | 7, _, _ => exact mb_7 s (by omega)
  | 8, _, _ => exact mb_8 s (by omega)
  | 9, _, _ => exact mb_9 s (by omega)
  | 10, _, _ => exact mb_10 s (by omega)
  | 0, h, _ => exact absurd h (Nat.lt_irrefl 0)
  | k + 11, _, h => exact absurd h (by omega)
theorem mb_use {n s : Nat} (h0 : 0 < n) (hn : n ≤ 10) (hs : s ≤ 100 * n) (μ : Me) : nn32 (FP.fdiv (FP.i2f (nI s)) (FP.i2f (nI n))) = true ∧ FX7_bitsOf (FP.fdiv (FP.i2f (nI s)) (FP.i2f (nI n))) μ = rt (FP.fdiv (FP.i2f (nI s)) (FP.i2f (nI n))).toInt32 μ ∧ FJxf58ca_floatToIntBits_5c35a (FP.fdiv (FP.i2f (nI s)) (FP.i2f (nI n))) μ = rt (FP.fdiv (FP.i2f (nI s)) (FP.i2f (nI n))).toInt32 μ := by
  have h := mb_all h0 hn hs
  unfold mbok at h
  rw [Bool.and_eq_true, Bool.and_eq_true, decide_eq_true_eq, decide_eq_true_eq] at h
  obtain ⟨⟨h1, h2⟩, h3⟩ := h
  refine ⟨h1, ?_, ?_⟩
  · rw [fbo_e]
    show orr (fbo (mbv n s)) μ = _
    rw [h2]
    rfl
  · have h3 : Op.cmpValue (FP.fcmp (FP.fdiv (FP.i2f (nI s)) (FP.i2f (nI n))) (FP.fdiv (FP.i2f (nI s)) (FP.i2f (nI n)))) .l = 0 := h3
    simp only [FJxf58ca_floatToIntBits_5c35a, FJxf58ca_isNaN_12338, h3, if_true, bnd, rt]
