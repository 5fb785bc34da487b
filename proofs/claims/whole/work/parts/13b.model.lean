/-! ===== the model's own methods ===== -/
section M1
variable {μ : Me} {m : Nat} {M : Mg} {n q : Nat}
theorem e_thrown (hm : 0 < m) : FX8_thrown m (pum μ m M) = rt (M 11 0) (pum μ m M) := by simp only [FX8_thrown, w_I0, w_I1, w_I2, w_I3, w_I4, w_R5, w_R6, w_R7, w_R8, w_R9, w_R10, w_R11, w_R12, w_R13, w_R14, w_R15, w_I16, w_I17, w_I18, w_I19, w_I20, w_I21, w_vc, w_a0, w_s0, w_a1, w_s1, w_a2, w_s2, w_a3, w_s3, w_a4, w_s4, w_a5, w_s5, w_a6, w_s6, w_a7, w_s7, w_a8, w_s8, w_a9, w_s9, w_a10, w_s10, w_p0, w_p1, w_p2, w_p3, w_p4, w_p16, w_p17, w_p18, w_p19, w_p20, w_p21, o_0, o_1, o_2, o_3, o_4, o_5, hm, i_0, z_0, i_1, z_1, i_2, z_2, i_3, z_3, i_4, z_4, i_5, z_5, i_6, z_6, i_7, z_7, i_8, z_8]
theorem e_fail {x : Int32} (hm : 0 < m) : FX8_fail m x (pum μ m M) = rt 0 (pum μ m (mS M 11 0 x)) := by simp only [FX8_fail, w_I0, w_I1, w_I2, w_I3, w_I4, w_R5, w_R6, w_R7, w_R8, w_R9, w_R10, w_R11, w_R12, w_R13, w_R14, w_R15, w_I16, w_I17, w_I18, w_I19, w_I20, w_I21, w_vc, w_a0, w_s0, w_a1, w_s1, w_a2, w_s2, w_a3, w_s3, w_a4, w_s4, w_a5, w_s5, w_a6, w_s6, w_a7, w_s7, w_a8, w_s8, w_a9, w_s9, w_a10, w_s10, w_p0, w_p1, w_p2, w_p3, w_p4, w_p16, w_p17, w_p18, w_p19, w_p20, w_p21, o_0, o_1, o_2, o_3, o_4, o_5, hm, i_0, z_0, i_1, z_1, i_2, z_2, i_3, z_3, i_4, z_4, i_5, z_5, i_6, z_6, i_7, z_7, i_8, z_8]
def isI (x a b : Int32) : Int32 := if x < a then 0 else if b < x then 0 else 1
theorem e_isIn (x a b : Int32) (μ : Me) : FX8_isIn x a b μ = rt (isI x a b) μ := by
  unfold FX8_isIn isI
  split
  · rfl
  · split <;> rfl
theorem isI_z (x a b : Int32) : isI x a b = 0 ∨ isI x a b = 1 := by
  unfold isI
  split
  · exact Or.inl rfl
  · split
    · exact Or.inl rfl
    · exact Or.inr rfl
theorem isI_in {d k : Nat} {b : Int32} (h : d < k) (hb : b = nI k - 1) (hk : k < 2 ^ 31) : isI (nI d) 0 b = 1 := by
  have hb2 : b = nI (k - 1) := by
    obtain ⟨j, rfl⟩ : ∃ j, k = j + 1 := ⟨k - 1, by omega⟩
    rw [hb, nI_pred]; rfl
  unfold isI
  rw [if_neg (nI_pos (by omega)), if_neg (by rw [hb2]; exact nI_nlt (by omega) (by omega))]
theorem isI_out {x : Int32} {k : Nat} {b : Int32} (h : x < 0 ∨ nI k ≤ x) (hb : b = nI k - 1) (hk : k < 2 ^ 31) : isI x 0 b = 0 := by
  unfold isI
  split
  · rfl
  · rename_i h1
    obtain ⟨j, hj, rfl⟩ := nI_of h1
    have h2 := (nI_leI hk hj).mp (h.resolve_left h1)
    rw [if_pos]
    rw [hb]
    cases k with
    | zero =>
      rw [nI_0]
      have := nI_pos' hj
      rw [Int32.lt_iff_toInt_lt, nI_toInt hj]
      rw [show ((0 : Int32) - 1).toInt = -1 by decide]
      omega
    | succ k => rw [nI_pred]; exact nI_lt (by omega) hj
theorem e_misCell (x : Int32) (μ : Me) : FX8_isCell x μ = rt (isI x 0 63) μ := by
  have hn := nar_b (isI_z x 0 63)
  simp only [FX8_isCell, e_isIn, hn, bnd, rt, gd, if_true]
theorem e_misForm (x : Int32) (μ : Me) : FX8_isForm x μ = rt (isI x 0 3) μ := by
  have hn := nar_b (isI_z x 0 3)
  simp only [FX8_isForm, e_isIn, hn, bnd, rt, gd, if_true]
theorem e_isDr {x : Int32} (hm : 0 < m) : FX8_isDrone m x (pum μ m M) = rt (isI x 0 (M 0 0 - 1)) (pum μ m M) := by
  have hn := nar_b (isI_z x 0 (M 0 0 - 1))
  simp only [FX8_isDrone, w_I0, w_I1, w_I2, w_I3, w_I4, w_R5, w_R6, w_R7, w_R8, w_R9, w_R10, w_R11, w_R12, w_R13, w_R14, w_R15, w_I16, w_I17, w_I18, w_I19, w_I20, w_I21, w_vc, w_a0, w_s0, w_a1, w_s1, w_a2, w_s2, w_a3, w_s3, w_a4, w_s4, w_a5, w_s5, w_a6, w_s6, w_a7, w_s7, w_a8, w_s8, w_a9, w_s9, w_a10, w_s10, w_p0, w_p1, w_p2, w_p3, w_p4, w_p16, w_p17, w_p18, w_p19, w_p20, w_p21, o_0, o_1, o_2, o_3, o_4, o_5, hm, i_0, z_0, i_1, z_1, i_2, z_2, i_3, z_3, i_4, z_4, i_5, z_5, i_6, z_6, i_7, z_7, i_8, z_8, e_isIn, hn, bnd, rt, gd, if_true]
def fl1 (x : Int32) : Int32 := if x = 1 then 1 else 0
theorem e_flies {d : Nat} (hm : 0 < m) (hd9 : d < 10) : FX8_flies m (nI d) (pum μ m M) = rt (fl1 (M 0 (13 + 6 * d + 1))) (pum μ m M) := by
  simp only [FX8_flies, w_I0, w_I1, w_I2, w_I3, w_I4, w_R5, w_R6, w_R7, w_R8, w_R9, w_R10, w_R11, w_R12, w_R13, w_R14, w_R15, w_I16, w_I17, w_I18, w_I19, w_I20, w_I21, w_vc, w_a0, w_s0, w_a1, w_s1, w_a2, w_s2, w_a3, w_s3, w_a4, w_s4, w_a5, w_s5, w_a6, w_s6, w_a7, w_s7, w_a8, w_s8, w_a9, w_s9, w_a10, w_s10, w_p0, w_p1, w_p2, w_p3, w_p4, w_p16, w_p17, w_p18, w_p19, w_p20, w_p21, o_0, o_1, o_2, o_3, o_4, o_5, hm, i_0, z_0, i_1, z_1, i_2, z_2, i_3, z_3, i_4, z_4, i_5, z_5, i_6, z_6, i_7, z_7, i_8, z_8, iv_0 hd9, cv_0 hd9, iv_1 hd9, cv_1 hd9, iv_2 hd9, cv_2 hd9, iv_3 hd9, cv_3 hd9, iv_4 hd9, cv_4 hd9, iv_5 hd9, cv_5 hd9, bnd, rt, if_true, fl1]
  split <;> rfl
theorem e_urg {d : Nat} (hm : 0 < m) (hd9 : d < 10) : FX8_isUrgent m (nI d) (pum μ m M) = rt (fl1 (M 0 (13 + 6 * d + 5))) (pum μ m M) := by
  simp only [FX8_isUrgent, w_I0, w_I1, w_I2, w_I3, w_I4, w_R5, w_R6, w_R7, w_R8, w_R9, w_R10, w_R11, w_R12, w_R13, w_R14, w_R15, w_I16, w_I17, w_I18, w_I19, w_I20, w_I21, w_vc, w_a0, w_s0, w_a1, w_s1, w_a2, w_s2, w_a3, w_s3, w_a4, w_s4, w_a5, w_s5, w_a6, w_s6, w_a7, w_s7, w_a8, w_s8, w_a9, w_s9, w_a10, w_s10, w_p0, w_p1, w_p2, w_p3, w_p4, w_p16, w_p17, w_p18, w_p19, w_p20, w_p21, o_0, o_1, o_2, o_3, o_4, o_5, hm, i_0, z_0, i_1, z_1, i_2, z_2, i_3, z_3, i_4, z_4, i_5, z_5, i_6, z_6, i_7, z_7, i_8, z_8, iv_0 hd9, cv_0 hd9, iv_1 hd9, cv_1 hd9, iv_2 hd9, cv_2 hd9, iv_3 hd9, cv_3 hd9, iv_4 hd9, cv_4 hd9, iv_5 hd9, cv_5 hd9, bnd, rt, if_true, fl1]
  split <;> rfl
theorem e_goal {d : Nat} (hm : 0 < m) (hd9 : d < 10) : FX8_goal m (nI d) (pum μ m M) = rt (M 0 (13 + 6 * d + 4) - 1) (pum μ m M) := by
  simp only [FX8_goal, w_I0, w_I1, w_I2, w_I3, w_I4, w_R5, w_R6, w_R7, w_R8, w_R9, w_R10, w_R11, w_R12, w_R13, w_R14, w_R15, w_I16, w_I17, w_I18, w_I19, w_I20, w_I21, w_vc, w_a0, w_s0, w_a1, w_s1, w_a2, w_s2, w_a3, w_s3, w_a4, w_s4, w_a5, w_s5, w_a6, w_s6, w_a7, w_s7, w_a8, w_s8, w_a9, w_s9, w_a10, w_s10, w_p0, w_p1, w_p2, w_p3, w_p4, w_p16, w_p17, w_p18, w_p19, w_p20, w_p21, o_0, o_1, o_2, o_3, o_4, o_5, hm, i_0, z_0, i_1, z_1, i_2, z_2, i_3, z_3, i_4, z_4, i_5, z_5, i_6, z_6, i_7, z_7, i_8, z_8, iv_0 hd9, cv_0 hd9, iv_1 hd9, cv_1 hd9, iv_2 hd9, cv_2 hd9, iv_3 hd9, cv_3 hd9, iv_4 hd9, cv_4 hd9, iv_5 hd9, cv_5 hd9, bnd, rt, if_true]
theorem neg_i (x : Int32) : 0 - x = -x := by
  apply Int32.toInt_inj.mp
  simp
theorem e_far (x y : Int32) (μ : Me) : FX8_far x y μ = rt (dst x y) μ := by
  have h : ∀ z μ, FX8_size z μ = rt (if 0 ≤ z then z else 0 - z) μ := by
    intro z μ
    unfold FX8_size
    split
    · rfl
    · rw [neg_i]
  simp only [FX8_far, h, bnd, rt, dst]
theorem l_in {x : Int32} (hm : 0 < m) (hn : M 0 0 = nI n) (hn9 : n ≤ 10) : ∀ k f i , i + k = n → k < f → FX8_in_L2 f m x (nI i) (pum μ m M) = rt (ffi (fun d => M 0 (13 + 6 * d + 0) = x) i k) (pum μ m M) := by
  intro k
  induction k with
  | zero =>
    intro f i   hi hfuu
    obtain ⟨f, rfl⟩ : ∃ g, f = g + 1 := ⟨f - 1, by omega⟩
    have h1 : nI n ≤ nI i := by rw [show i = n by omega]; exact Int32.le_refl _
    simp only [FX8_in_L2, FX8_in_B2, w_I0, w_I1, w_I2, w_I3, w_I4, w_R5, w_R6, w_R7, w_R8, w_R9, w_R10, w_R11, w_R12, w_R13, w_R14, w_R15, w_I16, w_I17, w_I18, w_I19, w_I20, w_I21, w_vc, w_a0, w_s0, w_a1, w_s1, w_a2, w_s2, w_a3, w_s3, w_a4, w_s4, w_a5, w_s5, w_a6, w_s6, w_a7, w_s7, w_a8, w_s8, w_a9, w_s9, w_a10, w_s10, w_p0, w_p1, w_p2, w_p3, w_p4, w_p16, w_p17, w_p18, w_p19, w_p20, w_p21, o_0, o_1, o_2, o_3, o_4, o_5, hm, i_0, z_0, i_1, z_1, i_2, z_2, i_3, z_3, i_4, z_4, i_5, z_5, i_6, z_6, i_7, z_7, i_8, z_8, hn, h1, if_true, bnd, rt]
    rfl
  | succ k ih =>
    intro f i   hi hfuu
    obtain ⟨f, rfl⟩ : ∃ g, f = g + 1 := ⟨f - 1, by omega⟩
    have h1 : ¬ nI n ≤ nI i := nI_ge (by omega) (by omega)
    have h2_10 : inb (nI i) 10 = true := inb_n (by omega) (by omega)
    have h3 : (nI i).toNatClampNeg = i := nI_clamp (by omega)
    simp only [FX8_in_L2, FX8_in_B2, w_I0, w_I1, w_I2, w_I3, w_I4, w_R5, w_R6, w_R7, w_R8, w_R9, w_R10, w_R11, w_R12, w_R13, w_R14, w_R15, w_I16, w_I17, w_I18, w_I19, w_I20, w_I21, w_vc, w_a0, w_s0, w_a1, w_s1, w_a2, w_s2, w_a3, w_s3, w_a4, w_s4, w_a5, w_s5, w_a6, w_s6, w_a7, w_s7, w_a8, w_s8, w_a9, w_s9, w_a10, w_s10, w_p0, w_p1, w_p2, w_p3, w_p4, w_p16, w_p17, w_p18, w_p19, w_p20, w_p21, o_0, o_1, o_2, o_3, o_4, o_5, hm, i_0, z_0, i_1, z_1, i_2, z_2, i_3, z_3, i_4, z_4, i_5, z_5, i_6, z_6, i_7, z_7, i_8, z_8, hn, iv_0 (show i < 10 by omega), cv_0 (show i < 10 by omega), iv_1 (show i < 10 by omega), cv_1 (show i < 10 by omega), iv_2 (show i < 10 by omega), cv_2 (show i < 10 by omega), iv_3 (show i < 10 by omega), cv_3 (show i < 10 by omega), iv_4 (show i < 10 by omega), cv_4 (show i < 10 by omega), iv_5 (show i < 10 by omega), cv_5 (show i < 10 by omega), h1, h2_10, h3, nI_1, if_true, if_false, bnd, rt]
    simp only [ffi]
    split
    · rfl
    · exact ih f (i + 1) (by omega) (by omega)
def mocc (M : Mg) (n : Nat) (x : Int32) : Int32 := ffi (fun d => M 0 (13 + 6 * d + 0) = x) 0 n
theorem e_in {x : Int32} (hm : 0 < m) (hn : M 0 0 = nI n) (hn9 : n ≤ 10) : FX8_in m x (pum μ m M) = rt (mocc M n x) (pum μ m M) := l_in hm hn hn9 n FU 0 (by omega) (by unfold FU; omega)
/-- is there one in a range -/
def exi (p : Nat → Prop) [DecidablePred p] : Nat → Nat → Int32
  | _, 0 => 0
  | i, k + 1 => if p i then 1 else exi p (i + 1) k
theorem nI9 (i : Nat) : (9 : Int32) + nI i = nI (9 + i) := nI_add 9 i
theorem iv9 {i : Nat} (h : i < 4) : inb (nI (9 + i)) 117 = true := inb_n (by omega) (by omega)
theorem cv9 {i : Nat} (h : i < 4) : (nI (9 + i)).toNatClampNeg = 9 + i := nI_clamp (by omega)
theorem l_ipc {x : Int32} (hm : 0 < m) (hk : M 0 1 = nI q) (hk9 : q ≤ 4) : ∀ k f i , i + k = q → k < f → FX8_isPadCell_L2 f m x (nI i) (pum μ m M) = rt (exi (fun d => M 0 (9 + d) = x) i k) (pum μ m M) := by
  intro k
  induction k with
  | zero =>
    intro f i   hi hfuu
    obtain ⟨f, rfl⟩ : ∃ g, f = g + 1 := ⟨f - 1, by omega⟩
    have h1 : nI q ≤ nI i := by rw [show i = q by omega]; exact Int32.le_refl _
    simp only [FX8_isPadCell_L2, FX8_isPadCell_B2, w_I0, w_I1, w_I2, w_I3, w_I4, w_R5, w_R6, w_R7, w_R8, w_R9, w_R10, w_R11, w_R12, w_R13, w_R14, w_R15, w_I16, w_I17, w_I18, w_I19, w_I20, w_I21, w_vc, w_a0, w_s0, w_a1, w_s1, w_a2, w_s2, w_a3, w_s3, w_a4, w_s4, w_a5, w_s5, w_a6, w_s6, w_a7, w_s7, w_a8, w_s8, w_a9, w_s9, w_a10, w_s10, w_p0, w_p1, w_p2, w_p3, w_p4, w_p16, w_p17, w_p18, w_p19, w_p20, w_p21, o_0, o_1, o_2, o_3, o_4, o_5, hm, i_0, z_0, i_1, z_1, i_2, z_2, i_3, z_3, i_4, z_4, i_5, z_5, i_6, z_6, i_7, z_7, i_8, z_8, hk, h1, if_true, bnd, rt]
    rfl
  | succ k ih =>
    intro f i   hi hfuu
    obtain ⟨f, rfl⟩ : ∃ g, f = g + 1 := ⟨f - 1, by omega⟩
    have h1 : ¬ nI q ≤ nI i := nI_ge (by omega) (by omega)
    have h2_10 : inb (nI i) 10 = true := inb_n (by omega) (by omega)
    have h3 : (nI i).toNatClampNeg = i := nI_clamp (by omega)
    simp only [FX8_isPadCell_L2, FX8_isPadCell_B2, w_I0, w_I1, w_I2, w_I3, w_I4, w_R5, w_R6, w_R7, w_R8, w_R9, w_R10, w_R11, w_R12, w_R13, w_R14, w_R15, w_I16, w_I17, w_I18, w_I19, w_I20, w_I21, w_vc, w_a0, w_s0, w_a1, w_s1, w_a2, w_s2, w_a3, w_s3, w_a4, w_s4, w_a5, w_s5, w_a6, w_s6, w_a7, w_s7, w_a8, w_s8, w_a9, w_s9, w_a10, w_s10, w_p0, w_p1, w_p2, w_p3, w_p4, w_p16, w_p17, w_p18, w_p19, w_p20, w_p21, o_0, o_1, o_2, o_3, o_4, o_5, hm, i_0, z_0, i_1, z_1, i_2, z_2, i_3, z_3, i_4, z_4, i_5, z_5, i_6, z_6, i_7, z_7, i_8, z_8, hk, nI9, iv9 (show i < 4 by omega), cv9 (show i < 4 by omega), h1, h2_10, h3, nI_1, if_true, if_false, bnd, rt]
    simp only [exi]
    split
    · rfl
    · exact ih f (i + 1) (by omega) (by omega)
def mpc (M : Mg) (q : Nat) (x : Int32) : Int32 := exi (fun d => M 0 (9 + d) = x) 0 q
theorem e_ipc {x : Int32} (hm : 0 < m) (hk : M 0 1 = nI q) (hk9 : q ≤ 4) : FX8_isPadCell m x (pum μ m M) = rt (mpc M q x) (pum μ m M) := l_ipc hm hk hk9 q FU 0 (by omega) (by unfold FU; omega)
theorem l_mfly (hm : 0 < m) (hn : M 0 0 = nI n) (hn9 : n ≤ 10) : ∀ k f i (acc : Int32), i + k = n → k < f → FX8_flying_L4 f m acc (nI i) (pum μ m M) = rt (fo (fun d a => a + M 0 (13 + 6 * d + 1)) i k acc) (pum μ m M) := by
  intro k
  induction k with
  | zero =>
    intro f i acc  hi hfuu
    obtain ⟨f, rfl⟩ : ∃ g, f = g + 1 := ⟨f - 1, by omega⟩
    have h1 : nI n ≤ nI i := by rw [show i = n by omega]; exact Int32.le_refl _
    simp only [FX8_flying_L4, FX8_flying_B4, w_I0, w_I1, w_I2, w_I3, w_I4, w_R5, w_R6, w_R7, w_R8, w_R9, w_R10, w_R11, w_R12, w_R13, w_R14, w_R15, w_I16, w_I17, w_I18, w_I19, w_I20, w_I21, w_vc, w_a0, w_s0, w_a1, w_s1, w_a2, w_s2, w_a3, w_s3, w_a4, w_s4, w_a5, w_s5, w_a6, w_s6, w_a7, w_s7, w_a8, w_s8, w_a9, w_s9, w_a10, w_s10, w_p0, w_p1, w_p2, w_p3, w_p4, w_p16, w_p17, w_p18, w_p19, w_p20, w_p21, o_0, o_1, o_2, o_3, o_4, o_5, hm, i_0, z_0, i_1, z_1, i_2, z_2, i_3, z_3, i_4, z_4, i_5, z_5, i_6, z_6, i_7, z_7, i_8, z_8, hn, h1, if_true, bnd, rt]
    rfl
  | succ k ih =>
    intro f i acc  hi hfuu
    obtain ⟨f, rfl⟩ : ∃ g, f = g + 1 := ⟨f - 1, by omega⟩
    have h1 : ¬ nI n ≤ nI i := nI_ge (by omega) (by omega)
    have h2_10 : inb (nI i) 10 = true := inb_n (by omega) (by omega)
    have h3 : (nI i).toNatClampNeg = i := nI_clamp (by omega)
    simp only [FX8_flying_L4, FX8_flying_B4, w_I0, w_I1, w_I2, w_I3, w_I4, w_R5, w_R6, w_R7, w_R8, w_R9, w_R10, w_R11, w_R12, w_R13, w_R14, w_R15, w_I16, w_I17, w_I18, w_I19, w_I20, w_I21, w_vc, w_a0, w_s0, w_a1, w_s1, w_a2, w_s2, w_a3, w_s3, w_a4, w_s4, w_a5, w_s5, w_a6, w_s6, w_a7, w_s7, w_a8, w_s8, w_a9, w_s9, w_a10, w_s10, w_p0, w_p1, w_p2, w_p3, w_p4, w_p16, w_p17, w_p18, w_p19, w_p20, w_p21, o_0, o_1, o_2, o_3, o_4, o_5, hm, i_0, z_0, i_1, z_1, i_2, z_2, i_3, z_3, i_4, z_4, i_5, z_5, i_6, z_6, i_7, z_7, i_8, z_8, hn, iv_0 (show i < 10 by omega), cv_0 (show i < 10 by omega), iv_1 (show i < 10 by omega), cv_1 (show i < 10 by omega), iv_2 (show i < 10 by omega), cv_2 (show i < 10 by omega), iv_3 (show i < 10 by omega), cv_3 (show i < 10 by omega), iv_4 (show i < 10 by omega), cv_4 (show i < 10 by omega), iv_5 (show i < 10 by omega), cv_5 (show i < 10 by omega), h1, h2_10, h3, nI_1, if_true, if_false, bnd, rt]
    simp only [fo]
    exact ih _ _ _ (by omega) (by omega)
def mfly (M : Mg) (n : Nat) : Int32 := fo (fun d a => a + M 0 (13 + 6 * d + 1)) 0 n 0
theorem e_mfly (hm : 0 < m) (hn : M 0 0 = nI n) (hn9 : n ≤ 10) : FX8_flying m (pum μ m M) = rt (mfly M n) (pum μ m M) := l_mfly hm hn hn9 n FU 0 0 (by omega) (by unfold FU; omega)
def mgr (M : Mg) (d : Nat) : Mg := mS (mS (mS M 0 (13 + 6 * d + 1) 0) 0 (13 + 6 * d + 4) 0) 0 (13 + 6 * d + 5) 0
theorem e_mgr {d : Nat} (hm : 0 < m) (hd9 : d < 10) : FX8_grounds m (nI d) (pum μ m M) = rt () (pum μ m (mgr M d)) := by
  simp only [FX8_grounds, w_I0, w_I1, w_I2, w_I3, w_I4, w_R5, w_R6, w_R7, w_R8, w_R9, w_R10, w_R11, w_R12, w_R13, w_R14, w_R15, w_I16, w_I17, w_I18, w_I19, w_I20, w_I21, w_vc, w_a0, w_s0, w_a1, w_s1, w_a2, w_s2, w_a3, w_s3, w_a4, w_s4, w_a5, w_s5, w_a6, w_s6, w_a7, w_s7, w_a8, w_s8, w_a9, w_s9, w_a10, w_s10, w_p0, w_p1, w_p2, w_p3, w_p4, w_p16, w_p17, w_p18, w_p19, w_p20, w_p21, o_0, o_1, o_2, o_3, o_4, o_5, hm, i_0, z_0, i_1, z_1, i_2, z_2, i_3, z_3, i_4, z_4, i_5, z_5, i_6, z_6, i_7, z_7, i_8, z_8, iv_0 hd9, cv_0 hd9, iv_1 hd9, cv_1 hd9, iv_2 hd9, cv_2 hd9, iv_3 hd9, cv_3 hd9, iv_4 hd9, cv_4 hd9, iv_5 hd9, cv_5 hd9, bnd, rt, if_true, mgr]
theorem mgr_c {d j : Nat} (h : j < 13) : (mgr M d) 0 j = M 0 j := by
  have h1 : ¬ j = 13 + 6 * d + 1 := by omega
  have h4 : ¬ j = 13 + 6 * d + 4 := by omega
  have h5 : ¬ j = 13 + 6 * d + 5 := by omega
  simp [mgr, mS, upd, h1, h4, h5]
/-- an op fails -/
def mF (M : Mg) (x : Int32) : Mg := mS M 11 0 x
def madd (M : Mg) (n : Nat) (c : Int32) : Mg := mS (mgr (mS (mS (mS M 0 (13 + 6 * n + 0) c) 0 (13 + 6 * n + 2) 100) 0 (13 + 6 * n + 3) 0) n) 0 0 (nI (n + 1))
theorem e_adds_out {x : Int32} (hm : 0 < m) (h : x < 0 ∨ nI 64 ≤ x) : FX8_adds m x (pum μ m M) = rt 0 (pum μ m (mF M 1)) := by
  have h1 : isI x 0 63 = 0 := isI_out h (by decide) (by decide)
  simp only [FX8_adds, e_misCell, h1, w_I0, w_I1, w_I2, w_I3, w_I4, w_R5, w_R6, w_R7, w_R8, w_R9, w_R10, w_R11, w_R12, w_R13, w_R14, w_R15, w_I16, w_I17, w_I18, w_I19, w_I20, w_I21, w_vc, w_a0, w_s0, w_a1, w_s1, w_a2, w_s2, w_a3, w_s3, w_a4, w_s4, w_a5, w_s5, w_a6, w_s6, w_a7, w_s7, w_a8, w_s8, w_a9, w_s9, w_a10, w_s10, w_p0, w_p1, w_p2, w_p3, w_p4, w_p16, w_p17, w_p18, w_p19, w_p20, w_p21, o_0, o_1, o_2, o_3, o_4, o_5, hm, i_0, z_0, i_1, z_1, i_2, z_2, i_3, z_3, i_4, z_4, i_5, z_5, i_6, z_6, i_7, z_7, i_8, z_8, e_fail hm, if_true, bnd, rt, mF]
theorem e_adds {c : Nat} (hc : c < 64) (hm : 0 < m) (hn : M 0 0 = nI n) (hn9 : n ≤ 10) : FX8_adds m (nI c) (pum μ m M) = if n = 10 then rt 0 (pum μ m (mF M 2)) else if mocc M n (nI c) < 0 then rt (nI n) (pum μ m (madd M n (nI c))) else rt 0 (pum μ m (mF M 3)) := by
  have h1 : isI (nI c) 0 63 = 1 := isI_in (k := 64) hc (by decide) (by decide)
  have h2 : nI n = 10 ↔ n = 10 := nI_eq (a := n) (b := 10) (by omega) (by omega)
  simp only [FX8_adds, e_misCell, h1, one_ne, w_I0, w_I1, w_I2, w_I3, w_I4, w_R5, w_R6, w_R7, w_R8, w_R9, w_R10, w_R11, w_R12, w_R13, w_R14, w_R15, w_I16, w_I17, w_I18, w_I19, w_I20, w_I21, w_vc, w_a0, w_s0, w_a1, w_s1, w_a2, w_s2, w_a3, w_s3, w_a4, w_s4, w_a5, w_s5, w_a6, w_s6, w_a7, w_s7, w_a8, w_s8, w_a9, w_s9, w_a10, w_s10, w_p0, w_p1, w_p2, w_p3, w_p4, w_p16, w_p17, w_p18, w_p19, w_p20, w_p21, o_0, o_1, o_2, o_3, o_4, o_5, hm, i_0, z_0, i_1, z_1, i_2, z_2, i_3, z_3, i_4, z_4, i_5, z_5, i_6, z_6, i_7, z_7, i_8, z_8, hn, h2, e_fail hm, e_in hm hn hn9, if_true, if_false, bnd, rt, mF]
  by_cases a : n = 10
  · simp only [a, if_true]
  · have hd9 : n < 10 := by omega
    simp only [a, if_false]
    by_cases b : mocc M n (nI c) < 0
    · have hc0 : (mgr (mS (mS (mS M 0 (13 + 6 * n + 0) (nI c)) 0 (13 + 6 * n + 2) 100) 0 (13 + 6 * n + 3) 0) n) 0 0 = nI n := by
        rw [mgr_c (by omega)]
        have h0 : ¬ (0 : Nat) = 13 + 6 * n + 0 := by omega
        have h2 : ¬ (0 : Nat) = 13 + 6 * n + 2 := by omega
        have h3 : ¬ (0 : Nat) = 13 + 6 * n + 3 := by omega
        simp only [mS, upd, h0, h2, h3, if_false, if_true, hn]
      simp only [b, if_true, w_I0, w_I1, w_I2, w_I3, w_I4, w_R5, w_R6, w_R7, w_R8, w_R9, w_R10, w_R11, w_R12, w_R13, w_R14, w_R15, w_I16, w_I17, w_I18, w_I19, w_I20, w_I21, w_vc, w_a0, w_s0, w_a1, w_s1, w_a2, w_s2, w_a3, w_s3, w_a4, w_s4, w_a5, w_s5, w_a6, w_s6, w_a7, w_s7, w_a8, w_s8, w_a9, w_s9, w_a10, w_s10, w_p0, w_p1, w_p2, w_p3, w_p4, w_p16, w_p17, w_p18, w_p19, w_p20, w_p21, o_0, o_1, o_2, o_3, o_4, o_5, hm, i_0, z_0, i_1, z_1, i_2, z_2, i_3, z_3, i_4, z_4, i_5, z_5, i_6, z_6, i_7, z_7, i_8, z_8, iv_0 hd9, cv_0 hd9, iv_1 hd9, cv_1 hd9, iv_2 hd9, cv_2 hd9, iv_3 hd9, cv_3 hd9, iv_4 hd9, cv_4 hd9, iv_5 hd9, cv_5 hd9, e_mgr hm hd9, bnd, rt, hc0, nI_1, madd]
    · simp only [b, if_false]
def mpad (M : Mg) (q : Nat) (c : Int32) : Mg := mS (mS M 0 (9 + q) c) 0 1 (nI (q + 1))
theorem e_addsPad_out {x : Int32} (hm : 0 < m) (h : x < 0 ∨ nI 64 ≤ x) : FX8_addsPad m x (pum μ m M) = rt 0 (pum μ m (mF M 1)) := by
  have h1 : isI x 0 63 = 0 := isI_out h (by decide) (by decide)
  simp only [FX8_addsPad, e_misCell, h1, w_I0, w_I1, w_I2, w_I3, w_I4, w_R5, w_R6, w_R7, w_R8, w_R9, w_R10, w_R11, w_R12, w_R13, w_R14, w_R15, w_I16, w_I17, w_I18, w_I19, w_I20, w_I21, w_vc, w_a0, w_s0, w_a1, w_s1, w_a2, w_s2, w_a3, w_s3, w_a4, w_s4, w_a5, w_s5, w_a6, w_s6, w_a7, w_s7, w_a8, w_s8, w_a9, w_s9, w_a10, w_s10, w_p0, w_p1, w_p2, w_p3, w_p4, w_p16, w_p17, w_p18, w_p19, w_p20, w_p21, o_0, o_1, o_2, o_3, o_4, o_5, hm, i_0, z_0, i_1, z_1, i_2, z_2, i_3, z_3, i_4, z_4, i_5, z_5, i_6, z_6, i_7, z_7, i_8, z_8, e_fail hm, if_true, bnd, rt, mF]
theorem e_addsPad {c : Nat} (hc : c < 64) (hm : 0 < m) (hk : M 0 1 = nI q) (hk9 : q ≤ 4) : FX8_addsPad m (nI c) (pum μ m M) = if mpc M q (nI c) = 0 then (if q = 4 then rt 0 (pum μ m (mF M 3)) else rt (nI (q + 1)) (pum μ m (mpad M q (nI c)))) else rt 0 (pum μ m (mF M 2)) := by
  have h1 : isI (nI c) 0 63 = 1 := isI_in (k := 64) hc (by decide) (by decide)
  have h2 : nI q = 4 ↔ q = 4 := nI_eq (a := q) (b := 4) (by omega) (by omega)
  simp only [FX8_addsPad, e_misCell, h1, one_ne, w_I0, w_I1, w_I2, w_I3, w_I4, w_R5, w_R6, w_R7, w_R8, w_R9, w_R10, w_R11, w_R12, w_R13, w_R14, w_R15, w_I16, w_I17, w_I18, w_I19, w_I20, w_I21, w_vc, w_a0, w_s0, w_a1, w_s1, w_a2, w_s2, w_a3, w_s3, w_a4, w_s4, w_a5, w_s5, w_a6, w_s6, w_a7, w_s7, w_a8, w_s8, w_a9, w_s9, w_a10, w_s10, w_p0, w_p1, w_p2, w_p3, w_p4, w_p16, w_p17, w_p18, w_p19, w_p20, w_p21, o_0, o_1, o_2, o_3, o_4, o_5, hm, i_0, z_0, i_1, z_1, i_2, z_2, i_3, z_3, i_4, z_4, i_5, z_5, i_6, z_6, i_7, z_7, i_8, z_8, hk, h2, e_fail hm, e_ipc hm hk hk9, if_true, if_false, bnd, rt, mF]
  by_cases b : mpc M q (nI c) = 0
  · simp only [b, if_true]
    by_cases a : q = 4
    · simp only [a, if_true]
    · have ha : q < 4 := by omega
      have h0 : ¬ (1 : Nat) = 9 + q := by omega
      have e1 : (mS M 0 (9 + q) (nI c)) 0 1 = nI q := by simp only [mS, upd, h0, if_false, if_true, hk]
      have e2 : (mS (mS M 0 (9 + q) (nI c)) 0 1 (nI (q + 1))) 0 1 = nI (q + 1) := by simp [mS, upd]
      simp only [a, if_false, nI9, iv9 ha, cv9 ha, if_true, w_I0, w_I1, w_I2, w_I3, w_I4, w_R5, w_R6, w_R7, w_R8, w_R9, w_R10, w_R11, w_R12, w_R13, w_R14, w_R15, w_I16, w_I17, w_I18, w_I19, w_I20, w_I21, w_vc, w_a0, w_s0, w_a1, w_s1, w_a2, w_s2, w_a3, w_s3, w_a4, w_s4, w_a5, w_s5, w_a6, w_s6, w_a7, w_s7, w_a8, w_s8, w_a9, w_s9, w_a10, w_s10, w_p0, w_p1, w_p2, w_p3, w_p4, w_p16, w_p17, w_p18, w_p19, w_p20, w_p21, o_0, o_1, o_2, o_3, o_4, o_5, hm, i_0, z_0, i_1, z_1, i_2, z_2, i_3, z_3, i_4, z_4, i_5, z_5, i_6, z_6, i_7, z_7, i_8, z_8, e1, e2, nI_1, mpad]
  · simp only [b, if_false]
theorem e_drn_out {x : Int32} (hn : M 0 0 = nI n) (hn9 : n ≤ 10) (h : x < 0 ∨ nI n ≤ x) : isI x 0 (M 0 0 - 1) = 0 := isI_out h (by rw [hn]) (by omega)
theorem e_drn_in {d : Nat} (hn : M 0 0 = nI n) (hn9 : n ≤ 10) (h : d < n) : isI (nI d) 0 (M 0 0 - 1) = 1 := isI_in h (by rw [hn]) (by omega)
theorem fl1_z (x : Int32) : fl1 x = 0 ∨ fl1 x = 1 := by
  unfold fl1
  split
  · exact Or.inr rfl
  · exact Or.inl rfl
theorem e_starts_out {x : Int32} (hm : 0 < m) (hn : M 0 0 = nI n) (hn9 : n ≤ 10) (h : x < 0 ∨ nI n ≤ x) : FX8_starts m x (pum μ m M) = rt 0 (pum μ m (mF M 1)) := by
  simp only [FX8_starts, e_isDr hm, e_drn_out hn hn9 h, w_I0, w_I1, w_I2, w_I3, w_I4, w_R5, w_R6, w_R7, w_R8, w_R9, w_R10, w_R11, w_R12, w_R13, w_R14, w_R15, w_I16, w_I17, w_I18, w_I19, w_I20, w_I21, w_vc, w_a0, w_s0, w_a1, w_s1, w_a2, w_s2, w_a3, w_s3, w_a4, w_s4, w_a5, w_s5, w_a6, w_s6, w_a7, w_s7, w_a8, w_s8, w_a9, w_s9, w_a10, w_s10, w_p0, w_p1, w_p2, w_p3, w_p4, w_p16, w_p17, w_p18, w_p19, w_p20, w_p21, o_0, o_1, o_2, o_3, o_4, o_5, hm, i_0, z_0, i_1, z_1, i_2, z_2, i_3, z_3, i_4, z_4, i_5, z_5, i_6, z_6, i_7, z_7, i_8, z_8, e_fail hm, if_true, bnd, rt, mF]
theorem e_starts {d : Nat} (hm : 0 < m) (hn : M 0 0 = nI n) (hn9 : n ≤ 10) (h : d < n) : FX8_starts m (nI d) (pum μ m M) = if fl1 (M 0 (13 + 6 * d + 1)) = 0 then (if M 0 2 < M 0 (13 + 6 * d + 2) then rt (mfly (mS M 0 (13 + 6 * d + 1) 1) n) (pum μ m (mS M 0 (13 + 6 * d + 1) 1)) else rt 0 (pum μ m (mF M 3))) else rt 0 (pum μ m (mF M 2)) := by
  have hd9 : d < 10 := by omega
  have h0 : ¬ (0 : Nat) = 13 + 6 * d + 1 := by omega
  have e1 : (mS M 0 (13 + 6 * d + 1) 1) 0 0 = nI n := by simp only [mS, upd, h0, if_false, if_true, hn]
  simp only [FX8_starts, e_isDr hm, e_drn_in hn hn9 h, one_ne, e_flies hm hd9, w_I0, w_I1, w_I2, w_I3, w_I4, w_R5, w_R6, w_R7, w_R8, w_R9, w_R10, w_R11, w_R12, w_R13, w_R14, w_R15, w_I16, w_I17, w_I18, w_I19, w_I20, w_I21, w_vc, w_a0, w_s0, w_a1, w_s1, w_a2, w_s2, w_a3, w_s3, w_a4, w_s4, w_a5, w_s5, w_a6, w_s6, w_a7, w_s7, w_a8, w_s8, w_a9, w_s9, w_a10, w_s10, w_p0, w_p1, w_p2, w_p3, w_p4, w_p16, w_p17, w_p18, w_p19, w_p20, w_p21, o_0, o_1, o_2, o_3, o_4, o_5, hm, i_0, z_0, i_1, z_1, i_2, z_2, i_3, z_3, i_4, z_4, i_5, z_5, i_6, z_6, i_7, z_7, i_8, z_8, iv_0 hd9, cv_0 hd9, iv_1 hd9, cv_1 hd9, iv_2 hd9, cv_2 hd9, iv_3 hd9, cv_3 hd9, iv_4 hd9, cv_4 hd9, iv_5 hd9, cv_5 hd9, e_fail hm, e_mfly hm e1 hn9, if_true, if_false, bnd, rt, mF]
theorem e_lands_out {x : Int32} (hm : 0 < m) (hn : M 0 0 = nI n) (hn9 : n ≤ 10) (h : x < 0 ∨ nI n ≤ x) : FX8_lands m x (pum μ m M) = rt 0 (pum μ m (mF M 1)) := by
  simp only [FX8_lands, e_isDr hm, e_drn_out hn hn9 h, w_I0, w_I1, w_I2, w_I3, w_I4, w_R5, w_R6, w_R7, w_R8, w_R9, w_R10, w_R11, w_R12, w_R13, w_R14, w_R15, w_I16, w_I17, w_I18, w_I19, w_I20, w_I21, w_vc, w_a0, w_s0, w_a1, w_s1, w_a2, w_s2, w_a3, w_s3, w_a4, w_s4, w_a5, w_s5, w_a6, w_s6, w_a7, w_s7, w_a8, w_s8, w_a9, w_s9, w_a10, w_s10, w_p0, w_p1, w_p2, w_p3, w_p4, w_p16, w_p17, w_p18, w_p19, w_p20, w_p21, o_0, o_1, o_2, o_3, o_4, o_5, hm, i_0, z_0, i_1, z_1, i_2, z_2, i_3, z_3, i_4, z_4, i_5, z_5, i_6, z_6, i_7, z_7, i_8, z_8, e_fail hm, if_true, bnd, rt, mF]
theorem e_lands {d : Nat} (hm : 0 < m) (hn : M 0 0 = nI n) (hn9 : n ≤ 10) (hk : M 0 1 = nI q) (hk9 : q ≤ 4) (h : d < n) : FX8_lands m (nI d) (pum μ m M) = if fl1 (M 0 (13 + 6 * d + 1)) = 0 then rt 0 (pum μ m (mF M 2)) else if mpc M q (M 0 (13 + 6 * d + 0)) = 0 then rt 0 (pum μ m (mF M 3)) else rt (mfly (mgr M d) n) (pum μ m (mgr M d)) := by
  have hd9 : d < 10 := by omega
  have e1 : (mgr M d) 0 0 = nI n := (mgr_c (by omega)).trans hn
  simp only [FX8_lands, e_isDr hm, e_drn_in hn hn9 h, one_ne, e_flies hm hd9, w_I0, w_I1, w_I2, w_I3, w_I4, w_R5, w_R6, w_R7, w_R8, w_R9, w_R10, w_R11, w_R12, w_R13, w_R14, w_R15, w_I16, w_I17, w_I18, w_I19, w_I20, w_I21, w_vc, w_a0, w_s0, w_a1, w_s1, w_a2, w_s2, w_a3, w_s3, w_a4, w_s4, w_a5, w_s5, w_a6, w_s6, w_a7, w_s7, w_a8, w_s8, w_a9, w_s9, w_a10, w_s10, w_p0, w_p1, w_p2, w_p3, w_p4, w_p16, w_p17, w_p18, w_p19, w_p20, w_p21, o_0, o_1, o_2, o_3, o_4, o_5, hm, i_0, z_0, i_1, z_1, i_2, z_2, i_3, z_3, i_4, z_4, i_5, z_5, i_6, z_6, i_7, z_7, i_8, z_8, iv_0 hd9, cv_0 hd9, iv_1 hd9, cv_1 hd9, iv_2 hd9, cv_2 hd9, iv_3 hd9, cv_3 hd9, iv_4 hd9, cv_4 hd9, iv_5 hd9, cv_5 hd9, e_fail hm, e_ipc hm hk hk9, e_mgr hm hd9, e_mfly hm e1 hn9, if_true, if_false, bnd, rt, mF]
theorem e_sends_out1 {x y : Int32} (hm : 0 < m) (hn : M 0 0 = nI n) (hn9 : n ≤ 10) (h : x < 0 ∨ nI n ≤ x) : FX8_sends m x y (pum μ m M) = rt 0 (pum μ m (mF M 1)) := by
  simp only [FX8_sends, FX8_sends_B15, e_isDr hm, e_drn_out hn hn9 h, w_I0, w_I1, w_I2, w_I3, w_I4, w_R5, w_R6, w_R7, w_R8, w_R9, w_R10, w_R11, w_R12, w_R13, w_R14, w_R15, w_I16, w_I17, w_I18, w_I19, w_I20, w_I21, w_vc, w_a0, w_s0, w_a1, w_s1, w_a2, w_s2, w_a3, w_s3, w_a4, w_s4, w_a5, w_s5, w_a6, w_s6, w_a7, w_s7, w_a8, w_s8, w_a9, w_s9, w_a10, w_s10, w_p0, w_p1, w_p2, w_p3, w_p4, w_p16, w_p17, w_p18, w_p19, w_p20, w_p21, o_0, o_1, o_2, o_3, o_4, o_5, hm, i_0, z_0, i_1, z_1, i_2, z_2, i_3, z_3, i_4, z_4, i_5, z_5, i_6, z_6, i_7, z_7, i_8, z_8, e_fail hm, if_true, bnd, rt, mF]
theorem e_sends_out2 {d : Nat} {y : Int32} (hm : 0 < m) (hn : M 0 0 = nI n) (hn9 : n ≤ 10) (h : d < n) (hy : y < 0 ∨ nI 64 ≤ y) : FX8_sends m (nI d) y (pum μ m M) = rt 0 (pum μ m (mF M 1)) := by
  have h1 : isI y 0 63 = 0 := isI_out hy (by decide) (by decide)
  simp only [FX8_sends, FX8_sends_B15, e_isDr hm, e_drn_in hn hn9 h, one_ne, e_misCell, h1, w_I0, w_I1, w_I2, w_I3, w_I4, w_R5, w_R6, w_R7, w_R8, w_R9, w_R10, w_R11, w_R12, w_R13, w_R14, w_R15, w_I16, w_I17, w_I18, w_I19, w_I20, w_I21, w_vc, w_a0, w_s0, w_a1, w_s1, w_a2, w_s2, w_a3, w_s3, w_a4, w_s4, w_a5, w_s5, w_a6, w_s6, w_a7, w_s7, w_a8, w_s8, w_a9, w_s9, w_a10, w_s10, w_p0, w_p1, w_p2, w_p3, w_p4, w_p16, w_p17, w_p18, w_p19, w_p20, w_p21, o_0, o_1, o_2, o_3, o_4, o_5, hm, i_0, z_0, i_1, z_1, i_2, z_2, i_3, z_3, i_4, z_4, i_5, z_5, i_6, z_6, i_7, z_7, i_8, z_8, e_fail hm, if_true, if_false, bnd, rt, mF]
theorem e_sends {d c : Nat} (hm : 0 < m) (hn : M 0 0 = nI n) (hn9 : n ≤ 10) (h : d < n) (hc : c < 64) : FX8_sends m (nI d) (nI c) (pum μ m M) = if fl1 (M 0 (13 + 6 * d + 1)) = 0 then rt 0 (pum μ m (mF M 2)) else if fl1 (M 0 (13 + 6 * d + 5)) = 0 then rt (dst (M 0 (13 + 6 * d + 0)) (nI c)) (pum μ m (mS M 0 (13 + 6 * d + 4) (nI (c + 1)))) else rt 0 (pum μ m (mF M 2)) := by
  have hd9 : d < 10 := by omega
  have h1 : isI (nI c) 0 63 = 1 := isI_in (k := 64) hc (by decide) (by decide)
  have h0 : ¬ 13 + 6 * d + 0 = 13 + 6 * d + 4 := by omega
  have e1 : (mS M 0 (13 + 6 * d + 4) (nI (c + 1))) 0 (13 + 6 * d + 0) = M 0 (13 + 6 * d + 0) := by simp only [mS, upd, h0, if_false, if_true]
  simp only [FX8_sends, FX8_sends_B15, FX8_sends_B37, e_isDr hm, e_drn_in hn hn9 h, one_ne, e_misCell, h1, e_flies hm hd9, e_urg hm hd9, w_I0, w_I1, w_I2, w_I3, w_I4, w_R5, w_R6, w_R7, w_R8, w_R9, w_R10, w_R11, w_R12, w_R13, w_R14, w_R15, w_I16, w_I17, w_I18, w_I19, w_I20, w_I21, w_vc, w_a0, w_s0, w_a1, w_s1, w_a2, w_s2, w_a3, w_s3, w_a4, w_s4, w_a5, w_s5, w_a6, w_s6, w_a7, w_s7, w_a8, w_s8, w_a9, w_s9, w_a10, w_s10, w_p0, w_p1, w_p2, w_p3, w_p4, w_p16, w_p17, w_p18, w_p19, w_p20, w_p21, o_0, o_1, o_2, o_3, o_4, o_5, hm, i_0, z_0, i_1, z_1, i_2, z_2, i_3, z_3, i_4, z_4, i_5, z_5, i_6, z_6, i_7, z_7, i_8, z_8, iv_0 hd9, cv_0 hd9, iv_1 hd9, cv_1 hd9, iv_2 hd9, cv_2 hd9, iv_3 hd9, cv_3 hd9, iv_4 hd9, cv_4 hd9, iv_5 hd9, cv_5 hd9, nI_1, e1, e_far, e_fail hm, if_true, if_false, bnd, rt, mF]
theorem e_reserves {x : Int32} (hm : 0 < m) : FX8_reserves m x (pum μ m M) = if isI x 5 30 = 0 then rt 0 (pum μ m (mF M 1)) else rt (M 0 2) (pum μ m (mS M 0 2 x)) := by
  simp only [FX8_reserves, e_isIn, w_I0, w_I1, w_I2, w_I3, w_I4, w_R5, w_R6, w_R7, w_R8, w_R9, w_R10, w_R11, w_R12, w_R13, w_R14, w_R15, w_I16, w_I17, w_I18, w_I19, w_I20, w_I21, w_vc, w_a0, w_s0, w_a1, w_s1, w_a2, w_s2, w_a3, w_s3, w_a4, w_s4, w_a5, w_s5, w_a6, w_s6, w_a7, w_s7, w_a8, w_s8, w_a9, w_s9, w_a10, w_s10, w_p0, w_p1, w_p2, w_p3, w_p4, w_p16, w_p17, w_p18, w_p19, w_p20, w_p21, o_0, o_1, o_2, o_3, o_4, o_5, hm, i_0, z_0, i_1, z_1, i_2, z_2, i_3, z_3, i_4, z_4, i_5, z_5, i_6, z_6, i_7, z_7, i_8, z_8, e_fail hm, if_true, if_false, bnd, rt, mF]
end M1
