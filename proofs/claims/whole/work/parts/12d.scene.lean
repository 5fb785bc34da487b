/-! ===== reading a scene that lies elsewhere ===== -/
section RD
variable {β : Type} {μ : Me} {t : Nat} {τ : Sg}
theorem q_R0_0 (h : At_ μ t τ) (hs : 0 < t) {K : Nat → Rs β} : gR μ t 5 0 K = K (t + 1) := by
  have := b_R0_0 (K := K) (β := β) (μ := μ) (s := t) (σ := τ) hs 
  rw [← h.eq] at this
  exact this
theorem q_R0_1 (h : At_ μ t τ) (hs : 0 < t) {K : Nat → Rs β} : gR μ t 5 1 K = K (t + 8) := by
  have := b_R0_1 (K := K) (β := β) (μ := μ) (s := t) (σ := τ) hs 
  rw [← h.eq] at this
  exact this
theorem q_R0_2 (h : At_ μ t τ) (hs : 0 < t) {K : Nat → Rs β} : gR μ t 5 2 K = K (t + 12) := by
  have := b_R0_2 (K := K) (β := β) (μ := μ) (s := t) (σ := τ) hs 
  rw [← h.eq] at this
  exact this
theorem q_J0_3 (h : At_ μ t τ) (hs : 0 < t) {K : Int64 → Rs β} : gJ μ t 5 3 K = K τ.2.2 := by
  have := b_J0_3 (K := K) (β := β) (μ := μ) (s := t) (σ := τ) hs 
  rw [← h.eq] at this
  exact this
theorem q_I0_4 (h : At_ μ t τ) (hs : 0 < t) {K : Int32 → Rs β} : gI μ t 5 4 K = K (τ.1 9 2) := by
  have := b_I0_4 (K := K) (β := β) (μ := μ) (s := t) (σ := τ) hs 
  rw [← h.eq] at this
  exact this
theorem q_I0_5 (h : At_ μ t τ) (hs : 0 < t) {K : Int32 → Rs β} : gI μ t 5 5 K = K (τ.1 9 3) := by
  have := b_I0_5 (K := K) (β := β) (μ := μ) (s := t) (σ := τ) hs 
  rw [← h.eq] at this
  exact this
theorem q_I0_6 (h : At_ μ t τ) (hs : 0 < t) {K : Int32 → Rs β} : gI μ t 5 6 K = K (τ.1 9 4) := by
  have := b_I0_6 (K := K) (β := β) (μ := μ) (s := t) (σ := τ) hs 
  rw [← h.eq] at this
  exact this
theorem q_I0_7 (h : At_ μ t τ) (hs : 0 < t) {K : Int32 → Rs β} : gI μ t 5 7 K = K (τ.1 9 5) := by
  have := b_I0_7 (K := K) (β := β) (μ := μ) (s := t) (σ := τ) hs 
  rw [← h.eq] at this
  exact this
theorem q_I0_8 (h : At_ μ t τ) (hs : 0 < t) {K : Int32 → Rs β} : gI μ t 5 8 K = K (τ.1 9 6) := by
  have := b_I0_8 (K := K) (β := β) (μ := μ) (s := t) (σ := τ) hs 
  rw [← h.eq] at this
  exact this
theorem q_I0_9 (h : At_ μ t τ) (hs : 0 < t) {K : Int32 → Rs β} : gI μ t 5 9 K = K (τ.1 9 7) := by
  have := b_I0_9 (K := K) (β := β) (μ := μ) (s := t) (σ := τ) hs 
  rw [← h.eq] at this
  exact this
theorem q_R1_0 (h : At_ μ t τ) {K : Nat → Rs β} : gR μ (t + 1) 3 0 K = K (t + 2) := by
  have := b_R1_0 (K := K) (β := β) (μ := μ) (s := t) (σ := τ) 
  rw [← h.eq] at this
  exact this
theorem q_R1_1 (h : At_ μ t τ) {K : Nat → Rs β} : gR μ (t + 1) 3 1 K = K (t + 3) := by
  have := b_R1_1 (K := K) (β := β) (μ := μ) (s := t) (σ := τ) 
  rw [← h.eq] at this
  exact this
theorem q_R1_2 (h : At_ μ t τ) {K : Nat → Rs β} : gR μ (t + 1) 3 2 K = K (t + 4) := by
  have := b_R1_2 (K := K) (β := β) (μ := μ) (s := t) (σ := τ) 
  rw [← h.eq] at this
  exact this
theorem q_R1_3 (h : At_ μ t τ) {K : Nat → Rs β} : gR μ (t + 1) 3 3 K = K (t + 5) := by
  have := b_R1_3 (K := K) (β := β) (μ := μ) (s := t) (σ := τ) 
  rw [← h.eq] at this
  exact this
theorem q_R1_4 (h : At_ μ t τ) {K : Nat → Rs β} : gR μ (t + 1) 3 4 K = K (t + 6) := by
  have := b_R1_4 (K := K) (β := β) (μ := μ) (s := t) (σ := τ) 
  rw [← h.eq] at this
  exact this
theorem q_R1_5 (h : At_ μ t τ) {K : Nat → Rs β} : gR μ (t + 1) 3 5 K = K (t + 7) := by
  have := b_R1_5 (K := K) (β := β) (μ := μ) (s := t) (σ := τ) 
  rw [← h.eq] at this
  exact this
theorem q_I1_6 (h : At_ μ t τ) {K : Int32 → Rs β} : gI μ (t + 1) 3 6 K = K (τ.1 9 0) := by
  have := b_I1_6 (K := K) (β := β) (μ := μ) (s := t) (σ := τ) 
  rw [← h.eq] at this
  exact this
theorem q_R8_0 (h : At_ μ t τ) {K : Nat → Rs β} : gR μ (t + 8) 2 0 K = K (t + 9) := by
  have := b_R8_0 (K := K) (β := β) (μ := μ) (s := t) (σ := τ) 
  rw [← h.eq] at this
  exact this
theorem q_R8_1 (h : At_ μ t τ) {K : Nat → Rs β} : gR μ (t + 8) 2 1 K = K (t + 10) := by
  have := b_R8_1 (K := K) (β := β) (μ := μ) (s := t) (σ := τ) 
  rw [← h.eq] at this
  exact this
theorem q_R8_2 (h : At_ μ t τ) {K : Nat → Rs β} : gR μ (t + 8) 2 2 K = K (t + 11) := by
  have := b_R8_2 (K := K) (β := β) (μ := μ) (s := t) (σ := τ) 
  rw [← h.eq] at this
  exact this
theorem q_I8_3 (h : At_ μ t τ) {K : Int32 → Rs β} : gI μ (t + 8) 2 3 K = K (τ.1 9 1) := by
  have := b_I8_3 (K := K) (β := β) (μ := μ) (s := t) (σ := τ) 
  rw [← h.eq] at this
  exact this
theorem q_a0 (h : At_ μ t τ) {i : Int32} {K : Int32 → Rs β} : aI μ (t + 2) i K = if inb i 10 = true then K (τ.1 0 i.toNatClampNeg) else none := by
  have := b_a0 (i := i) (K := K) (β := β) (μ := μ) (s := t) (σ := τ) 
  rw [← h.eq] at this
  exact this
theorem q_a1 (h : At_ μ t τ) {i : Int32} {K : Int32 → Rs β} : aI μ (t + 3) i K = if inb i 10 = true then K (τ.1 1 i.toNatClampNeg) else none := by
  have := b_a1 (i := i) (K := K) (β := β) (μ := μ) (s := t) (σ := τ) 
  rw [← h.eq] at this
  exact this
theorem q_a2 (h : At_ μ t τ) {i : Int32} {K : Int32 → Rs β} : aI μ (t + 4) i K = if inb i 10 = true then K (τ.1 2 i.toNatClampNeg) else none := by
  have := b_a2 (i := i) (K := K) (β := β) (μ := μ) (s := t) (σ := τ) 
  rw [← h.eq] at this
  exact this
theorem q_a3 (h : At_ μ t τ) {i : Int32} {K : Int32 → Rs β} : aI μ (t + 5) i K = if inb i 10 = true then K (τ.1 3 i.toNatClampNeg) else none := by
  have := b_a3 (i := i) (K := K) (β := β) (μ := μ) (s := t) (σ := τ) 
  rw [← h.eq] at this
  exact this
theorem q_a4 (h : At_ μ t τ) {i : Int32} {K : Int32 → Rs β} : aZ μ (t + 6) i K = if inb i 10 = true then K (τ.1 4 i.toNatClampNeg) else none := by
  have := b_a4 (i := i) (K := K) (β := β) (μ := μ) (s := t) (σ := τ) 
  rw [← h.eq] at this
  exact this
theorem q_a5 (h : At_ μ t τ) {i : Int32} {K : Int32 → Rs β} : aZ μ (t + 7) i K = if inb i 10 = true then K (τ.1 5 i.toNatClampNeg) else none := by
  have := b_a5 (i := i) (K := K) (β := β) (μ := μ) (s := t) (σ := τ) 
  rw [← h.eq] at this
  exact this
theorem q_a6 (h : At_ μ t τ) {i : Int32} {K : Int32 → Rs β} : aI μ (t + 9) i K = if inb i 12 = true then K (τ.1 6 i.toNatClampNeg) else none := by
  have := b_a6 (i := i) (K := K) (β := β) (μ := μ) (s := t) (σ := τ) 
  rw [← h.eq] at this
  exact this
theorem q_a7 (h : At_ μ t τ) {i : Int32} {K : Int32 → Rs β} : aI μ (t + 10) i K = if inb i 12 = true then K (τ.1 7 i.toNatClampNeg) else none := by
  have := b_a7 (i := i) (K := K) (β := β) (μ := μ) (s := t) (σ := τ) 
  rw [← h.eq] at this
  exact this
theorem q_a8 (h : At_ μ t τ) {i : Int32} {K : Int32 → Rs β} : aI μ (t + 11) i K = if inb i 12 = true then K (τ.1 8 i.toNatClampNeg) else none := by
  have := b_a8 (i := i) (K := K) (β := β) (μ := μ) (s := t) (σ := τ) 
  rw [← h.eq] at this
  exact this
theorem q_a12 (h : At_ μ t τ) {i : Int32} {K : Int64 → Rs β} : aJ μ (t + 12) i K = if inb i 4 = true then K (τ.2.1 i.toNatClampNeg) else none := by
  have := b_a12 (i := i) (K := K) (β := β) (μ := μ) (s := t) (σ := τ) 
  rw [← h.eq] at this
  exact this
end RD
/-! ===== copies ===== -/
section CP
variable {μ : Me} {s t n : Nat} {τ : Sg}
def cpF (τ : Sg) (d : Nat) (σ : Sg) : Sg := sI2 (sI2 (sI2 (sI2 (sI2 (sI2 σ 0 d (τ.1 0 d)) 1 d (τ.1 1 d)) 2 d (τ.1 2 d)) 3 d (τ.1 3 d)) 4 d (vp_nar .boolean (τ.1 4 d))) 5 d (vp_nar .boolean (τ.1 5 d))
def cpC (τ : Sg) (d : Nat) (σ : Sg) : Sg := sI2 (sI2 (sI2 σ 6 d (τ.1 6 d)) 7 d (τ.1 7 d)) 8 d (τ.1 8 d)
def cpJ (τ : Sg) (d : Nat) (σ : Sg) : Sg := sF2 σ d (τ.2.1 d)
theorem l_cpF (ht : ∀ σ, At_ (put μ s σ) t τ) : ∀ k f i (σ : Sg), i + k = 10 → k < f → FX2_copyFrom_L10 f (s + 1) (t + 1) (nI i) (put μ s σ) = rt () (put μ s (fo (cpF τ) i k σ)) := by
  intro k
  induction k with
  | zero =>
    intro f i σ  hi hfuu
    obtain ⟨f, rfl⟩ : ∃ g, f = g + 1 := ⟨f - 1, by omega⟩
    have h1 : (10 : Int32) ≤ nI i := by rw [show i = 10 by omega]; decide
    simp only [FX2_copyFrom_L10, FX2_copyFrom_B10, b_R0_0, b_R0_1, b_R0_2, b_J0_3, b_I0_4, b_I0_5, b_I0_6, b_I0_7, b_I0_8, b_I0_9, b_R1_0, b_R1_1, b_R1_2, b_R1_3, b_R1_4, b_R1_5, b_I1_6, b_R8_0, b_R8_1, b_R8_2, b_I8_3, b_vc0, b_vc1, b_vc8, b_a0, b_s0, b_a1, b_s1, b_a2, b_s2, b_a3, b_s3, b_a4, b_s4, b_a5, b_s5, b_a6, b_s6, b_a7, b_s7, b_a8, b_s8, b_a12, b_s12, b_p0_3, b_p0_4, b_p0_5, b_p0_6, b_p0_7, b_p0_8, b_p0_9, b_p1_6, b_p8_3, h1, if_true, bnd, rt]
    rfl
  | succ k ih =>
    intro f i σ  hi hfuu
    obtain ⟨f, rfl⟩ : ∃ g, f = g + 1 := ⟨f - 1, by omega⟩
    have h1 : ¬ (10 : Int32) ≤ nI i := fun h => absurd ((nI_leI (a := 10) (b := i) (by omega) (by omega)).mp h) (by omega)
    have h2_10 : inb (nI i) 10 = true := inb_n (by omega) (by omega)
    have h3 : (nI i).toNatClampNeg = i := nI_clamp (by omega)
    simp only [FX2_copyFrom_L10, FX2_copyFrom_B10, b_R0_0, b_R0_1, b_R0_2, b_J0_3, b_I0_4, b_I0_5, b_I0_6, b_I0_7, b_I0_8, b_I0_9, b_R1_0, b_R1_1, b_R1_2, b_R1_3, b_R1_4, b_R1_5, b_I1_6, b_R8_0, b_R8_1, b_R8_2, b_I8_3, b_vc0, b_vc1, b_vc8, b_a0, b_s0, b_a1, b_s1, b_a2, b_s2, b_a3, b_s3, b_a4, b_s4, b_a5, b_s5, b_a6, b_s6, b_a7, b_s7, b_a8, b_s8, b_a12, b_s12, b_p0_3, b_p0_4, b_p0_5, b_p0_6, b_p0_7, b_p0_8, b_p0_9, b_p1_6, b_p8_3, (fun (σ : Sg) (K : Nat → Rs Unit) => q_R1_0 (K := K) (ht σ)), (fun (σ : Sg) (K : Nat → Rs Unit) => q_R1_1 (K := K) (ht σ)), (fun (σ : Sg) (K : Nat → Rs Unit) => q_R1_2 (K := K) (ht σ)), (fun (σ : Sg) (K : Nat → Rs Unit) => q_R1_3 (K := K) (ht σ)), (fun (σ : Sg) (K : Nat → Rs Unit) => q_R1_4 (K := K) (ht σ)), (fun (σ : Sg) (K : Nat → Rs Unit) => q_R1_5 (K := K) (ht σ)), (fun (σ : Sg) (i : Int32) (K : Int32 → Rs Unit) => q_a0 (i := i) (K := K) (ht σ)), (fun (σ : Sg) (i : Int32) (K : Int32 → Rs Unit) => q_a1 (i := i) (K := K) (ht σ)), (fun (σ : Sg) (i : Int32) (K : Int32 → Rs Unit) => q_a2 (i := i) (K := K) (ht σ)), (fun (σ : Sg) (i : Int32) (K : Int32 → Rs Unit) => q_a3 (i := i) (K := K) (ht σ)), (fun (σ : Sg) (i : Int32) (K : Int32 → Rs Unit) => q_a4 (i := i) (K := K) (ht σ)), (fun (σ : Sg) (i : Int32) (K : Int32 → Rs Unit) => q_a5 (i := i) (K := K) (ht σ)), h1, h2_10, h3, nI_1, if_true, if_false, bnd, rt]
    exact ih _ _ _ (by omega) (by omega)
theorem e_put {i : Nat} {σ : Sg} {x y z : Int32} (hi : i < 12) : FX1_put (s + 8) (nI i) x y z (put μ s σ) = rt () (put μ s (sI2 (sI2 (sI2 σ 6 i x) 7 i y) 8 i z)) := by
  have h2 : inb (nI i) 12 = true := inb_n hi (by omega)
  have h3 : (nI i).toNatClampNeg = i := nI_clamp (by omega)
  simp only [FX1_put, b_R0_0, b_R0_1, b_R0_2, b_J0_3, b_I0_4, b_I0_5, b_I0_6, b_I0_7, b_I0_8, b_I0_9, b_R1_0, b_R1_1, b_R1_2, b_R1_3, b_R1_4, b_R1_5, b_I1_6, b_R8_0, b_R8_1, b_R8_2, b_I8_3, b_vc0, b_vc1, b_vc8, b_a0, b_s0, b_a1, b_s1, b_a2, b_s2, b_a3, b_s3, b_a4, b_s4, b_a5, b_s5, b_a6, b_s6, b_a7, b_s7, b_a8, b_s8, b_a12, b_s12, b_p0_3, b_p0_4, b_p0_5, b_p0_6, b_p0_7, b_p0_8, b_p0_9, b_p1_6, b_p8_3, h2, h3, if_true]
theorem l_cpC (ht : ∀ σ, At_ (put μ s σ) t τ) : ∀ k f i (σ : Sg), i + k = 12 → k < f → FX1_copyFrom_L10 f (s + 8) (t + 8) (nI i) (put μ s σ) = rt () (put μ s (fo (cpC τ) i k σ)) := by
  intro k
  induction k with
  | zero =>
    intro f i σ  hi hfuu
    obtain ⟨f, rfl⟩ : ∃ g, f = g + 1 := ⟨f - 1, by omega⟩
    have h1 : (12 : Int32) ≤ nI i := by rw [show i = 12 by omega]; decide
    simp only [FX1_copyFrom_L10, FX1_copyFrom_B10, b_R0_0, b_R0_1, b_R0_2, b_J0_3, b_I0_4, b_I0_5, b_I0_6, b_I0_7, b_I0_8, b_I0_9, b_R1_0, b_R1_1, b_R1_2, b_R1_3, b_R1_4, b_R1_5, b_I1_6, b_R8_0, b_R8_1, b_R8_2, b_I8_3, b_vc0, b_vc1, b_vc8, b_a0, b_s0, b_a1, b_s1, b_a2, b_s2, b_a3, b_s3, b_a4, b_s4, b_a5, b_s5, b_a6, b_s6, b_a7, b_s7, b_a8, b_s8, b_a12, b_s12, b_p0_3, b_p0_4, b_p0_5, b_p0_6, b_p0_7, b_p0_8, b_p0_9, b_p1_6, b_p8_3, h1, if_true, bnd, rt]
    rfl
  | succ k ih =>
    intro f i σ  hi hfuu
    obtain ⟨f, rfl⟩ : ∃ g, f = g + 1 := ⟨f - 1, by omega⟩
    have h1 : ¬ (12 : Int32) ≤ nI i := fun h => absurd ((nI_leI (a := 12) (b := i) (by omega) (by omega)).mp h) (by omega)
    have h2_12 : inb (nI i) 12 = true := inb_n (by omega) (by omega)
    have h3 : (nI i).toNatClampNeg = i := nI_clamp (by omega)
    simp only [FX1_copyFrom_L10, FX1_copyFrom_B10, b_R0_0, b_R0_1, b_R0_2, b_J0_3, b_I0_4, b_I0_5, b_I0_6, b_I0_7, b_I0_8, b_I0_9, b_R1_0, b_R1_1, b_R1_2, b_R1_3, b_R1_4, b_R1_5, b_I1_6, b_R8_0, b_R8_1, b_R8_2, b_I8_3, b_vc0, b_vc1, b_vc8, b_a0, b_s0, b_a1, b_s1, b_a2, b_s2, b_a3, b_s3, b_a4, b_s4, b_a5, b_s5, b_a6, b_s6, b_a7, b_s7, b_a8, b_s8, b_a12, b_s12, b_p0_3, b_p0_4, b_p0_5, b_p0_6, b_p0_7, b_p0_8, b_p0_9, b_p1_6, b_p8_3, (fun (σ : Sg) (K : Nat → Rs Unit) => q_R8_0 (K := K) (ht σ)), (fun (σ : Sg) (K : Nat → Rs Unit) => q_R8_1 (K := K) (ht σ)), (fun (σ : Sg) (K : Nat → Rs Unit) => q_R8_2 (K := K) (ht σ)), (fun (σ : Sg) (i : Int32) (K : Int32 → Rs Unit) => q_a6 (i := i) (K := K) (ht σ)), (fun (σ : Sg) (i : Int32) (K : Int32 → Rs Unit) => q_a7 (i := i) (K := K) (ht σ)), (fun (σ : Sg) (i : Int32) (K : Int32 → Rs Unit) => q_a8 (i := i) (K := K) (ht σ)), e_put (show i < 12 by omega), h1, h2_12, h3, nI_1, if_true, if_false, bnd, rt]
    exact ih _ _ _ (by omega) (by omega)
/-- the last of a scene's copy -/
def cpS (τ σ : Sg) : Sg := sI2 (sI2 (sI2 (sI2 (sI2 (sI2 (sP2 σ τ.2.2) 9 2 (τ.1 9 2)) 9 3 (τ.1 9 3)) 9 4 (τ.1 9 4)) 9 5 (τ.1 9 5)) 9 6 (τ.1 9 6)) 9 7 (τ.1 9 7)
theorem l_cpJ (hs : 0 < s) (hts : 0 < t) (ht : ∀ σ, At_ (put μ s σ) t τ) : ∀ k f i (σ : Sg), i + k = 4 → k < f → FX4_copyFrom_L24 f s t (nI i) (put μ s σ) = rt () (put μ s (cpS τ (fo (cpJ τ) i k σ))) := by
  intro k
  induction k with
  | zero =>
    intro f i σ  hi hfuu
    obtain ⟨f, rfl⟩ : ∃ g, f = g + 1 := ⟨f - 1, by omega⟩
    have h1 : (4 : Int32) ≤ nI i := by rw [show i = 4 by omega]; decide
    simp only [FX4_copyFrom_L24, FX4_copyFrom_B24, b_R0_0, b_R0_1, b_R0_2, b_J0_3, b_I0_4, b_I0_5, b_I0_6, b_I0_7, b_I0_8, b_I0_9, b_R1_0, b_R1_1, b_R1_2, b_R1_3, b_R1_4, b_R1_5, b_I1_6, b_R8_0, b_R8_1, b_R8_2, b_I8_3, b_vc0, b_vc1, b_vc8, b_a0, b_s0, b_a1, b_s1, b_a2, b_s2, b_a3, b_s3, b_a4, b_s4, b_a5, b_s5, b_a6, b_s6, b_a7, b_s7, b_a8, b_s8, b_a12, b_s12, b_p0_3, b_p0_4, b_p0_5, b_p0_6, b_p0_7, b_p0_8, b_p0_9, b_p1_6, b_p8_3, hs, (fun (σ : Sg) (K : Int64 → Rs Unit) => q_J0_3 (K := K) (ht σ) hts), (fun (σ : Sg) (K : Int32 → Rs Unit) => q_I0_4 (K := K) (ht σ) hts), (fun (σ : Sg) (K : Int32 → Rs Unit) => q_I0_5 (K := K) (ht σ) hts), (fun (σ : Sg) (K : Int32 → Rs Unit) => q_I0_6 (K := K) (ht σ) hts), (fun (σ : Sg) (K : Int32 → Rs Unit) => q_I0_7 (K := K) (ht σ) hts), (fun (σ : Sg) (K : Int32 → Rs Unit) => q_I0_8 (K := K) (ht σ) hts), (fun (σ : Sg) (K : Int32 → Rs Unit) => q_I0_9 (K := K) (ht σ) hts), h1, if_true, bnd, rt]
    rfl
  | succ k ih =>
    intro f i σ  hi hfuu
    obtain ⟨f, rfl⟩ : ∃ g, f = g + 1 := ⟨f - 1, by omega⟩
    have h1 : ¬ (4 : Int32) ≤ nI i := fun h => absurd ((nI_leI (a := 4) (b := i) (by omega) (by omega)).mp h) (by omega)
    have h2_4 : inb (nI i) 4 = true := inb_n (by omega) (by omega)
    have h3 : (nI i).toNatClampNeg = i := nI_clamp (by omega)
    simp only [FX4_copyFrom_L24, FX4_copyFrom_B24, b_R0_0, b_R0_1, b_R0_2, b_J0_3, b_I0_4, b_I0_5, b_I0_6, b_I0_7, b_I0_8, b_I0_9, b_R1_0, b_R1_1, b_R1_2, b_R1_3, b_R1_4, b_R1_5, b_I1_6, b_R8_0, b_R8_1, b_R8_2, b_I8_3, b_vc0, b_vc1, b_vc8, b_a0, b_s0, b_a1, b_s1, b_a2, b_s2, b_a3, b_s3, b_a4, b_s4, b_a5, b_s5, b_a6, b_s6, b_a7, b_s7, b_a8, b_s8, b_a12, b_s12, b_p0_3, b_p0_4, b_p0_5, b_p0_6, b_p0_7, b_p0_8, b_p0_9, b_p1_6, b_p8_3, hs, (fun (σ : Sg) (K : Nat → Rs Unit) => q_R0_2 (K := K) (ht σ) hts), (fun (σ : Sg) (i : Int32) (K : Int64 → Rs Unit) => q_a12 (i := i) (K := K) (ht σ)), h1, h2_4, h3, nI_1, if_true, if_false, bnd, rt]
    exact ih _ _ _ (by omega) (by omega)
def cpy (τ σ : Sg) : Sg := cpS τ (fo (cpJ τ) 0 4 (fo (cpC τ) 0 12 (sI2 (fo (cpF τ) 0 10 (sI2 σ 9 0 (τ.1 9 0))) 9 1 (τ.1 9 1))))
theorem e_copy (hs : 0 < s) (hts : 0 < t) (ht : ∀ σ, At_ (put μ s σ) t τ) (σ : Sg) : FX4_copyFrom s t (put μ s σ) = rt () (put μ s (cpy τ σ)) := by
  simp only [FX4_copyFrom, FX2_copyFrom, FX1_copyFrom, b_R0_0, b_R0_1, b_R0_2, b_J0_3, b_I0_4, b_I0_5, b_I0_6, b_I0_7, b_I0_8, b_I0_9, b_R1_0, b_R1_1, b_R1_2, b_R1_3, b_R1_4, b_R1_5, b_I1_6, b_R8_0, b_R8_1, b_R8_2, b_I8_3, b_vc0, b_vc1, b_vc8, b_a0, b_s0, b_a1, b_s1, b_a2, b_s2, b_a3, b_s3, b_a4, b_s4, b_a5, b_s5, b_a6, b_s6, b_a7, b_s7, b_a8, b_s8, b_a12, b_s12, b_p0_3, b_p0_4, b_p0_5, b_p0_6, b_p0_7, b_p0_8, b_p0_9, b_p1_6, b_p8_3, hs, (fun (σ : Sg) (K : Nat → Rs Unit) => q_R0_0 (K := K) (ht σ) hts), (fun (σ : Sg) (K : Nat → Rs Unit) => q_R0_1 (K := K) (ht σ) hts), (fun (σ : Sg) (K : Int32 → Rs Unit) => q_I1_6 (K := K) (ht σ)), (fun (σ : Sg) (K : Int32 → Rs Unit) => q_I8_3 (K := K) (ht σ))]
  have h1 := l_cpF ht 10 FU 0 (sI2 σ 9 0 (τ.1 9 0)) (by omega) (by unfold FU; omega)
  have h2 := l_cpC ht 12 FU 0 (sI2 (fo (cpF τ) 0 10 (sI2 σ 9 0 (τ.1 9 0))) 9 1 (τ.1 9 1)) (by omega) (by unfold FU; omega)
  have h3 := l_cpJ hs hts ht 4 FU 0 (fo (cpC τ) 0 12 (sI2 (fo (cpF τ) 0 10 (sI2 σ 9 0 (τ.1 9 0))) 9 1 (τ.1 9 1))) (by omega) (by unfold FU; omega)
  rw [nI_0] at h1 h2 h3
  simp only [h1, bnd, rt, b_R0_0, b_R0_1, b_R0_2, b_J0_3, b_I0_4, b_I0_5, b_I0_6, b_I0_7, b_I0_8, b_I0_9, b_R1_0, b_R1_1, b_R1_2, b_R1_3, b_R1_4, b_R1_5, b_I1_6, b_R8_0, b_R8_1, b_R8_2, b_I8_3, b_vc0, b_vc1, b_vc8, b_a0, b_s0, b_a1, b_s1, b_a2, b_s2, b_a3, b_s3, b_a4, b_s4, b_a5, b_s5, b_a6, b_s6, b_a7, b_s7, b_a8, b_s8, b_a12, b_s12, b_p0_3, b_p0_4, b_p0_5, b_p0_6, b_p0_7, b_p0_8, b_p0_9, b_p1_6, b_p8_3, hs, (fun (σ : Sg) (K : Nat → Rs Unit) => q_R0_0 (K := K) (ht σ) hts), (fun (σ : Sg) (K : Nat → Rs Unit) => q_R0_1 (K := K) (ht σ) hts), (fun (σ : Sg) (K : Int32 → Rs Unit) => q_I1_6 (K := K) (ht σ)), (fun (σ : Sg) (K : Int32 → Rs Unit) => q_I8_3 (K := K) (ht σ)), h2]
  exact h3
/-- two scenes that tell the same -/
def Eqs (σ τ : Sg) : Prop := (∀ r, r < 6 → ∀ d, d < 10 → σ.1 r d = τ.1 r d) ∧ (∀ r, 6 ≤ r → r < 9 → ∀ d, d < 12 → σ.1 r d = τ.1 r d) ∧ (∀ j, j < 8 → σ.1 9 j = τ.1 9 j) ∧ (∀ f, f < 4 → σ.2.1 f = τ.2.1 f) ∧ σ.2.2 = τ.2.2
def Bz (τ : Sg) : Prop := ∀ d, d < 10 → (τ.1 4 d = 0 ∨ τ.1 4 d = 1) ∧ (τ.1 5 d = 0 ∨ τ.1 5 d = 1)
theorem nar_b {x : Int32} (h : x = 0 ∨ x = 1) : vp_nar .boolean x = x := by rcases h with h | h <;> rw [h] <;> decide
theorem cpy_ok {σ : Sg} (hb : Bz τ) : Eqs (cpy τ σ) τ := by
  unfold cpy
  have a1 : ∀ r, r < 6 → ∀ d, d < 10 → (fo (cpF τ) 0 10 (sI2 σ 9 0 (τ.1 9 0))).1 r d = τ.1 r d := by
    have h := fo_inv (P := fun i ρ => ∀ r, r < 6 → ∀ d, d < i → ρ.1 r d = τ.1 r d) (f := cpF τ) (k := 10) (i := 0) (a := sI2 σ 9 0 (τ.1 9 0)) (fun r _ d hd => absurd hd (Nat.not_lt_zero d)) (fun d ρ _ hd h r hr e he => by
      have hz := hb d (by omega)
      rcases (show r = 0 ∨ r = 1 ∨ r = 2 ∨ r = 3 ∨ r = 4 ∨ r = 5 by omega) with q | q | q | q | q | q <;> subst q <;> by_cases hed : e = d <;> (try subst hed) <;> (first | (simp [cpF, sI2, upd, nar_b hz.1, nar_b hz.2]; done) | (simp [cpF, sI2, upd, hed]; exact h _ (by omega) e (by omega))))
    exact h
  have a2 : ∀ j, (fo (cpF τ) 0 10 (sI2 σ 9 0 (τ.1 9 0))).1 9 j = (sI2 σ 9 0 (τ.1 9 0)).1 9 j := by
    have h := fo_inv (P := fun i ρ => ∀ j, ρ.1 9 j = (sI2 σ 9 0 (τ.1 9 0)).1 9 j) (f := cpF τ) (k := 10) (i := 0) (a := sI2 σ 9 0 (τ.1 9 0)) (fun j => rfl) (fun d ρ _ hd h j => by rw [← h j]; simp [cpF, sI2])
    exact h
  generalize fo (cpF τ) 0 10 (sI2 σ 9 0 (τ.1 9 0)) = ρ1 at a1 a2 ⊢
  have b1 : ∀ r, 6 ≤ r → r < 9 → ∀ d, d < 12 → (fo (cpC τ) 0 12 (sI2 ρ1 9 1 (τ.1 9 1))).1 r d = τ.1 r d := by
    have h := fo_inv (P := fun i ρ => ∀ r, 6 ≤ r → r < 9 → ∀ d, d < i → ρ.1 r d = τ.1 r d) (f := cpC τ) (k := 12) (i := 0) (a := sI2 ρ1 9 1 (τ.1 9 1)) (fun r _ _ d hd => absurd hd (Nat.not_lt_zero d)) (fun d ρ _ hd h r hr1 hr2 e he => by
      rcases (show r = 6 ∨ r = 7 ∨ r = 8 by omega) with q | q | q <;> subst q <;> by_cases hed : e = d <;> (try subst hed) <;> (first | (simp [cpC, sI2, upd]; done) | (simp [cpC, sI2, upd, hed]; exact h _ (by omega) (by omega) e (by omega))))
    exact h
  have b2 : ∀ r, (r < 6 ∨ 9 ≤ r) → ∀ j, (fo (cpC τ) 0 12 (sI2 ρ1 9 1 (τ.1 9 1))).1 r j = (sI2 ρ1 9 1 (τ.1 9 1)).1 r j := by
    have h := fo_inv (P := fun i ρ => ∀ r, (r < 6 ∨ 9 ≤ r) → ∀ j, ρ.1 r j = (sI2 ρ1 9 1 (τ.1 9 1)).1 r j) (f := cpC τ) (k := 12) (i := 0) (a := sI2 ρ1 9 1 (τ.1 9 1)) (fun r _ j => rfl) (fun d ρ _ hd h r hr j => by
      rw [← h r hr j]
      have h6 : ¬ r = 6 := by omega
      have h7 : ¬ r = 7 := by omega
      have h8 : ¬ r = 8 := by omega
      simp [cpC, sI2, h6, h7, h8])
    exact h
  generalize fo (cpC τ) 0 12 (sI2 ρ1 9 1 (τ.1 9 1)) = ρ2 at b1 b2 ⊢
  have d1 : (∀ f, f < 4 → (fo (cpJ τ) 0 4 ρ2).2.1 f = τ.2.1 f) ∧ (fo (cpJ τ) 0 4 ρ2).1 = ρ2.1 := by
    have h := fo_inv (P := fun i ρ => (∀ f, f < i → ρ.2.1 f = τ.2.1 f) ∧ ρ.1 = ρ2.1) (f := cpJ τ) (k := 4) (i := 0) (a := ρ2) ⟨fun f hf => absurd hf (Nat.not_lt_zero f), rfl⟩ (fun d ρ _ hd h => by
      refine ⟨fun e he => ?_, h.2⟩
      by_cases hed : e = d
      · subst hed; simp [cpJ, sF2, vp_updL]
      · simp [cpJ, sF2, vp_updL, hed]; exact h.1 e (by omega))
    exact h
  generalize fo (cpJ τ) 0 4 ρ2 = ρ3 at d1 ⊢
  obtain ⟨d1, d2⟩ := d1
  refine ⟨fun r hr d hd => ?_, fun r h6 h9 d hd => ?_, fun j hj => ?_, fun f hf => ?_, rfl⟩
  · have h9 : ¬ r = 9 := by omega
    have h1 : ρ3.1 r d = τ.1 r d := by
      rw [d2, b2 r (Or.inl hr) d]
      simp only [sI2]
      rw [if_neg h9]
      exact a1 r hr d hd
    simp [cpS, sI2, sP2, h9, h1]
  · have hr9 : ¬ r = 9 := by omega
    have h1 : ρ3.1 r d = τ.1 r d := by rw [d2]; exact b1 r h6 h9 d hd
    simp [cpS, sI2, sP2, hr9, h1]
  · have h1 : ∀ j, ρ3.1 9 j = if j = 1 then τ.1 9 1 else if j = 0 then τ.1 9 0 else σ.1 9 j := by
      intro j
      rw [d2, b2 9 (Or.inr (Nat.le_refl _)) j]
      by_cases e1 : j = 1
      · subst e1; simp [sI2, upd]
      · by_cases e0 : j = 0
        · subst e0; simp [sI2, upd, a2]
        · simp [sI2, upd, a2, e1, e0]
    rcases (show j = 0 ∨ j = 1 ∨ j = 2 ∨ j = 3 ∨ j = 4 ∨ j = 5 ∨ j = 6 ∨ j = 7 by omega) with q | q | q | q | q | q | q | q <;> subst q <;> simp [cpS, sI2, sP2, upd, h1]
  · show ρ3.2.1 f = τ.2.1 f
    exact d1 f hf
end CP
