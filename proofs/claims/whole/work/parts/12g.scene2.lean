/-! ===== ticks, pads by rings, matches, pictures ===== -/
section SC2
variable {μ : Me} {s : Nat} {σ : Sg} {n q : Nat}
/-- what a scene must be for its walks not to leave its arrays -/
def WS (σ : Sg) (n : Nat) : Prop := σ.1 9 0 = nI n ∧ n ≤ 10 ∧ ∃ q, q ≤ 12 ∧ σ.1 9 1 = nI q ∧ ∀ e, e < q → ∃ d, d < n ∧ σ.1 6 e = nI d
def frd (t : Int32) (σ : Sg) : Sg := sI2 (fo (fir t) 0 (σ.1 9 1).toNatClampNeg (σ, 0)).1 9 1 (nI (fo (fir t) 0 (σ.1 9 1).toNatClampNeg (σ, 0)).2)
def tck (n : Nat) (σ : Sg) : Sg := fo chg 0 n (fo enf 0 n (fo alm 0 n (fo (mvd n) 0 n (frd (σ.1 9 3 + 1) (sI2 σ 9 3 (σ.1 9 3 + 1))))))
theorem frd_ok {t : Int32} (h : WS σ n) : WS (frd t σ) n := by
  obtain ⟨hn, hn9, q, hq9, hq, hd⟩ := h
  have hqc : (σ.1 9 1).toNatClampNeg = q := by rw [hq]; exact nI_clamp (by omega)
  have hP := fo_inv (P := fun i (z : Sg × Nat) => z.1.1 9 0 = nI n ∧ z.2 ≤ i ∧ (∀ e, e < z.2 → ∃ d, d < n ∧ z.1.1 6 e = nI d) ∧ ∀ e, i ≤ e → e < q → ∃ d, d < n ∧ z.1.1 6 e = nI d) (f := fir t) (k := q) (i := 0) (a := (σ, 0)) ⟨hn, Nat.le_refl _, fun e he => absurd he (Nat.not_lt_zero e), fun e _ he => hd e he⟩ (fun d z _ hdq hz => by
    obtain ⟨z1, z2, z3, z4⟩ := hz
    unfold fir
    split
    · exact ⟨z1, by omega, z3, fun e he1 he2 => z4 e (by omega) he2⟩
    · refine ⟨z1, by simp; omega, fun e he => ?_, fun e he1 he2 => ?_⟩
      · by_cases hej : e = z.2
        · subst hej
          simp [sI2, upd]
          exact z4 d (Nat.le_refl _) (by omega)
        · simp [sI2, upd, hej]
          exact z3 e (by simp at he; omega)
      · have hej : ¬ e = z.2 := by omega
        simp [sI2, upd, hej]
        exact z4 e (by omega) he2)
  obtain ⟨p1, p2, p3, -⟩ := hP
  unfold frd
  rw [hqc]
  exact ⟨p1, hn9, (fo (fir t) 0 q (σ, 0)).2, by omega, rfl, fun e he => p3 e he⟩
theorem WS_kept {σ σ' : Sg} (h : WS σ n) (h1 : σ'.1 9 0 = σ.1 9 0) (h2 : σ'.1 9 1 = σ.1 9 1) (h3 : σ'.1 6 = σ.1 6) : WS σ' n := by
  obtain ⟨hn, hn9, q, hq9, hq, hd⟩ := h
  exact ⟨h1.trans hn, hn9, q, hq9, h2.trans hq, fun e he => by rw [h3]; exact hd e he⟩
theorem fo_kept {f : Nat → Sg → Sg} (hf : ∀ d σ, (f d σ).1 9 0 = σ.1 9 0 ∧ (f d σ).1 9 1 = σ.1 9 1 ∧ (f d σ).1 6 = σ.1 6) : ∀ k i (σ : Sg), (fo f i k σ).1 9 0 = σ.1 9 0 ∧ (fo f i k σ).1 9 1 = σ.1 9 1 ∧ (fo f i k σ).1 6 = σ.1 6 := by
  intro k
  induction k with
  | zero => intro i σ; exact ⟨rfl, rfl, rfl⟩
  | succ k ih =>
    intro i σ
    simp only [fo]
    obtain ⟨a, b, c⟩ := ih (i + 1) (f i σ)
    obtain ⟨a2, b2, c2⟩ := hf i σ
    exact ⟨a.trans a2, b.trans b2, c.trans c2⟩
theorem los_k {d : Nat} {w : Int32} {σ : Sg} : (los d w σ).1 9 = σ.1 9 ∧ (los d w σ).1 6 = σ.1 6 := by
  unfold los
  split <;> exact ⟨rfl, rfl⟩
theorem mvd_k (d : Nat) (σ : Sg) : (mvd n d σ).1 9 0 = σ.1 9 0 ∧ (mvd n d σ).1 9 1 = σ.1 9 1 ∧ (mvd n d σ).1 6 = σ.1 6 := by
  unfold mvd
  split
  · exact ⟨congrFun los_k.1 0, congrFun los_k.1 1, los_k.2⟩
  · split
    · exact ⟨congrFun los_k.1 0, congrFun los_k.1 1, los_k.2⟩
    · exact ⟨congrFun los_k.1 0, congrFun los_k.1 1, los_k.2⟩
theorem alm_k (d : Nat) (σ : Sg) : (alm d σ).1 9 0 = σ.1 9 0 ∧ (alm d σ).1 9 1 = σ.1 9 1 ∧ (alm d σ).1 6 = σ.1 6 := by
  unfold alm
  split
  · exact ⟨rfl, rfl, rfl⟩
  · split
    · exact ⟨rfl, rfl, rfl⟩
    · split <;> exact ⟨rfl, rfl, rfl⟩
theorem enf_k (d : Nat) (σ : Sg) : (enf d σ).1 9 0 = σ.1 9 0 ∧ (enf d σ).1 9 1 = σ.1 9 1 ∧ (enf d σ).1 6 = σ.1 6 := by
  unfold enf enf0
  repeat' (first | exact ⟨rfl, rfl, rfl⟩ | split)
theorem chg_k (d : Nat) (σ : Sg) : (chg d σ).1 9 0 = σ.1 9 0 ∧ (chg d σ).1 9 1 = σ.1 9 1 ∧ (chg d σ).1 6 = σ.1 6 := by
  unfold chg
  repeat' (first | exact ⟨rfl, rfl, rfl⟩ | split)
theorem WS_fo {f : Nat → Sg → Sg} (hf : ∀ d σ, (f d σ).1 9 0 = σ.1 9 0 ∧ (f d σ).1 9 1 = σ.1 9 1 ∧ (f d σ).1 6 = σ.1 6) {σ : Sg} {i k : Nat} (h : WS σ n) : WS (fo f i k σ) n := by
  obtain ⟨a, b, c⟩ := fo_kept hf k i σ
  exact WS_kept h a b c
theorem e_tick {σ : Sg} (hs : 0 < s) (h : WS σ n) : FX4_tick s (put μ s σ) = rt () (put μ s (tck n σ)) ∧ WS (tck n σ) n := by
  have h0 : WS (sI2 σ 9 3 (σ.1 9 3 + 1)) n := WS_kept h rfl rfl rfl
  have h1 := frd_ok (t := σ.1 9 3 + 1) h0
  have h2 := WS_fo (f := mvd n) mvd_k (i := 0) (k := n) h1
  have h3 := WS_fo (f := alm) alm_k (i := 0) (k := n) h2
  have h4 := WS_fo (f := enf) enf_k (i := 0) (k := n) h3
  have h5 := WS_fo (f := chg) chg_k (i := 0) (k := n) h4
  refine ⟨?_, h5⟩
  obtain ⟨hn, hn9, q, hq9, hq, hd⟩ := h0
  have hf : FX1_fire (s + 8) (σ.1 9 3 + 1) (s + 1) (put μ s (sI2 σ 9 3 (σ.1 9 3 + 1))) = rt () (put μ s (frd (σ.1 9 3 + 1) (sI2 σ 9 3 (σ.1 9 3 + 1)))) := by
    have hqc : ((sI2 σ 9 3 (σ.1 9 3 + 1)).1 9 1).toNatClampNeg = q := by rw [hq]; exact nI_clamp (by omega)
    rw [e_fire (n := n) hn9 hq9 hq hd, frd, hqc]
  have ht : (sI2 σ 9 3 (σ.1 9 3 + 1)).1 9 3 = σ.1 9 3 + 1 := rfl
  simp only [FX4_tick, b_R0_0, b_R0_1, b_R0_2, b_J0_3, b_I0_4, b_I0_5, b_I0_6, b_I0_7, b_I0_8, b_I0_9, b_R1_0, b_R1_1, b_R1_2, b_R1_3, b_R1_4, b_R1_5, b_I1_6, b_R8_0, b_R8_1, b_R8_2, b_I8_3, b_vc0, b_vc1, b_vc8, b_a0, b_s0, b_a1, b_s1, b_a2, b_s2, b_a3, b_s3, b_a4, b_s4, b_a5, b_s5, b_a6, b_s6, b_a7, b_s7, b_a8, b_s8, b_a12, b_s12, b_p0_3, b_p0_4, b_p0_5, b_p0_6, b_p0_7, b_p0_8, b_p0_9, b_p1_6, b_p8_3, hs, ht, hf, e_mv hs h1.1 hn9, e_alm hs h2.1 hn9, e_enf hs h3.1 hn9, e_chg hs h4.1 hn9, bnd, rt, tck]
def psn (n k : Nat) (σ : Sg) : Sg := fo (fun _ => tck n) 0 k σ
end SC2
section SC3
variable {μ : Me} {s n : Nat}
theorem l_pass {w : Nat} {m0 : Int32} (hs : 0 < s) (hw : w ≤ 30) : ∀ k f i (σ : Sg), WS σ n → i + k = w → k < f → FX4_pass_L21 f s (nI w) m0 (nI i) (put μ s σ) = rt ((fo (fun _ => tck n) i k σ).1 9 4 - m0) (put μ s (fo (fun _ => tck n) i k σ)) ∧ WS (fo (fun _ => tck n) i k σ) n := by
  intro k
  induction k with
  | zero =>
    intro f i σ hW hi hfuu
    obtain ⟨f, rfl⟩ : ∃ g, f = g + 1 := ⟨f - 1, by omega⟩
    have h1 : nI w ≤ nI i := by rw [show i = w by omega]; exact Int32.le_refl _
    simp only [FX4_pass_L21, FX4_pass_B21, b_R0_0, b_R0_1, b_R0_2, b_J0_3, b_I0_4, b_I0_5, b_I0_6, b_I0_7, b_I0_8, b_I0_9, b_R1_0, b_R1_1, b_R1_2, b_R1_3, b_R1_4, b_R1_5, b_I1_6, b_R8_0, b_R8_1, b_R8_2, b_I8_3, b_vc0, b_vc1, b_vc8, b_a0, b_s0, b_a1, b_s1, b_a2, b_s2, b_a3, b_s3, b_a4, b_s4, b_a5, b_s5, b_a6, b_s6, b_a7, b_s7, b_a8, b_s8, b_a12, b_s12, b_p0_3, b_p0_4, b_p0_5, b_p0_6, b_p0_7, b_p0_8, b_p0_9, b_p1_6, b_p8_3, hs, h1, if_true, bnd, rt]
    exact ⟨rfl, hW⟩
  | succ k ih =>
    intro f i σ hW hi hfuu
    obtain ⟨f, rfl⟩ : ∃ g, f = g + 1 := ⟨f - 1, by omega⟩
    have h1 : ¬ nI w ≤ nI i := nI_ge (by omega) (by omega)
    have h3 : (nI i).toNatClampNeg = i := nI_clamp (by omega)
    simp only [FX4_pass_L21, FX4_pass_B21, b_R0_0, b_R0_1, b_R0_2, b_J0_3, b_I0_4, b_I0_5, b_I0_6, b_I0_7, b_I0_8, b_I0_9, b_R1_0, b_R1_1, b_R1_2, b_R1_3, b_R1_4, b_R1_5, b_I1_6, b_R8_0, b_R8_1, b_R8_2, b_I8_3, b_vc0, b_vc1, b_vc8, b_a0, b_s0, b_a1, b_s1, b_a2, b_s2, b_a3, b_s3, b_a4, b_s4, b_a5, b_s5, b_a6, b_s6, b_a7, b_s7, b_a8, b_s8, b_a12, b_s12, b_p0_3, b_p0_4, b_p0_5, b_p0_6, b_p0_7, b_p0_8, b_p0_9, b_p1_6, b_p8_3, hs, (e_tick hs hW).1, h1, h3, nI_1, if_true, if_false, bnd, rt]
    simp only [fo]
    exact ih _ _ _ (e_tick (μ := μ) hs hW).2 (by omega) (by omega)
theorem e_pass_out {σ : Sg} {x : Int32} (h : x < 1 ∨ ¬ x ≤ 30) : FX4_pass s x (put μ s σ) = rt (-2) (put μ s σ) := by
  unfold FX4_pass
  split
  · rfl
  · rename_i h1
    rw [if_neg (h.resolve_left h1)]
theorem e_pass {σ : Sg} {w : Nat} (hs : 0 < s) (hw0 : 0 < w) (hw : w ≤ 30) (hW : WS σ n) : FX4_pass s (nI w) (put μ s σ) = rt ((psn n w σ).1 9 4 - σ.1 9 4) (put μ s (psn n w σ)) ∧ WS (psn n w σ) n := by
  have h := l_pass (μ := μ) (m0 := σ.1 9 4) hs hw w FU 0 σ hW (by omega) (by unfold FU; omega)
  refine ⟨?_, h.2⟩
  have h1 : ¬ nI w < 1 := fun e => absurd ((nI_ltI (a := w) (b := 1) (by omega) (by omega)).mp e) (by omega)
  have h2 : nI w ≤ 30 := (nI_leI (a := w) (b := 30) (by omega) (by omega)).mpr hw
  simp only [FX4_pass, h1, h2, b_R0_0, b_R0_1, b_R0_2, b_J0_3, b_I0_4, b_I0_5, b_I0_6, b_I0_7, b_I0_8, b_I0_9, b_R1_0, b_R1_1, b_R1_2, b_R1_3, b_R1_4, b_R1_5, b_I1_6, b_R8_0, b_R8_1, b_R8_2, b_I8_3, b_vc0, b_vc1, b_vc8, b_a0, b_s0, b_a1, b_s1, b_a2, b_s2, b_a3, b_s3, b_a4, b_s4, b_a5, b_s5, b_a6, b_s6, b_a7, b_s7, b_a8, b_s8, b_a12, b_s12, b_p0_3, b_p0_4, b_p0_5, b_p0_6, b_p0_7, b_p0_8, b_p0_9, b_p1_6, b_p8_3, hs, if_true, if_false]
  exact h.1
/-! pads by rings -/
def rch (x r : Int32) (i : Nat) : Int32 := r - (if 0 ≤ (nI i - (x / 8)) then (nI i - (x / 8)) else 0 - (nI i - (x / 8)))
def rngB (p : Int64) (x r : Int32) (i : Nat) (z : Int32) : Int32 := if rch x r i < 0 then z else if 8 ≤ (x - x / 8 * 8) + rch x r i then z else if cnt p ((8 * nI i) + ((x - x / 8 * 8) + rch x r i)) = 0 then z else (8 * nI i) + ((x - x / 8 * 8) + rch x r i)
def rngA (p : Int64) (x r : Int32) (i : Nat) (z : Int32) : Int32 := if rch x r i < 0 then rngB p x r i z else if (x - x / 8 * 8) - rch x r i < 0 then rngB p x r i z else if cnt p ((8 * nI i) + ((x - x / 8 * 8) - rch x r i)) = 0 then rngB p x r i z else (8 * nI i) + ((x - x / 8 * 8) - rch x r i)
def rng (p : Int64) (x r : Int32) : Nat → Nat → Int32
  | _, 0 => -1
  | i, k + 1 => rngA p x r i (rng p x r (i + 1) k)
theorem l_rng {σ : Sg} {x r : Int32} (hs : 0 < s) : ∀ k f i , i + k = 8 → k < f → FX4_padOnRing_L2 f s x r (nI i) (put μ s σ) = rt (rng σ.2.2 x r i k) (put μ s σ) := by
  intro k
  induction k with
  | zero =>
    intro f i   hi hfuu
    obtain ⟨f, rfl⟩ : ∃ g, f = g + 1 := ⟨f - 1, by omega⟩
    have h1 : (8 : Int32) ≤ nI i := by rw [show i = 8 by omega]; decide
    simp only [FX4_padOnRing_L2, FX4_padOnRing_B2, FX4_padOnRing_B74, b_R0_0, b_R0_1, b_R0_2, b_J0_3, b_I0_4, b_I0_5, b_I0_6, b_I0_7, b_I0_8, b_I0_9, b_R1_0, b_R1_1, b_R1_2, b_R1_3, b_R1_4, b_R1_5, b_I1_6, b_R8_0, b_R8_1, b_R8_2, b_I8_3, b_vc0, b_vc1, b_vc8, b_a0, b_s0, b_a1, b_s1, b_a2, b_s2, b_a3, b_s3, b_a4, b_s4, b_a5, b_s5, b_a6, b_s6, b_a7, b_s7, b_a8, b_s8, b_a12, b_s12, b_p0_3, b_p0_4, b_p0_5, b_p0_6, b_p0_7, b_p0_8, b_p0_9, b_p1_6, b_p8_3, hs, h1, if_true, bnd, rt]
    rfl
  | succ k ih =>
    intro f i   hi hfuu
    obtain ⟨f, rfl⟩ : ∃ g, f = g + 1 := ⟨f - 1, by omega⟩
    have h1 : ¬ (8 : Int32) ≤ nI i := fun h => absurd ((nI_leI (a := 8) (b := i) (by omega) (by omega)).mp h) (by omega)
    have h3 : (nI i).toNatClampNeg = i := nI_clamp (by omega)
    simp only [FX4_padOnRing_L2, FX4_padOnRing_B2, FX4_padOnRing_B74, b_R0_0, b_R0_1, b_R0_2, b_J0_3, b_I0_4, b_I0_5, b_I0_6, b_I0_7, b_I0_8, b_I0_9, b_R1_0, b_R1_1, b_R1_2, b_R1_3, b_R1_4, b_R1_5, b_I1_6, b_R8_0, b_R8_1, b_R8_2, b_I8_3, b_vc0, b_vc1, b_vc8, b_a0, b_s0, b_a1, b_s1, b_a2, b_s2, b_a3, b_s3, b_a4, b_s4, b_a5, b_s5, b_a6, b_s6, b_a7, b_s7, b_a8, b_s8, b_a12, b_s12, b_p0_3, b_p0_4, b_p0_5, b_p0_6, b_p0_7, b_p0_8, b_p0_9, b_p1_6, b_p8_3, hs, e_contains, h1, h3, nI_1, if_true, if_false, bnd, rt]
    have h := ih f (i + 1) (by omega) (by omega)
    simp only [rng, rngA, rngB]
    have hr : r - (if 0 ≤ (nI i - (x / 8)) then (nI i - (x / 8)) else 0 - (nI i - (x / 8))) = rch x r i := rfl
    simp only [hr]
    generalize rng σ.2.2 x r (i + 1) k = w at h ⊢
    by_cases a : rch x r i < 0
    · simp only [a, if_true]
      exact h
    · simp only [a, if_false]
      have hB : (if 8 ≤ (x - x / 8 * 8) + rch x r i then FX4_padOnRing_L2 f s x r (nI (i + 1)) (put μ s σ) else if cnt σ.2.2 ((8 * nI i) + ((x - x / 8 * 8) + rch x r i)) = 0 then FX4_padOnRing_L2 f s x r (nI (i + 1)) (put μ s σ) else some (Sum.inl ((8 * nI i) + ((x - x / 8 * 8) + rch x r i)), put μ s σ)) = rt (if 8 ≤ (x - x / 8 * 8) + rch x r i then w else if cnt σ.2.2 ((8 * nI i) + ((x - x / 8 * 8) + rch x r i)) = 0 then w else (8 * nI i) + ((x - x / 8 * 8) + rch x r i)) (put μ s σ) := by
        split
        · exact h
        · split
          · exact h
          · rfl
      split
      · exact hB
      · split
        · exact hB
        · rfl
theorem e_rng {σ : Sg} {x r : Int32} (hs : 0 < s) : FX4_padOnRing s x r (put μ s σ) = rt (rng σ.2.2 x r 0 8) (put μ s σ) := l_rng hs 8 FU 0 (by omega) (by unfold FU; omega)
def rgs (p : Int64) (x : Int32) : Nat → Nat → Int32
  | _, 0 => -1
  | i, k + 1 => if rng p x (nI i) 0 8 = -1 then rgs p x (i + 1) k else rng p x (nI i) 0 8
theorem l_rgs {σ : Sg} {x : Int32} (hs : 0 < s) : ∀ k f i , i + k = 15 → k < f → FX4_padByRings_L2 f s x (nI i) (put μ s σ) = rt (rgs σ.2.2 x i k) (put μ s σ) := by
  intro k
  induction k with
  | zero =>
    intro f i   hi hfuu
    obtain ⟨f, rfl⟩ : ∃ g, f = g + 1 := ⟨f - 1, by omega⟩
    have h1 : (14 : Int32) < nI i := by rw [show i = 15 by omega]; decide
    simp only [FX4_padByRings_L2, FX4_padByRings_B2, b_R0_0, b_R0_1, b_R0_2, b_J0_3, b_I0_4, b_I0_5, b_I0_6, b_I0_7, b_I0_8, b_I0_9, b_R1_0, b_R1_1, b_R1_2, b_R1_3, b_R1_4, b_R1_5, b_I1_6, b_R8_0, b_R8_1, b_R8_2, b_I8_3, b_vc0, b_vc1, b_vc8, b_a0, b_s0, b_a1, b_s1, b_a2, b_s2, b_a3, b_s3, b_a4, b_s4, b_a5, b_s5, b_a6, b_s6, b_a7, b_s7, b_a8, b_s8, b_a12, b_s12, b_p0_3, b_p0_4, b_p0_5, b_p0_6, b_p0_7, b_p0_8, b_p0_9, b_p1_6, b_p8_3, hs, h1, if_true, bnd, rt]
    rfl
  | succ k ih =>
    intro f i   hi hfuu
    obtain ⟨f, rfl⟩ : ∃ g, f = g + 1 := ⟨f - 1, by omega⟩
    have h1 : ¬ (14 : Int32) < nI i := fun h => absurd ((nI_ltI (a := 14) (b := i) (by omega) (by omega)).mp h) (by omega)
    have h3 : (nI i).toNatClampNeg = i := nI_clamp (by omega)
    simp only [FX4_padByRings_L2, FX4_padByRings_B2, b_R0_0, b_R0_1, b_R0_2, b_J0_3, b_I0_4, b_I0_5, b_I0_6, b_I0_7, b_I0_8, b_I0_9, b_R1_0, b_R1_1, b_R1_2, b_R1_3, b_R1_4, b_R1_5, b_I1_6, b_R8_0, b_R8_1, b_R8_2, b_I8_3, b_vc0, b_vc1, b_vc8, b_a0, b_s0, b_a1, b_s1, b_a2, b_s2, b_a3, b_s3, b_a4, b_s4, b_a5, b_s5, b_a6, b_s6, b_a7, b_s7, b_a8, b_s8, b_a12, b_s12, b_p0_3, b_p0_4, b_p0_5, b_p0_6, b_p0_7, b_p0_8, b_p0_9, b_p1_6, b_p8_3, hs, e_rng hs, h1, h3, nI_1, if_true, if_false, bnd, rt]
    simp only [rgs]
    split
    · exact ih f (i + 1) (by omega) (by omega)
    · rfl
theorem e_rgs {σ : Sg} {x : Int32} (hs : 0 < s) : FX4_padByRings s x (put μ s σ) = rt (rgs σ.2.2 x 0 15) (put μ s σ) := l_rgs hs 15 FU 0 (by omega) (by unfold FU; omega)
/-! matches -/
def flm (σ : Sg) (n : Nat) : Int64 := fo (fun d a => if σ.1 4 d = 0 then a else a ||| (1 <<< ((σ.1 0 d : Int32).toInt64 &&& 63))) 0 n 0
theorem e_mbm {σ : Sg} {f : Nat} (hs : 0 < s) (hf : f < 4) (hn : σ.1 9 0 = nI n) (hn9 : n ≤ 10) : FX4_matchesByMask s (nI f) (put μ s σ) = rt (bcn (σ.2.1 f &&& flm σ n)) (put μ s σ) := by
  have h2 : inb (nI f) 4 = true := inb_n (by omega) (by omega)
  have h3 : (nI f).toNatClampNeg = f := nI_clamp (by omega)
  simp only [FX4_matchesByMask, b_R0_0, b_R0_1, b_R0_2, b_J0_3, b_I0_4, b_I0_5, b_I0_6, b_I0_7, b_I0_8, b_I0_9, b_R1_0, b_R1_1, b_R1_2, b_R1_3, b_R1_4, b_R1_5, b_I1_6, b_R8_0, b_R8_1, b_R8_2, b_I8_3, b_vc0, b_vc1, b_vc8, b_a0, b_s0, b_a1, b_s1, b_a2, b_s2, b_a3, b_s3, b_a4, b_s4, b_a5, b_s5, b_a6, b_s6, b_a7, b_s7, b_a8, b_s8, b_a12, b_s12, b_p0_3, b_p0_4, b_p0_5, b_p0_6, b_p0_7, b_p0_8, b_p0_9, b_p1_6, b_p8_3, hs, h2, h3, if_true, e_flyingCells hn hn9, e_bit, bnd, rt, flm]
def mbs (σ : Sg) (n : Nat) (m : Int64) (c : Nat) (a : Int32) : Int32 := if cnt m (nI c) = 0 then a else if ocp σ n (nI c) = -1 then a else if σ.1 4 (ocp σ n (nI c)).toNatClampNeg = 0 then a else a + 1
theorem ffi_in {p : Nat → Prop} [DecidablePred p] : ∀ k i, ffi p i k = -1 ∨ ∃ j, i ≤ j ∧ j < i + k ∧ ffi p i k = nI j ∧ p j := by
  intro k
  induction k with
  | zero => intro i; exact Or.inl rfl
  | succ k ih =>
    intro i
    by_cases h : p i
    · exact Or.inr ⟨i, by omega, by omega, by simp [ffi, h], h⟩
    · rcases ih (i + 1) with e | ⟨j, h1, h2, h3, h4⟩
      · exact Or.inl (by simp [ffi, h, e])
      · exact Or.inr ⟨j, by omega, by omega, by simp [ffi, h, h3], h4⟩
theorem m1_ne {j : Nat} (h : j < 2 ^ 31) : ¬ nI j = -1 := fun e => absurd (e ▸ nI_pos h) (by decide)
theorem l_mbs {σ : Sg} {fm : Nat} (hs : 0 < s) (hf : fm < 4) (hn : σ.1 9 0 = nI n) (hn9 : n ≤ 10) : ∀ k f i (a : Int32), i + k = 64 → k < f → FX4_matchesByScan_L4 f s (nI fm) a (nI i) (put μ s σ) = rt (fo (mbs σ n (σ.2.1 fm)) i k a) (put μ s σ) := by
  intro k
  induction k with
  | zero =>
    intro f i a  hi hfuu
    obtain ⟨f, rfl⟩ : ∃ g, f = g + 1 := ⟨f - 1, by omega⟩
    have h1 : (64 : Int32) ≤ nI i := by rw [show i = 64 by omega]; decide
    simp only [FX4_matchesByScan_L4, FX4_matchesByScan_B4, b_R0_0, b_R0_1, b_R0_2, b_J0_3, b_I0_4, b_I0_5, b_I0_6, b_I0_7, b_I0_8, b_I0_9, b_R1_0, b_R1_1, b_R1_2, b_R1_3, b_R1_4, b_R1_5, b_I1_6, b_R8_0, b_R8_1, b_R8_2, b_I8_3, b_vc0, b_vc1, b_vc8, b_a0, b_s0, b_a1, b_s1, b_a2, b_s2, b_a3, b_s3, b_a4, b_s4, b_a5, b_s5, b_a6, b_s6, b_a7, b_s7, b_a8, b_s8, b_a12, b_s12, b_p0_3, b_p0_4, b_p0_5, b_p0_6, b_p0_7, b_p0_8, b_p0_9, b_p1_6, b_p8_3, hs, h1, if_true, bnd, rt]
    rfl
  | succ k ih =>
    intro f i a  hi hfuu
    obtain ⟨f, rfl⟩ : ∃ g, f = g + 1 := ⟨f - 1, by omega⟩
    have h1 : ¬ (64 : Int32) ≤ nI i := fun h => absurd ((nI_leI (a := 64) (b := i) (by omega) (by omega)).mp h) (by omega)
    have h3 : (nI i).toNatClampNeg = i := nI_clamp (by omega)
    have h4 : inb (nI fm) 4 = true := inb_n (by omega) (by omega)
    have h5 : (nI fm).toNatClampNeg = fm := nI_clamp (by omega)
    simp only [FX4_matchesByScan_L4, FX4_matchesByScan_B4, b_R0_0, b_R0_1, b_R0_2, b_J0_3, b_I0_4, b_I0_5, b_I0_6, b_I0_7, b_I0_8, b_I0_9, b_R1_0, b_R1_1, b_R1_2, b_R1_3, b_R1_4, b_R1_5, b_I1_6, b_R8_0, b_R8_1, b_R8_2, b_I8_3, b_vc0, b_vc1, b_vc8, b_a0, b_s0, b_a1, b_s1, b_a2, b_s2, b_a3, b_s3, b_a4, b_s4, b_a5, b_s5, b_a6, b_s6, b_a7, b_s7, b_a8, b_s8, b_a12, b_s12, b_p0_3, b_p0_4, b_p0_5, b_p0_6, b_p0_7, b_p0_8, b_p0_9, b_p1_6, b_p8_3, hs, h4, h5, e_contains, e_occ hn hn9, h1, h3, nI_1, if_true, if_false, bnd, rt]
    simp only [fo, mbs, ocp]
    rcases ffi_in (p := fun d => σ.1 0 d = nI i) n 0 with h8 | ⟨j, -, hj, h8, -⟩
    · simp only [h8, if_true]
      by_cases b : cnt (σ.2.1 fm) (nI i) = 0
      · simp only [b, if_true]
        exact ih _ _ _ (by omega) (by omega)
      · simp only [b, if_false]
        exact ih _ _ _ (by omega) (by omega)
    · have hj9 : inb (nI j) 10 = true := inb_n (by omega) (by omega)
      have hjc : (nI j).toNatClampNeg = j := nI_clamp (by omega)
      have hjn : ¬ nI j = -1 := m1_ne (by omega)
      simp only [h8, hj9, hjc, hjn, if_true, if_false]
      by_cases b : cnt (σ.2.1 fm) (nI i) = 0
      · simp only [b, if_true]
        exact ih _ _ _ (by omega) (by omega)
      · simp only [b, if_false]
        by_cases e : σ.1 4 j = 0
        · simp only [e, if_true]
          exact ih _ _ _ (by omega) (by omega)
        · simp only [e, if_false]
          exact ih _ _ _ (by omega) (by omega)
theorem e_mbs {σ : Sg} {f : Nat} (hs : 0 < s) (hf : f < 4) (hn : σ.1 9 0 = nI n) (hn9 : n ≤ 10) : FX4_matchesByScan s (nI f) (put μ s σ) = rt (fo (mbs σ n (σ.2.1 f)) 0 64 0) (put μ s σ) := l_mbs hs hf hn hn9 64 FU 0 0 (by omega) (by unfold FU; omega)
/-! pictures -/
def pic (σ : Sg) (n : Nat) (c : Int32) : Int32 := if ocp σ n c = -1 then (if cnt σ.2.2 c = 0 then 46 else 95) else if σ.1 4 (ocp σ n c).toNatClampNeg = 0 then 97 + ocp σ n c else 48 + ocp σ n c
theorem ch_ok : ∀ j, j < 10 → (((97 + nI j) : Int32).toUInt32 % 65536).toInt32 = 97 + nI j ∧ (((48 + nI j) : Int32).toUInt32 % 65536).toInt32 = 48 + nI j ∧ vp_nar .char (97 + nI j) = 97 + nI j ∧ vp_nar .char (48 + nI j) = 48 + nI j := by decide +kernel
theorem e_pic {σ : Sg} {c : Int32} (hs : 0 < s) (hn : σ.1 9 0 = nI n) (hn9 : n ≤ 10) : FX4_picture s c (put μ s σ) = rt (pic σ n c) (put μ s σ) := by
  have h46 : vp_nar .char 46 = 46 := by decide
  have h95 : vp_nar .char 95 = 95 := by decide
  simp only [FX4_picture, b_R0_0, b_R0_1, b_R0_2, b_J0_3, b_I0_4, b_I0_5, b_I0_6, b_I0_7, b_I0_8, b_I0_9, b_R1_0, b_R1_1, b_R1_2, b_R1_3, b_R1_4, b_R1_5, b_I1_6, b_R8_0, b_R8_1, b_R8_2, b_I8_3, b_vc0, b_vc1, b_vc8, b_a0, b_s0, b_a1, b_s1, b_a2, b_s2, b_a3, b_s3, b_a4, b_s4, b_a5, b_s5, b_a6, b_s6, b_a7, b_s7, b_a8, b_s8, b_a12, b_s12, b_p0_3, b_p0_4, b_p0_5, b_p0_6, b_p0_7, b_p0_8, b_p0_9, b_p1_6, b_p8_3, hs, e_occ hn hn9, e_contains, h46, h95, if_true, if_false, bnd, rt, gd, pic, ocp]
  rcases ffi_in (p := fun d => σ.1 0 d = c) n 0 with h8 | ⟨j, -, hj, h8, -⟩
  · simp only [h8, if_true]
    split <;> rfl
  · have hj9 : inb (nI j) 10 = true := inb_n (by omega) (by omega)
    have hjc : (nI j).toNatClampNeg = j := nI_clamp (by omega)
    have hjn : ¬ nI j = -1 := m1_ne (by omega)
    obtain ⟨c1, c2, c3, c4⟩ := ch_ok j (by omega)
    simp only [h8, hj9, hjc, hjn, c1, c2, c3, c4, if_true, if_false]
    split <;> rfl
end SC3
