/-! ===== cues; the tick's parts ===== -/
section TK
variable {μ : Me} {s : Nat} {σ : Sg} {n q : Nat}
def ear (σ : Sg) (d : Nat) (a : Int32) : Int32 := if a = -1 then σ.1 7 d else if a ≤ σ.1 7 d then a else σ.1 7 d
theorem l_ear (hq : σ.1 9 1 = nI q) (hq9 : q ≤ 12) : ∀ k f i (acc : Int32), i + k = q → k < f → FX1_earliest_L4 f (s + 8) acc (nI i) (put μ s σ) = rt (fo (ear σ) i k acc) (put μ s σ) := by
  intro k
  induction k with
  | zero =>
    intro f i acc  hi hfuu
    obtain ⟨f, rfl⟩ : ∃ g, f = g + 1 := ⟨f - 1, by omega⟩
    have h1 : nI q ≤ nI i := by rw [show i = q by omega]; exact Int32.le_refl _
    simp only [FX1_earliest_L4, FX1_earliest_B4, FX1_earliest_B27, b_R0_0, b_R0_1, b_R0_2, b_J0_3, b_I0_4, b_I0_5, b_I0_6, b_I0_7, b_I0_8, b_I0_9, b_R1_0, b_R1_1, b_R1_2, b_R1_3, b_R1_4, b_R1_5, b_I1_6, b_R8_0, b_R8_1, b_R8_2, b_I8_3, b_vc0, b_vc1, b_vc8, b_a0, b_s0, b_a1, b_s1, b_a2, b_s2, b_a3, b_s3, b_a4, b_s4, b_a5, b_s5, b_a6, b_s6, b_a7, b_s7, b_a8, b_s8, b_a12, b_s12, b_p0_3, b_p0_4, b_p0_5, b_p0_6, b_p0_7, b_p0_8, b_p0_9, b_p1_6, b_p8_3, hq, h1, if_true, bnd, rt]
    rfl
  | succ k ih =>
    intro f i acc  hi hfuu
    obtain ⟨f, rfl⟩ : ∃ g, f = g + 1 := ⟨f - 1, by omega⟩
    have h1 : ¬ nI q ≤ nI i := nI_ge (by omega) (by omega)
    have h2_12 : inb (nI i) 12 = true := inb_n (by omega) (by omega)
    have h3 : (nI i).toNatClampNeg = i := nI_clamp (by omega)
    simp only [FX1_earliest_L4, FX1_earliest_B4, FX1_earliest_B27, b_R0_0, b_R0_1, b_R0_2, b_J0_3, b_I0_4, b_I0_5, b_I0_6, b_I0_7, b_I0_8, b_I0_9, b_R1_0, b_R1_1, b_R1_2, b_R1_3, b_R1_4, b_R1_5, b_I1_6, b_R8_0, b_R8_1, b_R8_2, b_I8_3, b_vc0, b_vc1, b_vc8, b_a0, b_s0, b_a1, b_s1, b_a2, b_s2, b_a3, b_s3, b_a4, b_s4, b_a5, b_s5, b_a6, b_s6, b_a7, b_s7, b_a8, b_s8, b_a12, b_s12, b_p0_3, b_p0_4, b_p0_5, b_p0_6, b_p0_7, b_p0_8, b_p0_9, b_p1_6, b_p8_3, hq, h1, h2_12, h3, nI_1, if_true, if_false, bnd, rt]
    simp only [fo, ear]
    by_cases a : acc = -1
    · simp only [a, if_true]
      exact ih _ _ _ (by omega) (by omega)
    · simp only [a, if_false]
      by_cases b : acc ≤ σ.1 7 i
      · simp only [b, if_true]
        exact ih _ _ _ (by omega) (by omega)
      · simp only [b, if_false]
        exact ih _ _ _ (by omega) (by omega)
theorem e_ear (hq : σ.1 9 1 = nI q) (hq9 : q ≤ 12) : FX1_earliest (s + 8) (put μ s σ) = rt (fo (ear σ) 0 q (-1)) (put μ s σ) := l_ear hq hq9 q FU 0 _ (by omega) (by unfold FU; omega)
/-- a cue's turn: it fires, or is kept at the next place -/
def fir (t : Int32) (d : Nat) (z : Sg × Nat) : Sg × Nat := if z.1.1 7 d = t then (sI2 z.1 3 (z.1.1 6 d).toNatClampNeg (z.1.1 8 d), z.2) else (sI2 (sI2 (sI2 z.1 6 z.2 (z.1.1 6 d)) 7 z.2 (z.1.1 7 d)) 8 z.2 (z.1.1 8 d), z.2 + 1)
end TK
section TK2
variable {μ : Me} {s n q : Nat}
theorem l_fir {t : Int32} (hn9 : n ≤ 10) (hq9 : q ≤ 12) : ∀ k f i (σ : Sg) (j : Nat), σ.1 9 1 = nI q → j ≤ i → (∀ e, i ≤ e → e < q → ∃ d, d < n ∧ σ.1 6 e = nI d) → i + k = q → k < f → FX1_fire_L5 f (s + 8) t (s + 1) (nI j) (nI i) (put μ s σ) = rt () (put μ s (sI2 (fo (fir t) i k (σ, j)).1 9 1 (nI (fo (fir t) i k (σ, j)).2))) := by
  intro k
  induction k with
  | zero =>
    intro f i σ j hq hji hd hi hfuu
    obtain ⟨f, rfl⟩ : ∃ g, f = g + 1 := ⟨f - 1, by omega⟩
    have h1 : nI q ≤ nI i := by rw [show i = q by omega]; exact Int32.le_refl _
    simp only [FX1_fire_L5, FX1_fire_B5, b_R0_0, b_R0_1, b_R0_2, b_J0_3, b_I0_4, b_I0_5, b_I0_6, b_I0_7, b_I0_8, b_I0_9, b_R1_0, b_R1_1, b_R1_2, b_R1_3, b_R1_4, b_R1_5, b_I1_6, b_R8_0, b_R8_1, b_R8_2, b_I8_3, b_vc0, b_vc1, b_vc8, b_a0, b_s0, b_a1, b_s1, b_a2, b_s2, b_a3, b_s3, b_a4, b_s4, b_a5, b_s5, b_a6, b_s6, b_a7, b_s7, b_a8, b_s8, b_a12, b_s12, b_p0_3, b_p0_4, b_p0_5, b_p0_6, b_p0_7, b_p0_8, b_p0_9, b_p1_6, b_p8_3, hq, h1, if_true, bnd, rt]
    rfl
  | succ k ih =>
    intro f i σ j hq hji hd hi hfuu
    obtain ⟨f, rfl⟩ : ∃ g, f = g + 1 := ⟨f - 1, by omega⟩
    have h1 : ¬ nI q ≤ nI i := nI_ge (by omega) (by omega)
    have h2_12 : inb (nI i) 12 = true := inb_n (by omega) (by omega)
    have h3 : (nI i).toNatClampNeg = i := nI_clamp (by omega)
    simp only [FX1_fire_L5, FX1_fire_B5, b_R0_0, b_R0_1, b_R0_2, b_J0_3, b_I0_4, b_I0_5, b_I0_6, b_I0_7, b_I0_8, b_I0_9, b_R1_0, b_R1_1, b_R1_2, b_R1_3, b_R1_4, b_R1_5, b_I1_6, b_R8_0, b_R8_1, b_R8_2, b_I8_3, b_vc0, b_vc1, b_vc8, b_a0, b_s0, b_a1, b_s1, b_a2, b_s2, b_a3, b_s3, b_a4, b_s4, b_a5, b_s5, b_a6, b_s6, b_a7, b_s7, b_a8, b_s8, b_a12, b_s12, b_p0_3, b_p0_4, b_p0_5, b_p0_6, b_p0_7, b_p0_8, b_p0_9, b_p1_6, b_p8_3, hq, e_put (show j < 12 by omega), h1, h2_12, h3, nI_1, if_true, if_false, bnd, rt]
    simp only [fo]
    obtain ⟨dn, hdn, hde⟩ := hd i (Nat.le_refl _) (by omega)
    by_cases a : σ.1 7 i = t
    · have h8 : inb (σ.1 6 i) 10 = true := by rw [hde]; exact inb_n (by omega) (by omega)
      simp only [a, if_true, h8, fir]
      exact ih f (i + 1) _ _ hq (by omega) (fun e he1 he2 => by simpa [sI2] using hd e (by omega) he2) (by omega) (by omega)
    · simp only [a, if_false, fir]
      refine ih f (i + 1) _ _ (by simpa [sI2] using hq) (by omega) (fun e he1 he2 => ?_) (by omega) (by omega)
      have hej : ¬ e = j := by omega
      simpa [sI2, upd, hej] using hd e (by omega) he2
theorem e_fire {σ : Sg} {t : Int32} (hn9 : n ≤ 10) (hq9 : q ≤ 12) (hq : σ.1 9 1 = nI q) (hd : ∀ e, e < q → ∃ d, d < n ∧ σ.1 6 e = nI d) : FX1_fire (s + 8) t (s + 1) (put μ s σ) = rt () (put μ s (sI2 (fo (fir t) 0 q (σ, 0)).1 9 1 (nI (fo (fir t) 0 q (σ, 0)).2))) :=
  l_fir hn9 hq9 q FU 0 σ 0 hq (Nat.le_refl _) (fun e _ he => hd e he) (by omega) (by unfold FU; omega)
theorem e_sched_out {σ : Sg} {x y z : Int32} (hs : 0 < s) (hn : σ.1 9 0 = nI n) (h : x < 0 ∨ nI n ≤ x) : FX4_schedule s x y z (put μ s σ) = rt (-1) (put μ s σ) := by
  simp only [FX4_schedule, hs, e_has hn, has_out h, b_R0_0, b_R0_1, b_R0_2, b_J0_3, b_I0_4, b_I0_5, b_I0_6, b_I0_7, b_I0_8, b_I0_9, b_R1_0, b_R1_1, b_R1_2, b_R1_3, b_R1_4, b_R1_5, b_I1_6, b_R8_0, b_R8_1, b_R8_2, b_I8_3, b_vc0, b_vc1, b_vc8, b_a0, b_s0, b_a1, b_s1, b_a2, b_s2, b_a3, b_s3, b_a4, b_s4, b_a5, b_s5, b_a6, b_s6, b_a7, b_s7, b_a8, b_s8, b_a12, b_s12, b_p0_3, b_p0_4, b_p0_5, b_p0_6, b_p0_7, b_p0_8, b_p0_9, b_p1_6, b_p8_3, if_true, if_false, bnd, rt]
def scd (σ : Sg) (q d : Nat) (t c : Int32) : Sg := sI2 (sI2 (sI2 (sI2 σ 6 q (nI d)) 7 q t) 8 q c) 9 1 (nI (q + 1))
theorem e_sched {σ : Sg} {d : Nat} {y z : Int32} (hs : 0 < s) (hd : d < n) (hn : σ.1 9 0 = nI n) (hn9 : n ≤ 10) (hq : σ.1 9 1 = nI q) (hq9 : q ≤ 12) : FX4_schedule s (nI d) y z (put μ s σ) = if y ≤ σ.1 9 3 ∨ 999 < y ∨ z < 0 ∨ ¬ z < 8 then rt (-2) (put μ s σ) else if q < 12 then rt (nI (q + 1)) (put μ s (scd σ q d y z)) else rt (-3) (put μ s σ) := by
  have h2 : inb (nI d) 10 = true := inb_n (by omega) (by omega)
  have h3 : (nI d).toNatClampNeg = d := nI_clamp (by omega)
  have h4 : nI q < 12 ↔ q < 12 := nI_ltI (a := q) (b := 12) (by omega) (by omega)
  simp only [FX4_schedule, hs, e_has hn, has_in hd hn9, one_ne, hq, h4, b_R0_0, b_R0_1, b_R0_2, b_J0_3, b_I0_4, b_I0_5, b_I0_6, b_I0_7, b_I0_8, b_I0_9, b_R1_0, b_R1_1, b_R1_2, b_R1_3, b_R1_4, b_R1_5, b_I1_6, b_R8_0, b_R8_1, b_R8_2, b_I8_3, b_vc0, b_vc1, b_vc8, b_a0, b_s0, b_a1, b_s1, b_a2, b_s2, b_a3, b_s3, b_a4, b_s4, b_a5, b_s5, b_a6, b_s6, b_a7, b_s7, b_a8, b_s8, b_a12, b_s12, b_p0_3, b_p0_4, b_p0_5, b_p0_6, b_p0_7, b_p0_8, b_p0_9, b_p1_6, b_p8_3, if_true, if_false, bnd, rt]
  by_cases a1 : y ≤ σ.1 9 3
  · simp only [a1, if_true, true_or]
  · by_cases a2 : 999 < y
    · simp only [a1, a2, if_true, if_false, true_or, or_true]
    · by_cases a3 : z < 0
      · simp only [a1, a2, a3, if_true, if_false, true_or, or_true]
      · by_cases a4 : z < 8
        · simp only [a1, a2, a3, a4, if_true, if_false, not_true, or_self, false_or]
          by_cases a5 : q < 12
          · have hp := fun ρ : Sg => e_put (μ := μ) (s := s) (σ := ρ) (x := nI d) (y := y) (z := z) a5
            simp only [a5, if_true, hp, rt, b_R0_0, b_R0_1, b_R0_2, b_J0_3, b_I0_4, b_I0_5, b_I0_6, b_I0_7, b_I0_8, b_I0_9, b_R1_0, b_R1_1, b_R1_2, b_R1_3, b_R1_4, b_R1_5, b_I1_6, b_R8_0, b_R8_1, b_R8_2, b_I8_3, b_vc0, b_vc1, b_vc8, b_a0, b_s0, b_a1, b_s1, b_a2, b_s2, b_a3, b_s3, b_a4, b_s4, b_a5, b_s5, b_a6, b_s6, b_a7, b_s7, b_a8, b_s8, b_a12, b_s12, b_p0_3, b_p0_4, b_p0_5, b_p0_6, b_p0_7, b_p0_8, b_p0_9, b_p1_6, b_p8_3, hs]
            simp [scd, sI2, upd, hq, nI_1]
          · simp only [a5, if_false]
        · simp only [a1, a2, a3, a4, if_true, if_false, not_false_iff, or_true]
/-! the tick's four walks over the drones -/
/-- the battery falls -/
def los (d : Nat) (w : Int32) (σ : Sg) : Sg := if σ.1 4 d = 0 then σ else sI2 σ 1 d (if 0 < σ.1 1 d - w then σ.1 1 d - w else 0)
/-- a drone's move -/
def mvd (n d : Nat) (σ : Sg) : Sg := if wis σ d = -1 then los d 1 σ else if fre σ n d = -1 then los d 1 (sI2 σ 9 5 (σ.1 9 5 + 1)) else los d 2 (sI2 (sI2 σ 0 d (fre σ n d)) 9 4 (σ.1 9 4 + 1))
theorem los_c {d : Nat} {w : Int32} {σ : Sg} : (los d w σ).1 9 = σ.1 9 := by
  unfold los
  split <;> rfl
theorem mvd_c {d : Nat} {σ : Sg} : (mvd n d σ).1 9 0 = σ.1 9 0 := by
  unfold mvd
  split
  · rw [los_c]
  · split
    · rw [los_c]; rfl
    · rw [los_c]; rfl
theorem l_mv (hs : 0 < s) (hn9 : n ≤ 10) : ∀ k f i (σ : Sg), σ.1 9 0 = nI n → i + k = n → k < f → FX4_moveDrones_L2 f s (nI i) (put μ s σ) = rt () (put μ s (fo (mvd n) i k σ)) := by
  intro k
  induction k with
  | zero =>
    intro f i σ hn hi hfuu
    obtain ⟨f, rfl⟩ : ∃ g, f = g + 1 := ⟨f - 1, by omega⟩
    have h1 : nI n ≤ nI i := by rw [show i = n by omega]; exact Int32.le_refl _
    simp only [FX4_moveDrones_L2, FX4_moveDrones_B2, FX4_moveDrones_B76, b_R0_0, b_R0_1, b_R0_2, b_J0_3, b_I0_4, b_I0_5, b_I0_6, b_I0_7, b_I0_8, b_I0_9, b_R1_0, b_R1_1, b_R1_2, b_R1_3, b_R1_4, b_R1_5, b_I1_6, b_R8_0, b_R8_1, b_R8_2, b_I8_3, b_vc0, b_vc1, b_vc8, b_a0, b_s0, b_a1, b_s1, b_a2, b_s2, b_a3, b_s3, b_a4, b_s4, b_a5, b_s5, b_a6, b_s6, b_a7, b_s7, b_a8, b_s8, b_a12, b_s12, b_p0_3, b_p0_4, b_p0_5, b_p0_6, b_p0_7, b_p0_8, b_p0_9, b_p1_6, b_p8_3, hn, hs, h1, if_true, bnd, rt]
    rfl
  | succ k ih =>
    intro f i σ hn hi hfuu
    obtain ⟨f, rfl⟩ : ∃ g, f = g + 1 := ⟨f - 1, by omega⟩
    have h1 : ¬ nI n ≤ nI i := nI_ge (by omega) (by omega)
    have h2_10 : inb (nI i) 10 = true := inb_n (by omega) (by omega)
    have h3 : (nI i).toNatClampNeg = i := nI_clamp (by omega)
    simp only [FX4_moveDrones_L2, FX4_moveDrones_B2, FX4_moveDrones_B76, b_R0_0, b_R0_1, b_R0_2, b_J0_3, b_I0_4, b_I0_5, b_I0_6, b_I0_7, b_I0_8, b_I0_9, b_R1_0, b_R1_1, b_R1_2, b_R1_3, b_R1_4, b_R1_5, b_I1_6, b_R8_0, b_R8_1, b_R8_2, b_I8_3, b_vc0, b_vc1, b_vc8, b_a0, b_s0, b_a1, b_s1, b_a2, b_s2, b_a3, b_s3, b_a4, b_s4, b_a5, b_s5, b_a6, b_s6, b_a7, b_s7, b_a8, b_s8, b_a12, b_s12, b_p0_3, b_p0_4, b_p0_5, b_p0_6, b_p0_7, b_p0_8, b_p0_9, b_p1_6, b_p8_3, hn, hs, e_wish (show i < 10 by omega), e_free (show i < 10 by omega) hn hn9, h1, h2_10, h3, nI_1, if_true, if_false, bnd, rt]
    simp only [fo]
    have h := ih f (i + 1) (mvd n i σ) (mvd_c.trans hn) (by omega) (by omega)
    refine Eq.trans ?_ h
    unfold mvd los
    by_cases a : wis σ i = -1
    · simp only [a, if_true]
      by_cases b : σ.1 4 i = 0
      · simp only [b, if_true]
      · simp only [b, if_false]
    · simp only [a, if_false]
      by_cases c : fre σ n i = -1
      · simp only [c, if_true]
        by_cases b : σ.1 4 i = 0
        · have b2 : (sI2 σ 9 5 (σ.1 9 5 + 1)).1 4 i = 0 := b
          simp only [b2, if_true]
        · have b2 : ¬ (sI2 σ 9 5 (σ.1 9 5 + 1)).1 4 i = 0 := b
          simp only [b2, if_false]
      · simp only [c, if_false]
        by_cases b : σ.1 4 i = 0
        · have b2 : (sI2 (sI2 σ 0 i (fre σ n i)) 9 4 (σ.1 9 4 + 1)).1 4 i = 0 := b
          have e2 : (sI2 σ 0 i (fre σ n i)).1 9 4 = σ.1 9 4 := rfl
          simp only [b2, e2, if_true]
        · have b2 : ¬ (sI2 (sI2 σ 0 i (fre σ n i)) 9 4 (σ.1 9 4 + 1)).1 4 i = 0 := b
          have e2 : (sI2 σ 0 i (fre σ n i)).1 9 4 = σ.1 9 4 := rfl
          simp only [b2, e2, if_false]
theorem e_mv {σ : Sg} (hs : 0 < s) (hn : σ.1 9 0 = nI n) (hn9 : n ≤ 10) : FX4_moveDrones s (put μ s σ) = rt () (put μ s (fo (mvd n) 0 n σ)) := l_mv hs hn9 n FU 0 σ hn (by omega) (by unfold FU; omega)
def fdn (σ : Sg) (d : Nat) : Sg := sI2 (grn σ d) 9 7 (σ.1 9 7 + 1)
theorem e_force {σ : Sg} {d : Nat} (hs : 0 < s) (hd : d < 10) : FX4_forceDown s (nI d) (put μ s σ) = rt () (put μ s (fdn σ d)) := by
  simp only [FX4_forceDown, b_R0_0, b_R0_1, b_R0_2, b_J0_3, b_I0_4, b_I0_5, b_I0_6, b_I0_7, b_I0_8, b_I0_9, b_R1_0, b_R1_1, b_R1_2, b_R1_3, b_R1_4, b_R1_5, b_I1_6, b_R8_0, b_R8_1, b_R8_2, b_I8_3, b_vc0, b_vc1, b_vc8, b_a0, b_s0, b_a1, b_s1, b_a2, b_s2, b_a3, b_s3, b_a4, b_s4, b_a5, b_s5, b_a6, b_s6, b_a7, b_s7, b_a8, b_s8, b_a12, b_s12, b_p0_3, b_p0_4, b_p0_5, b_p0_6, b_p0_7, b_p0_8, b_p0_9, b_p1_6, b_p8_3, hs, e_ground hd, bnd, rt]
  rfl
/-- the nearest pad so far, by all pads -/
def pbd (p : Int64) (x : Int32) (c : Nat) (b : Int32) : Int32 := if cnt p (nI c) = 0 then b else if b = -1 then nI c else if dst x b ≤ dst x (nI c) then b else nI c
theorem l_pbd {σ : Sg} {x : Int32} (hs : 0 < s) : ∀ k f i (b : Int32), i + k = 64 → k < f → FX4_padByDistance_L4 f s x b (nI i) (put μ s σ) = rt (fo (pbd σ.2.2 x) i k b) (put μ s σ) := by
  intro k
  induction k with
  | zero =>
    intro f i b  hi hfuu
    obtain ⟨f, rfl⟩ : ∃ g, f = g + 1 := ⟨f - 1, by omega⟩
    have h1 : (64 : Int32) ≤ nI i := by rw [show i = 64 by omega]; decide
    simp only [FX4_padByDistance_L4, FX4_padByDistance_B4, b_R0_0, b_R0_1, b_R0_2, b_J0_3, b_I0_4, b_I0_5, b_I0_6, b_I0_7, b_I0_8, b_I0_9, b_R1_0, b_R1_1, b_R1_2, b_R1_3, b_R1_4, b_R1_5, b_I1_6, b_R8_0, b_R8_1, b_R8_2, b_I8_3, b_vc0, b_vc1, b_vc8, b_a0, b_s0, b_a1, b_s1, b_a2, b_s2, b_a3, b_s3, b_a4, b_s4, b_a5, b_s5, b_a6, b_s6, b_a7, b_s7, b_a8, b_s8, b_a12, b_s12, b_p0_3, b_p0_4, b_p0_5, b_p0_6, b_p0_7, b_p0_8, b_p0_9, b_p1_6, b_p8_3, hs, h1, if_true, bnd, rt]
    rfl
  | succ k ih =>
    intro f i b  hi hfuu
    obtain ⟨f, rfl⟩ : ∃ g, f = g + 1 := ⟨f - 1, by omega⟩
    have h1 : ¬ (64 : Int32) ≤ nI i := fun h => absurd ((nI_leI (a := 64) (b := i) (by omega) (by omega)).mp h) (by omega)
    have h3 : (nI i).toNatClampNeg = i := nI_clamp (by omega)
    simp only [FX4_padByDistance_L4, FX4_padByDistance_B4, b_R0_0, b_R0_1, b_R0_2, b_J0_3, b_I0_4, b_I0_5, b_I0_6, b_I0_7, b_I0_8, b_I0_9, b_R1_0, b_R1_1, b_R1_2, b_R1_3, b_R1_4, b_R1_5, b_I1_6, b_R8_0, b_R8_1, b_R8_2, b_I8_3, b_vc0, b_vc1, b_vc8, b_a0, b_s0, b_a1, b_s1, b_a2, b_s2, b_a3, b_s3, b_a4, b_s4, b_a5, b_s5, b_a6, b_s6, b_a7, b_s7, b_a8, b_s8, b_a12, b_s12, b_p0_3, b_p0_4, b_p0_5, b_p0_6, b_p0_7, b_p0_8, b_p0_9, b_p1_6, b_p8_3, hs, e_contains, e_dst, h1, h3, nI_1, if_true, if_false, bnd, rt]
    simp only [fo, pbd]
    by_cases a : cnt σ.2.2 (nI i) = 0
    · simp only [a, if_true]
      exact ih _ _ _ (by omega) (by omega)
    · simp only [a, if_false]
      by_cases a2 : b = -1
      · simp only [a2, if_true]
        exact ih _ _ _ (by omega) (by omega)
      · simp only [a2, if_false]
        by_cases a3 : dst x b ≤ dst x (nI i)
        · simp only [a3, if_true]
          exact ih _ _ _ (by omega) (by omega)
        · simp only [a3, if_false]
          exact ih _ _ _ (by omega) (by omega)
def npd (p : Int64) (x : Int32) : Int32 := fo (pbd p x) 0 64 (-1)
theorem e_npd {σ : Sg} {x : Int32} (hs : 0 < s) : FX4_padByDistance s x (put μ s σ) = rt (npd σ.2.2 x) (put μ s σ) := l_pbd hs 64 FU 0 _ (by omega) (by unfold FU; omega)
/-- a drone's alarm -/
def alm (d : Nat) (σ : Sg) : Sg := if asg σ d = 0 then σ else if σ.1 9 2 < σ.1 1 d then σ else if npd σ.2.2 (σ.1 0 d) = -1 then fdn σ d else sI2 (sI2 (sI2 σ 5 d 1) 2 d (npd σ.2.2 (σ.1 0 d))) 9 6 (σ.1 9 6 + 1)
theorem alm_c {d : Nat} {σ : Sg} : (alm d σ).1 9 0 = σ.1 9 0 ∧ (alm d σ).2 = σ.2 := by
  unfold alm
  split
  · exact ⟨rfl, rfl⟩
  · split
    · exact ⟨rfl, rfl⟩
    · split <;> exact ⟨rfl, rfl⟩
theorem l_alm (hs : 0 < s) (hn9 : n ≤ 10) : ∀ k f i (σ : Sg), σ.1 9 0 = nI n → i + k = n → k < f → FX4_beginEmergencies_L2 f s (nI i) (put μ s σ) = rt () (put μ s (fo alm i k σ)) := by
  intro k
  induction k with
  | zero =>
    intro f i σ hn hi hfuu
    obtain ⟨f, rfl⟩ : ∃ g, f = g + 1 := ⟨f - 1, by omega⟩
    have h1 : nI n ≤ nI i := by rw [show i = n by omega]; exact Int32.le_refl _
    simp only [FX4_beginEmergencies_L2, FX4_beginEmergencies_B2, b_R0_0, b_R0_1, b_R0_2, b_J0_3, b_I0_4, b_I0_5, b_I0_6, b_I0_7, b_I0_8, b_I0_9, b_R1_0, b_R1_1, b_R1_2, b_R1_3, b_R1_4, b_R1_5, b_I1_6, b_R8_0, b_R8_1, b_R8_2, b_I8_3, b_vc0, b_vc1, b_vc8, b_a0, b_s0, b_a1, b_s1, b_a2, b_s2, b_a3, b_s3, b_a4, b_s4, b_a5, b_s5, b_a6, b_s6, b_a7, b_s7, b_a8, b_s8, b_a12, b_s12, b_p0_3, b_p0_4, b_p0_5, b_p0_6, b_p0_7, b_p0_8, b_p0_9, b_p1_6, b_p8_3, hn, hs, h1, if_true, bnd, rt]
    rfl
  | succ k ih =>
    intro f i σ hn hi hfuu
    obtain ⟨f, rfl⟩ : ∃ g, f = g + 1 := ⟨f - 1, by omega⟩
    have h1 : ¬ nI n ≤ nI i := nI_ge (by omega) (by omega)
    have h2_10 : inb (nI i) 10 = true := inb_n (by omega) (by omega)
    have h3 : (nI i).toNatClampNeg = i := nI_clamp (by omega)
    simp only [FX4_beginEmergencies_L2, FX4_beginEmergencies_B2, b_R0_0, b_R0_1, b_R0_2, b_J0_3, b_I0_4, b_I0_5, b_I0_6, b_I0_7, b_I0_8, b_I0_9, b_R1_0, b_R1_1, b_R1_2, b_R1_3, b_R1_4, b_R1_5, b_I1_6, b_R8_0, b_R8_1, b_R8_2, b_I8_3, b_vc0, b_vc1, b_vc8, b_a0, b_s0, b_a1, b_s1, b_a2, b_s2, b_a3, b_s3, b_a4, b_s4, b_a5, b_s5, b_a6, b_s6, b_a7, b_s7, b_a8, b_s8, b_a12, b_s12, b_p0_3, b_p0_4, b_p0_5, b_p0_6, b_p0_7, b_p0_8, b_p0_9, b_p1_6, b_p8_3, hn, hs, e_isAss (show i < 10 by omega), e_npd hs, e_force hs (show i < 10 by omega), nar1, h1, h2_10, h3, nI_1, if_true, if_false, bnd, rt]
    simp only [fo]
    have h := ih f (i + 1) (alm i σ) (alm_c.1.trans hn) (by omega) (by omega)
    refine Eq.trans ?_ h
    unfold alm
    by_cases a : asg σ i = 0
    · simp only [a, if_true]
    · simp only [a, if_false]
      by_cases b : σ.1 9 2 < σ.1 1 i
      · simp only [b, if_true]
      · simp only [b, if_false]
        by_cases c : npd σ.2.2 (σ.1 0 i) = -1
        · simp only [c, if_true]
        · simp only [c, if_false]
          rfl
theorem e_alm {σ : Sg} (hs : 0 < s) (hn : σ.1 9 0 = nI n) (hn9 : n ≤ 10) : FX4_beginEmergencies s (put μ s σ) = rt () (put μ s (fo alm 0 n σ)) := l_alm hs hn9 n FU 0 σ hn (by omega) (by unfold FU; omega)
/-- a drone's end of flight -/
def enf0 (d : Nat) (σ : Sg) : Sg := if σ.1 4 d = 0 then σ else if σ.1 1 d = 0 then fdn σ d else σ
def enf (d : Nat) (σ : Sg) : Sg := if σ.1 5 d = 0 then enf0 d σ else if σ.1 0 d = σ.1 2 d then grn σ d else enf0 d σ
theorem enf_c {d : Nat} {σ : Sg} : (enf d σ).1 9 0 = σ.1 9 0 ∧ (enf d σ).2 = σ.2 := by
  unfold enf enf0
  split
  · split
    · exact ⟨rfl, rfl⟩
    · split <;> exact ⟨rfl, rfl⟩
  · split
    · exact ⟨rfl, rfl⟩
    · split
      · exact ⟨rfl, rfl⟩
      · split <;> exact ⟨rfl, rfl⟩
theorem l_enf (hs : 0 < s) (hn9 : n ≤ 10) : ∀ k f i (σ : Sg), σ.1 9 0 = nI n → i + k = n → k < f → FX4_endFlights_L2 f s (nI i) (put μ s σ) = rt () (put μ s (fo enf i k σ)) := by
  intro k
  induction k with
  | zero =>
    intro f i σ hn hi hfuu
    obtain ⟨f, rfl⟩ : ∃ g, f = g + 1 := ⟨f - 1, by omega⟩
    have h1 : nI n ≤ nI i := by rw [show i = n by omega]; exact Int32.le_refl _
    simp only [FX4_endFlights_L2, FX4_endFlights_B2, FX4_endFlights_B57, b_R0_0, b_R0_1, b_R0_2, b_J0_3, b_I0_4, b_I0_5, b_I0_6, b_I0_7, b_I0_8, b_I0_9, b_R1_0, b_R1_1, b_R1_2, b_R1_3, b_R1_4, b_R1_5, b_I1_6, b_R8_0, b_R8_1, b_R8_2, b_I8_3, b_vc0, b_vc1, b_vc8, b_a0, b_s0, b_a1, b_s1, b_a2, b_s2, b_a3, b_s3, b_a4, b_s4, b_a5, b_s5, b_a6, b_s6, b_a7, b_s7, b_a8, b_s8, b_a12, b_s12, b_p0_3, b_p0_4, b_p0_5, b_p0_6, b_p0_7, b_p0_8, b_p0_9, b_p1_6, b_p8_3, hn, hs, h1, if_true, bnd, rt]
    rfl
  | succ k ih =>
    intro f i σ hn hi hfuu
    obtain ⟨f, rfl⟩ : ∃ g, f = g + 1 := ⟨f - 1, by omega⟩
    have h1 : ¬ nI n ≤ nI i := nI_ge (by omega) (by omega)
    have h2_10 : inb (nI i) 10 = true := inb_n (by omega) (by omega)
    have h3 : (nI i).toNatClampNeg = i := nI_clamp (by omega)
    simp only [FX4_endFlights_L2, FX4_endFlights_B2, FX4_endFlights_B57, b_R0_0, b_R0_1, b_R0_2, b_J0_3, b_I0_4, b_I0_5, b_I0_6, b_I0_7, b_I0_8, b_I0_9, b_R1_0, b_R1_1, b_R1_2, b_R1_3, b_R1_4, b_R1_5, b_I1_6, b_R8_0, b_R8_1, b_R8_2, b_I8_3, b_vc0, b_vc1, b_vc8, b_a0, b_s0, b_a1, b_s1, b_a2, b_s2, b_a3, b_s3, b_a4, b_s4, b_a5, b_s5, b_a6, b_s6, b_a7, b_s7, b_a8, b_s8, b_a12, b_s12, b_p0_3, b_p0_4, b_p0_5, b_p0_6, b_p0_7, b_p0_8, b_p0_9, b_p1_6, b_p8_3, hn, hs, e_ground (show i < 10 by omega), e_force hs (show i < 10 by omega), h1, h2_10, h3, nI_1, if_true, if_false, bnd, rt]
    simp only [fo]
    have h := ih f (i + 1) (enf i σ) (enf_c.1.trans hn) (by omega) (by omega)
    refine Eq.trans ?_ h
    unfold enf enf0
    by_cases a : σ.1 5 i = 0 <;> by_cases b : σ.1 0 i = σ.1 2 i <;> by_cases c : σ.1 4 i = 0 <;> by_cases e : σ.1 1 i = 0 <;> simp only [a, b, c, e, if_true, if_false]
theorem e_enf {σ : Sg} (hs : 0 < s) (hn : σ.1 9 0 = nI n) (hn9 : n ≤ 10) : FX4_endFlights s (put μ s σ) = rt () (put μ s (fo enf 0 n σ)) := l_enf hs hn9 n FU 0 σ hn (by omega) (by unfold FU; omega)
/-- a drone's charge -/
def chg (d : Nat) (σ : Sg) : Sg := if σ.1 4 d = 0 then (if cnt σ.2.2 (σ.1 0 d) = 0 then σ else sI2 σ 1 d (if σ.1 1 d + 5 < 100 then σ.1 1 d + 5 else 100)) else σ
theorem chg_c {d : Nat} {σ : Sg} : (chg d σ).1 9 = σ.1 9 ∧ (chg d σ).2 = σ.2 := by
  unfold chg
  split
  · split <;> exact ⟨rfl, rfl⟩
  · exact ⟨rfl, rfl⟩
theorem l_chg (hs : 0 < s) (hn9 : n ≤ 10) : ∀ k f i (σ : Sg), σ.1 9 0 = nI n → i + k = n → k < f → FX4_chargeDrones_L2 f s (nI i) (put μ s σ) = rt () (put μ s (fo chg i k σ)) := by
  intro k
  induction k with
  | zero =>
    intro f i σ hn hi hfuu
    obtain ⟨f, rfl⟩ : ∃ g, f = g + 1 := ⟨f - 1, by omega⟩
    have h1 : nI n ≤ nI i := by rw [show i = n by omega]; exact Int32.le_refl _
    simp only [FX4_chargeDrones_L2, FX4_chargeDrones_B2, b_R0_0, b_R0_1, b_R0_2, b_J0_3, b_I0_4, b_I0_5, b_I0_6, b_I0_7, b_I0_8, b_I0_9, b_R1_0, b_R1_1, b_R1_2, b_R1_3, b_R1_4, b_R1_5, b_I1_6, b_R8_0, b_R8_1, b_R8_2, b_I8_3, b_vc0, b_vc1, b_vc8, b_a0, b_s0, b_a1, b_s1, b_a2, b_s2, b_a3, b_s3, b_a4, b_s4, b_a5, b_s5, b_a6, b_s6, b_a7, b_s7, b_a8, b_s8, b_a12, b_s12, b_p0_3, b_p0_4, b_p0_5, b_p0_6, b_p0_7, b_p0_8, b_p0_9, b_p1_6, b_p8_3, hn, hs, h1, if_true, bnd, rt]
    rfl
  | succ k ih =>
    intro f i σ hn hi hfuu
    obtain ⟨f, rfl⟩ : ∃ g, f = g + 1 := ⟨f - 1, by omega⟩
    have h1 : ¬ nI n ≤ nI i := nI_ge (by omega) (by omega)
    have h2_10 : inb (nI i) 10 = true := inb_n (by omega) (by omega)
    have h3 : (nI i).toNatClampNeg = i := nI_clamp (by omega)
    simp only [FX4_chargeDrones_L2, FX4_chargeDrones_B2, b_R0_0, b_R0_1, b_R0_2, b_J0_3, b_I0_4, b_I0_5, b_I0_6, b_I0_7, b_I0_8, b_I0_9, b_R1_0, b_R1_1, b_R1_2, b_R1_3, b_R1_4, b_R1_5, b_I1_6, b_R8_0, b_R8_1, b_R8_2, b_I8_3, b_vc0, b_vc1, b_vc8, b_a0, b_s0, b_a1, b_s1, b_a2, b_s2, b_a3, b_s3, b_a4, b_s4, b_a5, b_s5, b_a6, b_s6, b_a7, b_s7, b_a8, b_s8, b_a12, b_s12, b_p0_3, b_p0_4, b_p0_5, b_p0_6, b_p0_7, b_p0_8, b_p0_9, b_p1_6, b_p8_3, hn, hs, e_contains, h1, h2_10, h3, nI_1, if_true, if_false, bnd, rt]
    simp only [fo]
    have h := ih f (i + 1) (chg i σ) ((congrFun chg_c.1 0).trans hn) (by omega) (by omega)
    refine Eq.trans ?_ h
    unfold chg
    by_cases a : σ.1 4 i = 0
    · simp only [a, if_true]
      by_cases b : cnt σ.2.2 (σ.1 0 i) = 0
      · simp only [b, if_true]
      · simp only [b, if_false]
    · simp only [a, if_false]
theorem e_chg {σ : Sg} (hs : 0 < s) (hn : σ.1 9 0 = nI n) (hn9 : n ≤ 10) : FX4_chargeDrones s (put μ s σ) = rt () (put μ s (fo chg 0 n σ)) := l_chg hs hn9 n FU 0 σ hn (by omega) (by unfold FU; omega)
end TK2
