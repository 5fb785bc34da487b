/-! ===== the scene's operations ===== -/
def bcn (p : Int64) : Int32 := match FJ13_bitCount_95d88 p (fun _ => none) with
  | some (.inl r, _) => r
  | _ => 0
theorem e_bit (p : Int64) (μ : Me) : FJ13_bitCount_95d88 p μ = rt (bcn p) μ := rfl
theorem isC_in {i : Nat} (h : i < 64) : isC (nI i) = 1 := by
  unfold isC
  rw [if_neg (nI_pos (by omega)), if_neg (show ¬ (64 : Int32) ≤ nI i from nI_ge (a := i) (b := 64) h (by omega))]
theorem isC_out {x : Int32} (h : x < 0 ∨ nI 64 ≤ x) : isC x = 0 := by
  unfold isC
  split
  · rfl
  · rename_i h1
    rw [if_pos (show (64 : Int32) ≤ x from h.resolve_left h1)]
theorem isF_in {i : Nat} (h : i < 4) : isF (nI i) = 1 := by
  unfold isF
  rw [if_neg (nI_pos (by omega)), if_neg (show ¬ (4 : Int32) ≤ nI i from nI_ge (a := i) (b := 4) h (by omega))]
theorem isF_out {x : Int32} (h : x < 0 ∨ nI 4 ≤ x) : isF x = 0 := by
  unfold isF
  split
  · rfl
  · rename_i h1
    rw [if_pos (show (4 : Int32) ≤ x from h.resolve_left h1)]
/-- an int is below 0, or n at least, or a number below n -/
theorem in_or {x : Int32} {n : Nat} (hn : n < 2 ^ 31) : (x < 0 ∨ nI n ≤ x) ∨ ∃ d, d < n ∧ x = nI d := by
  by_cases h : x < 0
  · exact Or.inl (Or.inl h)
  · obtain ⟨j, hj, rfl⟩ := nI_of h
    by_cases h2 : n ≤ j
    · exact Or.inl (Or.inr (nI_le h2 hj))
    · exact Or.inr ⟨j, by omega, rfl⟩
section OP
variable {μ : Me} {s : Nat} {σ : Sg} {n : Nat}
def flc (σ : Sg) (n : Nat) : Int32 := fo (fun d a => if σ.1 4 d = 0 then a else a + 1) 0 n 0
def ocp (σ : Sg) (n : Nat) (x : Int32) : Int32 := ffi (fun d => σ.1 0 d = x) 0 n
theorem has_in {d : Nat} (h : d < n) (hn9 : n ≤ 10) : (if nI d < 0 then (0 : Int32) else if nI n ≤ nI d then 0 else 1) = 1 := by
  rw [if_neg (nI_pos (by omega)), if_neg (nI_ge h (by omega))]
theorem has_out {x : Int32} (h : x < 0 ∨ nI n ≤ x) : (if x < 0 then (0 : Int32) else if nI n ≤ x then 0 else 1) = 0 := by
  split
  · rfl
  · rename_i h1
    rw [if_pos (h.resolve_left h1)]
theorem one_ne : ¬ (1 : Int32) = 0 := by decide
theorem e_lift_out {x : Int32} (hs : 0 < s) (hn : σ.1 9 0 = nI n) (h : x < 0 ∨ nI n ≤ x) : FX4_lift s x (put μ s σ) = rt (-1) (put μ s σ) := by
  simp only [FX4_lift, hs, e_has hn, has_out h, b_R0_0, b_R0_1, b_R0_2, b_J0_3, b_I0_4, b_I0_5, b_I0_6, b_I0_7, b_I0_8, b_I0_9, b_R1_0, b_R1_1, b_R1_2, b_R1_3, b_R1_4, b_R1_5, b_I1_6, b_R8_0, b_R8_1, b_R8_2, b_I8_3, b_vc0, b_vc1, b_vc8, b_a0, b_s0, b_a1, b_s1, b_a2, b_s2, b_a3, b_s3, b_a4, b_s4, b_a5, b_s5, b_a6, b_s6, b_a7, b_s7, b_a8, b_s8, b_a12, b_s12, b_p0_3, b_p0_4, b_p0_5, b_p0_6, b_p0_7, b_p0_8, b_p0_9, b_p1_6, b_p8_3, if_true, if_false, bnd, rt]
theorem e_lift {d : Nat} (hs : 0 < s) (hd : d < n) (hn : σ.1 9 0 = nI n) (hn9 : n ≤ 10) : FX4_lift s (nI d) (put μ s σ) = if σ.1 4 d = 0 then (if σ.1 9 2 < σ.1 1 d then rt (flc (sI2 σ 4 d 1) n) (put μ s (sI2 σ 4 d 1)) else rt (-4) (put μ s σ)) else rt (-3) (put μ s σ) := by
  have h2 : inb (nI d) 10 = true := inb_n (by omega) (by omega)
  have h3 : (nI d).toNatClampNeg = d := nI_clamp (by omega)
  simp only [FX4_lift, hs, e_has hn, has_in hd hn9, h2, h3, one_ne, nar1, e_flyingCount (σ := sI2 σ 4 d 1) hn hn9, flc, b_R0_0, b_R0_1, b_R0_2, b_J0_3, b_I0_4, b_I0_5, b_I0_6, b_I0_7, b_I0_8, b_I0_9, b_R1_0, b_R1_1, b_R1_2, b_R1_3, b_R1_4, b_R1_5, b_I1_6, b_R8_0, b_R8_1, b_R8_2, b_I8_3, b_vc0, b_vc1, b_vc8, b_a0, b_s0, b_a1, b_s1, b_a2, b_s2, b_a3, b_s3, b_a4, b_s4, b_a5, b_s5, b_a6, b_s6, b_a7, b_s7, b_a8, b_s8, b_a12, b_s12, b_p0_3, b_p0_4, b_p0_5, b_p0_6, b_p0_7, b_p0_8, b_p0_9, b_p1_6, b_p8_3, if_true, if_false, bnd, rt]
theorem e_setDown_out {x : Int32} (hs : 0 < s) (hn : σ.1 9 0 = nI n) (h : x < 0 ∨ nI n ≤ x) : FX4_setDown s x (put μ s σ) = rt (-1) (put μ s σ) := by
  simp only [FX4_setDown, hs, e_has hn, has_out h, b_R0_0, b_R0_1, b_R0_2, b_J0_3, b_I0_4, b_I0_5, b_I0_6, b_I0_7, b_I0_8, b_I0_9, b_R1_0, b_R1_1, b_R1_2, b_R1_3, b_R1_4, b_R1_5, b_I1_6, b_R8_0, b_R8_1, b_R8_2, b_I8_3, b_vc0, b_vc1, b_vc8, b_a0, b_s0, b_a1, b_s1, b_a2, b_s2, b_a3, b_s3, b_a4, b_s4, b_a5, b_s5, b_a6, b_s6, b_a7, b_s7, b_a8, b_s8, b_a12, b_s12, b_p0_3, b_p0_4, b_p0_5, b_p0_6, b_p0_7, b_p0_8, b_p0_9, b_p1_6, b_p8_3, if_true, if_false, bnd, rt]
theorem e_setDown {d : Nat} (hs : 0 < s) (hd : d < n) (hn : σ.1 9 0 = nI n) (hn9 : n ≤ 10) : FX4_setDown s (nI d) (put μ s σ) = if σ.1 4 d = 0 then rt (-3) (put μ s σ) else if cnt σ.2.2 (σ.1 0 d) = 0 then rt (-4) (put μ s σ) else rt (flc (grn σ d) n) (put μ s (grn σ d)) := by
  have h2 : inb (nI d) 10 = true := inb_n (by omega) (by omega)
  have h3 : (nI d).toNatClampNeg = d := nI_clamp (by omega)
  simp only [FX4_setDown, hs, e_has hn, has_in hd hn9, h2, h3, one_ne, nar1, e_contains, e_ground (show d < 10 by omega), e_flyingCount (σ := grn σ d) hn hn9, flc, b_R0_0, b_R0_1, b_R0_2, b_J0_3, b_I0_4, b_I0_5, b_I0_6, b_I0_7, b_I0_8, b_I0_9, b_R1_0, b_R1_1, b_R1_2, b_R1_3, b_R1_4, b_R1_5, b_I1_6, b_R8_0, b_R8_1, b_R8_2, b_I8_3, b_vc0, b_vc1, b_vc8, b_a0, b_s0, b_a1, b_s1, b_a2, b_s2, b_a3, b_s3, b_a4, b_s4, b_a5, b_s5, b_a6, b_s6, b_a7, b_s7, b_a8, b_s8, b_a12, b_s12, b_p0_3, b_p0_4, b_p0_5, b_p0_6, b_p0_7, b_p0_8, b_p0_9, b_p1_6, b_p8_3, if_true, if_false, bnd, rt]
theorem e_aim_out1 {x y : Int32} (hs : 0 < s) (hn : σ.1 9 0 = nI n) (h : x < 0 ∨ nI n ≤ x) : FX4_aim s x y (put μ s σ) = rt (-1) (put μ s σ) := by
  simp only [FX4_aim, hs, e_has hn, has_out h, b_R0_0, b_R0_1, b_R0_2, b_J0_3, b_I0_4, b_I0_5, b_I0_6, b_I0_7, b_I0_8, b_I0_9, b_R1_0, b_R1_1, b_R1_2, b_R1_3, b_R1_4, b_R1_5, b_I1_6, b_R8_0, b_R8_1, b_R8_2, b_I8_3, b_vc0, b_vc1, b_vc8, b_a0, b_s0, b_a1, b_s1, b_a2, b_s2, b_a3, b_s3, b_a4, b_s4, b_a5, b_s5, b_a6, b_s6, b_a7, b_s7, b_a8, b_s8, b_a12, b_s12, b_p0_3, b_p0_4, b_p0_5, b_p0_6, b_p0_7, b_p0_8, b_p0_9, b_p1_6, b_p8_3, if_true, if_false, bnd, rt]
theorem e_aim_out2 {d : Nat} {y : Int32} (hs : 0 < s) (hd : d < n) (hn : σ.1 9 0 = nI n) (hn9 : n ≤ 10) (h : y < 0 ∨ nI 64 ≤ y) : FX4_aim s (nI d) y (put μ s σ) = rt (-1) (put μ s σ) := by
  simp only [FX4_aim, hs, e_has hn, has_in hd hn9, one_ne, e_isCell, isC_out h, b_R0_0, b_R0_1, b_R0_2, b_J0_3, b_I0_4, b_I0_5, b_I0_6, b_I0_7, b_I0_8, b_I0_9, b_R1_0, b_R1_1, b_R1_2, b_R1_3, b_R1_4, b_R1_5, b_I1_6, b_R8_0, b_R8_1, b_R8_2, b_I8_3, b_vc0, b_vc1, b_vc8, b_a0, b_s0, b_a1, b_s1, b_a2, b_s2, b_a3, b_s3, b_a4, b_s4, b_a5, b_s5, b_a6, b_s6, b_a7, b_s7, b_a8, b_s8, b_a12, b_s12, b_p0_3, b_p0_4, b_p0_5, b_p0_6, b_p0_7, b_p0_8, b_p0_9, b_p1_6, b_p8_3, if_true, if_false, bnd, rt]
theorem e_aim {d c : Nat} (hs : 0 < s) (hd : d < n) (hc : c < 64) (hn : σ.1 9 0 = nI n) (hn9 : n ≤ 10) : FX4_aim s (nI d) (nI c) (put μ s σ) = if σ.1 4 d = 0 then rt (-3) (put μ s σ) else if σ.1 5 d = 0 then rt (dst (σ.1 0 d) (nI c)) (put μ s (sI2 σ 2 d (nI c))) else rt (-3) (put μ s σ) := by
  have h2 : inb (nI d) 10 = true := inb_n (by omega) (by omega)
  have h3 : (nI d).toNatClampNeg = d := nI_clamp (by omega)
  simp only [FX4_aim, hs, e_has hn, has_in hd hn9, h2, h3, one_ne, e_isCell, isC_in hc, e_dst, b_R0_0, b_R0_1, b_R0_2, b_J0_3, b_I0_4, b_I0_5, b_I0_6, b_I0_7, b_I0_8, b_I0_9, b_R1_0, b_R1_1, b_R1_2, b_R1_3, b_R1_4, b_R1_5, b_I1_6, b_R8_0, b_R8_1, b_R8_2, b_I8_3, b_vc0, b_vc1, b_vc8, b_a0, b_s0, b_a1, b_s1, b_a2, b_s2, b_a3, b_s3, b_a4, b_s4, b_a5, b_s5, b_a6, b_s6, b_a7, b_s7, b_a8, b_s8, b_a12, b_s12, b_p0_3, b_p0_4, b_p0_5, b_p0_6, b_p0_7, b_p0_8, b_p0_9, b_p1_6, b_p8_3, if_true, if_false, bnd, rt]
  by_cases a : σ.1 4 d = 0 <;> by_cases b : σ.1 5 d = 0 <;> simp only [a, b, if_true, if_false] <;> simp [sI2]
theorem e_reserve {x : Int32} (hs : 0 < s) : FX4_changeReserve s x (put μ s σ) = if x < 5 then rt (-2) (put μ s σ) else if x ≤ 30 then rt (σ.1 9 2) (put μ s (sI2 σ 9 2 x)) else rt (-2) (put μ s σ) := by
  simp only [FX4_changeReserve, hs, b_R0_0, b_R0_1, b_R0_2, b_J0_3, b_I0_4, b_I0_5, b_I0_6, b_I0_7, b_I0_8, b_I0_9, b_R1_0, b_R1_1, b_R1_2, b_R1_3, b_R1_4, b_R1_5, b_I1_6, b_R8_0, b_R8_1, b_R8_2, b_I8_3, b_vc0, b_vc1, b_vc8, b_a0, b_s0, b_a1, b_s1, b_a2, b_s2, b_a3, b_s3, b_a4, b_s4, b_a5, b_s5, b_a6, b_s6, b_a7, b_s7, b_a8, b_s8, b_a12, b_s12, b_p0_3, b_p0_4, b_p0_5, b_p0_6, b_p0_7, b_p0_8, b_p0_9, b_p1_6, b_p8_3, if_true, if_false, bnd, rt]
theorem e_enlist_out {x : Int32} (h : x < 0 ∨ nI 64 ≤ x) : FX4_enlist s x (put μ s σ) = rt (-1) (put μ s σ) := by
  simp only [FX4_enlist, e_isCell, isC_out h, b_R0_0, b_R0_1, b_R0_2, b_J0_3, b_I0_4, b_I0_5, b_I0_6, b_I0_7, b_I0_8, b_I0_9, b_R1_0, b_R1_1, b_R1_2, b_R1_3, b_R1_4, b_R1_5, b_I1_6, b_R8_0, b_R8_1, b_R8_2, b_I8_3, b_vc0, b_vc1, b_vc8, b_a0, b_s0, b_a1, b_s1, b_a2, b_s2, b_a3, b_s3, b_a4, b_s4, b_a5, b_s5, b_a6, b_s6, b_a7, b_s7, b_a8, b_s8, b_a12, b_s12, b_p0_3, b_p0_4, b_p0_5, b_p0_6, b_p0_7, b_p0_8, b_p0_9, b_p1_6, b_p8_3, if_true, if_false, bnd, rt]
/-- a drone more -/
def enl (σ : Sg) (n : Nat) (c : Int32) : Sg := sI2 (grn (sI2 (sI2 (sI2 σ 0 n c) 1 n 100) 3 n 0) n) 9 0 (nI (n + 1))
theorem enl_c {c : Int32} : (grn (sI2 (sI2 (sI2 σ 0 n c) 1 n 100) 3 n 0) n).1 9 0 = σ.1 9 0 := rfl
theorem e_enlist {c : Nat} (hs : 0 < s) (hc : c < 64) (hn : σ.1 9 0 = nI n) (hn9 : n ≤ 10) : FX4_enlist s (nI c) (put μ s σ) = if n < 10 then (if ocp σ n (nI c) = -1 then rt (nI n) (put μ s (enl σ n (nI c))) else rt (-4) (put μ s σ)) else rt (-3) (put μ s σ) := by
  have hlt : nI n < 10 ↔ n < 10 := nI_ltI (a := n) (b := 10) (by omega) (by omega)
  simp only [FX4_enlist, hs, e_isCell, isC_in hc, one_ne, e_occ hn hn9, hn, hlt, ocp, b_R0_0, b_R0_1, b_R0_2, b_J0_3, b_I0_4, b_I0_5, b_I0_6, b_I0_7, b_I0_8, b_I0_9, b_R1_0, b_R1_1, b_R1_2, b_R1_3, b_R1_4, b_R1_5, b_I1_6, b_R8_0, b_R8_1, b_R8_2, b_I8_3, b_vc0, b_vc1, b_vc8, b_a0, b_s0, b_a1, b_s1, b_a2, b_s2, b_a3, b_s3, b_a4, b_s4, b_a5, b_s5, b_a6, b_s6, b_a7, b_s7, b_a8, b_s8, b_a12, b_s12, b_p0_3, b_p0_4, b_p0_5, b_p0_6, b_p0_7, b_p0_8, b_p0_9, b_p1_6, b_p8_3, if_true, if_false, bnd, rt]
  by_cases a : n < 10
  · have h2 : inb (nI n) 10 = true := inb_n a (by omega)
    have h3 : (nI n).toNatClampNeg = n := nI_clamp (by omega)
    have h4 : ∀ ρ : Sg, FX2_ground (s + 1) (nI n) (put μ s ρ) = rt () (put μ s (grn ρ n)) := fun ρ => e_ground a
    by_cases b : ffi (fun d => σ.1 0 d = nI c) 0 n = -1
    · simp only [a, b, h2, h3, if_true, h4, bnd, rt, b_R0_0, b_R0_1, b_R0_2, b_J0_3, b_I0_4, b_I0_5, b_I0_6, b_I0_7, b_I0_8, b_I0_9, b_R1_0, b_R1_1, b_R1_2, b_R1_3, b_R1_4, b_R1_5, b_I1_6, b_R8_0, b_R8_1, b_R8_2, b_I8_3, b_vc0, b_vc1, b_vc8, b_a0, b_s0, b_a1, b_s1, b_a2, b_s2, b_a3, b_s3, b_a4, b_s4, b_a5, b_s5, b_a6, b_s6, b_a7, b_s7, b_a8, b_s8, b_a12, b_s12, b_p0_3, b_p0_4, b_p0_5, b_p0_6, b_p0_7, b_p0_8, b_p0_9, b_p1_6, b_p8_3, hs, enl_c, hn, nI_1, enl]
    · simp only [a, b, if_true, if_false]
  · simp only [a, if_false]
theorem e_markPad_out {x : Int32} (h : x < 0 ∨ nI 64 ≤ x) : FX4_markPad s x (put μ s σ) = rt (-1) (put μ s σ) := by
  simp only [FX4_markPad, e_isCell, isC_out h, b_R0_0, b_R0_1, b_R0_2, b_J0_3, b_I0_4, b_I0_5, b_I0_6, b_I0_7, b_I0_8, b_I0_9, b_R1_0, b_R1_1, b_R1_2, b_R1_3, b_R1_4, b_R1_5, b_I1_6, b_R8_0, b_R8_1, b_R8_2, b_I8_3, b_vc0, b_vc1, b_vc8, b_a0, b_s0, b_a1, b_s1, b_a2, b_s2, b_a3, b_s3, b_a4, b_s4, b_a5, b_s5, b_a6, b_s6, b_a7, b_s7, b_a8, b_s8, b_a12, b_s12, b_p0_3, b_p0_4, b_p0_5, b_p0_6, b_p0_7, b_p0_8, b_p0_9, b_p1_6, b_p8_3, if_true, if_false, bnd, rt]
def bit1 (c : Int32) : Int64 := (1 : Int64) <<< ((c : Int32).toInt64 &&& 63)
theorem e_markPad {c : Nat} (hs : 0 < s) (hc : c < 64) : FX4_markPad s (nI c) (put μ s σ) = if cnt σ.2.2 (nI c) = 0 then (if bcn σ.2.2 < 4 then rt (bcn (σ.2.2 ||| bit1 (nI c))) (put μ s (sP2 σ (σ.2.2 ||| bit1 (nI c)))) else rt (-3) (put μ s σ)) else rt (-2) (put μ s σ) := by
  simp only [FX4_markPad, hs, e_isCell, isC_in hc, one_ne, e_contains, e_bit, bit1, b_R0_0, b_R0_1, b_R0_2, b_J0_3, b_I0_4, b_I0_5, b_I0_6, b_I0_7, b_I0_8, b_I0_9, b_R1_0, b_R1_1, b_R1_2, b_R1_3, b_R1_4, b_R1_5, b_I1_6, b_R8_0, b_R8_1, b_R8_2, b_I8_3, b_vc0, b_vc1, b_vc8, b_a0, b_s0, b_a1, b_s1, b_a2, b_s2, b_a3, b_s3, b_a4, b_s4, b_a5, b_s5, b_a6, b_s6, b_a7, b_s7, b_a8, b_s8, b_a12, b_s12, b_p0_3, b_p0_4, b_p0_5, b_p0_6, b_p0_7, b_p0_8, b_p0_9, b_p1_6, b_p8_3, if_true, if_false, bnd, rt]
  rfl
theorem e_extend_out1 {x y : Int32} (h : x < 0 ∨ nI 4 ≤ x) : FX4_extend s x y (put μ s σ) = rt (-1) (put μ s σ) := by
  simp only [FX4_extend, e_isForm, isF_out h, b_R0_0, b_R0_1, b_R0_2, b_J0_3, b_I0_4, b_I0_5, b_I0_6, b_I0_7, b_I0_8, b_I0_9, b_R1_0, b_R1_1, b_R1_2, b_R1_3, b_R1_4, b_R1_5, b_I1_6, b_R8_0, b_R8_1, b_R8_2, b_I8_3, b_vc0, b_vc1, b_vc8, b_a0, b_s0, b_a1, b_s1, b_a2, b_s2, b_a3, b_s3, b_a4, b_s4, b_a5, b_s5, b_a6, b_s6, b_a7, b_s7, b_a8, b_s8, b_a12, b_s12, b_p0_3, b_p0_4, b_p0_5, b_p0_6, b_p0_7, b_p0_8, b_p0_9, b_p1_6, b_p8_3, if_true, if_false, bnd, rt]
theorem e_extend_out2 {f : Nat} {y : Int32} (hf : f < 4) (h : y < 0 ∨ nI 64 ≤ y) : FX4_extend s (nI f) y (put μ s σ) = rt (-1) (put μ s σ) := by
  simp only [FX4_extend, e_isForm, isF_in hf, e_isCell, isC_out h, one_ne, b_R0_0, b_R0_1, b_R0_2, b_J0_3, b_I0_4, b_I0_5, b_I0_6, b_I0_7, b_I0_8, b_I0_9, b_R1_0, b_R1_1, b_R1_2, b_R1_3, b_R1_4, b_R1_5, b_I1_6, b_R8_0, b_R8_1, b_R8_2, b_I8_3, b_vc0, b_vc1, b_vc8, b_a0, b_s0, b_a1, b_s1, b_a2, b_s2, b_a3, b_s3, b_a4, b_s4, b_a5, b_s5, b_a6, b_s6, b_a7, b_s7, b_a8, b_s8, b_a12, b_s12, b_p0_3, b_p0_4, b_p0_5, b_p0_6, b_p0_7, b_p0_8, b_p0_9, b_p1_6, b_p8_3, if_true, if_false, bnd, rt]
theorem e_extend {f c : Nat} (hs : 0 < s) (hf : f < 4) (hc : c < 64) : FX4_extend s (nI f) (nI c) (put μ s σ) = if cnt (σ.2.1 f) (nI c) = 0 then (if bcn (σ.2.1 f) < 10 then rt (bcn (σ.2.1 f ||| bit1 (nI c))) (put μ s (sF2 σ f (σ.2.1 f ||| bit1 (nI c)))) else rt (-3) (put μ s σ)) else rt (-2) (put μ s σ) := by
  have h2 : inb (nI f) 4 = true := inb_n (by omega) (by omega)
  have h3 : (nI f).toNatClampNeg = f := nI_clamp (by omega)
  simp only [FX4_extend, hs, e_isForm, isF_in hf, e_isCell, isC_in hc, one_ne, e_contains, e_bit, bit1, h2, h3, b_R0_0, b_R0_1, b_R0_2, b_J0_3, b_I0_4, b_I0_5, b_I0_6, b_I0_7, b_I0_8, b_I0_9, b_R1_0, b_R1_1, b_R1_2, b_R1_3, b_R1_4, b_R1_5, b_I1_6, b_R8_0, b_R8_1, b_R8_2, b_I8_3, b_vc0, b_vc1, b_vc8, b_a0, b_s0, b_a1, b_s1, b_a2, b_s2, b_a3, b_s3, b_a4, b_s4, b_a5, b_s5, b_a6, b_s6, b_a7, b_s7, b_a8, b_s8, b_a12, b_s12, b_p0_3, b_p0_4, b_p0_5, b_p0_6, b_p0_7, b_p0_8, b_p0_9, b_p1_6, b_p8_3, if_true, if_false, bnd, rt]
  by_cases a : cnt (σ.2.1 f) (nI c) = 0 <;> by_cases b : bcn (σ.2.1 f) < 10 <;> simp only [a, b, if_true, if_false] <;> simp [sF2, vp_updL]
theorem e_empty_out {x : Int32} (h : x < 0 ∨ nI 4 ≤ x) : FX4_empty s x (put μ s σ) = rt (-1) (put μ s σ) := by
  simp only [FX4_empty, e_isForm, isF_out h, b_R0_0, b_R0_1, b_R0_2, b_J0_3, b_I0_4, b_I0_5, b_I0_6, b_I0_7, b_I0_8, b_I0_9, b_R1_0, b_R1_1, b_R1_2, b_R1_3, b_R1_4, b_R1_5, b_I1_6, b_R8_0, b_R8_1, b_R8_2, b_I8_3, b_vc0, b_vc1, b_vc8, b_a0, b_s0, b_a1, b_s1, b_a2, b_s2, b_a3, b_s3, b_a4, b_s4, b_a5, b_s5, b_a6, b_s6, b_a7, b_s7, b_a8, b_s8, b_a12, b_s12, b_p0_3, b_p0_4, b_p0_5, b_p0_6, b_p0_7, b_p0_8, b_p0_9, b_p1_6, b_p8_3, if_true, if_false, bnd, rt]
theorem e_empty {f : Nat} (hs : 0 < s) (hf : f < 4) : FX4_empty s (nI f) (put μ s σ) = rt (bcn (σ.2.1 f)) (put μ s (sF2 σ f 0)) := by
  have h2 : inb (nI f) 4 = true := inb_n (by omega) (by omega)
  have h3 : (nI f).toNatClampNeg = f := nI_clamp (by omega)
  simp only [FX4_empty, hs, e_isForm, isF_in hf, one_ne, e_bit, h2, h3, b_R0_0, b_R0_1, b_R0_2, b_J0_3, b_I0_4, b_I0_5, b_I0_6, b_I0_7, b_I0_8, b_I0_9, b_R1_0, b_R1_1, b_R1_2, b_R1_3, b_R1_4, b_R1_5, b_I1_6, b_R8_0, b_R8_1, b_R8_2, b_I8_3, b_vc0, b_vc1, b_vc8, b_a0, b_s0, b_a1, b_s1, b_a2, b_s2, b_a3, b_s3, b_a4, b_s4, b_a5, b_s5, b_a6, b_s6, b_a7, b_s7, b_a8, b_s8, b_a12, b_s12, b_p0_3, b_p0_4, b_p0_5, b_p0_6, b_p0_7, b_p0_8, b_p0_9, b_p1_6, b_p8_3, if_true, if_false, bnd, rt]
/-- a cell's turn in an assignment -/
def dsb (m : Int64) (n : Nat) (c : Nat) (z : Sg × Int32) : Sg × Int32 := if cnt m (nI c) = 0 then z else if fo (nid z.1 (nI c)) 0 n (-1) = -1 then z else (sI2 z.1 2 (fo (nid z.1 (nI c)) 0 n (-1)).toNatClampNeg (nI c), z.2 + 1)
theorem dsb_c {m : Int64} {c : Nat} {z : Sg × Int32} : (dsb m n c z).1.1 9 0 = z.1.1 9 0 ∧ (dsb m n c z).1.2 = z.1.2 := by
  unfold dsb
  split
  · exact ⟨rfl, rfl⟩
  · split <;> exact ⟨rfl, rfl⟩
theorem nid_in (σ : Sg) (c : Int32) : ∀ k i b, (b = -1 ∨ ∃ j, j < i ∧ b = nI j) → (fo (nid σ c) i k b = -1 ∨ ∃ j, j < i + k ∧ fo (nid σ c) i k b = nI j) := by
  intro k
  induction k with
  | zero => intro i b h; exact h
  | succ k ih =>
    intro i b h
    simp only [fo]
    have h9 := ih (i + 1) (nid σ c i b) (by
      have h1 : b = -1 ∨ ∃ j, j < i + 1 ∧ b = nI j := h.elim Or.inl (fun ⟨j, hj, e⟩ => Or.inr ⟨j, by omega, e⟩)
      have h2 : nI i = -1 ∨ ∃ j, j < i + 1 ∧ nI i = nI j := Or.inr ⟨i, by omega, rfl⟩
      unfold nid
      split
      · exact h1
      · split
        · split
          · exact h2
          · split
            · exact h1
            · exact h2
        · exact h1)
    rwa [show i + 1 + k = i + (k + 1) by omega] at h9
end OP
section OP2
variable {μ : Me} {s : Nat} {n : Nat}
theorem l_dsb {fm : Nat} {m : Int64} (hs : 0 < s) (hf : fm < 4) (hn9 : n ≤ 10) : ∀ k f i (σ : Sg) (acc : Int32), σ.1 9 0 = nI n → σ.2.1 fm = m → i + k = 64 → k < f → FX4_distribute_L34 f s (nI fm) acc (nI i) (put μ s σ) = rt (fo (dsb m n) i k (σ, acc)).2 (put μ s (fo (dsb m n) i k (σ, acc)).1) := by
  intro k
  induction k with
  | zero =>
    intro f i σ acc hn hm hi hfuu
    obtain ⟨f, rfl⟩ : ∃ g, f = g + 1 := ⟨f - 1, by omega⟩
    have h1 : (64 : Int32) ≤ nI i := by rw [show i = 64 by omega]; decide
    simp only [FX4_distribute_L34, FX4_distribute_B34, FX4_distribute_B65, b_R0_0, b_R0_1, b_R0_2, b_J0_3, b_I0_4, b_I0_5, b_I0_6, b_I0_7, b_I0_8, b_I0_9, b_R1_0, b_R1_1, b_R1_2, b_R1_3, b_R1_4, b_R1_5, b_I1_6, b_R8_0, b_R8_1, b_R8_2, b_I8_3, b_vc0, b_vc1, b_vc8, b_a0, b_s0, b_a1, b_s1, b_a2, b_s2, b_a3, b_s3, b_a4, b_s4, b_a5, b_s5, b_a6, b_s6, b_a7, b_s7, b_a8, b_s8, b_a12, b_s12, b_p0_3, b_p0_4, b_p0_5, b_p0_6, b_p0_7, b_p0_8, b_p0_9, b_p1_6, b_p8_3, h1, if_true, bnd, rt]
    rfl
  | succ k ih =>
    intro f i σ acc hn hm hi hfuu
    obtain ⟨f, rfl⟩ : ∃ g, f = g + 1 := ⟨f - 1, by omega⟩
    have h1 : ¬ (64 : Int32) ≤ nI i := fun h => absurd ((nI_leI (a := 64) (b := i) (by omega) (by omega)).mp h) (by omega)
    have h3 : (nI i).toNatClampNeg = i := nI_clamp (by omega)
    have h4 : inb (nI fm) 4 = true := inb_n (by omega) (by omega)
    have h5 : (nI fm).toNatClampNeg = fm := nI_clamp (by omega)
    simp only [FX4_distribute_L34, FX4_distribute_B34, FX4_distribute_B65, b_R0_0, b_R0_1, b_R0_2, b_J0_3, b_I0_4, b_I0_5, b_I0_6, b_I0_7, b_I0_8, b_I0_9, b_R1_0, b_R1_1, b_R1_2, b_R1_3, b_R1_4, b_R1_5, b_I1_6, b_R8_0, b_R8_1, b_R8_2, b_I8_3, b_vc0, b_vc1, b_vc8, b_a0, b_s0, b_a1, b_s1, b_a2, b_s2, b_a3, b_s3, b_a4, b_s4, b_a5, b_s5, b_a6, b_s6, b_a7, b_s7, b_a8, b_s8, b_a12, b_s12, b_p0_3, b_p0_4, b_p0_5, b_p0_6, b_p0_7, b_p0_8, b_p0_9, b_p1_6, b_p8_3, hs, h4, h5, hm, e_contains, e_nid hn hn9, h1, h3, nI_1, if_true, if_false, bnd, rt]
    simp only [fo]
    have hc := (dsb_c (m := m) (n := n) (c := i) (z := (σ, acc)))
    have h := ih f (i + 1) (dsb m n i (σ, acc)).1 (dsb m n i (σ, acc)).2 (hc.1.trans hn) (by rw [hc.2]; exact hm) (by omega) (by omega)
    refine Eq.trans ?_ h
    rcases nid_in σ (nI i) n 0 (-1) (Or.inl rfl) with h8 | ⟨j, hj, h8⟩
    · simp only [dsb, h8]
      by_cases a : cnt m (nI i) = 0
      · simp only [a, if_true]
      · simp only [a, if_false, if_true]
    · have hj9 : inb (nI j) 10 = true := inb_n (by omega) (by omega)
      have hjc : (nI j).toNatClampNeg = j := nI_clamp (by omega)
      have hjn : ¬ nI j = -1 := fun e => absurd (e ▸ nI_pos (n := j) (by omega)) (by decide)
      simp only [dsb, h8, hjn, if_false, hj9, if_true, hjc]
      by_cases a : cnt m (nI i) = 0
      · simp only [a, if_true]
      · simp only [a, if_false]
theorem drop_c {σ : Sg} : ∀ k i, (fo drt i k σ).1 9 0 = σ.1 9 0 ∧ (fo drt i k σ).2 = σ.2 := by
  intro k
  induction k generalizing σ with
  | zero => intro i; exact ⟨rfl, rfl⟩
  | succ k ih =>
    intro i
    simp only [fo]
    obtain ⟨h1, h2⟩ := ih (σ := drt i σ) (i + 1)
    refine ⟨h1.trans drt_n, h2.trans ?_⟩
    unfold drt
    split <;> rfl
theorem e_dist_out {σ : Sg} {x : Int32} (h : x < 0 ∨ nI 4 ≤ x) : FX4_distribute s x (put μ s σ) = rt (-1) (put μ s σ) := by
  simp only [FX4_distribute, e_isForm, isF_out h, if_true, bnd, rt]
theorem e_dist {σ : Sg} {f : Nat} (hs : 0 < s) (hf : f < 4) (hn : σ.1 9 0 = nI n) (hn9 : n ≤ 10) : FX4_distribute s (nI f) (put μ s σ) = if (lg_cmp (σ.2.1 f) 0) = 0 then rt (-3) (put μ s σ) else rt (fo (dsb (σ.2.1 f) n) 0 64 (fo drt 0 n σ, 0)).2 (put μ s (fo (dsb (σ.2.1 f) n) 0 64 (fo drt 0 n σ, 0)).1) := by
  have h2 : inb (nI f) 4 = true := inb_n (by omega) (by omega)
  have h3 : (nI f).toNatClampNeg = f := nI_clamp (by omega)
  have hd := drop_c (σ := σ) n 0
  have h := l_dsb (μ := μ) (m := σ.2.1 f) hs hf hn9 64 FU 0 (fo drt 0 n σ) 0 (hd.1.trans hn) (by rw [hd.2]) (by omega) (by unfold FU; omega)
  simp only [FX4_distribute, e_isForm, isF_in hf, one_ne, b_R0_0, b_R0_1, b_R0_2, b_J0_3, b_I0_4, b_I0_5, b_I0_6, b_I0_7, b_I0_8, b_I0_9, b_R1_0, b_R1_1, b_R1_2, b_R1_3, b_R1_4, b_R1_5, b_I1_6, b_R8_0, b_R8_1, b_R8_2, b_I8_3, b_vc0, b_vc1, b_vc8, b_a0, b_s0, b_a1, b_s1, b_a2, b_s2, b_a3, b_s3, b_a4, b_s4, b_a5, b_s5, b_a6, b_s6, b_a7, b_s7, b_a8, b_s8, b_a12, b_s12, b_p0_3, b_p0_4, b_p0_5, b_p0_6, b_p0_7, b_p0_8, b_p0_9, b_p1_6, b_p8_3, hs, h2, h3, e_drop hn9 hn, if_true, if_false, bnd, rt]
  split
  · rfl
  · exact h
end OP2
