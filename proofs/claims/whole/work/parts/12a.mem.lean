/-! ===== LAYER 2: the pure computation. Scenes in memory ===== -/
/-- a scene's numbers: arrays 0-5 of the drones (cell, battery, target, colour, flies, urgent), 6-8 of the cues (drone, time, colour), 9: count, cues, reserve, time, moved, blocked, emergencies, forced; formations; pads -/
abbrev Sg : Type := (Nat → Nat → Int32) × (Nat → Int64) × Int64
def sI2 (σ : Sg) (r j : Nat) (x : Int32) : Sg := (fun q => if q = r then upd (σ.1 r) j x else σ.1 q, σ.2)
def sF2 (σ : Sg) (j : Nat) (x : Int64) : Sg := (σ.1, vp_updL σ.2.1 j x, σ.2.2)
def sP2 (σ : Sg) (x : Int64) : Sg := (σ.1, σ.2.1, x)
def scE (s : Nat) (σ : Sg) : Nat → E_
  | 0 => .inr (5, [.ref (s + 1), .ref (s + 8), .ref (s + 12), .long σ.2.2, .int (σ.1 9 2), .int (σ.1 9 3), .int (σ.1 9 4), .int (σ.1 9 5), .int (σ.1 9 6), .int (σ.1 9 7)])
  | 1 => .inr (3, [.ref (s + 2), .ref (s + 3), .ref (s + 4), .ref (s + 5), .ref (s + 6), .ref (s + 7), .int (σ.1 9 0)])
  | 2 => .inl (0, (10, .inl (σ.1 0)))
  | 3 => .inl (0, (10, .inl (σ.1 1)))
  | 4 => .inl (0, (10, .inl (σ.1 2)))
  | 5 => .inl (0, (10, .inl (σ.1 3)))
  | 6 => .inl (1, (10, .inl (σ.1 4)))
  | 7 => .inl (1, (10, .inl (σ.1 5)))
  | 8 => .inr (2, [.ref (s + 9), .ref (s + 10), .ref (s + 11), .int (σ.1 9 1)])
  | 9 => .inl (0, (12, .inl (σ.1 6)))
  | 10 => .inl (0, (12, .inl (σ.1 7)))
  | 11 => .inl (0, (12, .inl (σ.1 8)))
  | _ => .inl (3, (4, .inr (.inl σ.2.1)))
def put (μ : Me) (s : Nat) (σ : Sg) : Me := fun a => if s ≤ a ∧ a < s + 13 then some (scE s σ (a - s)) else μ a
/-- at s lies the scene σ -/
def At_ (μ : Me) (s : Nat) (σ : Sg) : Prop := ∀ i, i < 13 → μ (s + i) = some (scE s σ i)
theorem put_at (μ : Me) (s : Nat) (σ : Sg) {i : Nat} (h : i < 13) : put μ s σ (s + i) = some (scE s σ i) := by
  unfold put
  rw [if_pos ⟨by omega, by omega⟩, Nat.add_sub_cancel_left]
theorem put_At (μ : Me) (s : Nat) (σ : Sg) : At_ (put μ s σ) s σ := fun _ h => put_at μ s σ h
theorem put_out {μ : Me} {s a : Nat} {σ : Sg} (h : a < s ∨ s + 13 ≤ a) : put μ s σ a = μ a := by
  unfold put
  rw [if_neg (by omega)]
theorem put_put (μ : Me) (s : Nat) (σ τ : Sg) : put (put μ s σ) s τ = put μ s τ := by
  funext a
  unfold put
  by_cases h : s ≤ a ∧ a < s + 13
  · rw [if_pos h, if_pos h]
  · rw [if_neg h, if_neg h, if_neg h]
theorem At_.eq {μ : Me} {s : Nat} {σ : Sg} (h : At_ μ s σ) : μ = put μ s σ := by
  funext a
  by_cases ha : s ≤ a ∧ a < s + 13
  · have h2 := h (a - s) (by omega)
    rw [show s + (a - s) = a by omega] at h2
    rw [h2, put, if_pos ha]
  · rw [put, if_neg ha]
theorem At_.put {μ : Me} {s t : Nat} {σ τ : Sg} (h : At_ μ t τ) (hd : t + 13 ≤ s ∨ s + 13 ≤ t) : At_ (put μ s σ) t τ := fun i hi => by
  rw [put_out (by omega)]
  exact h i hi
theorem mset_put {μ : Me} {s i : Nat} {σ σ' : Sg} {e : E_} (hi : i < 13) (he : scE s σ' i = e) (ho : ∀ j, j < 13 → j ≠ i → scE s σ' j = scE s σ j) : mset (put μ s σ) (s + i) e = put μ s σ' := by
  funext a
  unfold mset
  by_cases ha : a = s + i
  · rw [if_pos ha, ha, put_at _ _ _ hi, he]
  · rw [if_neg ha]
    unfold put
    by_cases h2 : s ≤ a ∧ a < s + 13
    · rw [if_pos h2, if_pos h2, ho (a - s) (by omega) (by omega)]
    · rw [if_neg h2, if_neg h2]
theorem ob_at {μ : Me} {a c : Nat} {fs : List Value} (h : μ a = some (.inr (c, fs))) (h0 : 0 < a) : ob μ a c = some fs := by
  unfold ob
  rw [if_neg (by omega), h]
  simp
theorem ar_at {μ : Me} {a c : Nat} {v : vp_A} (h : μ a = some (.inl (c, v))) (h0 : 0 < a) : ar μ a c = some v := by
  unfold ar
  rw [if_neg (by omega), h]
  simp
section SCR
variable {β : Type} {μ : Me} {s : Nat} {σ : Sg}
theorem b_ob0 (hs : 0 < s) : ob (put μ s σ) s 5 = some [.ref (s + 1), .ref (s + 8), .ref (s + 12), .long σ.2.2, .int (σ.1 9 2), .int (σ.1 9 3), .int (σ.1 9 4), .int (σ.1 9 5), .int (σ.1 9 6), .int (σ.1 9 7)] := ob_at (put_at μ s σ (i := 0) (by decide)) hs
theorem b_ob1 : ob (put μ s σ) (s + 1) 3 = some [.ref (s + 2), .ref (s + 3), .ref (s + 4), .ref (s + 5), .ref (s + 6), .ref (s + 7), .int (σ.1 9 0)] := ob_at (put_at μ s σ (i := 1) (by decide)) (by omega)
theorem b_ob8 : ob (put μ s σ) (s + 8) 2 = some [.ref (s + 9), .ref (s + 10), .ref (s + 11), .int (σ.1 9 1)] := ob_at (put_at μ s σ (i := 8) (by decide)) (by omega)
theorem b_R0_0 (hs : 0 < s) {K : Nat → Rs β} : gR (put μ s σ) s 5 0 K = K (s + 1) := by simp [gR, gf, b_ob0 hs]
theorem b_R0_1 (hs : 0 < s) {K : Nat → Rs β} : gR (put μ s σ) s 5 1 K = K (s + 8) := by simp [gR, gf, b_ob0 hs]
theorem b_R0_2 (hs : 0 < s) {K : Nat → Rs β} : gR (put μ s σ) s 5 2 K = K (s + 12) := by simp [gR, gf, b_ob0 hs]
theorem b_J0_3 (hs : 0 < s) {K : Int64 → Rs β} : gJ (put μ s σ) s 5 3 K = K σ.2.2 := by simp [gJ, gf, b_ob0 hs]
theorem b_I0_4 (hs : 0 < s) {K : Int32 → Rs β} : gI (put μ s σ) s 5 4 K = K (σ.1 9 2) := by simp [gI, gf, b_ob0 hs]
theorem b_I0_5 (hs : 0 < s) {K : Int32 → Rs β} : gI (put μ s σ) s 5 5 K = K (σ.1 9 3) := by simp [gI, gf, b_ob0 hs]
theorem b_I0_6 (hs : 0 < s) {K : Int32 → Rs β} : gI (put μ s σ) s 5 6 K = K (σ.1 9 4) := by simp [gI, gf, b_ob0 hs]
theorem b_I0_7 (hs : 0 < s) {K : Int32 → Rs β} : gI (put μ s σ) s 5 7 K = K (σ.1 9 5) := by simp [gI, gf, b_ob0 hs]
theorem b_I0_8 (hs : 0 < s) {K : Int32 → Rs β} : gI (put μ s σ) s 5 8 K = K (σ.1 9 6) := by simp [gI, gf, b_ob0 hs]
theorem b_I0_9 (hs : 0 < s) {K : Int32 → Rs β} : gI (put μ s σ) s 5 9 K = K (σ.1 9 7) := by simp [gI, gf, b_ob0 hs]
theorem b_R1_0 {K : Nat → Rs β} : gR (put μ s σ) (s + 1) 3 0 K = K (s + 2) := by simp [gR, gf, b_ob1]
theorem b_R1_1 {K : Nat → Rs β} : gR (put μ s σ) (s + 1) 3 1 K = K (s + 3) := by simp [gR, gf, b_ob1]
theorem b_R1_2 {K : Nat → Rs β} : gR (put μ s σ) (s + 1) 3 2 K = K (s + 4) := by simp [gR, gf, b_ob1]
theorem b_R1_3 {K : Nat → Rs β} : gR (put μ s σ) (s + 1) 3 3 K = K (s + 5) := by simp [gR, gf, b_ob1]
theorem b_R1_4 {K : Nat → Rs β} : gR (put μ s σ) (s + 1) 3 4 K = K (s + 6) := by simp [gR, gf, b_ob1]
theorem b_R1_5 {K : Nat → Rs β} : gR (put μ s σ) (s + 1) 3 5 K = K (s + 7) := by simp [gR, gf, b_ob1]
theorem b_I1_6 {K : Int32 → Rs β} : gI (put μ s σ) (s + 1) 3 6 K = K (σ.1 9 0) := by simp [gI, gf, b_ob1]
theorem b_R8_0 {K : Nat → Rs β} : gR (put μ s σ) (s + 8) 2 0 K = K (s + 9) := by simp [gR, gf, b_ob8]
theorem b_R8_1 {K : Nat → Rs β} : gR (put μ s σ) (s + 8) 2 1 K = K (s + 10) := by simp [gR, gf, b_ob8]
theorem b_R8_2 {K : Nat → Rs β} : gR (put μ s σ) (s + 8) 2 2 K = K (s + 11) := by simp [gR, gf, b_ob8]
theorem b_I8_3 {K : Int32 → Rs β} : gI (put μ s σ) (s + 8) 2 3 K = K (σ.1 9 1) := by simp [gI, gf, b_ob8]
theorem b_vc0 (hs : 0 < s) {x : Rs β} : vc (put μ s σ) s 5 x = x := by simp [vc, b_ob0 hs]
theorem b_vc1 {x : Rs β} : vc (put μ s σ) (s + 1) 3 x = x := by simp [vc, b_ob1]
theorem b_vc8 {x : Rs β} : vc (put μ s σ) (s + 8) 2 x = x := by simp [vc, b_ob8]
theorem b_ar0 : ar (put μ s σ) (s + 2) 0 = some (10, .inl (σ.1 0)) := ar_at (put_at μ s σ (i := 2) (by decide)) (by omega)
theorem b_a0 {i : Int32} {K : Int32 → Rs β} : aI (put μ s σ) (s + 2) i K = if inb i 10 = true then K (σ.1 0 i.toNatClampNeg) else none := by simp [aI, b_ar0]
theorem b_s0 {i x : Int32} {K : Me → Rs β} : sI (put μ s σ) (s + 2) i x K = if inb i 10 = true then K (put μ s (sI2 σ 0 i.toNatClampNeg x)) else none := by
  simp only [sI, b_ar0]
  rw [mset_put (σ' := sI2 σ 0 i.toNatClampNeg x) (by decide) (by simp [scE, sI2]) (fun j hj hne => ?_)]
  match j, hj, hne with
  | 0, _, _ => simp [scE, sI2]
  | 1, _, _ => simp [scE, sI2]
  | 3, _, _ => simp [scE, sI2]
  | 4, _, _ => simp [scE, sI2]
  | 5, _, _ => simp [scE, sI2]
  | 6, _, _ => simp [scE, sI2]
  | 7, _, _ => simp [scE, sI2]
  | 8, _, _ => simp [scE, sI2]
  | 9, _, _ => simp [scE, sI2]
  | 10, _, _ => simp [scE, sI2]
  | 11, _, _ => simp [scE, sI2]
  | 12, _, _ => simp [scE, sI2]
  | 2, _, h => exact absurd rfl h
  | j + 13, h, _ => exact absurd h (by omega)
theorem b_ar1 : ar (put μ s σ) (s + 3) 0 = some (10, .inl (σ.1 1)) := ar_at (put_at μ s σ (i := 3) (by decide)) (by omega)
theorem b_a1 {i : Int32} {K : Int32 → Rs β} : aI (put μ s σ) (s + 3) i K = if inb i 10 = true then K (σ.1 1 i.toNatClampNeg) else none := by simp [aI, b_ar1]
theorem b_s1 {i x : Int32} {K : Me → Rs β} : sI (put μ s σ) (s + 3) i x K = if inb i 10 = true then K (put μ s (sI2 σ 1 i.toNatClampNeg x)) else none := by
  simp only [sI, b_ar1]
  rw [mset_put (σ' := sI2 σ 1 i.toNatClampNeg x) (by decide) (by simp [scE, sI2]) (fun j hj hne => ?_)]
  match j, hj, hne with
  | 0, _, _ => simp [scE, sI2]
  | 1, _, _ => simp [scE, sI2]
  | 2, _, _ => simp [scE, sI2]
  | 4, _, _ => simp [scE, sI2]
  | 5, _, _ => simp [scE, sI2]
  | 6, _, _ => simp [scE, sI2]
  | 7, _, _ => simp [scE, sI2]
  | 8, _, _ => simp [scE, sI2]
  | 9, _, _ => simp [scE, sI2]
  | 10, _, _ => simp [scE, sI2]
  | 11, _, _ => simp [scE, sI2]
  | 12, _, _ => simp [scE, sI2]
  | 3, _, h => exact absurd rfl h
  | j + 13, h, _ => exact absurd h (by omega)
theorem b_ar2 : ar (put μ s σ) (s + 4) 0 = some (10, .inl (σ.1 2)) := ar_at (put_at μ s σ (i := 4) (by decide)) (by omega)
theorem b_a2 {i : Int32} {K : Int32 → Rs β} : aI (put μ s σ) (s + 4) i K = if inb i 10 = true then K (σ.1 2 i.toNatClampNeg) else none := by simp [aI, b_ar2]
theorem b_s2 {i x : Int32} {K : Me → Rs β} : sI (put μ s σ) (s + 4) i x K = if inb i 10 = true then K (put μ s (sI2 σ 2 i.toNatClampNeg x)) else none := by
  simp only [sI, b_ar2]
  rw [mset_put (σ' := sI2 σ 2 i.toNatClampNeg x) (by decide) (by simp [scE, sI2]) (fun j hj hne => ?_)]
  match j, hj, hne with
  | 0, _, _ => simp [scE, sI2]
  | 1, _, _ => simp [scE, sI2]
  | 2, _, _ => simp [scE, sI2]
  | 3, _, _ => simp [scE, sI2]
  | 5, _, _ => simp [scE, sI2]
  | 6, _, _ => simp [scE, sI2]
  | 7, _, _ => simp [scE, sI2]
  | 8, _, _ => simp [scE, sI2]
  | 9, _, _ => simp [scE, sI2]
  | 10, _, _ => simp [scE, sI2]
  | 11, _, _ => simp [scE, sI2]
  | 12, _, _ => simp [scE, sI2]
  | 4, _, h => exact absurd rfl h
  | j + 13, h, _ => exact absurd h (by omega)
theorem b_ar3 : ar (put μ s σ) (s + 5) 0 = some (10, .inl (σ.1 3)) := ar_at (put_at μ s σ (i := 5) (by decide)) (by omega)
theorem b_a3 {i : Int32} {K : Int32 → Rs β} : aI (put μ s σ) (s + 5) i K = if inb i 10 = true then K (σ.1 3 i.toNatClampNeg) else none := by simp [aI, b_ar3]
theorem b_s3 {i x : Int32} {K : Me → Rs β} : sI (put μ s σ) (s + 5) i x K = if inb i 10 = true then K (put μ s (sI2 σ 3 i.toNatClampNeg x)) else none := by
  simp only [sI, b_ar3]
  rw [mset_put (σ' := sI2 σ 3 i.toNatClampNeg x) (by decide) (by simp [scE, sI2]) (fun j hj hne => ?_)]
  match j, hj, hne with
  | 0, _, _ => simp [scE, sI2]
  | 1, _, _ => simp [scE, sI2]
  | 2, _, _ => simp [scE, sI2]
  | 3, _, _ => simp [scE, sI2]
  | 4, _, _ => simp [scE, sI2]
  | 6, _, _ => simp [scE, sI2]
  | 7, _, _ => simp [scE, sI2]
  | 8, _, _ => simp [scE, sI2]
  | 9, _, _ => simp [scE, sI2]
  | 10, _, _ => simp [scE, sI2]
  | 11, _, _ => simp [scE, sI2]
  | 12, _, _ => simp [scE, sI2]
  | 5, _, h => exact absurd rfl h
  | j + 13, h, _ => exact absurd h (by omega)
theorem b_ar4 : ar (put μ s σ) (s + 6) 1 = some (10, .inl (σ.1 4)) := ar_at (put_at μ s σ (i := 6) (by decide)) (by omega)
theorem b_a4 {i : Int32} {K : Int32 → Rs β} : aZ (put μ s σ) (s + 6) i K = if inb i 10 = true then K (σ.1 4 i.toNatClampNeg) else none := by simp [aZ, b_ar4]
theorem b_s4 {i x : Int32} {K : Me → Rs β} : sZ (put μ s σ) (s + 6) i x K = if inb i 10 = true then K (put μ s (sI2 σ 4 i.toNatClampNeg (vp_nar .boolean x))) else none := by
  simp only [sZ, b_ar4]
  rw [mset_put (σ' := sI2 σ 4 i.toNatClampNeg (vp_nar .boolean x)) (by decide) (by simp [scE, sI2]) (fun j hj hne => ?_)]
  match j, hj, hne with
  | 0, _, _ => simp [scE, sI2]
  | 1, _, _ => simp [scE, sI2]
  | 2, _, _ => simp [scE, sI2]
  | 3, _, _ => simp [scE, sI2]
  | 4, _, _ => simp [scE, sI2]
  | 5, _, _ => simp [scE, sI2]
  | 7, _, _ => simp [scE, sI2]
  | 8, _, _ => simp [scE, sI2]
  | 9, _, _ => simp [scE, sI2]
  | 10, _, _ => simp [scE, sI2]
  | 11, _, _ => simp [scE, sI2]
  | 12, _, _ => simp [scE, sI2]
  | 6, _, h => exact absurd rfl h
  | j + 13, h, _ => exact absurd h (by omega)
theorem b_ar5 : ar (put μ s σ) (s + 7) 1 = some (10, .inl (σ.1 5)) := ar_at (put_at μ s σ (i := 7) (by decide)) (by omega)
theorem b_a5 {i : Int32} {K : Int32 → Rs β} : aZ (put μ s σ) (s + 7) i K = if inb i 10 = true then K (σ.1 5 i.toNatClampNeg) else none := by simp [aZ, b_ar5]
theorem b_s5 {i x : Int32} {K : Me → Rs β} : sZ (put μ s σ) (s + 7) i x K = if inb i 10 = true then K (put μ s (sI2 σ 5 i.toNatClampNeg (vp_nar .boolean x))) else none := by
  simp only [sZ, b_ar5]
  rw [mset_put (σ' := sI2 σ 5 i.toNatClampNeg (vp_nar .boolean x)) (by decide) (by simp [scE, sI2]) (fun j hj hne => ?_)]
  match j, hj, hne with
  | 0, _, _ => simp [scE, sI2]
  | 1, _, _ => simp [scE, sI2]
  | 2, _, _ => simp [scE, sI2]
  | 3, _, _ => simp [scE, sI2]
  | 4, _, _ => simp [scE, sI2]
  | 5, _, _ => simp [scE, sI2]
  | 6, _, _ => simp [scE, sI2]
  | 8, _, _ => simp [scE, sI2]
  | 9, _, _ => simp [scE, sI2]
  | 10, _, _ => simp [scE, sI2]
  | 11, _, _ => simp [scE, sI2]
  | 12, _, _ => simp [scE, sI2]
  | 7, _, h => exact absurd rfl h
  | j + 13, h, _ => exact absurd h (by omega)
theorem b_ar6 : ar (put μ s σ) (s + 9) 0 = some (12, .inl (σ.1 6)) := ar_at (put_at μ s σ (i := 9) (by decide)) (by omega)
theorem b_a6 {i : Int32} {K : Int32 → Rs β} : aI (put μ s σ) (s + 9) i K = if inb i 12 = true then K (σ.1 6 i.toNatClampNeg) else none := by simp [aI, b_ar6]
theorem b_s6 {i x : Int32} {K : Me → Rs β} : sI (put μ s σ) (s + 9) i x K = if inb i 12 = true then K (put μ s (sI2 σ 6 i.toNatClampNeg x)) else none := by
  simp only [sI, b_ar6]
  rw [mset_put (σ' := sI2 σ 6 i.toNatClampNeg x) (by decide) (by simp [scE, sI2]) (fun j hj hne => ?_)]
  match j, hj, hne with
  | 0, _, _ => simp [scE, sI2]
  | 1, _, _ => simp [scE, sI2]
  | 2, _, _ => simp [scE, sI2]
  | 3, _, _ => simp [scE, sI2]
  | 4, _, _ => simp [scE, sI2]
  | 5, _, _ => simp [scE, sI2]
  | 6, _, _ => simp [scE, sI2]
  | 7, _, _ => simp [scE, sI2]
  | 8, _, _ => simp [scE, sI2]
  | 10, _, _ => simp [scE, sI2]
  | 11, _, _ => simp [scE, sI2]
  | 12, _, _ => simp [scE, sI2]
  | 9, _, h => exact absurd rfl h
  | j + 13, h, _ => exact absurd h (by omega)
theorem b_ar7 : ar (put μ s σ) (s + 10) 0 = some (12, .inl (σ.1 7)) := ar_at (put_at μ s σ (i := 10) (by decide)) (by omega)
theorem b_a7 {i : Int32} {K : Int32 → Rs β} : aI (put μ s σ) (s + 10) i K = if inb i 12 = true then K (σ.1 7 i.toNatClampNeg) else none := by simp [aI, b_ar7]
theorem b_s7 {i x : Int32} {K : Me → Rs β} : sI (put μ s σ) (s + 10) i x K = if inb i 12 = true then K (put μ s (sI2 σ 7 i.toNatClampNeg x)) else none := by
  simp only [sI, b_ar7]
  rw [mset_put (σ' := sI2 σ 7 i.toNatClampNeg x) (by decide) (by simp [scE, sI2]) (fun j hj hne => ?_)]
  match j, hj, hne with
  | 0, _, _ => simp [scE, sI2]
  | 1, _, _ => simp [scE, sI2]
  | 2, _, _ => simp [scE, sI2]
  | 3, _, _ => simp [scE, sI2]
  | 4, _, _ => simp [scE, sI2]
  | 5, _, _ => simp [scE, sI2]
  | 6, _, _ => simp [scE, sI2]
  | 7, _, _ => simp [scE, sI2]
  | 8, _, _ => simp [scE, sI2]
  | 9, _, _ => simp [scE, sI2]
  | 11, _, _ => simp [scE, sI2]
  | 12, _, _ => simp [scE, sI2]
  | 10, _, h => exact absurd rfl h
  | j + 13, h, _ => exact absurd h (by omega)
theorem b_ar8 : ar (put μ s σ) (s + 11) 0 = some (12, .inl (σ.1 8)) := ar_at (put_at μ s σ (i := 11) (by decide)) (by omega)
theorem b_a8 {i : Int32} {K : Int32 → Rs β} : aI (put μ s σ) (s + 11) i K = if inb i 12 = true then K (σ.1 8 i.toNatClampNeg) else none := by simp [aI, b_ar8]
theorem b_s8 {i x : Int32} {K : Me → Rs β} : sI (put μ s σ) (s + 11) i x K = if inb i 12 = true then K (put μ s (sI2 σ 8 i.toNatClampNeg x)) else none := by
  simp only [sI, b_ar8]
  rw [mset_put (σ' := sI2 σ 8 i.toNatClampNeg x) (by decide) (by simp [scE, sI2]) (fun j hj hne => ?_)]
  match j, hj, hne with
  | 0, _, _ => simp [scE, sI2]
  | 1, _, _ => simp [scE, sI2]
  | 2, _, _ => simp [scE, sI2]
  | 3, _, _ => simp [scE, sI2]
  | 4, _, _ => simp [scE, sI2]
  | 5, _, _ => simp [scE, sI2]
  | 6, _, _ => simp [scE, sI2]
  | 7, _, _ => simp [scE, sI2]
  | 8, _, _ => simp [scE, sI2]
  | 9, _, _ => simp [scE, sI2]
  | 10, _, _ => simp [scE, sI2]
  | 12, _, _ => simp [scE, sI2]
  | 11, _, h => exact absurd rfl h
  | j + 13, h, _ => exact absurd h (by omega)
theorem b_ar12 : ar (put μ s σ) (s + 12) 3 = some (4, .inr (.inl σ.2.1)) := ar_at (put_at μ s σ (i := 12) (by decide)) (by omega)
theorem b_a12 {i : Int32} {K : Int64 → Rs β} : aJ (put μ s σ) (s + 12) i K = if inb i 4 = true then K (σ.2.1 i.toNatClampNeg) else none := by simp [aJ, b_ar12]
theorem b_s12 {i : Int32} {x : Int64} {K : Me → Rs β} : sJ (put μ s σ) (s + 12) i x K = if inb i 4 = true then K (put μ s (sF2 σ i.toNatClampNeg x)) else none := by
  simp only [sJ, b_ar12]
  rw [mset_put (σ' := sF2 σ i.toNatClampNeg x) (by decide) (by simp [scE, sI2, sF2, sP2, upd]) (fun j hj hne => ?_)]
  match j, hj, hne with
  | 0, _, _ => simp [scE, sI2, sF2, sP2, upd]
  | 1, _, _ => simp [scE, sI2, sF2, sP2, upd]
  | 2, _, _ => simp [scE, sI2, sF2, sP2, upd]
  | 3, _, _ => simp [scE, sI2, sF2, sP2, upd]
  | 4, _, _ => simp [scE, sI2, sF2, sP2, upd]
  | 5, _, _ => simp [scE, sI2, sF2, sP2, upd]
  | 6, _, _ => simp [scE, sI2, sF2, sP2, upd]
  | 7, _, _ => simp [scE, sI2, sF2, sP2, upd]
  | 8, _, _ => simp [scE, sI2, sF2, sP2, upd]
  | 9, _, _ => simp [scE, sI2, sF2, sP2, upd]
  | 10, _, _ => simp [scE, sI2, sF2, sP2, upd]
  | 11, _, _ => simp [scE, sI2, sF2, sP2, upd]
  | 12, _, h => exact absurd rfl h
  | j + 13, h, _ => exact absurd h (by omega)
theorem b_p0_3 (hs : 0 < s) {x : Int64} {K : Me → Rs β} : pf (put μ s σ) (s) 5 3 (.long x) K = K (put μ s (sP2 σ x)) := by
  unfold pf
  rw [b_ob0 hs]
  dsimp only [List.length, List.set]
  rw [if_pos (by decide)]
  have h := mset_put (μ := μ) (s := s) (i := 0) (σ := σ) (σ' := sP2 σ x) (by decide) rfl (fun j hj hne => by
    match j, hj, hne with
    | 1, _, _ => simp [scE, sI2, sF2, sP2, upd]
    | 2, _, _ => simp [scE, sI2, sF2, sP2, upd]
    | 3, _, _ => simp [scE, sI2, sF2, sP2, upd]
    | 4, _, _ => simp [scE, sI2, sF2, sP2, upd]
    | 5, _, _ => simp [scE, sI2, sF2, sP2, upd]
    | 6, _, _ => simp [scE, sI2, sF2, sP2, upd]
    | 7, _, _ => simp [scE, sI2, sF2, sP2, upd]
    | 8, _, _ => simp [scE, sI2, sF2, sP2, upd]
    | 9, _, _ => simp [scE, sI2, sF2, sP2, upd]
    | 10, _, _ => simp [scE, sI2, sF2, sP2, upd]
    | 11, _, _ => simp [scE, sI2, sF2, sP2, upd]
    | 12, _, _ => simp [scE, sI2, sF2, sP2, upd]
    | 0, _, h => exact absurd rfl h
    | j + 13, h, _ => exact absurd h (by omega))
  simp [scE, sI2, sF2, sP2, upd] at h
  simp [h, sI2, sF2, sP2, upd]
theorem b_p0_4 (hs : 0 < s) {x : Int32} {K : Me → Rs β} : pf (put μ s σ) (s) 5 4 (.int x) K = K (put μ s (sI2 σ 9 2 x)) := by
  unfold pf
  rw [b_ob0 hs]
  dsimp only [List.length, List.set]
  rw [if_pos (by decide)]
  have h := mset_put (μ := μ) (s := s) (i := 0) (σ := σ) (σ' := sI2 σ 9 2 x) (by decide) rfl (fun j hj hne => by
    match j, hj, hne with
    | 1, _, _ => simp [scE, sI2, sF2, sP2, upd]
    | 2, _, _ => simp [scE, sI2, sF2, sP2, upd]
    | 3, _, _ => simp [scE, sI2, sF2, sP2, upd]
    | 4, _, _ => simp [scE, sI2, sF2, sP2, upd]
    | 5, _, _ => simp [scE, sI2, sF2, sP2, upd]
    | 6, _, _ => simp [scE, sI2, sF2, sP2, upd]
    | 7, _, _ => simp [scE, sI2, sF2, sP2, upd]
    | 8, _, _ => simp [scE, sI2, sF2, sP2, upd]
    | 9, _, _ => simp [scE, sI2, sF2, sP2, upd]
    | 10, _, _ => simp [scE, sI2, sF2, sP2, upd]
    | 11, _, _ => simp [scE, sI2, sF2, sP2, upd]
    | 12, _, _ => simp [scE, sI2, sF2, sP2, upd]
    | 0, _, h => exact absurd rfl h
    | j + 13, h, _ => exact absurd h (by omega))
  simp [scE, sI2, sF2, sP2, upd] at h
  simp [h, sI2, sF2, sP2, upd]
theorem b_p0_5 (hs : 0 < s) {x : Int32} {K : Me → Rs β} : pf (put μ s σ) (s) 5 5 (.int x) K = K (put μ s (sI2 σ 9 3 x)) := by
  unfold pf
  rw [b_ob0 hs]
  dsimp only [List.length, List.set]
  rw [if_pos (by decide)]
  have h := mset_put (μ := μ) (s := s) (i := 0) (σ := σ) (σ' := sI2 σ 9 3 x) (by decide) rfl (fun j hj hne => by
    match j, hj, hne with
    | 1, _, _ => simp [scE, sI2, sF2, sP2, upd]
    | 2, _, _ => simp [scE, sI2, sF2, sP2, upd]
    | 3, _, _ => simp [scE, sI2, sF2, sP2, upd]
    | 4, _, _ => simp [scE, sI2, sF2, sP2, upd]
    | 5, _, _ => simp [scE, sI2, sF2, sP2, upd]
    | 6, _, _ => simp [scE, sI2, sF2, sP2, upd]
    | 7, _, _ => simp [scE, sI2, sF2, sP2, upd]
    | 8, _, _ => simp [scE, sI2, sF2, sP2, upd]
    | 9, _, _ => simp [scE, sI2, sF2, sP2, upd]
    | 10, _, _ => simp [scE, sI2, sF2, sP2, upd]
    | 11, _, _ => simp [scE, sI2, sF2, sP2, upd]
    | 12, _, _ => simp [scE, sI2, sF2, sP2, upd]
    | 0, _, h => exact absurd rfl h
    | j + 13, h, _ => exact absurd h (by omega))
  simp [scE, sI2, sF2, sP2, upd] at h
  simp [h, sI2, sF2, sP2, upd]
theorem b_p0_6 (hs : 0 < s) {x : Int32} {K : Me → Rs β} : pf (put μ s σ) (s) 5 6 (.int x) K = K (put μ s (sI2 σ 9 4 x)) := by
  unfold pf
  rw [b_ob0 hs]
  dsimp only [List.length, List.set]
  rw [if_pos (by decide)]
  have h := mset_put (μ := μ) (s := s) (i := 0) (σ := σ) (σ' := sI2 σ 9 4 x) (by decide) rfl (fun j hj hne => by
    match j, hj, hne with
    | 1, _, _ => simp [scE, sI2, sF2, sP2, upd]
    | 2, _, _ => simp [scE, sI2, sF2, sP2, upd]
    | 3, _, _ => simp [scE, sI2, sF2, sP2, upd]
    | 4, _, _ => simp [scE, sI2, sF2, sP2, upd]
    | 5, _, _ => simp [scE, sI2, sF2, sP2, upd]
    | 6, _, _ => simp [scE, sI2, sF2, sP2, upd]
    | 7, _, _ => simp [scE, sI2, sF2, sP2, upd]
    | 8, _, _ => simp [scE, sI2, sF2, sP2, upd]
    | 9, _, _ => simp [scE, sI2, sF2, sP2, upd]
    | 10, _, _ => simp [scE, sI2, sF2, sP2, upd]
    | 11, _, _ => simp [scE, sI2, sF2, sP2, upd]
    | 12, _, _ => simp [scE, sI2, sF2, sP2, upd]
    | 0, _, h => exact absurd rfl h
    | j + 13, h, _ => exact absurd h (by omega))
  simp [scE, sI2, sF2, sP2, upd] at h
  simp [h, sI2, sF2, sP2, upd]
theorem b_p0_7 (hs : 0 < s) {x : Int32} {K : Me → Rs β} : pf (put μ s σ) (s) 5 7 (.int x) K = K (put μ s (sI2 σ 9 5 x)) := by
  unfold pf
  rw [b_ob0 hs]
  dsimp only [List.length, List.set]
  rw [if_pos (by decide)]
  have h := mset_put (μ := μ) (s := s) (i := 0) (σ := σ) (σ' := sI2 σ 9 5 x) (by decide) rfl (fun j hj hne => by
    match j, hj, hne with
    | 1, _, _ => simp [scE, sI2, sF2, sP2, upd]
    | 2, _, _ => simp [scE, sI2, sF2, sP2, upd]
    | 3, _, _ => simp [scE, sI2, sF2, sP2, upd]
    | 4, _, _ => simp [scE, sI2, sF2, sP2, upd]
    | 5, _, _ => simp [scE, sI2, sF2, sP2, upd]
    | 6, _, _ => simp [scE, sI2, sF2, sP2, upd]
    | 7, _, _ => simp [scE, sI2, sF2, sP2, upd]
    | 8, _, _ => simp [scE, sI2, sF2, sP2, upd]
    | 9, _, _ => simp [scE, sI2, sF2, sP2, upd]
    | 10, _, _ => simp [scE, sI2, sF2, sP2, upd]
    | 11, _, _ => simp [scE, sI2, sF2, sP2, upd]
    | 12, _, _ => simp [scE, sI2, sF2, sP2, upd]
    | 0, _, h => exact absurd rfl h
    | j + 13, h, _ => exact absurd h (by omega))
  simp [scE, sI2, sF2, sP2, upd] at h
  simp [h, sI2, sF2, sP2, upd]
theorem b_p0_8 (hs : 0 < s) {x : Int32} {K : Me → Rs β} : pf (put μ s σ) (s) 5 8 (.int x) K = K (put μ s (sI2 σ 9 6 x)) := by
  unfold pf
  rw [b_ob0 hs]
  dsimp only [List.length, List.set]
  rw [if_pos (by decide)]
  have h := mset_put (μ := μ) (s := s) (i := 0) (σ := σ) (σ' := sI2 σ 9 6 x) (by decide) rfl (fun j hj hne => by
    match j, hj, hne with
    | 1, _, _ => simp [scE, sI2, sF2, sP2, upd]
    | 2, _, _ => simp [scE, sI2, sF2, sP2, upd]
    | 3, _, _ => simp [scE, sI2, sF2, sP2, upd]
    | 4, _, _ => simp [scE, sI2, sF2, sP2, upd]
    | 5, _, _ => simp [scE, sI2, sF2, sP2, upd]
    | 6, _, _ => simp [scE, sI2, sF2, sP2, upd]
    | 7, _, _ => simp [scE, sI2, sF2, sP2, upd]
    | 8, _, _ => simp [scE, sI2, sF2, sP2, upd]
    | 9, _, _ => simp [scE, sI2, sF2, sP2, upd]
    | 10, _, _ => simp [scE, sI2, sF2, sP2, upd]
    | 11, _, _ => simp [scE, sI2, sF2, sP2, upd]
    | 12, _, _ => simp [scE, sI2, sF2, sP2, upd]
    | 0, _, h => exact absurd rfl h
    | j + 13, h, _ => exact absurd h (by omega))
  simp [scE, sI2, sF2, sP2, upd] at h
  simp [h, sI2, sF2, sP2, upd]
theorem b_p0_9 (hs : 0 < s) {x : Int32} {K : Me → Rs β} : pf (put μ s σ) (s) 5 9 (.int x) K = K (put μ s (sI2 σ 9 7 x)) := by
  unfold pf
  rw [b_ob0 hs]
  dsimp only [List.length, List.set]
  rw [if_pos (by decide)]
  have h := mset_put (μ := μ) (s := s) (i := 0) (σ := σ) (σ' := sI2 σ 9 7 x) (by decide) rfl (fun j hj hne => by
    match j, hj, hne with
    | 1, _, _ => simp [scE, sI2, sF2, sP2, upd]
    | 2, _, _ => simp [scE, sI2, sF2, sP2, upd]
    | 3, _, _ => simp [scE, sI2, sF2, sP2, upd]
    | 4, _, _ => simp [scE, sI2, sF2, sP2, upd]
    | 5, _, _ => simp [scE, sI2, sF2, sP2, upd]
    | 6, _, _ => simp [scE, sI2, sF2, sP2, upd]
    | 7, _, _ => simp [scE, sI2, sF2, sP2, upd]
    | 8, _, _ => simp [scE, sI2, sF2, sP2, upd]
    | 9, _, _ => simp [scE, sI2, sF2, sP2, upd]
    | 10, _, _ => simp [scE, sI2, sF2, sP2, upd]
    | 11, _, _ => simp [scE, sI2, sF2, sP2, upd]
    | 12, _, _ => simp [scE, sI2, sF2, sP2, upd]
    | 0, _, h => exact absurd rfl h
    | j + 13, h, _ => exact absurd h (by omega))
  simp [scE, sI2, sF2, sP2, upd] at h
  simp [h, sI2, sF2, sP2, upd]
theorem b_p1_6 {x : Int32} {K : Me → Rs β} : pf (put μ s σ) (s + 1) 3 6 (.int x) K = K (put μ s (sI2 σ 9 0 x)) := by
  unfold pf
  rw [b_ob1]
  dsimp only [List.length, List.set]
  rw [if_pos (by decide)]
  have h := mset_put (μ := μ) (s := s) (i := 1) (σ := σ) (σ' := sI2 σ 9 0 x) (by decide) rfl (fun j hj hne => by
    match j, hj, hne with
    | 0, _, _ => simp [scE, sI2, sF2, sP2, upd]
    | 2, _, _ => simp [scE, sI2, sF2, sP2, upd]
    | 3, _, _ => simp [scE, sI2, sF2, sP2, upd]
    | 4, _, _ => simp [scE, sI2, sF2, sP2, upd]
    | 5, _, _ => simp [scE, sI2, sF2, sP2, upd]
    | 6, _, _ => simp [scE, sI2, sF2, sP2, upd]
    | 7, _, _ => simp [scE, sI2, sF2, sP2, upd]
    | 8, _, _ => simp [scE, sI2, sF2, sP2, upd]
    | 9, _, _ => simp [scE, sI2, sF2, sP2, upd]
    | 10, _, _ => simp [scE, sI2, sF2, sP2, upd]
    | 11, _, _ => simp [scE, sI2, sF2, sP2, upd]
    | 12, _, _ => simp [scE, sI2, sF2, sP2, upd]
    | 1, _, h => exact absurd rfl h
    | j + 13, h, _ => exact absurd h (by omega))
  simp [scE, sI2, sF2, sP2, upd] at h
  simp [h, sI2, sF2, sP2, upd]
theorem b_p8_3 {x : Int32} {K : Me → Rs β} : pf (put μ s σ) (s + 8) 2 3 (.int x) K = K (put μ s (sI2 σ 9 1 x)) := by
  unfold pf
  rw [b_ob8]
  dsimp only [List.length, List.set]
  rw [if_pos (by decide)]
  have h := mset_put (μ := μ) (s := s) (i := 8) (σ := σ) (σ' := sI2 σ 9 1 x) (by decide) rfl (fun j hj hne => by
    match j, hj, hne with
    | 0, _, _ => simp [scE, sI2, sF2, sP2, upd]
    | 1, _, _ => simp [scE, sI2, sF2, sP2, upd]
    | 2, _, _ => simp [scE, sI2, sF2, sP2, upd]
    | 3, _, _ => simp [scE, sI2, sF2, sP2, upd]
    | 4, _, _ => simp [scE, sI2, sF2, sP2, upd]
    | 5, _, _ => simp [scE, sI2, sF2, sP2, upd]
    | 6, _, _ => simp [scE, sI2, sF2, sP2, upd]
    | 7, _, _ => simp [scE, sI2, sF2, sP2, upd]
    | 9, _, _ => simp [scE, sI2, sF2, sP2, upd]
    | 10, _, _ => simp [scE, sI2, sF2, sP2, upd]
    | 11, _, _ => simp [scE, sI2, sF2, sP2, upd]
    | 12, _, _ => simp [scE, sI2, sF2, sP2, upd]
    | 8, _, h => exact absurd rfl h
    | j + 13, h, _ => exact absurd h (by omega))
  simp [scE, sI2, sF2, sP2, upd] at h
  simp [h, sI2, sF2, sP2, upd]
end SCR
