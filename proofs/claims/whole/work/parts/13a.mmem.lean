/-! ===== the model in memory ===== -/
/-- the model's numbers: rows 0-10 its arrays (v, before, saved, kept, past, hasMoved, text, line, isLeft, words, wordAt); row 11: thrown, changes, errorAt, failedAt, isSaved, textN, here, end, lineN, isWrong, isDoing -/
abbrev Mg : Type := Nat → Nat → Int32
def mS (M : Mg) (r j : Nat) (x : Int32) : Mg := fun q => if q = r then upd (M r) j x else M q
def mE (m : Nat) (M : Mg) : Nat → E_
  | 0 => .inr (8, [.int (M 11 0), .int (M 11 1), .int (M 11 2), .int (M 11 3), .int (M 11 4), .ref (m + 1), .ref (m + 2), .ref (m + 3), .ref (m + 4), .ref (m + 5), .ref (m + 6), .ref (m + 7), .ref (m + 8), .ref (m + 9), .ref (m + 10), .ref (m + 11), .int (M 11 5), .int (M 11 6), .int (M 11 7), .int (M 11 8), .int (M 11 9), .int (M 11 10)])
  | 1 => .inl (0, (117, .inl (M 0)))
  | 2 => .inl (0, (117, .inl (M 1)))
  | 3 => .inl (0, (117, .inl (M 2)))
  | 4 => .inl (0, (117, .inl (M 3)))
  | 5 => .inl (0, (936, .inl (M 4)))
  | 6 => .inl (0, (10, .inl (M 5)))
  | 7 => .inl (0, (60, .inl (M 6)))
  | 8 => .inl (0, (8, .inl (M 7)))
  | 9 => .inl (0, (11, .inl (M 8)))
  | 10 => .inl (0, (60, .inl (M 9)))
  | _ => .inl (0, (12, .inl (M 10)))
def pum (μ : Me) (m : Nat) (M : Mg) : Me := fun a => if m ≤ a ∧ a < m + 12 then some (mE m M (a - m)) else μ a
theorem pum_at (μ : Me) (m : Nat) (M : Mg) {i : Nat} (h : i < 12) : pum μ m M (m + i) = some (mE m M i) := by
  unfold pum
  rw [if_pos ⟨by omega, by omega⟩, Nat.add_sub_cancel_left]
theorem pum_out {μ : Me} {m a : Nat} {M : Mg} (h : a < m ∨ m + 12 ≤ a) : pum μ m M a = μ a := by
  unfold pum
  rw [if_neg (by omega)]
theorem pum_pum (μ : Me) (m : Nat) (M N : Mg) : pum (pum μ m M) m N = pum μ m N := by
  funext a
  unfold pum
  by_cases h : m ≤ a ∧ a < m + 12
  · rw [if_pos h, if_pos h]
  · rw [if_neg h, if_neg h, if_neg h]
def AtM (μ : Me) (m : Nat) (M : Mg) : Prop := ∀ i, i < 12 → μ (m + i) = some (mE m M i)
theorem AtM.eq {μ : Me} {m : Nat} {M : Mg} (h : AtM μ m M) : μ = pum μ m M := by
  funext a
  by_cases ha : m ≤ a ∧ a < m + 12
  · have h2 := h (a - m) (by omega)
    rw [show m + (a - m) = a by omega] at h2
    rw [h2, pum, if_pos ha]
  · rw [pum, if_neg ha]
theorem pum_AtM (μ : Me) (m : Nat) (M : Mg) : AtM (pum μ m M) m M := fun _ h => pum_at μ m M h
theorem mset_pum {μ : Me} {m i : Nat} {M M' : Mg} {e : E_} (hi : i < 12) (he : mE m M' i = e) (ho : ∀ j, j < 12 → j ≠ i → mE m M' j = mE m M j) : mset (pum μ m M) (m + i) e = pum μ m M' := by
  funext a
  unfold mset
  by_cases ha : a = m + i
  · rw [if_pos ha, ha, pum_at _ _ _ hi, he]
  · rw [if_neg ha]
    unfold pum
    by_cases h2 : m ≤ a ∧ a < m + 12
    · rw [if_pos h2, if_pos h2, ho (a - m) (by omega) (by omega)]
    · rw [if_neg h2, if_neg h2]
section MMR
variable {β : Type} {μ : Me} {m : Nat} {M : Mg}
theorem w_ob (hm : 0 < m) : ob (pum μ m M) m 8 = some [.int (M 11 0), .int (M 11 1), .int (M 11 2), .int (M 11 3), .int (M 11 4), .ref (m + 1), .ref (m + 2), .ref (m + 3), .ref (m + 4), .ref (m + 5), .ref (m + 6), .ref (m + 7), .ref (m + 8), .ref (m + 9), .ref (m + 10), .ref (m + 11), .int (M 11 5), .int (M 11 6), .int (M 11 7), .int (M 11 8), .int (M 11 9), .int (M 11 10)] := ob_at (pum_at μ m M (i := 0) (by decide)) hm
theorem w_I0 (hm : 0 < m) {K : Int32 → Rs β} : gI (pum μ m M) m 8 0 K = K (M 11 0) := by simp [gI, gf, w_ob hm]
theorem w_I1 (hm : 0 < m) {K : Int32 → Rs β} : gI (pum μ m M) m 8 1 K = K (M 11 1) := by simp [gI, gf, w_ob hm]
theorem w_I2 (hm : 0 < m) {K : Int32 → Rs β} : gI (pum μ m M) m 8 2 K = K (M 11 2) := by simp [gI, gf, w_ob hm]
theorem w_I3 (hm : 0 < m) {K : Int32 → Rs β} : gI (pum μ m M) m 8 3 K = K (M 11 3) := by simp [gI, gf, w_ob hm]
theorem w_I4 (hm : 0 < m) {K : Int32 → Rs β} : gI (pum μ m M) m 8 4 K = K (M 11 4) := by simp [gI, gf, w_ob hm]
theorem w_R5 (hm : 0 < m) {K : Nat → Rs β} : gR (pum μ m M) m 8 5 K = K (m + 1) := by simp [gR, gf, w_ob hm]
theorem w_R6 (hm : 0 < m) {K : Nat → Rs β} : gR (pum μ m M) m 8 6 K = K (m + 2) := by simp [gR, gf, w_ob hm]
theorem w_R7 (hm : 0 < m) {K : Nat → Rs β} : gR (pum μ m M) m 8 7 K = K (m + 3) := by simp [gR, gf, w_ob hm]
theorem w_R8 (hm : 0 < m) {K : Nat → Rs β} : gR (pum μ m M) m 8 8 K = K (m + 4) := by simp [gR, gf, w_ob hm]
theorem w_R9 (hm : 0 < m) {K : Nat → Rs β} : gR (pum μ m M) m 8 9 K = K (m + 5) := by simp [gR, gf, w_ob hm]
theorem w_R10 (hm : 0 < m) {K : Nat → Rs β} : gR (pum μ m M) m 8 10 K = K (m + 6) := by simp [gR, gf, w_ob hm]
theorem w_R11 (hm : 0 < m) {K : Nat → Rs β} : gR (pum μ m M) m 8 11 K = K (m + 7) := by simp [gR, gf, w_ob hm]
theorem w_R12 (hm : 0 < m) {K : Nat → Rs β} : gR (pum μ m M) m 8 12 K = K (m + 8) := by simp [gR, gf, w_ob hm]
theorem w_R13 (hm : 0 < m) {K : Nat → Rs β} : gR (pum μ m M) m 8 13 K = K (m + 9) := by simp [gR, gf, w_ob hm]
theorem w_R14 (hm : 0 < m) {K : Nat → Rs β} : gR (pum μ m M) m 8 14 K = K (m + 10) := by simp [gR, gf, w_ob hm]
theorem w_R15 (hm : 0 < m) {K : Nat → Rs β} : gR (pum μ m M) m 8 15 K = K (m + 11) := by simp [gR, gf, w_ob hm]
theorem w_I16 (hm : 0 < m) {K : Int32 → Rs β} : gI (pum μ m M) m 8 16 K = K (M 11 5) := by simp [gI, gf, w_ob hm]
theorem w_I17 (hm : 0 < m) {K : Int32 → Rs β} : gI (pum μ m M) m 8 17 K = K (M 11 6) := by simp [gI, gf, w_ob hm]
theorem w_I18 (hm : 0 < m) {K : Int32 → Rs β} : gI (pum μ m M) m 8 18 K = K (M 11 7) := by simp [gI, gf, w_ob hm]
theorem w_I19 (hm : 0 < m) {K : Int32 → Rs β} : gI (pum μ m M) m 8 19 K = K (M 11 8) := by simp [gI, gf, w_ob hm]
theorem w_I20 (hm : 0 < m) {K : Int32 → Rs β} : gI (pum μ m M) m 8 20 K = K (M 11 9) := by simp [gI, gf, w_ob hm]
theorem w_I21 (hm : 0 < m) {K : Int32 → Rs β} : gI (pum μ m M) m 8 21 K = K (M 11 10) := by simp [gI, gf, w_ob hm]
theorem w_vc (hm : 0 < m) {x : Rs β} : vc (pum μ m M) m 8 x = x := by simp [vc, w_ob hm]
theorem w_ar0 : ar (pum μ m M) (m + 1) 0 = some (117, .inl (M 0)) := ar_at (pum_at μ m M (i := 1) (by decide)) (by omega)
theorem w_a0 {i : Int32} {K : Int32 → Rs β} : aI (pum μ m M) (m + 1) i K = if inb i 117 = true then K (M 0 i.toNatClampNeg) else none := by simp [aI, w_ar0]
theorem w_s0 {i x : Int32} {K : Me → Rs β} : sI (pum μ m M) (m + 1) i x K = if inb i 117 = true then K (pum μ m (mS M 0 i.toNatClampNeg x)) else none := by
  simp only [sI, w_ar0]
  rw [mset_pum (M' := mS M 0 i.toNatClampNeg x) (by decide) (by simp [mE, mS]) (fun j hj hne => ?_)]
  match j, hj, hne with
  | 0, _, _ => simp [mE, mS]
  | 2, _, _ => simp [mE, mS]
  | 3, _, _ => simp [mE, mS]
  | 4, _, _ => simp [mE, mS]
  | 5, _, _ => simp [mE, mS]
  | 6, _, _ => simp [mE, mS]
  | 7, _, _ => simp [mE, mS]
  | 8, _, _ => simp [mE, mS]
  | 9, _, _ => simp [mE, mS]
  | 10, _, _ => simp [mE, mS]
  | 11, _, _ => simp [mE, mS]
  | 1, _, h => exact absurd rfl h
  | j + 12, h, _ => exact absurd h (by omega)
theorem w_ar1 : ar (pum μ m M) (m + 2) 0 = some (117, .inl (M 1)) := ar_at (pum_at μ m M (i := 2) (by decide)) (by omega)
theorem w_a1 {i : Int32} {K : Int32 → Rs β} : aI (pum μ m M) (m + 2) i K = if inb i 117 = true then K (M 1 i.toNatClampNeg) else none := by simp [aI, w_ar1]
theorem w_s1 {i x : Int32} {K : Me → Rs β} : sI (pum μ m M) (m + 2) i x K = if inb i 117 = true then K (pum μ m (mS M 1 i.toNatClampNeg x)) else none := by
  simp only [sI, w_ar1]
  rw [mset_pum (M' := mS M 1 i.toNatClampNeg x) (by decide) (by simp [mE, mS]) (fun j hj hne => ?_)]
  match j, hj, hne with
  | 0, _, _ => simp [mE, mS]
  | 1, _, _ => simp [mE, mS]
  | 3, _, _ => simp [mE, mS]
  | 4, _, _ => simp [mE, mS]
  | 5, _, _ => simp [mE, mS]
  | 6, _, _ => simp [mE, mS]
  | 7, _, _ => simp [mE, mS]
  | 8, _, _ => simp [mE, mS]
  | 9, _, _ => simp [mE, mS]
  | 10, _, _ => simp [mE, mS]
  | 11, _, _ => simp [mE, mS]
  | 2, _, h => exact absurd rfl h
  | j + 12, h, _ => exact absurd h (by omega)
theorem w_ar2 : ar (pum μ m M) (m + 3) 0 = some (117, .inl (M 2)) := ar_at (pum_at μ m M (i := 3) (by decide)) (by omega)
theorem w_a2 {i : Int32} {K : Int32 → Rs β} : aI (pum μ m M) (m + 3) i K = if inb i 117 = true then K (M 2 i.toNatClampNeg) else none := by simp [aI, w_ar2]
theorem w_s2 {i x : Int32} {K : Me → Rs β} : sI (pum μ m M) (m + 3) i x K = if inb i 117 = true then K (pum μ m (mS M 2 i.toNatClampNeg x)) else none := by
  simp only [sI, w_ar2]
  rw [mset_pum (M' := mS M 2 i.toNatClampNeg x) (by decide) (by simp [mE, mS]) (fun j hj hne => ?_)]
  match j, hj, hne with
  | 0, _, _ => simp [mE, mS]
  | 1, _, _ => simp [mE, mS]
  | 2, _, _ => simp [mE, mS]
  | 4, _, _ => simp [mE, mS]
  | 5, _, _ => simp [mE, mS]
  | 6, _, _ => simp [mE, mS]
  | 7, _, _ => simp [mE, mS]
  | 8, _, _ => simp [mE, mS]
  | 9, _, _ => simp [mE, mS]
  | 10, _, _ => simp [mE, mS]
  | 11, _, _ => simp [mE, mS]
  | 3, _, h => exact absurd rfl h
  | j + 12, h, _ => exact absurd h (by omega)
theorem w_ar3 : ar (pum μ m M) (m + 4) 0 = some (117, .inl (M 3)) := ar_at (pum_at μ m M (i := 4) (by decide)) (by omega)
theorem w_a3 {i : Int32} {K : Int32 → Rs β} : aI (pum μ m M) (m + 4) i K = if inb i 117 = true then K (M 3 i.toNatClampNeg) else none := by simp [aI, w_ar3]
theorem w_s3 {i x : Int32} {K : Me → Rs β} : sI (pum μ m M) (m + 4) i x K = if inb i 117 = true then K (pum μ m (mS M 3 i.toNatClampNeg x)) else none := by
  simp only [sI, w_ar3]
  rw [mset_pum (M' := mS M 3 i.toNatClampNeg x) (by decide) (by simp [mE, mS]) (fun j hj hne => ?_)]
  match j, hj, hne with
  | 0, _, _ => simp [mE, mS]
  | 1, _, _ => simp [mE, mS]
  | 2, _, _ => simp [mE, mS]
  | 3, _, _ => simp [mE, mS]
  | 5, _, _ => simp [mE, mS]
  | 6, _, _ => simp [mE, mS]
  | 7, _, _ => simp [mE, mS]
  | 8, _, _ => simp [mE, mS]
  | 9, _, _ => simp [mE, mS]
  | 10, _, _ => simp [mE, mS]
  | 11, _, _ => simp [mE, mS]
  | 4, _, h => exact absurd rfl h
  | j + 12, h, _ => exact absurd h (by omega)
theorem w_ar4 : ar (pum μ m M) (m + 5) 0 = some (936, .inl (M 4)) := ar_at (pum_at μ m M (i := 5) (by decide)) (by omega)
theorem w_a4 {i : Int32} {K : Int32 → Rs β} : aI (pum μ m M) (m + 5) i K = if inb i 936 = true then K (M 4 i.toNatClampNeg) else none := by simp [aI, w_ar4]
theorem w_s4 {i x : Int32} {K : Me → Rs β} : sI (pum μ m M) (m + 5) i x K = if inb i 936 = true then K (pum μ m (mS M 4 i.toNatClampNeg x)) else none := by
  simp only [sI, w_ar4]
  rw [mset_pum (M' := mS M 4 i.toNatClampNeg x) (by decide) (by simp [mE, mS]) (fun j hj hne => ?_)]
  match j, hj, hne with
  | 0, _, _ => simp [mE, mS]
  | 1, _, _ => simp [mE, mS]
  | 2, _, _ => simp [mE, mS]
  | 3, _, _ => simp [mE, mS]
  | 4, _, _ => simp [mE, mS]
  | 6, _, _ => simp [mE, mS]
  | 7, _, _ => simp [mE, mS]
  | 8, _, _ => simp [mE, mS]
  | 9, _, _ => simp [mE, mS]
  | 10, _, _ => simp [mE, mS]
  | 11, _, _ => simp [mE, mS]
  | 5, _, h => exact absurd rfl h
  | j + 12, h, _ => exact absurd h (by omega)
theorem w_ar5 : ar (pum μ m M) (m + 6) 0 = some (10, .inl (M 5)) := ar_at (pum_at μ m M (i := 6) (by decide)) (by omega)
theorem w_a5 {i : Int32} {K : Int32 → Rs β} : aI (pum μ m M) (m + 6) i K = if inb i 10 = true then K (M 5 i.toNatClampNeg) else none := by simp [aI, w_ar5]
theorem w_s5 {i x : Int32} {K : Me → Rs β} : sI (pum μ m M) (m + 6) i x K = if inb i 10 = true then K (pum μ m (mS M 5 i.toNatClampNeg x)) else none := by
  simp only [sI, w_ar5]
  rw [mset_pum (M' := mS M 5 i.toNatClampNeg x) (by decide) (by simp [mE, mS]) (fun j hj hne => ?_)]
  match j, hj, hne with
  | 0, _, _ => simp [mE, mS]
  | 1, _, _ => simp [mE, mS]
  | 2, _, _ => simp [mE, mS]
  | 3, _, _ => simp [mE, mS]
  | 4, _, _ => simp [mE, mS]
  | 5, _, _ => simp [mE, mS]
  | 7, _, _ => simp [mE, mS]
  | 8, _, _ => simp [mE, mS]
  | 9, _, _ => simp [mE, mS]
  | 10, _, _ => simp [mE, mS]
  | 11, _, _ => simp [mE, mS]
  | 6, _, h => exact absurd rfl h
  | j + 12, h, _ => exact absurd h (by omega)
theorem w_ar6 : ar (pum μ m M) (m + 7) 0 = some (60, .inl (M 6)) := ar_at (pum_at μ m M (i := 7) (by decide)) (by omega)
theorem w_a6 {i : Int32} {K : Int32 → Rs β} : aI (pum μ m M) (m + 7) i K = if inb i 60 = true then K (M 6 i.toNatClampNeg) else none := by simp [aI, w_ar6]
theorem w_s6 {i x : Int32} {K : Me → Rs β} : sI (pum μ m M) (m + 7) i x K = if inb i 60 = true then K (pum μ m (mS M 6 i.toNatClampNeg x)) else none := by
  simp only [sI, w_ar6]
  rw [mset_pum (M' := mS M 6 i.toNatClampNeg x) (by decide) (by simp [mE, mS]) (fun j hj hne => ?_)]
  match j, hj, hne with
  | 0, _, _ => simp [mE, mS]
  | 1, _, _ => simp [mE, mS]
  | 2, _, _ => simp [mE, mS]
  | 3, _, _ => simp [mE, mS]
  | 4, _, _ => simp [mE, mS]
  | 5, _, _ => simp [mE, mS]
  | 6, _, _ => simp [mE, mS]
  | 8, _, _ => simp [mE, mS]
  | 9, _, _ => simp [mE, mS]
  | 10, _, _ => simp [mE, mS]
  | 11, _, _ => simp [mE, mS]
  | 7, _, h => exact absurd rfl h
  | j + 12, h, _ => exact absurd h (by omega)
theorem w_ar7 : ar (pum μ m M) (m + 8) 0 = some (8, .inl (M 7)) := ar_at (pum_at μ m M (i := 8) (by decide)) (by omega)
theorem w_a7 {i : Int32} {K : Int32 → Rs β} : aI (pum μ m M) (m + 8) i K = if inb i 8 = true then K (M 7 i.toNatClampNeg) else none := by simp [aI, w_ar7]
theorem w_s7 {i x : Int32} {K : Me → Rs β} : sI (pum μ m M) (m + 8) i x K = if inb i 8 = true then K (pum μ m (mS M 7 i.toNatClampNeg x)) else none := by
  simp only [sI, w_ar7]
  rw [mset_pum (M' := mS M 7 i.toNatClampNeg x) (by decide) (by simp [mE, mS]) (fun j hj hne => ?_)]
  match j, hj, hne with
  | 0, _, _ => simp [mE, mS]
  | 1, _, _ => simp [mE, mS]
  | 2, _, _ => simp [mE, mS]
  | 3, _, _ => simp [mE, mS]
  | 4, _, _ => simp [mE, mS]
  | 5, _, _ => simp [mE, mS]
  | 6, _, _ => simp [mE, mS]
  | 7, _, _ => simp [mE, mS]
  | 9, _, _ => simp [mE, mS]
  | 10, _, _ => simp [mE, mS]
  | 11, _, _ => simp [mE, mS]
  | 8, _, h => exact absurd rfl h
  | j + 12, h, _ => exact absurd h (by omega)
theorem w_ar8 : ar (pum μ m M) (m + 9) 0 = some (11, .inl (M 8)) := ar_at (pum_at μ m M (i := 9) (by decide)) (by omega)
theorem w_a8 {i : Int32} {K : Int32 → Rs β} : aI (pum μ m M) (m + 9) i K = if inb i 11 = true then K (M 8 i.toNatClampNeg) else none := by simp [aI, w_ar8]
theorem w_s8 {i x : Int32} {K : Me → Rs β} : sI (pum μ m M) (m + 9) i x K = if inb i 11 = true then K (pum μ m (mS M 8 i.toNatClampNeg x)) else none := by
  simp only [sI, w_ar8]
  rw [mset_pum (M' := mS M 8 i.toNatClampNeg x) (by decide) (by simp [mE, mS]) (fun j hj hne => ?_)]
  match j, hj, hne with
  | 0, _, _ => simp [mE, mS]
  | 1, _, _ => simp [mE, mS]
  | 2, _, _ => simp [mE, mS]
  | 3, _, _ => simp [mE, mS]
  | 4, _, _ => simp [mE, mS]
  | 5, _, _ => simp [mE, mS]
  | 6, _, _ => simp [mE, mS]
  | 7, _, _ => simp [mE, mS]
  | 8, _, _ => simp [mE, mS]
  | 10, _, _ => simp [mE, mS]
  | 11, _, _ => simp [mE, mS]
  | 9, _, h => exact absurd rfl h
  | j + 12, h, _ => exact absurd h (by omega)
theorem w_ar9 : ar (pum μ m M) (m + 10) 0 = some (60, .inl (M 9)) := ar_at (pum_at μ m M (i := 10) (by decide)) (by omega)
theorem w_a9 {i : Int32} {K : Int32 → Rs β} : aI (pum μ m M) (m + 10) i K = if inb i 60 = true then K (M 9 i.toNatClampNeg) else none := by simp [aI, w_ar9]
theorem w_s9 {i x : Int32} {K : Me → Rs β} : sI (pum μ m M) (m + 10) i x K = if inb i 60 = true then K (pum μ m (mS M 9 i.toNatClampNeg x)) else none := by
  simp only [sI, w_ar9]
  rw [mset_pum (M' := mS M 9 i.toNatClampNeg x) (by decide) (by simp [mE, mS]) (fun j hj hne => ?_)]
  match j, hj, hne with
  | 0, _, _ => simp [mE, mS]
  | 1, _, _ => simp [mE, mS]
  | 2, _, _ => simp [mE, mS]
  | 3, _, _ => simp [mE, mS]
  | 4, _, _ => simp [mE, mS]
  | 5, _, _ => simp [mE, mS]
  | 6, _, _ => simp [mE, mS]
  | 7, _, _ => simp [mE, mS]
  | 8, _, _ => simp [mE, mS]
  | 9, _, _ => simp [mE, mS]
  | 11, _, _ => simp [mE, mS]
  | 10, _, h => exact absurd rfl h
  | j + 12, h, _ => exact absurd h (by omega)
theorem w_ar10 : ar (pum μ m M) (m + 11) 0 = some (12, .inl (M 10)) := ar_at (pum_at μ m M (i := 11) (by decide)) (by omega)
theorem w_a10 {i : Int32} {K : Int32 → Rs β} : aI (pum μ m M) (m + 11) i K = if inb i 12 = true then K (M 10 i.toNatClampNeg) else none := by simp [aI, w_ar10]
theorem w_s10 {i x : Int32} {K : Me → Rs β} : sI (pum μ m M) (m + 11) i x K = if inb i 12 = true then K (pum μ m (mS M 10 i.toNatClampNeg x)) else none := by
  simp only [sI, w_ar10]
  rw [mset_pum (M' := mS M 10 i.toNatClampNeg x) (by decide) (by simp [mE, mS]) (fun j hj hne => ?_)]
  match j, hj, hne with
  | 0, _, _ => simp [mE, mS]
  | 1, _, _ => simp [mE, mS]
  | 2, _, _ => simp [mE, mS]
  | 3, _, _ => simp [mE, mS]
  | 4, _, _ => simp [mE, mS]
  | 5, _, _ => simp [mE, mS]
  | 6, _, _ => simp [mE, mS]
  | 7, _, _ => simp [mE, mS]
  | 8, _, _ => simp [mE, mS]
  | 9, _, _ => simp [mE, mS]
  | 10, _, _ => simp [mE, mS]
  | 11, _, h => exact absurd rfl h
  | j + 12, h, _ => exact absurd h (by omega)
theorem w_p0 (hm : 0 < m) {x : Int32} {K : Me → Rs β} : pf (pum μ m M) m 8 0 (.int x) K = K (pum μ m (mS M 11 0 x)) := by
  unfold pf
  rw [w_ob hm]
  dsimp only [List.length, List.set]
  rw [if_pos (by decide)]
  have h := mset_pum (μ := μ) (m := m) (i := 0) (M := M) (M' := mS M 11 0 x) (by decide) rfl (fun j hj hne => by
    match j, hj, hne with
    | 0, _, h => exact absurd rfl h
    | 1, _, _ => simp [mE, mS]
    | 2, _, _ => simp [mE, mS]
    | 3, _, _ => simp [mE, mS]
    | 4, _, _ => simp [mE, mS]
    | 5, _, _ => simp [mE, mS]
    | 6, _, _ => simp [mE, mS]
    | 7, _, _ => simp [mE, mS]
    | 8, _, _ => simp [mE, mS]
    | 9, _, _ => simp [mE, mS]
    | 10, _, _ => simp [mE, mS]
    | 11, _, _ => simp [mE, mS]
    | j + 12, h, _ => exact absurd h (by omega))
  simp [mE, mS, upd] at h
  simp [h, mS, upd]
theorem w_p1 (hm : 0 < m) {x : Int32} {K : Me → Rs β} : pf (pum μ m M) m 8 1 (.int x) K = K (pum μ m (mS M 11 1 x)) := by
  unfold pf
  rw [w_ob hm]
  dsimp only [List.length, List.set]
  rw [if_pos (by decide)]
  have h := mset_pum (μ := μ) (m := m) (i := 0) (M := M) (M' := mS M 11 1 x) (by decide) rfl (fun j hj hne => by
    match j, hj, hne with
    | 0, _, h => exact absurd rfl h
    | 1, _, _ => simp [mE, mS]
    | 2, _, _ => simp [mE, mS]
    | 3, _, _ => simp [mE, mS]
    | 4, _, _ => simp [mE, mS]
    | 5, _, _ => simp [mE, mS]
    | 6, _, _ => simp [mE, mS]
    | 7, _, _ => simp [mE, mS]
    | 8, _, _ => simp [mE, mS]
    | 9, _, _ => simp [mE, mS]
    | 10, _, _ => simp [mE, mS]
    | 11, _, _ => simp [mE, mS]
    | j + 12, h, _ => exact absurd h (by omega))
  simp [mE, mS, upd] at h
  simp [h, mS, upd]
theorem w_p2 (hm : 0 < m) {x : Int32} {K : Me → Rs β} : pf (pum μ m M) m 8 2 (.int x) K = K (pum μ m (mS M 11 2 x)) := by
  unfold pf
  rw [w_ob hm]
  dsimp only [List.length, List.set]
  rw [if_pos (by decide)]
  have h := mset_pum (μ := μ) (m := m) (i := 0) (M := M) (M' := mS M 11 2 x) (by decide) rfl (fun j hj hne => by
    match j, hj, hne with
    | 0, _, h => exact absurd rfl h
    | 1, _, _ => simp [mE, mS]
    | 2, _, _ => simp [mE, mS]
    | 3, _, _ => simp [mE, mS]
    | 4, _, _ => simp [mE, mS]
    | 5, _, _ => simp [mE, mS]
    | 6, _, _ => simp [mE, mS]
    | 7, _, _ => simp [mE, mS]
    | 8, _, _ => simp [mE, mS]
    | 9, _, _ => simp [mE, mS]
    | 10, _, _ => simp [mE, mS]
    | 11, _, _ => simp [mE, mS]
    | j + 12, h, _ => exact absurd h (by omega))
  simp [mE, mS, upd] at h
  simp [h, mS, upd]
theorem w_p3 (hm : 0 < m) {x : Int32} {K : Me → Rs β} : pf (pum μ m M) m 8 3 (.int x) K = K (pum μ m (mS M 11 3 x)) := by
  unfold pf
  rw [w_ob hm]
  dsimp only [List.length, List.set]
  rw [if_pos (by decide)]
  have h := mset_pum (μ := μ) (m := m) (i := 0) (M := M) (M' := mS M 11 3 x) (by decide) rfl (fun j hj hne => by
    match j, hj, hne with
    | 0, _, h => exact absurd rfl h
    | 1, _, _ => simp [mE, mS]
    | 2, _, _ => simp [mE, mS]
    | 3, _, _ => simp [mE, mS]
    | 4, _, _ => simp [mE, mS]
    | 5, _, _ => simp [mE, mS]
    | 6, _, _ => simp [mE, mS]
    | 7, _, _ => simp [mE, mS]
    | 8, _, _ => simp [mE, mS]
    | 9, _, _ => simp [mE, mS]
    | 10, _, _ => simp [mE, mS]
    | 11, _, _ => simp [mE, mS]
    | j + 12, h, _ => exact absurd h (by omega))
  simp [mE, mS, upd] at h
  simp [h, mS, upd]
theorem w_p4 (hm : 0 < m) {x : Int32} {K : Me → Rs β} : pf (pum μ m M) m 8 4 (.int x) K = K (pum μ m (mS M 11 4 x)) := by
  unfold pf
  rw [w_ob hm]
  dsimp only [List.length, List.set]
  rw [if_pos (by decide)]
  have h := mset_pum (μ := μ) (m := m) (i := 0) (M := M) (M' := mS M 11 4 x) (by decide) rfl (fun j hj hne => by
    match j, hj, hne with
    | 0, _, h => exact absurd rfl h
    | 1, _, _ => simp [mE, mS]
    | 2, _, _ => simp [mE, mS]
    | 3, _, _ => simp [mE, mS]
    | 4, _, _ => simp [mE, mS]
    | 5, _, _ => simp [mE, mS]
    | 6, _, _ => simp [mE, mS]
    | 7, _, _ => simp [mE, mS]
    | 8, _, _ => simp [mE, mS]
    | 9, _, _ => simp [mE, mS]
    | 10, _, _ => simp [mE, mS]
    | 11, _, _ => simp [mE, mS]
    | j + 12, h, _ => exact absurd h (by omega))
  simp [mE, mS, upd] at h
  simp [h, mS, upd]
theorem w_p16 (hm : 0 < m) {x : Int32} {K : Me → Rs β} : pf (pum μ m M) m 8 16 (.int x) K = K (pum μ m (mS M 11 5 x)) := by
  unfold pf
  rw [w_ob hm]
  dsimp only [List.length, List.set]
  rw [if_pos (by decide)]
  have h := mset_pum (μ := μ) (m := m) (i := 0) (M := M) (M' := mS M 11 5 x) (by decide) rfl (fun j hj hne => by
    match j, hj, hne with
    | 0, _, h => exact absurd rfl h
    | 1, _, _ => simp [mE, mS]
    | 2, _, _ => simp [mE, mS]
    | 3, _, _ => simp [mE, mS]
    | 4, _, _ => simp [mE, mS]
    | 5, _, _ => simp [mE, mS]
    | 6, _, _ => simp [mE, mS]
    | 7, _, _ => simp [mE, mS]
    | 8, _, _ => simp [mE, mS]
    | 9, _, _ => simp [mE, mS]
    | 10, _, _ => simp [mE, mS]
    | 11, _, _ => simp [mE, mS]
    | j + 12, h, _ => exact absurd h (by omega))
  simp [mE, mS, upd] at h
  simp [h, mS, upd]
theorem w_p17 (hm : 0 < m) {x : Int32} {K : Me → Rs β} : pf (pum μ m M) m 8 17 (.int x) K = K (pum μ m (mS M 11 6 x)) := by
  unfold pf
  rw [w_ob hm]
  dsimp only [List.length, List.set]
  rw [if_pos (by decide)]
  have h := mset_pum (μ := μ) (m := m) (i := 0) (M := M) (M' := mS M 11 6 x) (by decide) rfl (fun j hj hne => by
    match j, hj, hne with
    | 0, _, h => exact absurd rfl h
    | 1, _, _ => simp [mE, mS]
    | 2, _, _ => simp [mE, mS]
    | 3, _, _ => simp [mE, mS]
    | 4, _, _ => simp [mE, mS]
    | 5, _, _ => simp [mE, mS]
    | 6, _, _ => simp [mE, mS]
    | 7, _, _ => simp [mE, mS]
    | 8, _, _ => simp [mE, mS]
    | 9, _, _ => simp [mE, mS]
    | 10, _, _ => simp [mE, mS]
    | 11, _, _ => simp [mE, mS]
    | j + 12, h, _ => exact absurd h (by omega))
  simp [mE, mS, upd] at h
  simp [h, mS, upd]
theorem w_p18 (hm : 0 < m) {x : Int32} {K : Me → Rs β} : pf (pum μ m M) m 8 18 (.int x) K = K (pum μ m (mS M 11 7 x)) := by
  unfold pf
  rw [w_ob hm]
  dsimp only [List.length, List.set]
  rw [if_pos (by decide)]
  have h := mset_pum (μ := μ) (m := m) (i := 0) (M := M) (M' := mS M 11 7 x) (by decide) rfl (fun j hj hne => by
    match j, hj, hne with
    | 0, _, h => exact absurd rfl h
    | 1, _, _ => simp [mE, mS]
    | 2, _, _ => simp [mE, mS]
    | 3, _, _ => simp [mE, mS]
    | 4, _, _ => simp [mE, mS]
    | 5, _, _ => simp [mE, mS]
    | 6, _, _ => simp [mE, mS]
    | 7, _, _ => simp [mE, mS]
    | 8, _, _ => simp [mE, mS]
    | 9, _, _ => simp [mE, mS]
    | 10, _, _ => simp [mE, mS]
    | 11, _, _ => simp [mE, mS]
    | j + 12, h, _ => exact absurd h (by omega))
  simp [mE, mS, upd] at h
  simp [h, mS, upd]
theorem w_p19 (hm : 0 < m) {x : Int32} {K : Me → Rs β} : pf (pum μ m M) m 8 19 (.int x) K = K (pum μ m (mS M 11 8 x)) := by
  unfold pf
  rw [w_ob hm]
  dsimp only [List.length, List.set]
  rw [if_pos (by decide)]
  have h := mset_pum (μ := μ) (m := m) (i := 0) (M := M) (M' := mS M 11 8 x) (by decide) rfl (fun j hj hne => by
    match j, hj, hne with
    | 0, _, h => exact absurd rfl h
    | 1, _, _ => simp [mE, mS]
    | 2, _, _ => simp [mE, mS]
    | 3, _, _ => simp [mE, mS]
    | 4, _, _ => simp [mE, mS]
    | 5, _, _ => simp [mE, mS]
    | 6, _, _ => simp [mE, mS]
    | 7, _, _ => simp [mE, mS]
    | 8, _, _ => simp [mE, mS]
    | 9, _, _ => simp [mE, mS]
    | 10, _, _ => simp [mE, mS]
    | 11, _, _ => simp [mE, mS]
    | j + 12, h, _ => exact absurd h (by omega))
  simp [mE, mS, upd] at h
  simp [h, mS, upd]
theorem w_p20 (hm : 0 < m) {x : Int32} {K : Me → Rs β} : pf (pum μ m M) m 8 20 (.int x) K = K (pum μ m (mS M 11 9 x)) := by
  unfold pf
  rw [w_ob hm]
  dsimp only [List.length, List.set]
  rw [if_pos (by decide)]
  have h := mset_pum (μ := μ) (m := m) (i := 0) (M := M) (M' := mS M 11 9 x) (by decide) rfl (fun j hj hne => by
    match j, hj, hne with
    | 0, _, h => exact absurd rfl h
    | 1, _, _ => simp [mE, mS]
    | 2, _, _ => simp [mE, mS]
    | 3, _, _ => simp [mE, mS]
    | 4, _, _ => simp [mE, mS]
    | 5, _, _ => simp [mE, mS]
    | 6, _, _ => simp [mE, mS]
    | 7, _, _ => simp [mE, mS]
    | 8, _, _ => simp [mE, mS]
    | 9, _, _ => simp [mE, mS]
    | 10, _, _ => simp [mE, mS]
    | 11, _, _ => simp [mE, mS]
    | j + 12, h, _ => exact absurd h (by omega))
  simp [mE, mS, upd] at h
  simp [h, mS, upd]
theorem w_p21 (hm : 0 < m) {x : Int32} {K : Me → Rs β} : pf (pum μ m M) m 8 21 (.int x) K = K (pum μ m (mS M 11 10 x)) := by
  unfold pf
  rw [w_ob hm]
  dsimp only [List.length, List.set]
  rw [if_pos (by decide)]
  have h := mset_pum (μ := μ) (m := m) (i := 0) (M := M) (M' := mS M 11 10 x) (by decide) rfl (fun j hj hne => by
    match j, hj, hne with
    | 0, _, h => exact absurd rfl h
    | 1, _, _ => simp [mE, mS]
    | 2, _, _ => simp [mE, mS]
    | 3, _, _ => simp [mE, mS]
    | 4, _, _ => simp [mE, mS]
    | 5, _, _ => simp [mE, mS]
    | 6, _, _ => simp [mE, mS]
    | 7, _, _ => simp [mE, mS]
    | 8, _, _ => simp [mE, mS]
    | 9, _, _ => simp [mE, mS]
    | 10, _, _ => simp [mE, mS]
    | 11, _, _ => simp [mE, mS]
    | j + 12, h, _ => exact absurd h (by omega))
  simp [mE, mS, upd] at h
  simp [h, mS, upd]
end MMR
theorem nI_mul (a b : Nat) : nI a * nI b = nI (a * b) := (Int32.ofNat_mul a b).symm
theorem o_0 (d : Nat) (μ : Me) : FX8_of (nI d) 0 μ = rt (nI (13 + 6 * d + 0)) μ := by
  have h : ((13 + (6 * nI d)) + 0 : Int32) = nI (13 + 6 * d + 0) := by
    rw [show (6 : Int32) = nI 6 from rfl, nI_mul, show (13 : Int32) = nI 13 from rfl, nI_add, show ((0 : Int32)) = nI 0 from rfl, nI_add]
  unfold FX8_of
  rw [h]
theorem iv_0 {d : Nat} (h : d < 10) : inb (nI (13 + 6 * d + 0)) 117 = true := inb_n (by omega) (by omega)
theorem cv_0 {d : Nat} (h : d < 10) : (nI (13 + 6 * d + 0)).toNatClampNeg = 13 + 6 * d + 0 := nI_clamp (by omega)
theorem o_1 (d : Nat) (μ : Me) : FX8_of (nI d) 1 μ = rt (nI (13 + 6 * d + 1)) μ := by
  have h : ((13 + (6 * nI d)) + 1 : Int32) = nI (13 + 6 * d + 1) := by
    rw [show (6 : Int32) = nI 6 from rfl, nI_mul, show (13 : Int32) = nI 13 from rfl, nI_add, show ((1 : Int32)) = nI 1 from rfl, nI_add]
  unfold FX8_of
  rw [h]
theorem iv_1 {d : Nat} (h : d < 10) : inb (nI (13 + 6 * d + 1)) 117 = true := inb_n (by omega) (by omega)
theorem cv_1 {d : Nat} (h : d < 10) : (nI (13 + 6 * d + 1)).toNatClampNeg = 13 + 6 * d + 1 := nI_clamp (by omega)
theorem o_2 (d : Nat) (μ : Me) : FX8_of (nI d) 2 μ = rt (nI (13 + 6 * d + 2)) μ := by
  have h : ((13 + (6 * nI d)) + 2 : Int32) = nI (13 + 6 * d + 2) := by
    rw [show (6 : Int32) = nI 6 from rfl, nI_mul, show (13 : Int32) = nI 13 from rfl, nI_add, show ((2 : Int32)) = nI 2 from rfl, nI_add]
  unfold FX8_of
  rw [h]
theorem iv_2 {d : Nat} (h : d < 10) : inb (nI (13 + 6 * d + 2)) 117 = true := inb_n (by omega) (by omega)
theorem cv_2 {d : Nat} (h : d < 10) : (nI (13 + 6 * d + 2)).toNatClampNeg = 13 + 6 * d + 2 := nI_clamp (by omega)
theorem o_3 (d : Nat) (μ : Me) : FX8_of (nI d) 3 μ = rt (nI (13 + 6 * d + 3)) μ := by
  have h : ((13 + (6 * nI d)) + 3 : Int32) = nI (13 + 6 * d + 3) := by
    rw [show (6 : Int32) = nI 6 from rfl, nI_mul, show (13 : Int32) = nI 13 from rfl, nI_add, show ((3 : Int32)) = nI 3 from rfl, nI_add]
  unfold FX8_of
  rw [h]
theorem iv_3 {d : Nat} (h : d < 10) : inb (nI (13 + 6 * d + 3)) 117 = true := inb_n (by omega) (by omega)
theorem cv_3 {d : Nat} (h : d < 10) : (nI (13 + 6 * d + 3)).toNatClampNeg = 13 + 6 * d + 3 := nI_clamp (by omega)
theorem o_4 (d : Nat) (μ : Me) : FX8_of (nI d) 4 μ = rt (nI (13 + 6 * d + 4)) μ := by
  have h : ((13 + (6 * nI d)) + 4 : Int32) = nI (13 + 6 * d + 4) := by
    rw [show (6 : Int32) = nI 6 from rfl, nI_mul, show (13 : Int32) = nI 13 from rfl, nI_add, show ((4 : Int32)) = nI 4 from rfl, nI_add]
  unfold FX8_of
  rw [h]
theorem iv_4 {d : Nat} (h : d < 10) : inb (nI (13 + 6 * d + 4)) 117 = true := inb_n (by omega) (by omega)
theorem cv_4 {d : Nat} (h : d < 10) : (nI (13 + 6 * d + 4)).toNatClampNeg = 13 + 6 * d + 4 := nI_clamp (by omega)
theorem o_5 (d : Nat) (μ : Me) : FX8_of (nI d) 5 μ = rt (nI (13 + 6 * d + 5)) μ := by
  have h : ((13 + (6 * nI d)) + 5 : Int32) = nI (13 + 6 * d + 5) := by
    rw [show (6 : Int32) = nI 6 from rfl, nI_mul, show (13 : Int32) = nI 13 from rfl, nI_add, show ((5 : Int32)) = nI 5 from rfl, nI_add]
  unfold FX8_of
  rw [h]
theorem iv_5 {d : Nat} (h : d < 10) : inb (nI (13 + 6 * d + 5)) 117 = true := inb_n (by omega) (by omega)
theorem cv_5 {d : Nat} (h : d < 10) : (nI (13 + 6 * d + 5)).toNatClampNeg = 13 + 6 * d + 5 := nI_clamp (by omega)
theorem i_0 : inb 0 117 = true := by decide
theorem i_1 : inb 1 117 = true := by decide
theorem z_0 : (0 : Int32).toNatClampNeg = 0 := by decide
theorem z_1 : (1 : Int32).toNatClampNeg = 1 := by decide
theorem i_2 : inb 2 117 = true := by decide
theorem z_2 : (2 : Int32).toNatClampNeg = 2 := by decide
theorem i_3 : inb 3 117 = true := by decide
theorem z_3 : (3 : Int32).toNatClampNeg = 3 := by decide
theorem i_4 : inb 4 117 = true := by decide
theorem z_4 : (4 : Int32).toNatClampNeg = 4 := by decide
theorem i_5 : inb 5 117 = true := by decide
theorem z_5 : (5 : Int32).toNatClampNeg = 5 := by decide
theorem i_6 : inb 6 117 = true := by decide
theorem z_6 : (6 : Int32).toNatClampNeg = 6 := by decide
theorem i_7 : inb 7 117 = true := by decide
theorem z_7 : (7 : Int32).toNatClampNeg = 7 := by decide
theorem i_8 : inb 8 117 = true := by decide
theorem z_8 : (8 : Int32).toNatClampNeg = 8 := by decide
