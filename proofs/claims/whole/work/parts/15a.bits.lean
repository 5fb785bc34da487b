/-! ===== bits and their number ===== -/
theorem bb_inj {a b : Int64} (h : a.toBitVec = b.toBitVec) : a = b := Int64.toBitVec_inj.mp h
theorem bb_tb (n : Nat) : (lN n).toBitVec = BitVec.ofNat 64 n := rfl
theorem bb_tn {n : Nat} (h : n < 2 ^ 64) : (lN n).toBitVec.toNat = n := by rw [bb_tb, BitVec.toNat_ofNat, Nat.mod_eq_of_lt h]
theorem bb_of (x : Int64) : ∃ n, n < 2 ^ 64 ∧ x = lN n := ⟨x.toBitVec.toNat, x.toBitVec.isLt, bb_inj (by rw [bb_tb]; simp)⟩
theorem bb_c : ∀ k, k < 64 → ((nI k).toInt64 &&& 63) = lN k := by decide +kernel
theorem bb_cu : ∀ k, k < 64 → ((nI k).toInt64.toUInt64 &&& Int64.toUInt64 63) = UInt64.ofNat k := by decide +kernel
theorem bb_sm : ∀ k, k < 64 → (BitVec.ofNat 64 k).smod 64 = BitVec.ofNat 64 k := by decide +kernel
theorem bb_shr {n k : Nat} (hn : n < 2 ^ 64) (hk : k < 64) : ((lN n).toUInt64 >>> ((nI k).toInt64.toUInt64 &&& Int64.toUInt64 63)).toInt64 = lN (n / 2 ^ k) := by
  rw [bb_cu k hk]
  apply bb_inj
  apply BitVec.eq_of_toNat_eq
  show ((lN n).toUInt64 >>> UInt64.ofNat k).toNat = (BitVec.ofNat 64 _).toNat
  have h1 : (UInt64.ofNat k).toNat = k := by
    show (BitVec.ofNat 64 k).toNat = k
    rw [BitVec.toNat_ofNat, Nat.mod_eq_of_lt (by omega)]
  have h2 : (lN n).toUInt64.toNat = n := bb_tn hn
  rw [UInt64.toNat_shiftRight, h1, h2, Nat.mod_eq_of_lt hk, Nat.shiftRight_eq_div_pow, BitVec.toNat_ofNat, Nat.mod_eq_of_lt (Nat.lt_of_le_of_lt (Nat.div_le_self _ _) hn)]
theorem bb_shl (n : Nat) {k : Nat} (hk : k < 64) : lN n <<< ((nI k).toInt64 &&& 63) = lN (n * 2 ^ k) := by
  rw [bb_c k hk]
  apply bb_inj
  rw [Int64.toBitVec_shiftLeft, bb_tb, bb_tb, bb_tb, bb_sm k hk]
  apply BitVec.eq_of_toNat_eq
  rw [BitVec.shiftLeft_eq', BitVec.toNat_shiftLeft, BitVec.toNat_ofNat, BitVec.toNat_ofNat, BitVec.toNat_ofNat, Nat.mod_eq_of_lt (show k < 2 ^ 64 by omega), Nat.shiftLeft_eq, Nat.mul_mod, Nat.mod_mod, ← Nat.mul_mod]
theorem bb_and {a b : Nat} (ha : a < 2 ^ 64) (hb : b < 2 ^ 64) : lN a &&& lN b = lN (a &&& b) := by
  apply bb_inj
  rw [Int64.toBitVec_and, bb_tb, bb_tb, bb_tb]
  apply BitVec.eq_of_toNat_eq
  rw [BitVec.toNat_and, BitVec.toNat_ofNat, BitVec.toNat_ofNat, BitVec.toNat_ofNat, Nat.mod_eq_of_lt ha, Nat.mod_eq_of_lt hb, Nat.mod_eq_of_lt (Nat.and_lt_two_pow _ hb)]
/-! bytes -/
theorem nb_and {a b c d : Nat} (ha : a < 256) (hc : c < 256) : (a + 256 * b) &&& (c + 256 * d) = (a &&& c) + 256 * (b &&& d) := by
  have h1 : ((a + 256 * b) &&& (c + 256 * d)) % 2 ^ 8 = (a &&& c) := by
    rw [Nat.and_mod_two_pow]
    congr 1 <;> omega
  have h2 : ((a + 256 * b) &&& (c + 256 * d)) / 2 ^ 8 = (b &&& d) := by
    rw [Nat.and_div_two_pow]
    congr 1 <;> omega
  omega
def mk8 (c : Nat) : Nat → Nat
  | 0 => 0
  | k + 1 => c + 256 * mk8 c k
def sb8 (t : Nat → Nat) : Nat → Nat → Nat
  | 0, _ => 0
  | k + 1, P => t (P % 256) + 256 * sb8 t k (P / 256)
def t1 (a : Nat) : Nat := a - (a / 2 &&& 0x55)
def t2 (a : Nat) : Nat := (t1 a &&& 0x33) + (t1 a / 4 &&& 0x33)
def t3 (a : Nat) : Nat := (t2 a + t2 a / 16) &&& 0xf
theorem t1_a : ∀ a, a < 256 → ∀ z, z < 2 → ((a / 2 + 128 * z) &&& 0x55) = (a / 2 &&& 0x55) ∧ (a / 2 &&& 0x55) ≤ a ∧ t1 a < 256 := by decide +kernel
theorem t2_a : ∀ a, a < 256 → ∀ z, z < 4 → ((t1 a / 4 + 64 * z) &&& 0x33) = (t1 a / 4 &&& 0x33) ∧ t2 a % 16 ≤ 4 ∧ t2 a / 16 ≤ 4 := by decide +kernel
theorem t3_a : ∀ a, a < 256 → ∀ z, z < 5 → t2 a + t2 a / 16 + 16 * z < 256 ∧ ((t2 a + t2 a / 16 + 16 * z) &&& 0xf) = t3 a ∧ t3 a ≤ 8 := by decide +kernel
theorem s1_b : ∀ k P, P < 256 ^ k → P - (P / 2 &&& mk8 0x55 k) = sb8 t1 k P ∧ (P / 2 &&& mk8 0x55 k) ≤ P := by
  intro k
  induction k with
  | zero => intro P h; simp at h; subst h; exact ⟨rfl, Nat.le_refl _⟩
  | succ k ih =>
    intro P h
    obtain ⟨a, b, ha, rfl⟩ : ∃ a b, a < 256 ∧ P = a + 256 * b := ⟨P % 256, P / 256, Nat.mod_lt _ (by decide), by omega⟩
    have hb : b < 256 ^ k := by rw [Nat.pow_succ] at h; omega
    obtain ⟨h1, h2⟩ := ih b hb
    obtain ⟨g1, g2, g3⟩ := t1_a a ha (b % 2) (Nat.mod_lt _ (by decide))
    have e : (a + 256 * b) / 2 = (a / 2 + 128 * (b % 2)) + 256 * (b / 2) := by omega
    have e2 : ((a + 256 * b) / 2 &&& mk8 0x55 (k + 1)) = (a / 2 &&& 0x55) + 256 * (b / 2 &&& mk8 0x55 k) := by
      rw [e]
      show (_ &&& (0x55 + 256 * mk8 0x55 k)) = _
      rw [nb_and (by omega) (by decide), g1]
    have m1 : (a + 256 * b) % 256 = a := by omega
    have m2 : (a + 256 * b) / 256 = b := by omega
    rw [e2]
    simp only [sb8, m1, m2]
    rw [← h1]
    unfold t1
    omega
theorem sb8_lt {t : Nat → Nat} (ht : ∀ a, a < 256 → t a < 256) : ∀ k P, sb8 t k P < 256 ^ k := by
  intro k
  induction k with
  | zero => intro P; simp [sb8]
  | succ k ih =>
    intro P
    simp only [sb8]
    have := ht (P % 256) (Nat.mod_lt _ (by decide))
    have := ih (P / 256)
    rw [Nat.pow_succ]
    omega
theorem s2_b : ∀ k P, (sb8 t1 k P &&& mk8 0x33 k) + (sb8 t1 k P / 4 &&& mk8 0x33 k) = sb8 t2 k P := by
  intro k
  induction k with
  | zero => intro P; simp [sb8, mk8]
  | succ k ih =>
    intro P
    have ha : P % 256 < 256 := Nat.mod_lt _ (by decide)
    have h1 := ih (P / 256)
    simp only [sb8]
    generalize hy : sb8 t1 k (P / 256) = y at h1 ⊢
    obtain ⟨-, -, g0⟩ := t1_a _ ha 0 (by decide)
    obtain ⟨g1, -, -⟩ := t2_a _ ha (y % 4) (Nat.mod_lt _ (by decide))
    have e : (t1 (P % 256) + 256 * y) / 4 = (t1 (P % 256) / 4 + 64 * (y % 4)) + 256 * (y / 4) := by omega
    rw [e]
    show (_ &&& (0x33 + 256 * mk8 0x33 k)) + (_ &&& (0x33 + 256 * mk8 0x33 k)) = _
    rw [nb_and g0 (by decide), nb_and (by omega) (by decide), g1, ← h1]
    unfold t2
    omega
theorem s2_n : ∀ k P, sb8 t2 k P % 16 ≤ 4 := by
  intro k
  cases k with
  | zero => intro P; simp [sb8]
  | succ k =>
    intro P
    have ha : P % 256 < 256 := Nat.mod_lt _ (by decide)
    obtain ⟨-, g, -⟩ := t2_a _ ha 0 (by decide)
    simp only [sb8]
    omega
theorem s3_b : ∀ k P, ((sb8 t2 k P + sb8 t2 k P / 16) &&& mk8 0xf k) = sb8 t3 k P := by
  intro k
  induction k with
  | zero => intro P; simp [sb8, mk8]
  | succ k ih =>
    intro P
    have ha : P % 256 < 256 := Nat.mod_lt _ (by decide)
    have h1 := ih (P / 256)
    have h2 := s2_n k (P / 256)
    simp only [sb8]
    generalize hy : sb8 t2 k (P / 256) = y at h1 h2 ⊢
    obtain ⟨g1, g2, -⟩ := t3_a _ ha (y % 16) (by omega)
    have e : t2 (P % 256) + 256 * y + (t2 (P % 256) + 256 * y) / 16 = (t2 (P % 256) + t2 (P % 256) / 16 + 16 * (y % 16)) + 256 * (y + y / 16) := by omega
    rw [e]
    show (_ &&& (0xf + 256 * mk8 0xf k)) = _
    rw [nb_and g1 (by decide), g2, h1]
/-- how many of the first n -/
def ctb (p : Nat → Bool) : Nat → Nat
  | 0 => 0
  | n + 1 => ctb p n + (if p n = true then 1 else 0)
theorem ctb_cong {p q : Nat → Bool} : ∀ {n : Nat}, (∀ k, k < n → p k = q k) → ctb p n = ctb q n := by
  intro n
  induction n with
  | zero => intro _; rfl
  | succ n ih => intro h; simp only [ctb]; rw [ih (fun k hk => h k (by omega)), h n (by omega)]
theorem ctb_split (p : Nat → Bool) (m : Nat) : ∀ n, ctb p (m + n) = ctb p m + ctb (fun k => p (m + k)) n := by
  intro n
  induction n with
  | zero => rfl
  | succ n ih => rw [show m + (n + 1) = (m + n) + 1 by omega]; simp only [ctb]; rw [ih]; omega
theorem ctb_le (p : Nat → Bool) : ∀ n, ctb p n ≤ n := by
  intro n
  induction n with
  | zero => exact Nat.le_refl _
  | succ n ih => simp only [ctb]; split <;> omega
theorem ctb_upd {p q : Nat → Bool} {i : Nat} (hp : p i = false) (hq : q i = true) (ho : ∀ k, k ≠ i → q k = p k) : ∀ n, ctb q n = ctb p n + (if i < n then 1 else 0) := by
  intro n
  induction n with
  | zero => rfl
  | succ n ih =>
    simp only [ctb]
    rw [ih]
    by_cases h : n = i
    · subst h
      simp [hp, hq]
    · rw [ho n h]
      by_cases h2 : i < n
      · rw [if_pos h2, if_pos (by omega : i < n + 1)]; omega
      · rw [if_neg h2, if_neg (show ¬ i < n + 1 by omega)]; simp
theorem ctb_zero {p : Nat → Bool} : ∀ {n : Nat}, (∀ k, k < n → p k = false) → ctb p n = 0 := by
  intro n
  induction n with
  | zero => intro _; rfl
  | succ n ih => intro h; simp only [ctb]; rw [ih (fun k hk => h k (by omega)), h n (by omega)]; rfl
theorem ctb_pos {p : Nat → Bool} : ∀ {n k : Nat}, k < n → p k = true → 0 < ctb p n := by
  intro n
  induction n with
  | zero => intro k h; omega
  | succ n ih =>
    intro k h hp
    simp only [ctb]
    by_cases e : k = n
    · subst e; rw [hp]; simp
    · have := ih (k := k) (by omega) hp; omega
def pc8 : Nat → Nat → Nat
  | 0, _ => 0
  | k + 1, P => t3 (P % 256) + pc8 k (P / 256)
theorem t3_c : ∀ a, a < 256 → ctb (fun j => a.testBit j) 8 = t3 a := by decide +kernel
theorem pc8_c : ∀ k P, ctb (fun j => P.testBit j) (8 * k) = pc8 k P := by
  intro k
  induction k with
  | zero => intro P; rfl
  | succ k ih =>
    intro P
    rw [show 8 * (k + 1) = 8 + 8 * k by omega, ctb_split]
    simp only [pc8]
    congr 1
    · rw [← t3_c _ (Nat.mod_lt _ (by decide))]
      refine ctb_cong (fun j hj => ?_)
      show P.testBit j = (P % 2 ^ 8).testBit j
      rw [Nat.testBit_mod_two_pow]
      simp [hj]
    · rw [← ih]
      refine ctb_cong (fun j hj => ?_)
      show P.testBit (8 + j) = (P / 2 ^ 8).testBit j
      rw [Nat.testBit_div_two_pow, Nat.add_comm]
theorem fin8 {c0 c1 c2 c3 c4 c5 c6 c7 x0 x1 x2 x3 x4 x5 x6 x7 : Nat} (h0 : c0 ≤ 8) (h1 : c1 ≤ 8) (h2 : c2 ≤ 8) (h3 : c3 ≤ 8) (h4 : c4 ≤ 8) (h5 : c5 ≤ 8) (h6 : c6 ≤ 8) (h7 : c7 ≤ 8) (e7 : x7 = c7) (e6 : x6 = c6 + 256 * x7) (e5 : x5 = c5 + 256 * x6) (e4 : x4 = c4 + 256 * x5) (e3 : x3 = c3 + 256 * x4) (e2 : x2 = c2 + 256 * x3) (e1 : x1 = c1 + 256 * x2) (e0 : x0 = c0 + 256 * x1) : x0 / 256 = x1 ∧ (x0 + x1) / 65536 = x2 + x3 ∧ (x0 + x1 + (x2 + x3)) / 4294967296 = x4 + x5 + (x6 + x7) ∧ (x0 + x1 + (x2 + x3) + (x4 + x5 + (x6 + x7))) % 128 = c0 + (c1 + (c2 + (c3 + (c4 + (c5 + (c6 + (c7 + 0))))))) ∧ x0 < 1000000000000000000 ∧ x1 < 1000000000000000000 ∧ x2 < 1000000000000000000 ∧ x3 < 1000000000000000000 := by
  have b6 : x6 ≤ 8 + 256 * 8 := by omega
  have b5 : x5 ≤ 8 + 256 * (8 + 256 * 8) := by omega
  have b4 : x4 ≤ 8 + 256 * (8 + 256 * (8 + 256 * 8)) := by omega
  have b3 : x3 ≤ 8 + 256 * (8 + 256 * (8 + 256 * (8 + 256 * 8))) := by omega
  have b2 : x2 ≤ 8 + 256 * (8 + 256 * (8 + 256 * (8 + 256 * (8 + 256 * 8)))) := by omega
  have b1 : x1 ≤ 8 + 256 * (8 + 256 * (8 + 256 * (8 + 256 * (8 + 256 * (8 + 256 * 8))))) := by omega
  have b0 : x0 ≤ 8 + 256 * (8 + 256 * (8 + 256 * (8 + 256 * (8 + 256 * (8 + 256 * (8 + 256 * 8)))))) := by omega
  refine ⟨by omega, ?_, ?_, ?_, by omega, by omega, by omega, by omega⟩
  · have a : x0 + x1 = (c0 + c1 + 256 * (c1 + c2)) + 65536 * (x2 + x3) := by omega
    rw [a]
    generalize x2 + x3 = w
    omega
  · have a : x0 + x1 + (x2 + x3) = (c0 + c1 + c2 + c3 + 256 * (c1 + c2 + c3 + c4) + 65536 * (c2 + c3 + c4 + c5) + 16777216 * (c3 + c4 + c5 + c6)) + 4294967296 * (x4 + x5 + (x6 + x7)) := by omega
    rw [a]
    generalize x4 + x5 + (x6 + x7) = w
    omega
  · have a : x0 + x1 + (x2 + x3) + (x4 + x5 + (x6 + x7)) = (c0 + c1 + c2 + c3 + c4 + c5 + c6 + c7) + 128 * (2 * (x1 + x2 + x3 + x4 + x5 + x6 + x7)) := by omega
    rw [a]
    generalize x1 + x2 + x3 + x4 + x5 + x6 + x7 = w
    omega
def shr6 (x : Int64) (k : Int32) : Int64 := (x.toUInt64 >>> (k.toInt64.toUInt64 &&& Int64.toUInt64 63)).toInt64
def g1 (x : Int64) : Int64 := x - (shr6 x 1 &&& 6148914691236517205)
def g2 (x : Int64) : Int64 := (x &&& 3689348814741910323) + (shr6 x 2 &&& 3689348814741910323)
def g3 (x : Int64) : Int64 := (x + shr6 x 4) &&& 1085102592571150095
def g4 (x : Int64) : Int64 := x + shr6 x 8
def g5 (x : Int64) : Int64 := x + shr6 x 16
def g6 (x : Int64) : Int64 := x + shr6 x 32
theorem bcn_g (p : Int64) : bcn p = (g6 (g5 (g4 (g3 (g2 (g1 p)))))).toInt32 &&& 127 := rfl
theorem shr6_n {n k : Nat} (hn : n < 2 ^ 64) (hk : k < 64) : shr6 (lN n) (nI k) = lN (n / 2 ^ k) := bb_shr hn hk
theorem bcn_n {P : Nat} (hP : P < 2 ^ 64) : bcn (lN P) = nI (pc8 8 P) := by
  obtain ⟨h1, h1b⟩ := s1_b 8 P hP
  have l1 : sb8 t1 8 P < 2 ^ 64 := sb8_lt (fun a ha => (t1_a a ha 0 (by decide)).2.2) 8 P
  have l2 : sb8 t2 8 P < 2 ^ 63 := by
    have h := sb8_lt (t := t2) (fun a ha => by have := t2_a a ha 0 (by decide); omega) 7 (P / 256)
    have h0 := t2_a _ (Nat.mod_lt (P / 256 / 256 / 256 / 256 / 256 / 256 / 256) (show 0 < 256 by decide)) 0 (by decide)
    simp only [sb8] at h ⊢
    have h00 := t2_a _ (Nat.mod_lt P (show 0 < 256 by decide)) 0 (by decide)
    have h01 := t2_a _ (Nat.mod_lt (P / 256) (show 0 < 256 by decide)) 0 (by decide)
    have h02 := t2_a _ (Nat.mod_lt (P / 256 / 256) (show 0 < 256 by decide)) 0 (by decide)
    have h03 := t2_a _ (Nat.mod_lt (P / 256 / 256 / 256) (show 0 < 256 by decide)) 0 (by decide)
    have h04 := t2_a _ (Nat.mod_lt (P / 256 / 256 / 256 / 256) (show 0 < 256 by decide)) 0 (by decide)
    have h05 := t2_a _ (Nat.mod_lt (P / 256 / 256 / 256 / 256 / 256) (show 0 < 256 by decide)) 0 (by decide)
    have h06 := t2_a _ (Nat.mod_lt (P / 256 / 256 / 256 / 256 / 256 / 256) (show 0 < 256 by decide)) 0 (by decide)
    omega
  have hA : mk8 0x55 8 = 6148914691236517205 := by decide +kernel
  have hB : mk8 0x33 8 = 3689348814741910323 := by decide +kernel
  have hC : mk8 0xf 8 = 1085102592571150095 := by decide +kernel
  have e1 : g1 (lN P) = lN (sb8 t1 8 P) := by
    unfold g1
    rw [show (1 : Int32) = nI 1 from rfl, shr6_n hP (by decide), show (6148914691236517205 : Int64) = lN (mk8 0x55 8) by rw [hA]; rfl, bb_and (Nat.lt_of_le_of_lt (Nat.div_le_self _ _) hP) (by rw [hA]; decide), lN_sub h1b, h1]
  have e2 : g2 (lN (sb8 t1 8 P)) = lN (sb8 t2 8 P) := by
    unfold g2
    rw [show (2 : Int32) = nI 2 from rfl, shr6_n l1 (by decide), show (3689348814741910323 : Int64) = lN (mk8 0x33 8) by rw [hB]; rfl, bb_and l1 (by rw [hB]; decide), bb_and (Nat.lt_of_le_of_lt (Nat.div_le_self _ _) l1) (by rw [hB]; decide), lN_add]
    exact congrArg lN (s2_b 8 P)
  have e3 : g3 (lN (sb8 t2 8 P)) = lN (sb8 t3 8 P) := by
    unfold g3
    rw [show (4 : Int32) = nI 4 from rfl, shr6_n (by omega) (by decide), lN_add, show (1085102592571150095 : Int64) = lN (mk8 0xf 8) by rw [hC]; rfl, bb_and (by omega) (by rw [hC]; decide)]
    exact congrArg lN (s3_b 8 P)
  have hh : ∀ Q : Nat, t3 (Q % 256) ≤ 8 := fun Q => (t3_a _ (Nat.mod_lt _ (by decide)) 0 (by decide)).2.2
  obtain ⟨f1, f2, f3, f4, f5, f6, f7, f8⟩ := fin8 (hh P) (hh (P / 256)) (hh (P / 256 / 256)) (hh (P / 256 / 256 / 256)) (hh (P / 256 / 256 / 256 / 256)) (hh (P / 256 / 256 / 256 / 256 / 256)) (hh (P / 256 / 256 / 256 / 256 / 256 / 256)) (hh (P / 256 / 256 / 256 / 256 / 256 / 256 / 256)) (x7 := sb8 t3 1 (P / 256 / 256 / 256 / 256 / 256 / 256 / 256)) (x6 := sb8 t3 2 (P / 256 / 256 / 256 / 256 / 256 / 256)) (x5 := sb8 t3 3 (P / 256 / 256 / 256 / 256 / 256)) (x4 := sb8 t3 4 (P / 256 / 256 / 256 / 256)) (x3 := sb8 t3 5 (P / 256 / 256 / 256)) (x2 := sb8 t3 6 (P / 256 / 256)) (x1 := sb8 t3 7 (P / 256)) (x0 := sb8 t3 8 P) (by simp [sb8]) rfl rfl rfl rfl rfl rfl rfl
  rw [bcn_g, e1, e2, e3]
  generalize sb8 t3 8 P = x0 at f1 f2 f3 f4 f5
  generalize sb8 t3 7 (P / 256) = x1 at f1 f2 f3 f4 f6
  generalize sb8 t3 6 (P / 256 / 256) + sb8 t3 5 (P / 256 / 256 / 256) = w at f2 f3 f4
  generalize sb8 t3 4 (P / 256 / 256 / 256 / 256) + sb8 t3 3 (P / 256 / 256 / 256 / 256 / 256) + (sb8 t3 2 (P / 256 / 256 / 256 / 256 / 256 / 256) + sb8 t3 1 (P / 256 / 256 / 256 / 256 / 256 / 256 / 256)) = u at f3 f4
  have k1 : (2 : Nat) ^ 8 = 256 := rfl
  have k2 : (2 : Nat) ^ 16 = 65536 := rfl
  have k3 : (2 : Nat) ^ 32 = 4294967296 := rfl
  have k4 : (2 : Nat) ^ 64 = 18446744073709551616 := rfl
  unfold g4 g5 g6
  rw [show (8 : Int32) = nI 8 from rfl, shr6_n (by rw [k4]; omega) (by decide), lN_add, k1, f1, show (16 : Int32) = nI 16 from rfl, shr6_n (by rw [k4]; omega) (by decide), lN_add, k2, f2, show (32 : Int32) = nI 32 from rfl, shr6_n (by rw [k4]; omega) (by decide), lN_add, k3, f3, lN_i, pk_and _ 7 (by decide)]
  have e4 : ∀ N : Nat, (nI N).toBitVec.toNat = N % 4294967296 := fun N => by
    show (BitVec.ofNat 32 N).toNat = _
    rw [BitVec.toNat_ofNat]
  rw [e4, show pc8 8 P = t3 (P % 256) + (t3 (P / 256 % 256) + (t3 (P / 256 / 256 % 256) + (t3 (P / 256 / 256 / 256 % 256) + (t3 (P / 256 / 256 / 256 / 256 % 256) + (t3 (P / 256 / 256 / 256 / 256 / 256 % 256) + (t3 (P / 256 / 256 / 256 / 256 / 256 / 256 % 256) + (t3 (P / 256 / 256 / 256 / 256 / 256 / 256 / 256 % 256) + 0))))))) from rfl]
  congr 1
  rw [show (2 : Nat) ^ 7 = 128 from rfl, ← f4]
  generalize x0 + x1 + w + u = a
  omega
/-- bit k of a mask -/
def tb (p : Int64) (k : Nat) : Bool := p.toBitVec.getLsbD k
theorem tb_n {n k : Nat} (hn : n < 2 ^ 64) (hk : k < 64) : tb (lN n) k = n.testBit k := by
  unfold tb
  rw [bb_tb, BitVec.getLsbD_ofNat]
  simp [hk]
theorem bcn_ct (p : Int64) : bcn p = nI (ctb (tb p) 64) := by
  obtain ⟨n, hn, rfl⟩ := bb_of p
  rw [bcn_n hn, ← pc8_c 8 n]
  congr 1
  exact ctb_cong (fun k hk => (tb_n hn (by omega)).symm)
theorem tb_or (p r : Int64) (k : Nat) : tb (p ||| r) k = (tb p k || tb r k) := by
  unfold tb
  rw [Int64.toBitVec_or, BitVec.getLsbD_or]
theorem tb_and (p r : Int64) (k : Nat) : tb (p &&& r) k = (tb p k && tb r k) := by
  unfold tb
  rw [Int64.toBitVec_and, BitVec.getLsbD_and]
theorem tb_0 (k : Nat) : tb 0 k = false := by
  unfold tb
  exact BitVec.getLsbD_zero
theorem bit1_n {c : Nat} (hc : c < 64) : bit1 (nI c) = lN (2 ^ c) := by
  unfold bit1
  rw [show (1 : Int64) = lN 1 from rfl, bb_shl 1 hc, Nat.one_mul]
theorem tb_bit1 {c k : Nat} (hc : c < 64) (hk : k < 64) : tb (bit1 (nI c)) k = decide (c = k) := by
  rw [bit1_n hc, tb_n (Nat.pow_lt_pow_right (by decide) hc) hk, Nat.testBit_two_pow]
theorem tb_ext {p r : Int64} (h : ∀ k, k < 64 → tb p k = tb r k) : p = r := bb_inj (BitVec.eq_of_getLsbD_eq (fun i hi => h i hi))
/-- the test of a bit -/
theorem cnt_tb {p : Int64} {c : Nat} (hc : c < 64) : cnt p (nI c) = if tb p c = true then 1 else 0 := by
  have h0 : cnt p (nI c) = if lg_cmp (p &&& bit1 (nI c)) 0 = 0 then 0 else 1 := rfl
  rw [h0]
  have h1 : (p &&& bit1 (nI c) = 0) ↔ tb p c = false := by
    constructor
    · intro h
      have h2 := tb_and p (bit1 (nI c)) c
      rw [h, tb_0, tb_bit1 hc hc] at h2
      simpa using h2.symm
    · intro h
      refine tb_ext (fun k hk => ?_)
      rw [tb_and, tb_bit1 hc hk, tb_0]
      by_cases e : c = k
      · subst e; simp [h]
      · simp [e]
  have h3 : lg_cmp (p &&& bit1 (nI c)) 0 = 0 ↔ p &&& bit1 (nI c) = 0 := by
    unfold lg_cmp
    generalize p &&& bit1 (nI c) = y
    constructor
    · intro h
      by_cases g : y > 0
      · rw [if_pos g] at h; exact absurd h (by decide)
      · rw [if_neg g] at h
        by_cases e : y = 0
        · exact e
        · rw [if_neg e] at h; exact absurd h (by decide)
    · intro h
      rw [h]
      decide
  by_cases g : tb p c = true
  · rw [if_pos g, if_neg (fun e => by have := h1.mp (h3.mp e); rw [g] at this; exact absurd this (by decide))]
  · have g2 : tb p c = false := by simpa using g
    rw [if_neg g, if_pos (h3.mpr (h1.mpr g2))]
/-- one bit more -/
theorem bcn_or {p : Int64} {c : Nat} (hc : c < 64) (h : tb p c = false) : ctb (tb (p ||| bit1 (nI c))) 64 = ctb (tb p) 64 + 1 := by
  have hq : ∀ k, k < 64 → tb (p ||| bit1 (nI c)) k = (tb p k || decide (c = k)) := fun k hk => by rw [tb_or, tb_bit1 hc hk]
  rw [ctb_cong (q := fun k => tb p k || decide (c = k)) hq, ctb_upd (p := tb p) (i := c) h (by simp) (fun k hk => by simp [Ne.symm hk]) 64, if_pos hc]
