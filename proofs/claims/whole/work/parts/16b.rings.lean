/-! ===== pads by rings; means ===== -/
def adf (x y : Nat) : Nat := if x ≤ y then y - x else x - y
theorem rch_t : ∀ a, a < 64 → ∀ i, i < 8 → (if 0 ≤ nI i - nI a / 8 then nI i - nI a / 8 else 0 - (nI i - nI a / 8)) = nI (adf (a / 8) i) := by decide +kernel
theorem rch_n {a r i : Nat} (ha : a < 64) (hi : i < 8) : rch (nI a) (nI r) i = nI r - nI (adf (a / 8) i) := by
  unfold rch
  rw [rch_t a ha i hi]
theorem nI_r8 {a : Nat} (ha : a < 64) : nI a - nI a / 8 * 8 = nI (a % 8) := pk_rem (d := 8) (by omega) (by decide) (by decide)
theorem cell_n (i x : Nat) : 8 * nI i + nI x = nI (8 * i + x) := by rw [show (8 : Int32) = nI 8 from rfl, pk_mul, nI_add]
theorem rngA_n {p : Int64} {a r i : Nat} {z : Int32} (ha : a < 64) (hr : r < 15) (hi : i < 8) : rngA p (nI a) (nI r) i z = if r < adf (a / 8) i then z else if r - adf (a / 8) i ≤ a % 8 ∧ tb p (8 * i + (a % 8 - (r - adf (a / 8) i))) = true then nI (8 * i + (a % 8 - (r - adf (a / 8) i))) else if a % 8 + (r - adf (a / 8) i) < 8 ∧ tb p (8 * i + (a % 8 + (r - adf (a / 8) i))) = true then nI (8 * i + (a % 8 + (r - adf (a / 8) i))) else z := by
  have hu : adf (a / 8) i < 8 := by unfold adf; split <;> omega
  unfold rngA rngB
  rw [rch_n ha hi, nI_r8 ha]
  generalize adf (a / 8) i = u at hu ⊢
  have hc : a % 8 < 8 := Nat.mod_lt _ (by decide)
  generalize a % 8 = c at hc ⊢
  by_cases g : r < u
  · rw [if_pos g, if_pos (pk_sneg (by omega) g), if_pos (pk_sneg (by omega) g)]
  · rw [if_neg g, pk_sub (show u ≤ r by omega), if_neg (nI_pos (by omega)), if_neg (nI_pos (by omega))]
    generalize hw : r - u = w
    have hw15 : w < 15 := by omega
    have hB : (if 8 ≤ nI c + nI w then z else if cnt p (8 * nI i + (nI c + nI w)) = 0 then z else 8 * nI i + (nI c + nI w)) = if c + w < 8 ∧ tb p (8 * i + (c + w)) = true then nI (8 * i + (c + w)) else z := by
      rw [nI_add, cell_n]
      by_cases g2 : c + w < 8
      · rw [if_neg (show ¬ (8 : Int32) ≤ nI (c + w) from nI_ge (b := 8) g2 (by decide)), cnt_tb (by omega)]
        by_cases g3 : tb p (8 * i + (c + w)) = true
        · rw [if_pos g3, if_neg (by decide), if_pos ⟨g2, g3⟩]
        · rw [if_neg g3, if_pos rfl, if_neg (fun x => g3 x.2)]
      · rw [if_pos (show (8 : Int32) ≤ nI (c + w) from nI_le (a := 8) (by omega) (by omega)), if_neg (fun x => g2 x.1)]
    rw [hB]
    by_cases g2 : w ≤ c
    · rw [pk_sub g2, if_neg (nI_pos (by omega)), cell_n, cnt_tb (by omega)]
      by_cases g3 : tb p (8 * i + (c - w)) = true
      · rw [if_pos g3, if_neg (by decide), if_pos ⟨g2, g3⟩]
      · rw [if_neg g3, if_pos rfl, if_neg (show ¬ (w ≤ c ∧ tb p (8 * i + (c - w)) = true) from fun x => g3 x.2)]
    · rw [if_pos (pk_sneg (by omega) (by omega)), if_neg (show ¬ (w ≤ c ∧ tb p (8 * i + (c - w)) = true) from fun x => g2 x.1)]
theorem far_r {a r i c : Nat} (hi : i < 8) (hc : c < 8) : far0 a (8 * i + c) = r ↔ adf (a / 8) i ≤ r ∧ (c + (r - adf (a / 8) i) = a % 8 ∨ c = a % 8 + (r - adf (a / 8) i)) := by
  have e1 : (8 * i + c) / 8 = i := by omega
  have e2 : (8 * i + c) % 8 = c := by omega
  unfold far0 adf
  rw [e1, e2]
  split <;> split <;> split <;> omega
theorem rng_s {p : Int64} {a r : Nat} (ha : a < 64) (hr : r < 15) : ∀ k i, i + k = 8 → (rng p (nI a) (nI r) i k = -1 ∧ ∀ j, 8 * i ≤ j → j < 64 → far0 a j = r → tb p j = false) ∨ ∃ j, 8 * i ≤ j ∧ j < 64 ∧ rng p (nI a) (nI r) i k = nI j ∧ tb p j = true ∧ far0 a j = r ∧ ∀ l, 8 * i ≤ l → l < 64 → tb p l = true → far0 a l = r → j ≤ l := by
  intro k
  induction k with
  | zero => intro i hi; exact Or.inl ⟨rfl, fun j h1 h2 => by omega⟩
  | succ k ih =>
    intro i hi
    have hi8 : i < 8 := by omega
    have h0 := ih (i + 1) (by omega)
    simp only [rng]
    rw [rngA_n ha hr hi8]
    have hrow : ∀ j, 8 * i ≤ j → j < 8 * (i + 1) → ∃ c, c < 8 ∧ j = 8 * i + c := fun j h1 h2 => ⟨j - 8 * i, by omega, by omega⟩
    by_cases g : r < adf (a / 8) i
    · rw [if_pos g]
      have hno : ∀ j, 8 * i ≤ j → j < 8 * (i + 1) → far0 a j ≠ r := fun j h1 h2 e => by
        obtain ⟨c, hc, rfl⟩ := hrow j h1 h2
        have := (far_r hi8 hc).mp e
        omega
      rcases h0 with ⟨e, h⟩ | ⟨j, h1, h2, e, h3, h4, h5⟩
      · exact Or.inl ⟨e, fun j j1 j2 j3 => if x : j < 8 * (i + 1) then absurd j3 (hno j j1 x) else h j (by omega) j2 j3⟩
      · exact Or.inr ⟨j, by omega, h2, e, h3, h4, fun l l1 l2 l3 l4 => if x : l < 8 * (i + 1) then absurd l4 (hno l l1 x) else h5 l (by omega) l2 l3 l4⟩
    · rw [if_neg g]
      generalize hw : r - adf (a / 8) i = w
      have hc8 : a % 8 < 8 := Nat.mod_lt _ (by decide)
      have hfl : w ≤ a % 8 → far0 a (8 * i + (a % 8 - w)) = r := fun x => (far_r hi8 (by omega)).mpr ⟨by omega, Or.inl (by omega)⟩
      have hfr : a % 8 + w < 8 → far0 a (8 * i + (a % 8 + w)) = r := fun x => (far_r hi8 (by omega)).mpr ⟨by omega, Or.inr (by omega)⟩
      have hall : ∀ j, 8 * i ≤ j → j < 8 * (i + 1) → far0 a j = r → (w ≤ a % 8 ∧ j = 8 * i + (a % 8 - w)) ∨ (a % 8 + w < 8 ∧ j = 8 * i + (a % 8 + w)) := fun j h1 h2 e => by
        obtain ⟨c, hc, rfl⟩ := hrow j h1 h2
        have := (far_r hi8 hc).mp e
        omega
      by_cases gl : w ≤ a % 8 ∧ tb p (8 * i + (a % 8 - w)) = true
      · rw [if_pos gl]
        refine Or.inr ⟨_, by omega, by omega, rfl, gl.2, hfl gl.1, fun l l1 l2 l3 l4 => ?_⟩
        by_cases x : l < 8 * (i + 1)
        · rcases hall l l1 x l4 with ⟨y1, y2⟩ | ⟨y1, y2⟩ <;> omega
        · omega
      · rw [if_neg gl]
        by_cases gr : a % 8 + w < 8 ∧ tb p (8 * i + (a % 8 + w)) = true
        · rw [if_pos gr]
          refine Or.inr ⟨_, by omega, by omega, rfl, gr.2, hfr gr.1, fun l l1 l2 l3 l4 => ?_⟩
          by_cases x : l < 8 * (i + 1)
          · rcases hall l l1 x l4 with ⟨y1, y2⟩ | ⟨y1, y2⟩
            · subst y2; exact absurd ⟨y1, l3⟩ gl
            · omega
          · omega
        · rw [if_neg gr]
          have hno : ∀ j, 8 * i ≤ j → j < 8 * (i + 1) → far0 a j = r → tb p j = true → False := fun j h1 h2 e e2 => by
            rcases hall j h1 h2 e with ⟨y1, y2⟩ | ⟨y1, y2⟩
            · subst y2; exact gl ⟨y1, e2⟩
            · subst y2; exact gr ⟨y1, e2⟩
          rcases h0 with ⟨e, h⟩ | ⟨j, h1, h2, e, h3, h4, h5⟩
          · refine Or.inl ⟨e, fun j j1 j2 j3 => ?_⟩
            by_cases x : j < 8 * (i + 1)
            · cases hb : tb p j with
              | false => rfl
              | true => exact absurd (hno j j1 x j3 hb) id
            · exact h j (by omega) j2 j3
          · exact Or.inr ⟨j, by omega, h2, e, h3, h4, fun l l1 l2 l3 l4 => if x : l < 8 * (i + 1) then absurd (hno l l1 x l4 l3) id else h5 l (by omega) l2 l3 l4⟩
theorem rgs_s {p : Int64} {a : Nat} (ha : a < 64) : ∀ k i, i + k = 15 → (rgs p (nI a) i k = -1 ∧ ∀ j, j < 64 → i ≤ far0 a j → tb p j = false) ∨ ∃ j, j < 64 ∧ rgs p (nI a) i k = nI j ∧ tb p j = true ∧ ∀ l, l < 64 → tb p l = true → i ≤ far0 a l → lexle a j l := by
  intro k
  induction k with
  | zero => intro i hi; exact Or.inl ⟨rfl, fun j h1 h2 => by have := far0_le ha h1; omega⟩
  | succ k ih =>
    intro i hi
    have h0 := ih (i + 1) (by omega)
    simp only [rgs]
    rcases rng_s (p := p) (r := i) ha (by omega) 8 0 rfl with ⟨e, h⟩ | ⟨j, -, h2, e, h3, h4, h5⟩
    · rw [if_pos e]
      rcases h0 with ⟨e0, g⟩ | ⟨j, g2, e0, g3, g5⟩
      · exact Or.inl ⟨e0, fun j h1 h2 => if x : far0 a j = i then h j (by omega) h1 x else g j h1 (by omega)⟩
      · refine Or.inr ⟨j, g2, e0, g3, fun l l1 l2 l3 => ?_⟩
        by_cases x : far0 a l = i
        · rw [h l (by omega) l1 x] at l2; exact absurd l2 (by decide)
        · exact g5 l l1 l2 (by omega)
    · rw [e, if_neg (m1_ne (by omega))]
      refine Or.inr ⟨j, h2, rfl, h3, fun l l1 l2 l3 => ?_⟩
      unfold lexle
      by_cases x : far0 a l = i
      · have := h5 l (by omega) l1 l2 x
        omega
      · omega
/-- both ways find the same pad -/
theorem rgs_npd {p : Int64} {a : Nat} (ha : a < 64) : rgs p (nI a) 0 15 = npd p (nI a) := by
  rcases rgs_s (p := p) ha 15 0 rfl with ⟨e, h⟩ | ⟨j, h2, e, h3, h5⟩
  · rcases npd_s (p := p) ha with ⟨e2, -⟩ | ⟨k, -, k2⟩
    · rw [e, e2]
    · have k3 := k2.2.1
      rw [h k k2.1 (Nat.zero_le _)] at k3; exact absurd k3 (by decide)
  · rw [e, npd_u ha ⟨h2, h3, fun l l1 l2 => h5 l l1 l2 (Nat.zero_le _)⟩]
