/-! ===== the show in memory: 164 places from b on ===== -/
/-- scenes (0, 1: scene and draft, either way; 2: snapshot; 3-10: history); rows: 0 hasSnapshot, lastError, lastFailed, lineLength, oldest, changes, length, count, position; 1 characters; 2 line; 3 wishes; 4-15 numbers; the verbs; which of 0, 1 is the scene -/
abbrev Cg : Type := (Nat → Sg) × (Nat → Nat → Int32) × (Nat → Option Nat) × Nat
def sa (b k : Nat) : Nat := if k < 3 then b + 1 + 13 * k else b + 3 + 13 * k
def cS (S : Cg) (r j : Nat) (x : Int32) : Cg := (S.1, fun q => if q = r then upd (S.2.1 r) j x else S.2.1 q, S.2.2)
def cC (S : Cg) (k : Nat) (σ : Sg) : Cg := (fun q => if q = k then σ else S.1 q, S.2)
def cV (S : Cg) (j a : Nat) : Cg := (S.1, S.2.1, va_up S.2.2.1 j (some a), S.2.2.2)
def cT (S : Cg) : Cg := (S.1, S.2.1, S.2.2.1, 1 - S.2.2.2)
def xE (b : Nat) (S : Cg) : E_ := .inr (7, [.ref (sa b S.2.2.2), .ref (sa b (1 - S.2.2.2)), .ref (sa b 2), .int (S.2.1 0 0), .ref (b + 40), .ref (b + 146), .int (S.2.1 0 1), .int (S.2.1 0 2), .ref (b + 162), .int (S.2.1 0 3), .ref (b + 163)])
def clE (b : Nat) (S : Cg) (o : Nat) : E_ :=
  if o = 0 then xE b S
  else if o < 40 then scE (sa b ((o - 1) / 13)) (S.1 ((o - 1) / 13)) ((o - 1) % 13)
  else if o = 40 then .inr (4, [.ref (b + 41), .int (S.2.1 0 4), .int (S.2.1 0 5)])
  else if o = 41 then .inl (5, (8, .inr (.inr (.inr (.inr (fun k => if k < 8 then some (sa b (3 + k)) else none))))))
  else if o < 146 then scE (sa b (3 + (o - 42) / 13)) (S.1 (3 + (o - 42) / 13)) ((o - 42) % 13)
  else if o = 146 then .inr (6, [.ref (b + 147), .int (S.2.1 0 6), .ref (b + 148), .ref (b + 149), .int (S.2.1 0 7), .int (S.2.1 0 8)])
  else if o = 147 then .inl (2, (60, .inl (S.2.1 1)))
  else if o = 148 then .inl (6, (12, .inr (.inr (.inr (.inr S.2.2.1)))))
  else if o = 149 then .inl (7, (12, .inr (.inr (.inr (.inr (fun i => if i < 12 then some (b + 150 + i) else none))))))
  else if o < 162 then .inl (0, (3, .inl (S.2.1 (4 + (o - 150)))))
  else if o = 162 then .inl (2, (8, .inl (S.2.1 2)))
  else .inl (0, (64, .inl (S.2.1 3)))
def puc (μ : Me) (b : Nat) (S : Cg) : Me := fun a => if b ≤ a ∧ a < b + 164 then some (clE b S (a - b)) else μ a
theorem puc_at (μ : Me) (b : Nat) (S : Cg) {i : Nat} (h : i < 164) : puc μ b S (b + i) = some (clE b S i) := by
  unfold puc
  rw [if_pos ⟨by omega, by omega⟩, Nat.add_sub_cancel_left]
theorem puc_out {μ : Me} {b a : Nat} {S : Cg} (h : a < b ∨ b + 164 ≤ a) : puc μ b S a = μ a := by
  unfold puc
  rw [if_neg (by omega)]
theorem mset_puc {μ : Me} {b i : Nat} {S S' : Cg} {e : E_} (hi : i < 164) (he : clE b S' i = e) (ho : ∀ j, j < 164 → j ≠ i → clE b S' j = clE b S j) : mset (puc μ b S) (b + i) e = puc μ b S' := by
  funext a
  unfold mset
  by_cases ha : a = b + i
  · rw [if_pos ha, ha, puc_at _ _ _ hi, he]
  · rw [if_neg ha]
    unfold puc
    by_cases h2 : b ≤ a ∧ a < b + 164
    · rw [if_pos h2, if_pos h2, ho (a - b) (by omega) (by omega)]
    · rw [if_neg h2, if_neg h2]
theorem puc_set {μ : Me} {b a : Nat} {S : Cg} {e : E_} (h : a < b ∨ b + 164 ≤ a) : mset (puc μ b S) a e = puc (mset μ a e) b S := by
  funext q
  unfold mset puc
  dsimp only
  by_cases hq : q = a
  · subst hq
    rw [if_pos rfl, if_neg (by omega), if_pos rfl]
  · rw [if_neg hq]
    by_cases h2 : b ≤ q ∧ q < b + 164
    · rw [if_pos h2, if_pos h2]
    · rw [if_neg h2, if_neg h2, if_neg hq]
/-- the model lies elsewhere -/
theorem puc_pum {μ : Me} {b m : Nat} {S : Cg} {M : Mg} (h : b + 164 ≤ m) : puc (pum μ m M) b S = pum (puc μ b S) m M := by
  funext q
  unfold puc pum
  dsimp only
  by_cases h1 : b ≤ q ∧ q < b + 164
  · rw [if_pos h1, if_neg (by omega), if_pos h1]
  · rw [if_neg h1]
    by_cases h2 : m ≤ q ∧ q < m + 12
    · rw [if_pos h2, if_pos h2]
    · rw [if_neg h2, if_neg h2, if_neg h1]
/-- each scene lies in its place -/
theorem puc_At {μ : Me} {b k : Nat} {S : Cg} (hk : k < 11) : At_ (puc μ b S) (sa b k) (S.1 k) := by
  intro i hi
  unfold sa
  by_cases h3 : k < 3
  · rw [if_pos h3, show b + 1 + 13 * k + i = b + (1 + 13 * k + i) by omega, puc_at _ _ _ (by omega)]
    unfold clE
    rw [if_neg (by omega), if_pos (by omega), show (1 + 13 * k + i - 1) / 13 = k by omega, show (1 + 13 * k + i - 1) % 13 = i by omega]
    unfold sa
    rw [if_pos h3]
  · rw [if_neg h3, show b + 3 + 13 * k + i = b + (3 + 13 * k + i) by omega, puc_at _ _ _ (by omega)]
    unfold clE
    rw [if_neg (by omega), if_neg (by omega), if_neg (by omega), if_neg (by omega), if_pos (by omega), show 3 + (3 + 13 * k + i - 42) / 13 = k by omega, show (3 + 13 * k + i - 42) % 13 = i by omega]
    unfold sa
    rw [if_neg h3]
theorem puc_put {μ : Me} {b k : Nat} {S : Cg} {σ : Sg} (hk : k < 11) : put (puc μ b S) (sa b k) σ = puc μ b (cC S k σ) := by
  funext a
  have hat := puc_At (μ := μ) (b := b) (S := cC S k σ) hk
  by_cases ha : sa b k ≤ a ∧ a < sa b k + 13
  · have h := hat (a - sa b k) (by omega)
    rw [show sa b k + (a - sa b k) = a by omega] at h
    rw [h]
    unfold put
    rw [if_pos ha]
    simp [cC]
  · unfold put
    rw [if_neg ha]
    unfold puc
    by_cases h2 : b ≤ a ∧ a < b + 164
    · rw [if_pos h2, if_pos h2]
      congr 1
      unfold sa at ha
      unfold clE
      have hs : ∀ j, ¬ j = k → (cC S k σ).1 j = S.1 j := fun j hj => by simp [cC, hj]
      by_cases o0 : a - b = 0
      · rw [if_pos o0, if_pos o0]; rfl
      · rw [if_neg o0, if_neg o0]
        by_cases o1 : a - b < 40
        · rw [if_pos o1, if_pos o1, hs _ (by intro e; rw [← e] at ha; rw [if_pos (by omega)] at ha; omega)]
        · rw [if_neg o1, if_neg o1]
          by_cases o2 : a - b = 40
          · rw [if_pos o2, if_pos o2]; rfl
          · rw [if_neg o2, if_neg o2]
            by_cases o3 : a - b = 41
            · rw [if_pos o3, if_pos o3]
            · rw [if_neg o3, if_neg o3]
              by_cases o4 : a - b < 146
              · rw [if_pos o4, if_pos o4, hs _ (by intro e; rw [← e] at ha; rw [if_neg (by omega)] at ha; omega)]
              · rw [if_neg o4, if_neg o4]; rfl
    · rw [if_neg h2, if_neg h2]
theorem sa_dis {b j k : Nat} (h : j ≠ k) : sa b j + 13 ≤ sa b k ∨ sa b k + 13 ≤ sa b j := by
  unfold sa
  split <;> split <;> omega
theorem sa_pos {b k : Nat} : 0 < sa b k := by
  unfold sa
  split <;> omega
section XR
variable {β : Type} {μ : Me} {b : Nat} {S : Cg}
theorem k_ob0 (hb : 0 < b) : ob (puc μ b S) b 7 = some [.ref (sa b S.2.2.2), .ref (sa b (1 - S.2.2.2)), .ref (sa b 2), .int (S.2.1 0 0), .ref (b + 40), .ref (b + 146), .int (S.2.1 0 1), .int (S.2.1 0 2), .ref (b + 162), .int (S.2.1 0 3), .ref (b + 163)] := ob_at (puc_at μ b S (i := 0) (by decide)) hb
theorem k_ob40 : ob (puc μ b S) (b + 40) 4 = some [.ref (b + 41), .int (S.2.1 0 4), .int (S.2.1 0 5)] := ob_at (puc_at μ b S (i := 40) (by decide)) (by omega)
theorem k_ob146 : ob (puc μ b S) (b + 146) 6 = some [.ref (b + 147), .int (S.2.1 0 6), .ref (b + 148), .ref (b + 149), .int (S.2.1 0 7), .int (S.2.1 0 8)] := ob_at (puc_at μ b S (i := 146) (by decide)) (by omega)
theorem k_R0 (hb : 0 < b) {K : Nat → Rs β} : gR (puc μ b S) b 7 0 K = K (sa b S.2.2.2) := by simp [gR, gf, k_ob0 hb]
theorem k_R1 (hb : 0 < b) {K : Nat → Rs β} : gR (puc μ b S) b 7 1 K = K (sa b (1 - S.2.2.2)) := by simp [gR, gf, k_ob0 hb]
theorem k_R2 (hb : 0 < b) {K : Nat → Rs β} : gR (puc μ b S) b 7 2 K = K (sa b 2) := by simp [gR, gf, k_ob0 hb]
theorem k_R4 (hb : 0 < b) {K : Nat → Rs β} : gR (puc μ b S) b 7 4 K = K (b + 40) := by simp [gR, gf, k_ob0 hb]
theorem k_R5 (hb : 0 < b) {K : Nat → Rs β} : gR (puc μ b S) b 7 5 K = K (b + 146) := by simp [gR, gf, k_ob0 hb]
theorem k_R8 (hb : 0 < b) {K : Nat → Rs β} : gR (puc μ b S) b 7 8 K = K (b + 162) := by simp [gR, gf, k_ob0 hb]
theorem k_R10 (hb : 0 < b) {K : Nat → Rs β} : gR (puc μ b S) b 7 10 K = K (b + 163) := by simp [gR, gf, k_ob0 hb]
theorem k_I3 (hb : 0 < b) {K : Int32 → Rs β} : gI (puc μ b S) b 7 3 K = K (S.2.1 0 0) := by simp [gI, gf, k_ob0 hb]
theorem k_I6 (hb : 0 < b) {K : Int32 → Rs β} : gI (puc μ b S) b 7 6 K = K (S.2.1 0 1) := by simp [gI, gf, k_ob0 hb]
theorem k_I7 (hb : 0 < b) {K : Int32 → Rs β} : gI (puc μ b S) b 7 7 K = K (S.2.1 0 2) := by simp [gI, gf, k_ob0 hb]
theorem k_I9 (hb : 0 < b) {K : Int32 → Rs β} : gI (puc μ b S) b 7 9 K = K (S.2.1 0 3) := by simp [gI, gf, k_ob0 hb]
theorem k_H0 {K : Nat → Rs β} : gR (puc μ b S) (b + 40) 4 0 K = K (b + 41) := by simp [gR, gf, k_ob40]
theorem k_H1 {K : Int32 → Rs β} : gI (puc μ b S) (b + 40) 4 1 K = K (S.2.1 0 4) := by simp [gI, gf, k_ob40]
theorem k_H2 {K : Int32 → Rs β} : gI (puc μ b S) (b + 40) 4 2 K = K (S.2.1 0 5) := by simp [gI, gf, k_ob40]
theorem k_S0 {K : Nat → Rs β} : gR (puc μ b S) (b + 146) 6 0 K = K (b + 147) := by simp [gR, gf, k_ob146]
theorem k_S2 {K : Nat → Rs β} : gR (puc μ b S) (b + 146) 6 2 K = K (b + 148) := by simp [gR, gf, k_ob146]
theorem k_S3 {K : Nat → Rs β} : gR (puc μ b S) (b + 146) 6 3 K = K (b + 149) := by simp [gR, gf, k_ob146]
theorem k_S1 {K : Int32 → Rs β} : gI (puc μ b S) (b + 146) 6 1 K = K (S.2.1 0 6) := by simp [gI, gf, k_ob146]
theorem k_S4 {K : Int32 → Rs β} : gI (puc μ b S) (b + 146) 6 4 K = K (S.2.1 0 7) := by simp [gI, gf, k_ob146]
theorem k_S5 {K : Int32 → Rs β} : gI (puc μ b S) (b + 146) 6 5 K = K (S.2.1 0 8) := by simp [gI, gf, k_ob146]
theorem k_vc0 (hb : 0 < b) {x : Rs β} : vc (puc μ b S) b 7 x = x := by simp [vc, k_ob0 hb]
theorem k_vc40 {x : Rs β} : vc (puc μ b S) (b + 40) 4 x = x := by simp [vc, k_ob40]
theorem k_vc146 {x : Rs β} : vc (puc μ b S) (b + 146) 6 x = x := by simp [vc, k_ob146]
theorem cl_row {r j0 : Nat} {x : Int32} {i : Nat} (h : (r = 1 ∧ i = 147) ∨ (r = 2 ∧ i = 162) ∨ (r = 3 ∧ i = 163) ∨ (4 ≤ r ∧ r < 16 ∧ i = 146 + r)) : ∀ j, j < 164 → j ≠ i → clE b (cS S r j0 x) j = clE b S j := by
  intro j hj hne
  have h0 : ∀ p q, ¬ p = r → (cS S r j0 x).2.1 p q = S.2.1 p q := fun p q hp => by simp [cS, hp]
  have h0' : ∀ p, ¬ p = r → (cS S r j0 x).2.1 p = S.2.1 p := fun p hp => by simp [cS, hp]
  have hr0 : ¬ 0 = r := by omega
  have hx : xE b (cS S r j0 x) = xE b S := by
    unfold xE
    simp only [h0 0 _ hr0]
    rfl
  unfold clE
  rw [hx]
  simp only [h0 0 _ hr0]
  by_cases o0 : j = 0
  · rw [if_pos o0, if_pos o0]
  · rw [if_neg o0, if_neg o0]
    by_cases o1 : j < 147
    · by_cases p1 : j < 40
      · rw [if_pos p1, if_pos p1]; rfl
      · rw [if_neg p1, if_neg p1]
        by_cases p2 : j = 40
        · rw [if_pos p2, if_pos p2]
        · rw [if_neg p2, if_neg p2]
          by_cases p3 : j = 41
          · rw [if_pos p3, if_pos p3]
          · rw [if_neg p3, if_neg p3]
            by_cases p4 : j < 146
            · rw [if_pos p4, if_pos p4]; rfl
            · rw [if_neg p4, if_neg p4, if_pos (by omega), if_pos (by omega)]
    · have n1 : ¬ j < 40 := by omega
      have n2 : ¬ j = 40 := by omega
      have n3 : ¬ j = 41 := by omega
      have n4 : ¬ j < 146 := by omega
      have n5 : ¬ j = 146 := by omega
      simp only [n1, n2, n3, n4, n5, if_false]
      by_cases p5 : j = 147
      · rw [if_pos p5, if_pos p5, h0' 1 (by omega)]
      · rw [if_neg p5, if_neg p5]
        by_cases p6 : j = 148
        · rw [if_pos p6, if_pos p6]; rfl
        · rw [if_neg p6, if_neg p6]
          by_cases p7 : j = 149
          · rw [if_pos p7, if_pos p7]
          · rw [if_neg p7, if_neg p7]
            by_cases p8 : j < 162
            · rw [if_pos p8, if_pos p8, h0' (4 + (j - 150)) (by omega)]
            · rw [if_neg p8, if_neg p8]
              by_cases p9 : j = 162
              · rw [if_pos p9, if_pos p9, h0' 2 (by omega)]
              · rw [if_neg p9, if_neg p9, h0' 3 (by omega)]
theorem cl_sc {j0 : Nat} {x : Int32} {i : Nat} (h : (j0 < 4 ∧ i = 0) ∨ ((j0 = 4 ∨ j0 = 5) ∧ i = 40) ∨ ((j0 = 6 ∨ j0 = 7 ∨ j0 = 8) ∧ i = 146)) : ∀ j, j < 164 → j ≠ i → clE b (cS S 0 j0 x) j = clE b S j := by
  intro j hj hne
  have h0 : ∀ q, ¬ q = j0 → (cS S 0 j0 x).2.1 0 q = S.2.1 0 q := fun q hq => by simp [cS, upd, hq]
  have h1 : ∀ p, ¬ p = 0 → (cS S 0 j0 x).2.1 p = S.2.1 p := fun p hp => by simp [cS, hp]
  unfold clE
  by_cases o0 : j = 0
  · rw [if_pos o0, if_pos o0]
    unfold xE
    rw [h0 0 (by omega), h0 1 (by omega), h0 2 (by omega), h0 3 (by omega)]
    rfl
  · rw [if_neg o0, if_neg o0]
    by_cases p1 : j < 40
    · rw [if_pos p1, if_pos p1]; rfl
    · rw [if_neg p1, if_neg p1]
      by_cases p2 : j = 40
      · rw [if_pos p2, if_pos p2, h0 4 (by omega), h0 5 (by omega)]
      · rw [if_neg p2, if_neg p2]
        by_cases p3 : j = 41
        · rw [if_pos p3, if_pos p3]
        · rw [if_neg p3, if_neg p3]
          by_cases p4 : j < 146
          · rw [if_pos p4, if_pos p4]; rfl
          · rw [if_neg p4, if_neg p4]
            by_cases p5 : j = 146
            · rw [if_pos p5, if_pos p5, h0 6 (by omega), h0 7 (by omega), h0 8 (by omega)]
            · rw [if_neg p5, if_neg p5, h1 1 (by omega), h1 2 (by omega), h1 3 (by omega), h1 (4 + (j - 150)) (by omega)]
              rfl
theorem k_ar41 : ar (puc μ b S) (b + 41) 5 = some (8, .inr (.inr (.inr (.inr (fun k => if k < 8 then some (sa b (3 + k)) else none))))) := ar_at (puc_at μ b S (i := 41) (by decide)) (by omega)
theorem k_ar147 : ar (puc μ b S) (b + 147) 2 = some (60, .inl (S.2.1 1)) := ar_at (puc_at μ b S (i := 147) (by decide)) (by omega)
theorem k_ar148 : ar (puc μ b S) (b + 148) 6 = some (12, .inr (.inr (.inr (.inr S.2.2.1)))) := ar_at (puc_at μ b S (i := 148) (by decide)) (by omega)
theorem k_ar149 : ar (puc μ b S) (b + 149) 7 = some (12, .inr (.inr (.inr (.inr (fun i => if i < 12 then some (b + 150 + i) else none))))) := ar_at (puc_at μ b S (i := 149) (by decide)) (by omega)
theorem k_ar162 : ar (puc μ b S) (b + 162) 2 = some (8, .inl (S.2.1 2)) := ar_at (puc_at μ b S (i := 162) (by decide)) (by omega)
theorem k_ar163 : ar (puc μ b S) (b + 163) 0 = some (64, .inl (S.2.1 3)) := ar_at (puc_at μ b S (i := 163) (by decide)) (by omega)
theorem clE_num {i : Nat} (h : i < 12) : clE b S (150 + i) = .inl (0, (3, .inl (S.2.1 (4 + i)))) := by
  unfold clE
  rw [if_neg (by omega), if_neg (by omega), if_neg (by omega), if_neg (by omega), if_neg (by omega), if_neg (by omega), if_neg (by omega), if_neg (by omega), if_neg (by omega), if_pos (by omega), show 150 + i - 150 = i by omega]
theorem k_arN {i : Nat} (h : i < 12) : ar (puc μ b S) (b + 150 + i) 0 = some (3, .inl (S.2.1 (4 + i))) := by
  have h1 := puc_at μ b S (i := 150 + i) (by omega)
  rw [clE_num h] at h1
  rw [show b + 150 + i = b + (150 + i) by omega]
  exact ar_at h1 (by omega)
theorem k_hist {k : Nat} (hk : k < 8) {K : Nat → Rs β} : aR (puc μ b S) 5 (b + 41) (nI k) K = K (sa b (3 + k)) := by
  simp only [aR, k_ar41, inb_n hk (by decide), nI_clamp (show k < 2 ^ 31 by omega), if_true, if_pos hk]
theorem k_num {i : Nat} (hi : i < 12) {K : Nat → Rs β} : aR (puc μ b S) 7 (b + 149) (nI i) K = K (b + 150 + i) := by
  simp only [aR, k_ar149, inb_n hi (by decide), nI_clamp (show i < 2 ^ 31 by omega), if_true, if_pos hi]
theorem k_aN {i : Nat} (hi : i < 12) {j : Int32} {K : Int32 → Rs β} : aI (puc μ b S) (b + 150 + i) j K = if inb j 3 = true then K (S.2.1 (4 + i) j.toNatClampNeg) else none := by simp only [aI, k_arN hi]
theorem k_lenN {i : Nat} (hi : i < 12) {K : Int32 → Rs β} : al (puc μ b S) (b + 150 + i) 0 K = K 3 := by
  simp only [al, k_arN hi]
  rfl
theorem k_c1 {i : Int32} {K : Int32 → Rs β} : aCh (puc μ b S) (b + 147) i K = if inb i 60 = true then K (S.2.1 1 i.toNatClampNeg) else none := by simp only [aCh, k_ar147]
theorem k_c2 {i : Int32} {K : Int32 → Rs β} : aCh (puc μ b S) (b + 162) i K = if inb i 8 = true then K (S.2.1 2 i.toNatClampNeg) else none := by simp only [aCh, k_ar162]
theorem k_c3 {i : Int32} {K : Int32 → Rs β} : aI (puc μ b S) (b + 163) i K = if inb i 64 = true then K (S.2.1 3 i.toNatClampNeg) else none := by simp only [aI, k_ar163]
theorem k_aW {aC : Nat → Nat} {i v : Nat} (hi : i < 12) (hv : S.2.2.1 i = some (aC (110 + v))) (hx : vx aC (aC (110 + v)) = some v) {K : Nat → Rs β} : aW aC (puc μ b S) (b + 148) (nI i) K = K v := by simp only [aW, k_ar148, inb_n hi (by decide), nI_clamp (show i < 2 ^ 31 by omega), if_true, hv, hx]
theorem k_s1 {i x : Int32} {K : Me → Rs β} : sC (puc μ b S) (b + 147) i x K = if inb i 60 = true then K (puc μ b (cS S 1 i.toNatClampNeg (vp_nar .char x))) else none := by
  simp only [sC, k_ar147]
  rw [mset_puc (S' := cS S 1 i.toNatClampNeg (vp_nar .char x)) (by decide) (by simp [clE, cS]) (cl_row (by omega))]
theorem k_s2 {i x : Int32} {K : Me → Rs β} : sC (puc μ b S) (b + 162) i x K = if inb i 8 = true then K (puc μ b (cS S 2 i.toNatClampNeg (vp_nar .char x))) else none := by
  simp only [sC, k_ar162]
  rw [mset_puc (S' := cS S 2 i.toNatClampNeg (vp_nar .char x)) (by decide) (by simp [clE, cS]) (cl_row (by omega))]
theorem k_s3 {i x : Int32} {K : Me → Rs β} : sI (puc μ b S) (b + 163) i x K = if inb i 64 = true then K (puc μ b (cS S 3 i.toNatClampNeg x)) else none := by
  simp only [sI, k_ar163]
  rw [mset_puc (S' := cS S 3 i.toNatClampNeg x) (by decide) (by simp [clE, cS]) (cl_row (by omega))]
theorem k_sN {i : Nat} (hi : i < 12) {j x : Int32} {K : Me → Rs β} : sI (puc μ b S) (b + 150 + i) j x K = if inb j 3 = true then K (puc μ b (cS S (4 + i) j.toNatClampNeg x)) else none := by
  simp only [sI, k_arN hi]
  rw [show b + 150 + i = b + (150 + i) by omega, mset_puc (S' := cS S (4 + i) j.toNatClampNeg x) (by omega) (by rw [clE_num hi]; simp [cS]) (cl_row (by omega))]
theorem k_sW {aC : Nat → Nat} {i : Int32} {v : Nat} {K : Me → Rs β} : sW aC (puc μ b S) (b + 148) i v K = if inb i 12 = true ∧ v < 11 then K (puc μ b (cV S i.toNatClampNeg (aC (110 + v)))) else none := by
  simp only [sW, k_ar148]
  rw [mset_puc (S' := cV S i.toNatClampNeg (aC (110 + v))) (by decide) (by simp [clE, cV]) (fun j hj hne => ?_)]
  unfold clE
  rw [if_neg hne, if_neg hne]
  rfl
theorem k_p3 (hb : 0 < b) {x : Int32} {K : Me → Rs β} : pf (puc μ b S) (b) 7 3 (.int x) K = K (puc μ b (cS S 0 0 x)) := by
  unfold pf
  rw [k_ob0 hb]
  dsimp only [List.length, List.set]
  rw [if_pos (by decide)]
  have h := mset_puc (μ := μ) (b := b) (i := 0) (S := S) (S' := cS S 0 0 x) (by decide) rfl (cl_sc (by omega))
  simp [clE, xE, cS, upd] at h
  simp [h, cS, upd]
theorem k_p6 (hb : 0 < b) {x : Int32} {K : Me → Rs β} : pf (puc μ b S) (b) 7 6 (.int x) K = K (puc μ b (cS S 0 1 x)) := by
  unfold pf
  rw [k_ob0 hb]
  dsimp only [List.length, List.set]
  rw [if_pos (by decide)]
  have h := mset_puc (μ := μ) (b := b) (i := 0) (S := S) (S' := cS S 0 1 x) (by decide) rfl (cl_sc (by omega))
  simp [clE, xE, cS, upd] at h
  simp [h, cS, upd]
theorem k_p7 (hb : 0 < b) {x : Int32} {K : Me → Rs β} : pf (puc μ b S) (b) 7 7 (.int x) K = K (puc μ b (cS S 0 2 x)) := by
  unfold pf
  rw [k_ob0 hb]
  dsimp only [List.length, List.set]
  rw [if_pos (by decide)]
  have h := mset_puc (μ := μ) (b := b) (i := 0) (S := S) (S' := cS S 0 2 x) (by decide) rfl (cl_sc (by omega))
  simp [clE, xE, cS, upd] at h
  simp [h, cS, upd]
theorem k_p9 (hb : 0 < b) {x : Int32} {K : Me → Rs β} : pf (puc μ b S) (b) 7 9 (.int x) K = K (puc μ b (cS S 0 3 x)) := by
  unfold pf
  rw [k_ob0 hb]
  dsimp only [List.length, List.set]
  rw [if_pos (by decide)]
  have h := mset_puc (μ := μ) (b := b) (i := 0) (S := S) (S' := cS S 0 3 x) (by decide) rfl (cl_sc (by omega))
  simp [clE, xE, cS, upd] at h
  simp [h, cS, upd]
theorem k_hp1 {x : Int32} {K : Me → Rs β} : pf (puc μ b S) (b + 40) 4 1 (.int x) K = K (puc μ b (cS S 0 4 x)) := by
  unfold pf
  rw [k_ob40]
  dsimp only [List.length, List.set]
  rw [if_pos (by decide)]
  have h := mset_puc (μ := μ) (b := b) (i := 40) (S := S) (S' := cS S 0 4 x) (by decide) rfl (cl_sc (by omega))
  simp [clE, xE, cS, upd] at h
  simp [h, cS, upd]
theorem k_hp2 {x : Int32} {K : Me → Rs β} : pf (puc μ b S) (b + 40) 4 2 (.int x) K = K (puc μ b (cS S 0 5 x)) := by
  unfold pf
  rw [k_ob40]
  dsimp only [List.length, List.set]
  rw [if_pos (by decide)]
  have h := mset_puc (μ := μ) (b := b) (i := 40) (S := S) (S' := cS S 0 5 x) (by decide) rfl (cl_sc (by omega))
  simp [clE, xE, cS, upd] at h
  simp [h, cS, upd]
theorem k_sp1 {x : Int32} {K : Me → Rs β} : pf (puc μ b S) (b + 146) 6 1 (.int x) K = K (puc μ b (cS S 0 6 x)) := by
  unfold pf
  rw [k_ob146]
  dsimp only [List.length, List.set]
  rw [if_pos (by decide)]
  have h := mset_puc (μ := μ) (b := b) (i := 146) (S := S) (S' := cS S 0 6 x) (by decide) rfl (cl_sc (by omega))
  simp [clE, xE, cS, upd] at h
  simp [h, cS, upd]
theorem k_sp4 {x : Int32} {K : Me → Rs β} : pf (puc μ b S) (b + 146) 6 4 (.int x) K = K (puc μ b (cS S 0 7 x)) := by
  unfold pf
  rw [k_ob146]
  dsimp only [List.length, List.set]
  rw [if_pos (by decide)]
  have h := mset_puc (μ := μ) (b := b) (i := 146) (S := S) (S' := cS S 0 7 x) (by decide) rfl (cl_sc (by omega))
  simp [clE, xE, cS, upd] at h
  simp [h, cS, upd]
theorem k_sp5 {x : Int32} {K : Me → Rs β} : pf (puc μ b S) (b + 146) 6 5 (.int x) K = K (puc μ b (cS S 0 8 x)) := by
  unfold pf
  rw [k_ob146]
  dsimp only [List.length, List.set]
  rw [if_pos (by decide)]
  have h := mset_puc (μ := μ) (b := b) (i := 146) (S := S) (S' := cS S 0 8 x) (by decide) rfl (cl_sc (by omega))
  simp [clE, xE, cS, upd] at h
  simp [h, cS, upd]
/-- scene and draft change places -/
theorem k_swap (hb : 0 < b) (hc : S.2.2.2 ≤ 1) {K : Me → Rs β} : pf (puc μ b S) b 7 0 (.ref (sa b (1 - S.2.2.2))) (fun μ9 => pf μ9 b 7 1 (.ref (sa b S.2.2.2)) K) = K (puc μ b (cT S)) := by
  unfold pf
  rw [k_ob0 hb]
  dsimp only [List.length, List.set]
  rw [if_pos (by decide)]
  have e1 : ob (mset (puc μ b S) b (.inr (7, [.ref (sa b (1 - S.2.2.2)), .ref (sa b (1 - S.2.2.2)), .ref (sa b 2), .int (S.2.1 0 0), .ref (b + 40), .ref (b + 146), .int (S.2.1 0 1), .int (S.2.1 0 2), .ref (b + 162), .int (S.2.1 0 3), .ref (b + 163)]))) b 7 = some [.ref (sa b (1 - S.2.2.2)), .ref (sa b (1 - S.2.2.2)), .ref (sa b 2), .int (S.2.1 0 0), .ref (b + 40), .ref (b + 146), .int (S.2.1 0 1), .int (S.2.1 0 2), .ref (b + 162), .int (S.2.1 0 3), .ref (b + 163)] := ob_at (mset_eq _ _ _) hb
  rw [e1]
  dsimp only [List.length, List.set]
  rw [if_pos (by decide)]
  congr 1
  have h := mset_puc (μ := μ) (b := b) (i := 0) (S := S) (S' := cT S) (by decide) rfl (fun j hj hne => by
    unfold clE
    rw [if_neg hne, if_neg hne]
    rfl)
  rw [← h]
  funext a
  unfold mset
  by_cases ha : a = b
  · rw [if_pos ha, if_pos (by omega)]
    have e2 : 1 - (1 - S.2.2.2) = S.2.2.2 := by omega
    simp [clE, xE, cT, e2]
  · rw [if_neg ha, if_neg ha, if_neg (by omega)]
end XR
