/-! ===== the command text: how it is read, and the show's reading of it ===== -/
def WL : List (List Nat) := [[97, 100, 100, 32], [112, 97, 100, 32], [111, 102, 102, 32], [108, 97, 110, 100, 32], [115, 101, 110, 100, 32], [114, 101, 115, 101, 114, 118, 101, 32], [102, 111, 114, 109, 32], [99, 108, 101, 97, 114, 32], [97, 115, 115, 105, 103, 110, 32], [116, 105, 99, 107, 32], [99, 111, 108, 111, 117, 114, 32]]
abbrev wl (j : Nat) : List Nat := WL.getD j []
/-- how many digits each number of a verb may have -/
def WW : List (List Nat) := [[3], [3], [1], [1], [1, 3], [3], [1, 3], [1], [1], [3], [1, 3, 1]]
abbrev ww (j : Nat) : List Nat := WW.getD j []
section SP
variable (X : Nat → Nat) (L : Nat)
/-- how far a word goes from h on -/
def cpl : List Nat → Nat → Nat
  | [], _ => 0
  | c :: cs, h => if h < L ∧ X h = c then cpl cs (h + 1) + 1 else 0
def vfd (c : Nat → Bool) : Nat → Nat → Option Nat
  | _, 0 => none
  | i, k + 1 => if c i = true then some i else vfd c (i + 1) k
def vmx (c : Nat → Nat) : Nat → Nat → Nat → Nat
  | _, 0, a => a
  | i, k + 1, a => vmx c (i + 1) k (if a < c i then c i else a)
def wfull (h j : Nat) : Bool := decide (cpl X L (wl j) h = (wl j).length)
/-- the verb at h, if there is one, and where the reading stands then -/
def vrb (h : Nat) : Option Nat × Nat := match vfd (wfull X L h) 0 11 with
  | some w => (some w, h + (wl w).length)
  | none => (none, h + vmx (fun j => cpl X L (wl j) h) 0 11 0)
def isdg (h : Nat) : Bool := decide (h < L ∧ 48 ≤ X h ∧ X h ≤ 57)
def dgn : Nat → Nat → Nat
  | 0, _ => 0
  | w + 1, h => if isdg X L h = true then dgn w (h + 1) + 1 else 0
def dgv : Nat → Nat → Nat → Nat
  | 0, _, a => a
  | w + 1, h, a => if isdg X L h = true then dgv w (h + 1) (10 * a + (X h - 48)) else a
/-- a sign -/
def sgn (h c : Nat) : Bool := decide (h < L ∧ X h = c)
/-- the numbers behind a verb -/
def nms : List Nat → Bool → Nat → Option (List Nat) × Nat
  | [], _, h => (some [], h)
  | w :: ws, fst, h => if fst = false ∧ sgn X L h 32 = false then (none, h)
    else if dgn X L w (if fst = true then h else h + 1) = 0 then (none, if fst = true then h else h + 1)
    else match nms ws false ((if fst = true then h else h + 1) + dgn X L w (if fst = true then h else h + 1)) with
      | (some l, e) => (some (dgv X L w (if fst = true then h else h + 1) 0 :: l), e)
      | (none, e) => (none, e)
/-- a command -/
def cmd (h : Nat) : Option (Nat × List Nat) × Nat := match vrb X L h with
  | (none, e) => (none, e)
  | (some w, e) => match nms X L (ww w) true e with
    | (some l, e2) => (some (w, l), e2)
    | (none, e2) => (none, e2)
/-- a text of at most so many commands -/
def prs : Nat → Nat → List (Nat × List Nat) × Nat × Bool
  | 0, h => ([], h, false)
  | f + 1, h => match cmd X L h with
    | (none, e) => ([], e, false)
    | (some p, e) => if e = L then ([p], e, true) else if sgn X L e 59 = true then (p :: (prs f (e + 1)).1, (prs f (e + 1)).2) else ([p], e, false)
end SP
theorem cpl_le (X : Nat → Nat) (L : Nat) : ∀ l h, cpl X L l h ≤ l.length ∧ (0 < cpl X L l h → h + cpl X L l h ≤ L) := by
  intro l
  induction l with
  | nil => intro h; exact ⟨Nat.le_refl _, fun e => absurd e (Nat.lt_irrefl 0)⟩
  | cons c l ih =>
    intro h
    simp only [cpl]
    split
    · rename_i g
      obtain ⟨i1, i2⟩ := ih (h + 1)
      refine ⟨by simp; omega, fun _ => ?_⟩
      by_cases e : 0 < cpl X L l (h + 1)
      · have := i2 e; omega
      · omega
    · exact ⟨Nat.zero_le _, fun e => absurd e (Nat.lt_irrefl 0)⟩
theorem vmx_le {c : Nat → Nat} {B : Nat} : ∀ k i a, a ≤ B → (∀ j, i ≤ j → j < i + k → c j ≤ B) → vmx c i k a ≤ B := by
  intro k
  induction k with
  | zero => intro i a h _; exact h
  | succ k ih =>
    intro i a h hc
    simp only [vmx]
    refine ih (i + 1) _ ?_ (fun j h1 h2 => hc j (by omega) (by omega))
    split
    · exact hc i (Nat.le_refl _) (by omega)
    · exact h
theorem wl_len : ∀ j, j < 11 → 4 ≤ (wl j).length ∧ (wl j).length ≤ 8 := by decide +kernel
theorem vfd_in {c : Nat → Bool} : ∀ k i w, vfd c i k = some w → i ≤ w ∧ w < i + k ∧ c w = true := by
  intro k
  induction k with
  | zero => intro i w h; exact absurd h (by simp [vfd])
  | succ k ih =>
    intro i w h
    simp only [vfd] at h
    split at h
    · rename_i g
      cases h
      exact ⟨Nat.le_refl _, by omega, g⟩
    · obtain ⟨a, b, d⟩ := ih (i + 1) w h
      exact ⟨by omega, by omega, d⟩
theorem vrb_in {X : Nat → Nat} {L h : Nat} (hL : L ≤ 60) (hh : h ≤ 60) : (vrb X L h).2 ≤ 60 ∧ h ≤ (vrb X L h).2 ∧ ∀ w, (vrb X L h).1 = some w → w < 11 ∧ h + 4 ≤ (vrb X L h).2 ∧ (vrb X L h).2 ≤ L := by
  unfold vrb
  split
  · rename_i w hw
    obtain ⟨-, a, b⟩ := vfd_in 11 0 w hw
    unfold wfull at b
    have b := of_decide_eq_true b
    have c := wl_len w (by omega)
    have d := (cpl_le X L (wl w) h).2 (by omega)
    exact ⟨by show h + _ ≤ 60; omega, by show h ≤ h + _; omega, fun w2 e => by cases e; exact ⟨by omega, by show h + 4 ≤ h + _; omega, by show h + _ ≤ L; omega⟩⟩
  · refine ⟨?_, by show h ≤ h + _; omega, fun w2 e => by cases e⟩
    have : vmx (fun j => cpl X L (wl j) h) 0 11 0 ≤ 60 - h := vmx_le 11 0 0 (Nat.zero_le _) (fun j _ _ => by
      show cpl X L (wl j) h ≤ 60 - h
      by_cases e : 0 < cpl X L (wl j) h
      · have := (cpl_le X L (wl j) h).2 e; omega
      · omega)
    show h + _ ≤ 60
    omega
theorem dgn_in (X : Nat → Nat) (L : Nat) : ∀ w h, dgn X L w h ≤ w ∧ (0 < dgn X L w h → h + dgn X L w h ≤ L) := by
  intro w
  induction w with
  | zero => intro h; exact ⟨Nat.le_refl _, fun e => absurd e (Nat.lt_irrefl 0)⟩
  | succ w ih =>
    intro h
    simp only [dgn]
    split
    · rename_i g
      unfold isdg at g
      have g := of_decide_eq_true g
      obtain ⟨i1, i2⟩ := ih (h + 1)
      refine ⟨by omega, fun _ => ?_⟩
      by_cases e : 0 < dgn X L w (h + 1)
      · have := i2 e; omega
      · omega
    · exact ⟨Nat.zero_le _, fun e => absurd e (Nat.lt_irrefl 0)⟩
theorem dgv_in (X : Nat → Nat) (L : Nat) : ∀ w h a B, a ≤ B → dgv X L w h a ≤ (B + 1) * 10 ^ w - 1 := by
  intro w
  induction w with
  | zero => intro h a B hB; simp [dgv]; omega
  | succ w ih =>
    intro h a B hB
    simp only [dgv]
    split
    · rename_i g
      unfold isdg at g
      have g := of_decide_eq_true g
      have := ih (h + 1) (10 * a + (X h - 48)) (10 * B + 9) (by omega)
      have e : (10 * B + 9 + 1) * 10 ^ w = (B + 1) * 10 ^ (w + 1) := by rw [Nat.pow_succ, Nat.mul_comm (10 ^ w) 10, ← Nat.mul_assoc]; congr 1; omega
      omega
    · have : 1 ≤ 10 ^ (w + 1) := Nat.pos_of_ne_zero (by intro e; have := Nat.pow_eq_zero.mp e; omega)
      have := Nat.mul_le_mul_left (B + 1) this
      omega
theorem dgv_3 {X : Nat → Nat} {L w h : Nat} (hw : w ≤ 3) : dgv X L w h 0 ≤ 999 := by
  have := dgv_in X L w h 0 0 (Nat.le_refl _)
  have e : 10 ^ w ≤ 10 ^ 3 := Nat.pow_le_pow_right (by decide) hw
  omega
theorem nms_in {X : Nat → Nat} {L : Nat} : ∀ ws b h, h ≤ 60 → L ≤ 60 → (nms X L ws b h).2 ≤ 60 ∧ h ≤ (nms X L ws b h).2 ∧ ∀ l, (nms X L ws b h).1 = some l → l.length = ws.length ∧ ((nms X L ws b h).2 = h ∨ (nms X L ws b h).2 ≤ L) ∧ (ws ≠ [] → h < (nms X L ws b h).2) := by
  intro ws
  induction ws with
  | nil => intro b h hh hL; exact ⟨hh, Nat.le_refl _, fun l e => by cases e; exact ⟨rfl, Or.inl rfl, fun x => absurd rfl x⟩⟩
  | cons w ws ih =>
    intro b h hh hL
    simp only [nms]
    by_cases g : b = false ∧ sgn X L h 32 = false
    · rw [if_pos g]; exact ⟨hh, Nat.le_refl _, fun l e => by cases e⟩
    · rw [if_neg g]
      have hb : (if b = true then h else h + 1) ≤ 60 ∧ h ≤ (if b = true then h else h + 1) := by
        cases b with
        | true => exact ⟨hh, Nat.le_refl _⟩
        | false =>
          have g2 : sgn X L h 32 = true := by
            cases e : sgn X L h 32 with
            | true => rfl
            | false => exact absurd ⟨rfl, e⟩ g
          unfold sgn at g2
          have g2 := of_decide_eq_true g2
          simp; omega
      generalize (if b = true then h else h + 1) = h1 at hb
      by_cases g3 : dgn X L w h1 = 0
      · rw [if_pos g3]; exact ⟨hb.1, hb.2, fun l e => by cases e⟩
      · rw [if_neg g3]
        have hd := (dgn_in X L w h1).2 (by omega)
        obtain ⟨a1, a2, a3⟩ := ih false (h1 + dgn X L w h1) (by omega) hL
        split
        · rename_i l e heq
          rw [heq] at a1 a2 a3
          obtain ⟨b1, b2, b3⟩ := a3 l rfl
          simp only at a1 a2 b2
          refine ⟨a1, by show h ≤ e; omega, fun l2 e2 => ?_⟩
          cases e2
          refine ⟨by simp [b1], Or.inr ?_, fun _ => by show h < e; omega⟩
          show e ≤ L
          rcases b2 with b2 | b2 <;> omega
        · rename_i e heq
          rw [heq] at a1 a2
          simp only at a1 a2
          exact ⟨a1, by show h ≤ e; omega, fun l2 e2 => by cases e2⟩
theorem ww_ok : ∀ j, j < 11 → (ww j).length ≤ 3 ∧ ww j ≠ [] ∧ ∀ w, w ∈ ww j → w = 1 ∨ w = 3 := by decide +kernel
theorem cmd_in {X : Nat → Nat} {L h : Nat} (hL : L ≤ 60) (hh : h ≤ 60) : (cmd X L h).2 ≤ 60 ∧ h ≤ (cmd X L h).2 ∧ ∀ p, (cmd X L h).1 = some p → p.1 < 11 ∧ p.2.length = (ww p.1).length ∧ h + 5 ≤ (cmd X L h).2 ∧ (cmd X L h).2 ≤ L := by
  obtain ⟨v1, v2, v3⟩ := vrb_in (X := X) hL hh
  unfold cmd
  split
  · rename_i e heq
    rw [heq] at v1 v2
    exact ⟨v1, v2, fun p x => by cases x⟩
  · rename_i w e heq
    rw [heq] at v1 v2 v3
    obtain ⟨w1, w2, w3⟩ := v3 w rfl
    simp only at v1 v2 w2 w3
    obtain ⟨n1, n2, n3⟩ := nms_in (X := X) (L := L) (ww w) true e v1 hL
    split
    · rename_i l e2 heq2
      rw [heq2] at n1 n2 n3
      obtain ⟨m1, m2, m3⟩ := n3 l rfl
      have m4 := m3 (ww_ok w w1).2.1
      simp only at n1 n2 m2 m4
      exact ⟨n1, by show h ≤ e2; omega, fun p x => by cases x; exact ⟨w1, m1, by show h + 5 ≤ e2; omega, by show e2 ≤ L; rcases m2 with m2 | m2 <;> omega⟩⟩
    · rename_i e2 heq2
      rw [heq2] at n1 n2
      simp only at n1 n2
      exact ⟨n1, by show h ≤ e2; omega, fun p x => by cases x⟩
/-! the show's reader -/
theorem strT_wl : ∀ j, j < 11 → strT.getD j [] = (wl j).map nI := by decide +kernel
theorem strT_ww : ∀ j, j < 11 → wdx j < 15 ∧ strT.getD (wdx j) [] = (ww j).map (fun w => nI (48 + w)) := by decide +kernel
theorem strT_nar : ∀ j, j < 15 → ∀ i, i < (strT.getD j []).length → vp_nar .char ((strT.getD j []).getD i 0) = (strT.getD j []).getD i 0 := by decide +kernel
theorem fj_len {aC : Nat → Nat} {j : Nat} (hj : j < 15) (μ : Me) : FJ0_length_8abf5 aC j μ = rt (nI (strT.getD j []).length) μ := by
  have e : nI (strT.getD j []).length >>> ((0 : Int32) &&& 31) = nI (strT.getD j []).length := sb_shr0 _
  simp only [FJ0_length_8abf5, FJ0_coder_7d493, hj, gd, if_true, bnd, rt, e]
theorem strT_len : ∀ j, j < 15 → (strT.getD j []).length ≤ 8 := by decide +kernel
theorem fj_chr {aC : Nat → Nat} {j i : Nat} (hj : j < 15) (hi : i < (strT.getD j []).length) (μ : Me) : FJ0_charAt_5068e aC j (nI i) μ = rt ((strT.getD j []).getD i 0) μ := by
  have h8 := strT_len j hj
  have h1 : ¬ nI i < 0 := nI_pos (by omega)
  have h2 : nI i < nI (strT.getD j []).length := nI_lt hi (by omega)
  have h3 : inb (nI i) (strT.getD j []).length = true := inb_n hi (by omega)
  have h4 : (nI i).toNatClampNeg = i := nI_clamp (by omega)
  have h5 := strT_nar j hj i hi
  simp only [FJ0_charAt_5068e, FJ0_isLatin1_aae02, FJ1_charAt_3b067, FJ0_checkIndex_df160, FJ3_checkIndex_8e157, hj, h1, h2, h3, h4, h5, gd, if_true, if_false, bnd, rt, one_ne]
def TX (S : Cg) (X : Nat → Nat) (L : Nat) : Prop := L ≤ 60 ∧ S.2.1 0 6 = nI L ∧ ∀ i, i < L → S.2.1 1 i = nI (X i) ∧ X i < 128
section SR
variable {μ : Me} {b h : Nat} {S : Cg} {X : Nat → Nat} {L : Nat} {aC : Nat → Nat}
theorem S_vc {α : Type} {x : Rs α} : vc (puc μ b S) (b + 146) 6 x = x := k_vc146
theorem ps_at (hX : TX S X L) (hh : h < L) : inb (nI h) 60 = true ∧ (nI h).toNatClampNeg = h := ⟨inb_n (by have := hX.1; omega) (by decide), nI_clamp (by have := hX.1; omega)⟩
theorem l_same {j : Nat} (hj : j < 11) (hX : TX S X L) (hp : S.2.1 0 8 = nI h) (hh : h ≤ 60) : ∀ (cs : List Nat) f i, (wl j).drop i = cs → i ≤ (wl j).length → cs.length < f → FX5_sameCharacters_L2 aC f (b + 146) j (nI i) (puc μ b S) = rt (nI (i + cpl X L cs (h + i))) (puc μ b S) := by
  have hlen := (wl_len j hj).2
  have h60 := hX.1
  have sl : (strT.getD j []).length = (wl j).length := by rw [strT_wl j hj, List.length_map]
  intro cs
  induction cs with
  | nil =>
    intro f i hd hi hf
    obtain ⟨f, rfl⟩ : ∃ g, f = g + 1 := ⟨f - 1, by omega⟩
    have hi2 : (wl j).length ≤ i := List.drop_eq_nil_iff.mp hd
    have h1 : nI (wl j).length ≤ nI i := nI_le hi2 (by omega)
    simp only [FX5_sameCharacters_L2, FX5_sameCharacters_B2, show j < 15 by omega, gd, if_true, fj_len (show j < 15 by omega), sl, bnd, rt, h1]
    rfl
  | cons c cs ih =>
    intro f i hd hi hf
    obtain ⟨f, rfl⟩ : ∃ g, f = g + 1 := ⟨f - 1, by omega⟩
    have hi2 : i < (wl j).length := by
      rcases Nat.lt_or_ge i (wl j).length with e | e
      · exact e
      · rw [List.drop_eq_nil_of_le e] at hd; cases hd
    have hc : (wl j)[i]? = some c := by
      have : ((wl j).drop i)[0]? = some c := by rw [hd]; rfl
      rwa [List.getElem?_drop, Nat.add_zero] at this
    have hd2 : (wl j).drop (i + 1) = cs := by
      rw [← List.drop_drop, hd]
      rfl
    have hchr : (strT.getD j []).getD i 0 = nI c := by
      rw [strT_wl j hj, List.getD, List.getElem?_map, hc]
      rfl
    have hc128 : c < 128 := by
      have : ∀ j, j < 11 → ∀ i, i < 8 → (wl j).getD i 0 < 128 := by decide +kernel
      have h2 := this j hj i (by omega)
      rw [List.getD, hc] at h2
      exact h2
    have h1 : ¬ nI (wl j).length ≤ nI i := nI_ge hi2 (by omega)
    simp only [FX5_sameCharacters_L2, FX5_sameCharacters_B2, show j < 15 by omega, gd, if_true, fj_len (show j < 15 by omega), sl, bnd, rt, h1, if_false, k_S5, k_S1, hp, hX.2.1, nI_add]
    simp only [cpl]
    by_cases g : h + i < L
    · have h2 : ¬ nI L ≤ nI (h + i) := nI_ge g (by omega)
      obtain ⟨p1, p2⟩ := ps_at hX g
      simp only [h2, if_false, k_S0, k_S5, hp, nI_add, k_c1, p1, p2, if_true, fj_chr (show j < 15 by omega) (show i < (strT.getD j []).length by rw [sl]; exact hi2), bnd, rt, hchr, (hX.2.2 _ g).1, nI_1]
      have hx128 := (hX.2.2 _ g).2
      by_cases g2 : X (h + i) = c
      · rw [if_pos (by rw [g2]), if_pos ⟨g, g2⟩]
        have h3 := ih f (i + 1) hd2 (by omega) (by simp at hf; omega)
        rw [h3, show h + (i + 1) = h + i + 1 by omega]
        congr 2
        omega
      · rw [if_neg (fun e => g2 ((nI_eq (by omega) (by omega)).mp e)), if_neg (fun e => g2 e.2), Nat.add_zero]
    · have h2 : nI L ≤ nI (h + i) := nI_le (by omega) (by omega)
      rw [if_pos h2, if_neg (fun e => g e.1), Nat.add_zero]
theorem c_same {j : Nat} (hj : j < 11) (hX : TX S X L) (hp : S.2.1 0 8 = nI h) (hh : h ≤ 60) : FX5_sameCharacters aC (b + 146) j (puc μ b S) = rt (nI (cpl X L (wl j) h)) (puc μ b S) := by
  have h1 := l_same (μ := μ) (b := b) (aC := aC) hj hX hp hh (wl j) FU 0 rfl (Nat.zero_le _) (by have := (wl_len j hj).2; unfold FU; omega)
  rw [Nat.zero_add, Nat.add_zero] at h1
  exact h1
def ps (S : Cg) (h : Nat) : Cg := cS S 0 8 (nI h)
theorem l_pv (hX : TX S X L) (hp : S.2.1 0 8 = nI h) (hh : h ≤ 60) : ∀ k f i a, i + k = 11 → k < f → a ≤ 8 → FX5_parseVerb_L4 aC f (b + 146) (nI a) (nI i) (puc μ b S) = match vfd (wfull X L h) i k with
    | some w => rt (some w) (puc μ b (ps S (h + (wl w).length)))
    | none => rt none (puc μ b (ps S (h + vmx (fun j => cpl X L (wl j) h) i k a))) := by
  intro k
  induction k with
  | zero =>
    intro f i a hi hf ha
    obtain ⟨f, rfl⟩ : ∃ g, f = g + 1 := ⟨f - 1, by omega⟩
    have h1 : nI 11 ≤ nI i := nI_le (by omega) (by omega)
    simp only [FX5_parseVerb_L4, FX5_parseVerb_B4, h1, if_true, k_S5, hp, k_sp5, nI_add, vfd, vmx]
    rfl
  | succ k ih =>
    intro f i a hi hf ha
    obtain ⟨f, rfl⟩ : ∃ g, f = g + 1 := ⟨f - 1, by omega⟩
    have hi11 : i < 11 := by omega
    have h1 : ¬ nI 11 ≤ nI i := nI_ge hi11 (by omega)
    have h2 : inb (nI i) 11 = true := inb_n hi11 (by decide)
    have h3 : (nI i).toNatClampNeg = i := nI_clamp (by omega)
    have hlen := (wl_len i hi11).2
    have hcl := (cpl_le X L (wl i) h).1
    have sl : (strT.getD i []).length = (wl i).length := by rw [strT_wl i hi11, List.length_map]
    simp only [FX5_parseVerb_L4, FX5_parseVerb_B4, h1, if_false, h2, h3, hi11, gd, if_true, S_vc, c_same hi11 hX hp hh, bnd, rt, show i < 15 by omega, fj_len (show i < 15 by omega), sl, vfd, vmx, nI_1]
    by_cases g : cpl X L (wl i) h = (wl i).length
    · have hw : wfull X L h i = true := decide_eq_true g
      simp only [hw, if_true, g, k_S5, hp, k_sp5, nI_add]
      rfl
    · have hw : wfull X L h i = false := decide_eq_false g
      have h4 : ¬ nI (cpl X L (wl i) h) = nI (wl i).length := fun e => g ((nI_eq (by omega) (by omega)).mp e)
      simp only [hw, h4, if_false, Bool.false_eq_true]
      have h5 : (if nI a < nI (cpl X L (wl i) h) then nI (cpl X L (wl i) h) else nI a) = nI (if a < cpl X L (wl i) h then cpl X L (wl i) h else a) := by
        by_cases e : a < cpl X L (wl i) h
        · rw [if_pos e, if_pos (nI_lt e (by omega))]
        · rw [if_neg e, if_neg (nI_nlt (by omega) (by omega))]
      rw [h5]
      exact ih f (i + 1) _ (by omega) (by omega) (by split <;> omega)
theorem c_verb (hX : TX S X L) (hp : S.2.1 0 8 = nI h) (hh : h ≤ 60) : FX5_parseVerb aC (b + 146) (puc μ b S) = rt (vrb X L h).1 (puc μ b (ps S (vrb X L h).2)) := by
  have h1 := l_pv (μ := μ) (b := b) (aC := aC) hX hp hh 11 FU 0 0 rfl (by unfold FU; omega) (by decide)
  unfold FX5_parseVerb
  refine Eq.trans h1 ?_
  unfold vrb
  cases vfd (wfull X L h) 0 11 <;> rfl
theorem c_skip {c : Nat} (hc : c < 128) (hX : TX S X L) (hp : S.2.1 0 8 = nI h) (hh : h ≤ 60) : FX5_skip (b + 146) (nI c) (puc μ b S) = if sgn X L h c = true then rt 1 (puc μ b (ps S (h + 1))) else rt 0 (puc μ b S) := by
  have h60 := hX.1
  unfold FX5_skip sgn
  simp only [k_S5, k_S1, hp, hX.2.1]
  by_cases g : h < L
  · have h2 : ¬ nI L ≤ nI h := nI_ge g (by omega)
    obtain ⟨p1, p2⟩ := ps_at hX g
    have hx128 := (hX.2.2 _ g).2
    simp only [h2, if_false, k_S0, k_S5, hp, k_c1, p1, p2, if_true, (hX.2.2 _ g).1]
    by_cases g2 : X h = c
    · rw [if_pos (by rw [g2]), if_pos (decide_eq_true ⟨g, g2⟩)]
      simp only [k_S5, hp, k_sp5, nI_1]
      rfl
    · rw [if_neg (fun e => g2 ((nI_eq (by omega) (by omega)).mp e)), if_neg (fun e => g2 (of_decide_eq_true e).2)]
  · rw [if_pos (nI_le (by omega) (by omega)), if_neg (fun e => g (of_decide_eq_true e).1)]
theorem c_atd (hX : TX S X L) (hp : S.2.1 0 8 = nI h) (hh : h ≤ 60) : FX5_atDigit (b + 146) (puc μ b S) = rt (if isdg X L h = true then 1 else 0) (puc μ b S) := by
  have h60 := hX.1
  unfold FX5_atDigit isdg
  simp only [k_S5, k_S1, hp, hX.2.1]
  by_cases g : h < L
  · have h2 : ¬ nI L ≤ nI h := nI_ge g (by omega)
    obtain ⟨p1, p2⟩ := ps_at hX g
    have hx128 := (hX.2.2 _ g).2
    simp only [h2, if_false, k_S0, k_S5, hp, k_c1, p1, p2, if_true, (hX.2.2 _ g).1]
    by_cases g2 : X h < 48
    · rw [if_pos (show nI (X h) < 48 from nI_lt (b := 48) g2 (by decide)), if_neg (fun e => by have := of_decide_eq_true e; omega)]
    · rw [if_neg (show ¬ nI (X h) < 48 from nI_nlt (b := 48) (by omega) (by omega))]
      by_cases g3 : 57 < X h
      · rw [if_pos (show (57 : Int32) < nI (X h) from nI_lt (a := 57) g3 (by omega)), if_neg (fun e => by have := of_decide_eq_true e; omega)]
      · rw [if_neg (show ¬ (57 : Int32) < nI (X h) from nI_nlt (a := 57) (by omega) (by decide)), if_pos (decide_eq_true ⟨g, by omega, by omega⟩)]
  · rw [if_pos (nI_le (by omega) (by omega)), if_neg (fun e => g (of_decide_eq_true e).1)]
theorem ps_ps {h1 h2 : Nat} : ps (ps S h1) h2 = ps S h2 := by
  refine Prod.ext rfl ?_
  refine Prod.ext ?_ rfl
  funext r
  simp only [ps, cS]
  by_cases e : r = 0
  · simp only [e, if_true]
    funext j
    simp only [upd]
    split <;> rfl
  · simp only [e, if_false]
theorem ps_8 {h1 : Nat} : (ps S h1).2.1 0 8 = nI h1 := by simp [ps, cS, upd]
theorem ps_X {h1 : Nat} (hX : TX S X L) : TX (ps S h1) X L := ⟨hX.1, by rw [← hX.2.1]; simp [ps, cS, upd], fun i hi => by
  have := hX.2.2 i hi
  simpa [ps, cS] using this⟩
theorem l_num {W : Nat} (hW : W ≤ 3) : ∀ k f i a h (S : Cg), TX S X L → S.2.1 0 8 = nI h → h ≤ 60 → i + k = W → k < f → a < 10 ^ i → FX5_parseNumber_L4 f (b + 146) (nI W) (if i = 0 then -1 else nI a) (nI i) (puc μ b S) = rt (if i = 0 ∧ dgn X L k h = 0 then -1 else nI (dgv X L k h a)) (puc μ b (ps S (h + dgn X L k h))) := by
  intro k
  induction k with
  | zero =>
    intro f i a h S hX hp hh hi hf ha
    obtain ⟨f, rfl⟩ : ∃ g, f = g + 1 := ⟨f - 1, by omega⟩
    have h1 : nI W ≤ nI i := nI_le (by omega) (by omega)
    have e1 : ps S h = S := by
      refine Prod.ext rfl (Prod.ext ?_ rfl)
      funext r
      simp only [ps, cS]
      by_cases e : r = 0
      · subst e
        simp only [if_true]
        funext j
        simp only [upd]
        split
        · rename_i ej; rw [ej, hp]
        · rfl
      · simp only [e, if_false]
    simp only [FX5_parseNumber_L4, FX5_parseNumber_B4, h1, if_true, dgn, dgv, Nat.add_zero, e1, and_true]
  | succ k ih =>
    intro f i a h S hX hp hh hi hf ha
    obtain ⟨f, rfl⟩ : ∃ g, f = g + 1 := ⟨f - 1, by omega⟩
    have h1 : ¬ nI W ≤ nI i := nI_ge (by omega) (by omega)
    have h60 := hX.1
    simp only [FX5_parseNumber_L4, FX5_parseNumber_B4, h1, if_false, S_vc, c_atd hX hp hh, bnd, rt, dgn, dgv]
    by_cases g : isdg X L h = true
    · have g2 := of_decide_eq_true (show decide (h < L ∧ 48 ≤ X h ∧ X h ≤ 57) = true from g)
      obtain ⟨p1, p2⟩ := ps_at hX g2.1
      have e48 : nI (X h) - 48 = nI (X h - 48) := pk_sub (b := 48) g2.2.1
      have hi2 : i = 0 ∨ i = 1 ∨ i = 2 := by omega
      have hnext := ih f (i + 1) (10 * a + (X h - 48)) (h + 1) (ps S (h + 1)) (ps_X hX) ps_8 (by omega) (by omega) (by omega) (by rw [Nat.pow_succ]; omega)
      rw [ps_ps, if_neg (show ¬ i + 1 = 0 by omega), if_neg (show ¬ (i + 1 = 0 ∧ dgn X L k (h + 1) = 0) by omega)] at hnext
      have hval : (if (if i = 0 then (-1 : Int32) else nI a) = -1 then FX5_parseNumber_B47 (FX5_parseNumber_L4 f) (b + 146) (nI W) (nI i) (nI (X h) - 48) (puc μ b S) else FX5_parseNumber_B47 (FX5_parseNumber_L4 f) (b + 146) (nI W) (nI i) (10 * (if i = 0 then (-1 : Int32) else nI a) + (nI (X h) - 48)) (puc μ b S)) = FX5_parseNumber_L4 f (b + 146) (nI W) (nI (10 * a + (X h - 48))) (nI (i + 1)) (puc μ b (ps S (h + 1))) := by
        rcases Nat.eq_zero_or_pos i with e | e
        · subst e
          have ha0 : a = 0 := by simpa using ha
          subst ha0
          rw [if_pos rfl, if_pos rfl]
          simp only [FX5_parseNumber_B47, k_S5, hp, k_sp5, nI_1, e48, Nat.mul_zero, Nat.zero_add]
          rfl
        · have ha2 : a < 1000 := by
            have : 10 ^ i ≤ 10 ^ 3 := Nat.pow_le_pow_right (by decide) (by omega)
            omega
          rw [if_neg (show ¬ i = 0 by omega), if_neg (m1_ne (by omega))]
          simp only [FX5_parseNumber_B47, k_S5, hp, k_sp5, nI_1, e48]
          rw [show (10 : Int32) = nI 10 from rfl, pk_mul, nI_add]
          rfl
      simp only [g, if_true, one_ne, if_false, k_S0, k_S5, hp, k_c1, p1, p2, (hX.2.2 _ g2.1).1]
      rw [hval, hnext, if_neg (show ¬ (i = 0 ∧ dgn X L k (h + 1) + 1 = 0) by omega), show h + (dgn X L k (h + 1) + 1) = h + 1 + dgn X L k (h + 1) by omega]
      rfl
    · have e1 : ps S h = S := by
        refine Prod.ext rfl (Prod.ext ?_ rfl)
        funext r
        simp only [ps, cS]
        by_cases e : r = 0
        · subst e
          simp only [if_true]
          funext j
          simp only [upd]
          split
          · rename_i ej; rw [ej, hp]
          · rfl
        · simp only [e, if_false]
      have g0 : isdg X L h = false := by simpa using g
      simp only [g0, Bool.false_eq_true, if_false, if_true, Nat.add_zero, e1, and_true]
theorem c_num {W : Nat} (hW : W ≤ 3) (hX : TX S X L) (hp : S.2.1 0 8 = nI h) (hh : h ≤ 60) : FX5_parseNumber (b + 146) (nI W) (puc μ b S) = rt (if dgn X L W h = 0 then -1 else nI (dgv X L W h 0)) (puc μ b (ps S (h + dgn X L W h))) := by
  have h1 := l_num (μ := μ) (b := b) hW W FU 0 0 h S hX hp hh (Nat.zero_add _) (by unfold FU; omega) (by decide)
  simp only [if_true, true_and] at h1
  exact h1
end SR
