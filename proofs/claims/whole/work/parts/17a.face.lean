/-! ===== the show and the model as wholes ===== -/
def RA2 (T : Nat) (S : Cg) (M : Mg) : Prop := S.2.1 0 0 = M 11 4 ∧ (M 11 4 = 0 ∨ (M 11 4 = 1 ∧ RR T (S.1 2) (M 2)))
def RA3 (T : Nat) (S : Cg) (M : Mg) : Prop := ∃ c o, c ≤ 8 ∧ o < 8 ∧ S.2.1 0 5 = nI c ∧ M 11 1 = nI c ∧ S.2.1 0 4 = nI o ∧ ∀ k, k < c → RR T (S.1 (3 + (o + k) % 8)) (fun j => M 4 (k * 117 + j))
def RA4 (S : Cg) (M : Mg) : Prop := S.2.1 0 1 = M 11 2 ∧ (M 11 2 = -1 ∨ ∃ k, k < 2 ^ 31 ∧ M 11 2 = nI k)
def RA5 (S : Cg) (M : Mg) : Prop := S.2.1 0 2 = M 11 3 ∧ (M 11 3 = -1 ∨ ∃ k, k < 2 ^ 31 ∧ M 11 3 = nI k)
def RA6 (S : Cg) (M : Mg) : Prop := S.2.1 0 3 = M 11 8 ∧ (M 11 8 = 0 ∨ (M 11 8 = 8 ∧ ∀ i, i < 8 → S.2.1 2 i = M 7 i ∧ ∃ ch, ch < 128 ∧ M 7 i = nI ch))
def RA7 (S : Cg) (M : Mg) : Prop := ∃ l, l ≤ 60 ∧ S.2.1 0 6 = nI l ∧ M 11 5 = nI l ∧ ∀ i, i < l → S.2.1 1 i = M 6 i ∧ ∃ ch, 32 ≤ ch ∧ ch < 127 ∧ M 6 i = nI ch
def wds : List Nat := [97, 100, 100, 32, 112, 97, 100, 32, 111, 102, 102, 32, 108, 97, 110, 100, 32, 115, 101, 110, 100, 32, 114, 101, 115, 101, 114, 118, 101, 32, 102, 111, 114, 109, 32, 99, 108, 101, 97, 114, 32, 97, 115, 115, 105, 103, 110, 32, 116, 105, 99, 107, 32, 99, 111, 108, 111, 117, 114, 32]
def wat : List Nat := [0, 4, 8, 12, 17, 22, 30, 35, 41, 48, 53, 60]
def RA8 (M : Mg) : Prop := (∀ i, i < 60 → M 9 i = nI (wds.getD i 0)) ∧ ∀ i, i < 12 → M 10 i = nI (wat.getD i 0)
def RA (T : Nat) (S : Cg) (M : Mg) : Prop := S.2.2.2 ≤ 1 ∧ RR T (S.1 S.2.2.2) (M 0) ∧ RA2 T S M ∧ RA3 T S M ∧ RA4 S M ∧ RA5 S M ∧ RA6 S M ∧ RA7 S M ∧ RA8 M
section RAs
variable {T T' : Nat} {S S' : Cg} {M M' : Mg}
theorem RA2_c (h : RA2 T S M) (hT : T ≤ T') (h0 : S'.2.1 0 0 = S.2.1 0 0) (h1 : S'.1 2 = S.1 2) (h2 : M' 11 4 = M 11 4) (h3 : M' 2 = M 2) : RA2 T' S' M' := by
  unfold RA2 at h ⊢
  rw [h0, h1, h2, h3]
  refine ⟨h.1, ?_⟩
  rcases h.2 with e | ⟨e, e2⟩
  · exact Or.inl e
  · exact Or.inr ⟨e, RR_mono e2 hT⟩
theorem RA3_c (h : RA3 T S M) (hT : T ≤ T') (h0 : S'.2.1 0 5 = S.2.1 0 5) (h1 : S'.2.1 0 4 = S.2.1 0 4) (h2 : M' 11 1 = M 11 1) (h3 : M' 4 = M 4) (h4 : ∀ k, k < 8 → S'.1 (3 + k) = S.1 (3 + k)) : RA3 T' S' M' := by
  obtain ⟨c, o, hc, ho, e1, e2, e3, e4⟩ := h
  refine ⟨c, o, hc, ho, h0.trans e1, h2.trans e2, h1.trans e3, fun k hk => ?_⟩
  rw [h4 _ (Nat.mod_lt _ (by decide)), h3]
  exact RR_mono (e4 k hk) hT
theorem RA4_c (h : RA4 S M) (h0 : S'.2.1 0 1 = S.2.1 0 1) (h1 : M' 11 2 = M 11 2) : RA4 S' M' := by
  unfold RA4 at h ⊢
  rw [h0, h1]; exact h
theorem RA5_c (h : RA5 S M) (h0 : S'.2.1 0 2 = S.2.1 0 2) (h1 : M' 11 3 = M 11 3) : RA5 S' M' := by
  unfold RA5 at h ⊢
  rw [h0, h1]; exact h
theorem RA6_c (h : RA6 S M) (h0 : S'.2.1 0 3 = S.2.1 0 3) (h2 : S'.2.1 2 = S.2.1 2) (h1 : M' 11 8 = M 11 8) (h7 : M' 7 = M 7) : RA6 S' M' := by
  unfold RA6 at h ⊢
  rw [h0, h1, h2, h7]; exact h
theorem RA7_c (h : RA7 S M) (h0 : S'.2.1 0 6 = S.2.1 0 6) (h2 : S'.2.1 1 = S.2.1 1) (h1 : M' 11 5 = M 11 5) (h7 : M' 6 = M 6) : RA7 S' M' := by
  unfold RA7 at h ⊢
  rw [h0, h1, h2, h7]; exact h
theorem RA8_c (h : RA8 M) (h9 : M' 9 = M 9) (h10 : M' 10 = M 10) : RA8 M' := by
  unfold RA8 at h ⊢
  rw [h9, h10]; exact h
/-- only the model's answer place, or such rows as nobody reads, change; and on the other side rows 3 to 15 or the draft -/
theorem RA_c (h : RA T S M) (hT : T ≤ T') (h0 : S'.2.1 0 = S.2.1 0) (h1 : S'.2.1 1 = S.2.1 1) (h2 : S'.2.1 2 = S.2.1 2) (hc : S'.2.2.2 = S.2.2.2) (hs : ∀ k, k ≠ 1 - S.2.2.2 → S'.1 k = S.1 k) (hM : ∀ r, r = 2 ∨ r = 4 ∨ r = 6 ∨ r = 7 ∨ r = 9 ∨ r = 10 → M' r = M r) (hM0 : ∀ j, j < 117 → M' 0 j = M 0 j) (hM11 : ∀ j, 0 < j → j ≠ 6 → j ≠ 7 → j < 9 → M' 11 j = M 11 j) : RA T' S' M' := by
  obtain ⟨a1, a2, a3, a4, a5, a6, a7, a8, a9⟩ := h
  refine ⟨by rw [hc]; exact a1, ?_, RA2_c a3 hT (by rw [h0]) (hs 2 (by omega)) (hM11 4 (by omega) (by omega) (by omega) (by omega)) (hM 2 (by omega)), RA3_c a4 hT (by rw [h0]) (by rw [h0]) (hM11 1 (by omega) (by omega) (by omega) (by omega)) (hM 4 (by omega)) (fun k hk => hs _ (by omega)), RA4_c a5 (by rw [h0]) (hM11 2 (by omega) (by omega) (by omega) (by omega)), RA5_c a6 (by rw [h0]) (hM11 3 (by omega) (by omega) (by omega) (by omega)), RA6_c a7 (by rw [h0]) h2 (hM11 8 (by omega) (by omega) (by omega) (by omega)) (hM 7 (by omega)), RA7_c a8 (by rw [h0]) h1 (hM11 5 (by omega) (by omega) (by omega) (by omega)) (hM 6 (by omega)), RA8_c a9 (hM 9 (by omega)) (hM 10 (by omega))⟩
  rw [hc, hs _ (by omega)]
  exact RR_mono (RR_v a2 hM0) hT
end RAs
section FC
variable {α : Type} {T : Nat} {μ ν : Me} {b m k j : Nat} {S S' : Cg} {M : Mg}
theorem puc_e (hk : k < 11) : puc μ b S = put (puc μ b S) (sa b k) (S.1 k) := (puc_At hk).eq
/-- a question to a scene -/
theorem L_q {G : Me → Rs α} {r : α} (hk : k < 11) (h : ∀ μ', G (put μ' (sa b k) (S.1 k)) = rt r (put μ' (sa b k) (S.1 k))) : G (puc μ b S) = rt r (puc μ b S) := by
  have h1 := h (puc μ b S)
  rwa [← puc_e hk] at h1
/-- a change of a scene -/
theorem L_u {G : Me → Rs α} {r : α} {σ' : Sg} (hk : k < 11) (h : ∀ μ', G (put μ' (sa b k) (S.1 k)) = rt r (put μ' (sa b k) σ')) : G (puc μ b S) = rt r (puc μ b (cC S k σ')) := by
  have h1 := h (puc μ b S)
  rwa [← puc_e hk, puc_put hk] at h1
theorem L_vc {x : Rs α} (hk : k < 11) : vc (puc μ b S) (sa b k) 5 x = x := by
  rw [puc_e hk]
  exact b_vc0 sa_pos
theorem L_vc1 {x : Rs α} (hk : k < 11) : vc (puc μ b S) (sa b k + 1) 3 x = x := by
  rw [puc_e hk]
  exact b_vc1
theorem L_vc8 {x : Rs α} (hk : k < 11) : vc (puc μ b S) (sa b k + 8) 2 x = x := by
  rw [puc_e hk]
  exact b_vc8
theorem L_copy (hj : j < 11) (hk : k < 11) (hne : j ≠ k) : FX4_copyFrom (sa b j) (sa b k) (puc μ b S) = rt () (puc μ b (cC S j (cpy (S.1 k) (S.1 j)))) := by
  have h1 := e_copy (μ := puc μ b S) (s := sa b j) (t := sa b k) (τ := S.1 k) sa_pos sa_pos (fun σ => (puc_At hk).put (sa_dis (Ne.symm hne))) (S.1 j)
  rwa [← puc_e hj, puc_put hj] at h1
theorem puc0 (hb : 0 < b) : (puc μ b S) 0 = μ 0 := puc_out (Or.inl hb)
theorem thr_p {E : String} (hb : 0 < b) (h0 : μ 0 = none) : thr (γ := α) E (puc μ b S) = some (.inr E, puc μ b S) := by
  unfold thr
  rw [puc0 hb, h0]
theorem thr_bnd {β : Type} {E : String} {μ : Me} {K : β → Me → Rs α} : bnd (some (.inr E, μ)) K = some (.inr E, μ) := rfl
/-! history -/
def kpS (S : Cg) (o c : Nat) : Cg := cS (cC S (3 + (o + c) % 8) (cpy (S.1 S.2.2.2) (S.1 (3 + (o + c) % 8)))) 0 5 (nI (c + 1))
theorem nI_m8 {a : Nat} (ha : a < 2 ^ 31) : nI a - nI a / 8 * 8 = nI (a % 8) := pk_rem (d := 8) ha (by decide) (by decide)
theorem e_keep32 {c o : Nat} (hb : 0 < b) (h1 : S.2.2.2 ≤ 1) (ho : o < 8) (hc : c < 8) (e4 : S.2.1 0 4 = nI o) (e5 : S.2.1 0 5 = nI c) : FX3_keep_B32 (b + 40) (sa b S.2.2.2) (puc μ b S) = rt () (puc μ b (kpS S o c)) := by
  have hm : (o + c) % 8 < 8 := Nat.mod_lt _ (by decide)
  have hL := L_copy (μ := μ) (b := b) (S := S) (j := 3 + (o + c) % 8) (k := S.2.2.2) (by omega) (by omega) (by omega)
  have e5' : (cC S (3 + (o + c) % 8) (cpy (S.1 S.2.2.2) (S.1 (3 + (o + c) % 8)))).2.1 0 5 = nI c := e5
  simp only [FX3_keep_B32, k_H0, k_H1, k_H2, e4, e5, nI_add, nI_m8 (show o + c < 2 ^ 31 by omega), k_hist hm, L_vc (show 3 + (o + c) % 8 < 11 by omega), hL, bnd, rt, k_hp2, e5', nI_1]
  rfl
def kp1 (S : Cg) (o : Nat) : Cg := cS (cS S 0 4 (nI ((o + 1) % 8))) 0 5 (nI 7)
theorem e_keep {c o : Nat} (hb : 0 < b) (h1 : S.2.2.2 ≤ 1) (ho : o < 8) (hc : c ≤ 8) (e4 : S.2.1 0 4 = nI o) (e5 : S.2.1 0 5 = nI c) : FX3_keep (b + 40) (sa b S.2.2.2) (puc μ b S) = rt () (puc μ b (if c = 8 then kpS (kp1 S o) ((o + 1) % 8) 7 else kpS S o c)) := by
  by_cases g : c = 8
  · subst g
    have e5' : (cS S 0 4 (nI ((o + 1) % 8))).2.1 0 5 = nI 8 := by simp [cS, upd, e5]
    have h2 := e_keep32 (μ := μ) (b := b) (S := kp1 S o) (o := (o + 1) % 8) (c := 7) hb h1 (Nat.mod_lt _ (by decide)) (by decide) (by simp [kp1, cS, upd]) (by simp [kp1, cS, upd])
    have e8 : nI 8 = (8 : Int32) := rfl
    have e7 : nI 8 - 1 = nI 7 := by decide
    simp only [FX3_keep, k_H2, k_H1, e4, e5, e8, if_true, nI_1, nI_m8 (show o + 1 < 2 ^ 31 by omega), k_hp1, k_hp2, e5']
    rw [show (8 : Int32) - 1 = nI 7 by decide]
    exact h2
  · have h2 := e_keep32 (μ := μ) hb h1 ho (show c < 8 by omega) e4 e5
    have e8 : ¬ nI c = 8 := fun e => g ((nI_eq (b := 8) (by omega) (by decide)).mp e)
    simp only [FX3_keep, k_H2, e5, e8, if_false, g]
    exact h2
def cmS (S : Cg) (o c : Nat) : Cg := cT (if c = 8 then kpS (kp1 S o) ((o + 1) % 8) 7 else kpS S o c)
theorem e_commit {c o r : Nat} (hb : 0 < b) (h1 : S.2.2.2 ≤ 1) (ho : o < 8) (hc : c ≤ 8) (e4 : S.2.1 0 4 = nI o) (e5 : S.2.1 0 5 = nI c) (hr : r < 2 ^ 31) : FX7_commit b (nI r) (puc μ b S) = rt (nI r) (puc μ b (cmS S o c)) := by
  have hk := e_keep (μ := μ) hb h1 ho hc e4 e5
  have hcur : (if c = 8 then kpS (kp1 S o) ((o + 1) % 8) 7 else kpS S o c).2.2.2 = S.2.2.2 := by split <;> rfl
  unfold FX7_commit
  rw [if_pos (nI_pos' hr)]
  simp only [FX7_commit_B8, k_R4 hb, k_R0 hb, k_vc40, hk, bnd, rt, k_R1 hb, hcur]
  have h2 := k_swap (μ := μ) (b := b) (S := if c = 8 then kpS (kp1 S o) ((o + 1) % 8) 7 else kpS S o c) hb (by rw [hcur]; exact h1) (K := fun μ10 => rt (nI r) μ10)
  rw [hcur] at h2
  exact h2
def exc (k : Int32) : String := if k = -1 then "java/lang/IndexOutOfBoundsException" else if k = -2 then "java/lang/IllegalArgumentException" else if k = -3 then "java/lang/IllegalStateException" else "java/lang/UnsupportedOperationException"
theorem e_refuse {x : Int32} (hb : 0 < b) (h0 : μ 0 = none) (hx : x = -1 ∨ x = -2 ∨ x = -3 ∨ x = -4) : FX7_commit b x (puc μ b S) = some (.inr (exc x), puc μ b S) := by
  unfold FX7_commit FX7_refuse
  rcases hx with e | e | e | e <;> subst e
  · rw [if_neg (by decide), if_neg (by decide), if_neg (by decide), if_neg (by decide), if_pos (by decide), thr_p hb h0]; rfl
  · rw [if_neg (by decide), if_neg (by decide), if_neg (by decide), if_pos (by decide), thr_p hb h0]; rfl
  · rw [if_neg (by decide), if_neg (by decide), if_pos (by decide), thr_p hb h0]; rfl
  · rw [if_neg (by decide), if_pos (by decide), thr_p hb h0]; rfl
/-! the model's rows after a change -/
theorem app_s {c : Nat} {M : Mg} : (∀ r, r ≠ 4 → r ≠ 11 → (app c M) r = M r) ∧ (∀ j, j ≠ 1 → (app c M) 11 j = M 11 j) ∧ (app c M) 11 1 = nI (c + 1) ∧ (∀ j, j < c * 117 ∨ c * 117 + 117 ≤ j → (app c M) 4 j = M 4 j) ∧ ∀ j, j < 117 → (app c M) 4 (c * 117 + j) = M 1 j := by
  have h := fo_inv (P := fun i (N : Mg) => (∀ r, r ≠ 4 → N r = M r) ∧ (∀ j, j < c * 117 ∨ c * 117 + i ≤ j → N 4 j = M 4 j) ∧ ∀ j, j < i → N 4 (c * 117 + j) = M 1 j) (f := fun j N => mS N 4 (c * 117 + j) (N 1 j)) (k := 117) (i := 0) (a := M) ⟨fun _ _ => rfl, fun _ _ => rfl, fun j hj => absurd hj (Nat.not_lt_zero j)⟩ (fun d N _ hd hP => by
    obtain ⟨p1, p2, p3⟩ := hP
    refine ⟨fun r hr => ?_, fun j hj => ?_, fun j hj => ?_⟩
    · rw [← p1 r hr]; funext e; simp (disch := omega) only [m_same, m_col, m_row, s_same, s_col, s_row]
    · simp (disch := omega) only [m_same, m_col, m_row, s_same, s_col, s_row]; exact p2 j (by omega)
    · by_cases e : j = d
      · subst e; simp (disch := omega) only [m_same, m_col, m_row, s_same, s_col, s_row]; exact congrFun (p1 1 (by decide)) j
      · simp (disch := omega) only [m_same, m_col, m_row, s_same, s_col, s_row]; exact p3 j (by omega))
  obtain ⟨p1, p2, p3⟩ := h
  unfold app
  refine ⟨fun r h4 h11 => ?_, fun j hj => ?_, by simp (disch := omega) only [m_same, m_col, m_row, s_same, s_col, s_row], fun j hj => ?_, fun j hj => ?_⟩
  · rw [← p1 r h4]; funext e; simp (disch := omega) only [m_same, m_col, m_row, s_same, s_col, s_row]
  · simp (disch := omega) only [m_same, m_col, m_row, s_same, s_col, s_row]; exact congrFun (p1 11 (by decide)) j
  · simp (disch := omega) only [m_same, m_col, m_row, s_same, s_col, s_row]; exact p2 j (by omega)
  · simp (disch := omega) only [m_same, m_col, m_row, s_same, s_col, s_row]; exact p3 j (by omega)
theorem sft_s {M : Mg} : (∀ r, r ≠ 4 → r ≠ 11 → (sft M) r = M r) ∧ (∀ j, j ≠ 1 → (sft M) 11 j = M 11 j) ∧ (sft M) 11 1 = nI 7 ∧ ∀ j, j < 819 → (sft M) 4 j = M 4 (j + 117) := by
  have h := fo_inv (P := fun i (N : Mg) => (∀ r, r ≠ 4 → N r = M r) ∧ (∀ j, i ≤ j → N 4 j = M 4 j) ∧ ∀ j, j < i → N 4 j = M 4 (j + 117)) (f := fun j N => mS N 4 j (N 4 (j + 117))) (k := 819) (i := 0) (a := M) ⟨fun _ _ => rfl, fun _ _ => rfl, fun j hj => absurd hj (Nat.not_lt_zero j)⟩ (fun d N _ hd hP => by
    obtain ⟨p1, p2, p3⟩ := hP
    refine ⟨fun r hr => ?_, fun j hj => ?_, fun j hj => ?_⟩
    · rw [← p1 r hr]; funext e; simp (disch := omega) only [m_same, m_col, m_row, s_same, s_col, s_row]
    · simp (disch := omega) only [m_same, m_col, m_row, s_same, s_col, s_row]; exact p2 j (by omega)
    · by_cases e : j = d
      · subst e; simp (disch := omega) only [m_same, m_col, m_row, s_same, s_col, s_row]; exact p2 _ (by omega)
      · simp (disch := omega) only [m_same, m_col, m_row, s_same, s_col, s_row]; exact p3 j (by omega))
  obtain ⟨p1, p2, p3⟩ := h
  unfold sft
  refine ⟨fun r h4 h11 => ?_, fun j hj => ?_, by simp (disch := omega) only [m_same, m_col, m_row, s_same, s_col, s_row]; rfl, fun j hj => ?_⟩
  · rw [← p1 r h4]; funext e; simp (disch := omega) only [m_same, m_col, m_row, s_same, s_col, s_row]
  · simp (disch := omega) only [m_same, m_col, m_row, s_same, s_col, s_row]; exact congrFun (p1 11 (by decide)) j
  · simp (disch := omega) only [m_same, m_col, m_row, s_same, s_col, s_row]; exact p3 j (by omega)
theorem end1_s {c : Nat} {M : Mg} (hc : c ≤ 8) : (∀ r, r ≠ 4 → r ≠ 11 → (end1 c M) r = M r) ∧ (∀ j, j ≠ 1 → (end1 c M) 11 j = M 11 j) ∧ (end1 c M) 11 1 = nI (if c = 8 then 8 else c + 1) ∧ (c < 8 → (∀ k, k < c → ∀ j, j < 117 → (end1 c M) 4 (k * 117 + j) = M 4 (k * 117 + j)) ∧ ∀ j, j < 117 → (end1 c M) 4 (c * 117 + j) = M 1 j) ∧ (c = 8 → (∀ k, k < 7 → ∀ j, j < 117 → (end1 c M) 4 (k * 117 + j) = M 4 ((k + 1) * 117 + j)) ∧ ∀ j, j < 117 → (end1 c M) 4 (7 * 117 + j) = M 1 j) := by
  unfold end1
  by_cases g : c = 8
  · obtain ⟨a1, a2, a3, a4, a5⟩ := app_s (c := 7) (M := sft M)
    obtain ⟨s1, s2, s3, s4⟩ := sft_s (M := M)
    simp only [if_pos g]
    refine ⟨fun r h4 h11 => (a1 r h4 h11).trans (s1 r h4 h11), fun j hj => (a2 j hj).trans (s2 j hj), a3, fun h => by omega, fun _ => ⟨fun k hk j hj => ?_, fun j hj => ?_⟩⟩
    · rw [a4 _ (by omega), s4 _ (by omega)]
      congr 1
      omega
    · rw [a5 j hj]
      exact congrFun (s1 1 (by decide) (by decide)) j
  · obtain ⟨a1, a2, a3, a4, a5⟩ := app_s (c := c) (M := M)
    simp only [if_neg g]
    exact ⟨a1, a2, a3, fun h => ⟨fun k hk j hj => a4 _ (by have := Nat.mul_le_mul_right 117 (show k + 1 ≤ c by omega); omega), fun j hj => a5 j hj⟩, fun h => absurd h g⟩
theorem cC_cur {σ : Sg} : (cC S k σ).2.2.2 = S.2.2.2 := rfl
theorem cC_at {σ : Sg} : (cC S k σ).1 k = σ := by simp [cC]
theorem cC_ne {σ : Sg} (h : j ≠ k) : (cC S k σ).1 j = S.1 j := by simp [cC, h]
theorem RR_Bz {σ : Sg} {v : Nat → Int32} (h : RR T σ v) : Bz σ := by
  obtain ⟨n, q, c, h⟩ := h
  exact h.2.2.2.2.2
theorem RR_cpy {σ τ : Sg} {v : Nat → Int32} (h : RR T σ v) : RR T (cpy σ τ) v := RR_eq h (cpy_ok (RR_Bz h)) (fun _ _ => rfl)
/-- what is common to both sides once a change is through: the draft D holds the new scene -/
theorem RA_commit {c o T' : Nat} {M2 : Mg} (h : RA T S M) (hT : T ≤ T') (hc : c ≤ 8) (ho : o < 8) (e4 : S.2.1 0 4 = nI o) (hh : ∀ k, k < c → RR T (S.1 (3 + (o + k) % 8)) (fun j => M 4 (k * 117 + j))) (e1 : M 11 1 = nI c)
    (hS0 : S'.2 = S.2) (hS1 : ∀ k, k ≠ 1 - S.2.2.2 → S'.1 k = S.1 k) (hnew : RR T' (S'.1 (1 - S.2.2.2)) (M2 0)) (hM : ∀ r, r ≠ 0 → r ≠ 1 → r ≠ 5 → r ≠ 8 → r ≠ 11 → M2 r = M r) (hM1 : ∀ j, j < 117 → M2 1 j = M 0 j) (hM11 : ∀ j, 0 < j → j ≠ 6 → j ≠ 7 → j < 9 → M2 11 j = M 11 j) : RA T' (cmS S' o c) (end1 c M2) := by
  obtain ⟨a1, a2, a3, a4, a5, a6, a7, a8, a9⟩ := h
  obtain ⟨d1, d2, d3, d4, d5⟩ := end1_s (M := M2) hc
  have hm : ∀ x : Nat, x % 8 < 8 := fun x => Nat.mod_lt _ (by decide)
  have hcur : S'.2.2.2 = S.2.2.2 := by rw [hS0]
  have hcm : (cmS S' o c).2.2.2 = 1 - S.2.2.2 := by
    unfold cmS cT
    rw [← hcur]
    split <;> rfl
  have hrow : ∀ r j, ¬ (r = 0 ∧ (j = 4 ∨ j = 5)) → (cmS S' o c).2.1 r j = S.2.1 r j := fun r j hj => by
    rw [← hS0]
    unfold cmS cT
    split
    · by_cases r0 : r = 0
      · have h4 : j ≠ 4 := fun e => hj ⟨r0, Or.inl e⟩
        have h5 : j ≠ 5 := fun e => hj ⟨r0, Or.inr e⟩
        subst r0
        simp [kpS, kp1, cS, cC, upd, h4, h5]
      · simp [kpS, kp1, cS, cC, r0]
    · by_cases r0 : r = 0
      · have h5 : j ≠ 5 := fun e => hj ⟨r0, Or.inr e⟩
        subst r0
        simp [kpS, cS, cC, upd, h5]
      · simp [kpS, cS, cC, r0]
  have hrow' : ∀ r, r ≠ 0 → (cmS S' o c).2.1 r = S.2.1 r := fun r hr => by
    funext j
    exact hrow r j (fun x => hr x.1)
  have hlow : ∀ k, k < 3 → (cmS S' o c).1 k = S'.1 k := fun k hk => by
    unfold cmS cT
    split
    · show (cC (kp1 S' o) _ _).1 k = _
      rw [cC_ne (by omega)]
      rfl
    · show (cC S' _ _).1 k = _
      rw [cC_ne (by omega)]
  have hold : RR T (S'.1 S'.2.2.2) (M 0) := by rw [hcur, hS1 _ (by omega)]; exact a2
  refine ⟨by rw [hcm]; omega, ?_, RA2_c a3 hT (hrow 0 0 (by omega)) (by rw [hlow 2 (by omega), hS1 2 (by omega)]) (by rw [d2 4 (by decide)]; exact hM11 4 (by omega) (by omega) (by omega) (by omega)) (by rw [d1 2 (by decide) (by decide)]; exact hM 2 (by decide) (by decide) (by decide) (by decide) (by decide)), ?_, RA4_c a5 (hrow 0 1 (by omega)) (by rw [d2 2 (by decide)]; exact hM11 2 (by omega) (by omega) (by omega) (by omega)), RA5_c a6 (hrow 0 2 (by omega)) (by rw [d2 3 (by decide)]; exact hM11 3 (by omega) (by omega) (by omega) (by omega)), RA6_c a7 (hrow 0 3 (by omega)) (hrow' 2 (by decide)) (by rw [d2 8 (by decide)]; exact hM11 8 (by omega) (by omega) (by omega) (by omega)) (by rw [d1 7 (by decide) (by decide)]; exact hM 7 (by decide) (by decide) (by decide) (by decide) (by decide)), RA7_c a8 (hrow 0 6 (by omega)) (hrow' 1 (by decide)) (by rw [d2 5 (by decide)]; exact hM11 5 (by omega) (by omega) (by omega) (by omega)) (by rw [d1 6 (by decide) (by decide)]; exact hM 6 (by decide) (by decide) (by decide) (by decide) (by decide)), RA8_c a9 (by rw [d1 9 (by decide) (by decide)]; exact hM 9 (by decide) (by decide) (by decide) (by decide) (by decide)) (by rw [d1 10 (by decide) (by decide)]; exact hM 10 (by decide) (by decide) (by decide) (by decide) (by decide))⟩
  · rw [hcm, hlow _ (by omega), d1 0 (by decide) (by decide)]
    exact hnew
  · by_cases g : c = 8
    · obtain ⟨g1, g2⟩ := d5 g
      refine ⟨8, (o + 1) % 8, by omega, hm _, ?_, ?_, ?_, fun k hk => ?_⟩
      · unfold cmS cT; rw [if_pos g]; simp [kpS, cS, upd]
      · rw [d3, if_pos g]
      · unfold cmS cT; rw [if_pos g]; simp [kpS, kp1, cS, cC, upd]
      · have e5 : ∀ q, (cmS S' o c).1 q = (cC (kp1 S' o) (3 + ((o + 1) % 8 + 7) % 8) (cpy (S'.1 S'.2.2.2) (S'.1 (3 + ((o + 1) % 8 + 7) % 8)))).1 q := fun q => by
          unfold cmS cT; rw [if_pos g]; rfl
        rw [e5]
        by_cases hk7 : k = 7
        · subst hk7
          rw [cC_at]
          exact RR_mono (RR_cpy (RR_v hold (fun j hj => (g2 j hj).trans (hM1 j hj)))) hT
        · rw [cC_ne (by omega)]
          show RR T' (S'.1 (3 + ((o + 1) % 8 + k) % 8)) _
          rw [hS1 _ (by omega), show ((o + 1) % 8 + k) % 8 = (o + (k + 1)) % 8 by omega]
          exact RR_mono (RR_v (hh (k + 1) (by omega)) (fun j hj => by
            rw [g1 k (by omega) j hj]
            exact congrFun (hM 4 (by decide) (by decide) (by decide) (by decide) (by decide)) _)) hT
    · obtain ⟨g1, g2⟩ := d4 (by omega)
      refine ⟨c + 1, o, by omega, ho, ?_, ?_, ?_, fun k hk => ?_⟩
      · unfold cmS cT; rw [if_neg g]; simp [kpS, cS, upd]
      · rw [d3, if_neg g]
      · unfold cmS cT; rw [if_neg g]
        show upd (S'.2.1 0) 5 (nI (c + 1)) 4 = nI o
        rw [hS0]
        simp [upd, e4]
      · have e5 : ∀ q, (cmS S' o c).1 q = (cC S' (3 + (o + c) % 8) (cpy (S'.1 S'.2.2.2) (S'.1 (3 + (o + c) % 8)))).1 q := fun q => by
          unfold cmS cT; rw [if_neg g]; rfl
        rw [e5]
        by_cases hkc : k = c
        · subst hkc
          rw [cC_at]
          exact RR_mono (RR_cpy (RR_v hold (fun j hj => (g2 j hj).trans (hM1 j hj)))) hT
        · rw [cC_ne (by omega), hS1 _ (by omega)]
          exact RR_mono (RR_v (hh k (by omega)) (fun j hj => by
            rw [g1 k (by omega) j hj]
            exact congrFun (hM 4 (by decide) (by decide) (by decide) (by decide) (by decide)) _)) hT
/-- how a call on either side ends: with related answers, or with an exception and its place -/
def Ans {α β : Type} (T : Nat) (X : Nat → Me → Rs α) (Y : Nat → Me → Rs β) (ok : α → β → Prop) (es : List (String × Int32)) : Prop := ∀ (μ ν : Me) (b m : Nat) (S : Cg) (M : Mg), μ 0 = none → 0 < b → 0 < m → RA T S M →
  (∃ (r : α) (r' : β) (S' : Cg) (M' : Mg), X b (puc μ b S) = rt r (puc μ b S') ∧ Y m (pum ν m M) = rt r' (pum ν m M') ∧ ok r r' ∧ M' 11 0 = 0 ∧ RA (T + 400) S' M') ∨
  (∃ (e : String × Int32) (r' : β) (S' : Cg) (M' : Mg), e ∈ es ∧ X b (puc μ b S) = some (.inr e.1, puc μ b S') ∧ Y m (pum ν m M) = rt r' (pum ν m M') ∧ M' 11 0 = e.2 ∧ RA (T + 400) S' M')
theorem lay10 {M : Mg} : (∀ j, j < 117 → (lay 1 0 (mF M 0)) 1 j = M 0 j) ∧ (∀ r, r ≠ 1 → r ≠ 11 → (lay 1 0 (mF M 0)) r = M r) ∧ (∀ j, 0 < j → (lay 1 0 (mF M 0)) 11 j = M 11 j) ∧ (lay 1 0 (mF M 0)) 11 0 = 0 := by
  obtain ⟨l1, l2, l3⟩ := lay_i (a := 1) (b := 0) (by decide) (M := mF M 0)
  refine ⟨fun j hj => (l1 j hj).trans T0_v, fun r h1 h11 => (l3 r h1).trans (T0_r h11), fun j hj => ?_, ?_⟩
  · rw [l3 11 (by decide)]; exact T0_s (by omega)
  · rw [l3 11 (by decide)]; exact T0_0
theorem CHG {ks : List (Int32 × Int32)} {FX FM F7 F8 : Nat → Me → Rs Int32} (hS : Sim T ks FX FM)
    (h7 : ∀ a0 μ, F7 a0 μ = (gR μ a0 7 1 (fun x1 => (gR μ a0 7 0 (fun x2 => (bnd (vc μ x1 5 (FX4_copyFrom x1 x2 μ)) (fun x4 μ3 => (gR μ3 a0 7 1 (fun x5 => (bnd (vc μ3 x5 5 (FX x5 μ3)) (fun x7 μ6 => (bnd (vc μ6 a0 7 (FX7_commit a0 x7 μ6)) (fun x9 μ8 => (rt x9 μ8)))))))))))))) 
    (h8 : ∀ a0 μ, F8 a0 μ = (bnd (vc μ a0 8 (FX8_begins a0 μ)) (fun x2 μ1 => (bnd (vc μ1 a0 8 (FM a0 μ1)) (fun x4 μ3 => (bnd (vc μ3 a0 8 (FX8_ends a0 x4 μ3)) (fun x6 μ5 => (rt x6 μ5))))))))
    (hks : ∀ p, p ∈ ks → (p.1 = -1 ∨ p.1 = -2 ∨ p.1 = -3 ∨ p.1 = -4) ∧ p.2 ≠ 0) : Ans T F7 F8 (fun r r' : Int32 => r = r') (ks.map (fun p => (exc p.1, p.2))) := by
  intro μ ν b m S M hμ hb hm h
  have hA := h
  obtain ⟨a1, a2, a3, ⟨c, o, hc, ho, c5, c1, c4, hh⟩, a5, a6, a7, a8, a9⟩ := h
  obtain ⟨l1, l2, l3, l4⟩ := lay10 (M := M)
  have hcp := L_copy (μ := μ) (b := b) (S := S) (j := 1 - S.2.2.2) (k := S.2.2.2) (by omega) (by omega) (by omega)
  have hD : RR T ((cC S (1 - S.2.2.2) (cpy (S.1 S.2.2.2) (S.1 (1 - S.2.2.2)))).1 (1 - S.2.2.2)) ((lay 1 0 (mF M 0)) 0) := by
    rw [cC_at, l2 0 (by decide) (by decide)]
    exact RR_cpy a2
  have hX : F7 b (puc μ b S) = bnd (FX (sa b (1 - S.2.2.2)) (puc μ b (cC S (1 - S.2.2.2) (cpy (S.1 S.2.2.2) (S.1 (1 - S.2.2.2)))))) (fun x7 μ6 => (bnd (vc μ6 b 7 (FX7_commit b x7 μ6)) (fun x9 μ8 => (rt x9 μ8)))) := by
    rw [h7]
    simp only [k_R1 hb, k_R0 hb, L_vc (show 1 - S.2.2.2 < 11 by omega), hcp, cC_cur, bnd, rt]
  have hY : F8 m (pum ν m M) = bnd (FM m (pum ν m (lay 1 0 (mF M 0)))) (fun x4 μ3 => (bnd (vc μ3 m 8 (FX8_ends m x4 μ3)) (fun x6 μ5 => (rt x6 μ5)))) := by
    rw [h8]
    simp only [w_vc hm, e_begins hm, bnd, rt]
  generalize hS1 : cC S (1 - S.2.2.2) (cpy (S.1 S.2.2.2) (S.1 (1 - S.2.2.2))) = S1 at hD hX
  have hS12 : S1.2 = S.2 := by rw [← hS1]; rfl
  have hS11 : ∀ k, k ≠ 1 - S.2.2.2 → S1.1 k = S.1 k := fun k hk => by rw [← hS1]; exact cC_ne hk
  rcases hS (puc μ b S1) ν (sa b (1 - S.2.2.2)) m (S1.1 (1 - S.2.2.2)) (lay 1 0 (mF M 0)) sa_pos hm hD with ⟨r, σ', M', q1, q2, q3, q4, q5⟩ | ⟨p, hp, q1, q2⟩
  · rw [← puc_e (by omega), puc_put (by omega)] at q1
    have ht : M' 11 0 = 0 := by rw [q5 11 (by decide) (by decide)]; exact l4
    have ht1 : M' 11 1 = nI c := by rw [q5 11 (by decide) (by decide), l3 1 (by decide)]; exact c1
    have hcur : (cC S1 (1 - S.2.2.2) σ').2.2.2 = S.2.2.2 := by show S1.2.2.2 = _; rw [hS12]
    refine Or.inl ⟨nI r, nI r, cmS (cC S1 (1 - S.2.2.2) σ') o c, end1 c M', ?_, ?_, rfl, ?_, ?_⟩
    · rw [hX, q1]
      simp only [bnd, rt, k_vc0 hb]
      have h3 := e_commit (μ := μ) (b := b) (S := cC S1 (1 - S.2.2.2) σ') (c := c) (o := o) (r := r) hb (by rw [hcur]; exact a1) ho hc (by show S1.2.1 0 4 = _; rw [hS12]; exact c4) (by show S1.2.1 0 5 = _; rw [hS12]; exact c5) q3
      rw [h3]
      rfl
    · rw [hY, q2]
      simp only [bnd, rt, w_vc hm]
      have h3 := e_ends (μ := ν) (x := nI r) (c := c) hm ht ht1 hc
      rw [h3]
      rfl
    · rw [(end1_s hc).2.1 0 (by decide)]; exact ht
    · refine RA_commit (S := S) (M := M) hA (by omega) hc ho c4 hh c1 (by show S1.2 = _; exact hS12) (fun k hk => by rw [cC_ne hk]; exact hS11 k hk) ?_ (fun r r0 r1 r5 r8 r11 => by rw [q5 r r0 r5]; exact l2 r r1 r11) (fun j hj => by rw [q5 1 (by decide) (by decide)]; exact l1 j hj) (fun j hj _ _ _ => by rw [q5 11 (by decide) (by decide)]; exact l3 j hj)
      rw [cC_at]
      exact RR_mono q4 (by omega)
  · rw [← puc_e (by omega)] at q1
    obtain ⟨p1, p2⟩ := hks p hp
    have ht : ¬ (mF (lay 1 0 (mF M 0)) p.2) 11 0 = 0 := by rw [T0_0]; exact p2
    refine Or.inr ⟨(exc p.1, p.2), 0, S1, lay 0 1 (mF (lay 1 0 (mF M 0)) p.2), List.mem_map.mpr ⟨p, hp, rfl⟩, ?_, ?_, ?_, ?_⟩
    · rw [hX, q1]
      simp only [bnd, rt, k_vc0 hb]
      rw [e_refuse hb hμ p1]
    · rw [hY, q2]
      simp only [bnd, rt, w_vc hm]
      have h3 := e_ends_no (μ := ν) (x := 0) hm ht
      rw [h3]
      rfl
    · obtain ⟨-, -, g3⟩ := lay_i (a := 0) (b := 1) (by decide) (M := mF (lay 1 0 (mF M 0)) p.2)
      rw [g3 11 (by decide)]
      exact T0_0
    · obtain ⟨g1, -, g3⟩ := lay_i (a := 0) (b := 1) (by decide) (M := mF (lay 1 0 (mF M 0)) p.2)
      refine RA_c hA (by omega) (by rw [hS12]) (by rw [hS12]) (by rw [hS12]) (by rw [hS12]) hS11 (fun r hr => ?_) (fun j hj => ?_) (fun j hj _ _ _ => ?_)
      · rw [g3 r (by omega), T0_r (by omega)]
        exact l2 r (by omega) (by omega)
      · rw [g1 j hj, T0_r (by decide)]
        exact l1 j hj
      · rw [g3 11 (by decide), T0_s (by omega)]
        exact l3 j hj
end FC
