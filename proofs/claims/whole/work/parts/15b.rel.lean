/-! ===== scene and model vector: the relation ===== -/
def DrV (σ : Sg) (d : Nat) : Prop := (∃ k, k < 64 ∧ σ.1 0 d = nI k) ∧ (∃ b, b ≤ 100 ∧ σ.1 1 d = nI b) ∧ (σ.1 2 d = -1 ∨ ∃ k, k < 64 ∧ σ.1 2 d = nI k) ∧ (σ.1 4 d = 0 → σ.1 2 d = -1 ∧ σ.1 5 d = 0)
def DrR (σ : Sg) (v : Nat → Int32) (d : Nat) : Prop := v (13 + 6 * d + 0) = σ.1 0 d ∧ v (13 + 6 * d + 1) = σ.1 4 d ∧ v (13 + 6 * d + 2) = σ.1 1 d ∧ v (13 + 6 * d + 3) = σ.1 3 d ∧ v (13 + 6 * d + 4) = σ.1 2 d + 1 ∧ v (13 + 6 * d + 5) = σ.1 5 d
def RD (σ : Sg) (v : Nat → Int32) (n : Nat) : Prop := n ≤ 10 ∧ σ.1 9 0 = nI n ∧ v 0 = nI n ∧ (∀ d, d < n → DrR σ v d ∧ DrV σ d) ∧ (∀ d e, d < n → e < n → σ.1 0 d = σ.1 0 e → d = e)
def RP (p : Int64) (v : Nat → Int32) (q : Nat) : Prop := q ≤ 4 ∧ v 1 = nI q ∧ ctb (tb p) 64 = q ∧ (∀ j, j < q → ∃ k, k < 64 ∧ v (9 + j) = nI k ∧ tb p k = true) ∧ (∀ k, k < 64 → tb p k = true → ∃ j, j < q ∧ v (9 + j) = nI k)
def RC (σ : Sg) (v : Nat → Int32) (c n : Nat) : Prop := c ≤ 12 ∧ σ.1 9 1 = nI c ∧ v 8 = nI c ∧ ∀ e, e < c → v (81 + 3 * e) = σ.1 6 e ∧ v (81 + 3 * e + 1) = σ.1 7 e ∧ v (81 + 3 * e + 2) = σ.1 8 e ∧ (∃ d, d < n ∧ σ.1 6 e = nI d) ∧ (∃ t, t ≤ 999 ∧ σ.1 7 e = nI t)
def RF (σ : Sg) (v : Nat → Int32) : Prop := ∀ f, f < 4 → (∀ k, k < 64 → blg (if 32 ≤ nI k then v (77 + f) else v (73 + f)) (nI k) = if tb (σ.2.1 f) k = true then 1 else 0) ∧ ctb (tb (σ.2.1 f)) 64 ≤ 10
def RN (σ : Sg) (v : Nat → Int32) (T : Nat) : Prop := v 2 = σ.1 9 2 ∧ v 3 = σ.1 9 3 ∧ v 4 = σ.1 9 4 ∧ v 5 = σ.1 9 5 ∧ v 6 = σ.1 9 6 ∧ v 7 = σ.1 9 7 ∧ (∃ r, r ≤ 30 ∧ σ.1 9 2 = nI r) ∧ (∃ t, t ≤ T ∧ σ.1 9 3 = nI t)
def RX (T : Nat) (σ : Sg) (v : Nat → Int32) (n q c : Nat) : Prop := RD σ v n ∧ RP σ.2.2 v q ∧ RC σ v c n ∧ RF σ v ∧ RN σ v T ∧ Bz σ
def RR (T : Nat) (σ : Sg) (v : Nat → Int32) : Prop := ∃ n q c, RX T σ v n q c
section RL
variable {σ σ' : Sg} {v v' : Nat → Int32} {n q c T d : Nat}
theorem RD_c (h : RD σ v n) (h9 : σ'.1 9 0 = σ.1 9 0) (hr : ∀ r, r < 6 → ∀ d, d < n → σ'.1 r d = σ.1 r d) (v0 : v' 0 = v 0) (hv : ∀ j, 13 ≤ j → j < 73 → v' j = v j) : RD σ' v' n := by
  obtain ⟨a, b, e, f, g⟩ := h
  refine ⟨a, h9.trans b, v0.trans e, fun d hd => ?_, fun d e hd he => ?_⟩
  · obtain ⟨⟨r0, r1, r2, r3, r4, r5⟩, w⟩ := f d hd
    unfold DrR DrV
    rw [hr 0 (by omega) d hd, hr 1 (by omega) d hd, hr 2 (by omega) d hd, hr 3 (by omega) d hd, hr 4 (by omega) d hd, hr 5 (by omega) d hd, hv _ (by omega) (by omega), hv _ (by omega) (by omega), hv _ (by omega) (by omega), hv _ (by omega) (by omega), hv _ (by omega) (by omega), hv _ (by omega) (by omega)]
    exact ⟨⟨r0, r1, r2, r3, r4, r5⟩, w⟩
  · rw [hr 0 (by omega) d hd, hr 0 (by omega) e he]
    exact g d e hd he
theorem RP_c {p : Int64} (h : RP p v q) (v1 : v' 1 = v 1) (hv : ∀ j, 9 ≤ j → j < 13 → v' j = v j) : RP p v' q := by
  obtain ⟨a, b, e, f, g⟩ := h
  refine ⟨a, v1.trans b, e, fun j hj => ?_, fun k hk hb => ?_⟩
  · rw [hv _ (by omega) (by omega)]; exact f j hj
  · obtain ⟨j, hj, h2⟩ := g k hk hb
    exact ⟨j, hj, by rw [hv _ (by omega) (by omega)]; exact h2⟩
theorem RC_c (h : RC σ v c n) (h9 : σ'.1 9 1 = σ.1 9 1) (hr : ∀ r, 6 ≤ r → r < 9 → ∀ e, e < c → σ'.1 r e = σ.1 r e) (v8 : v' 8 = v 8) (hv : ∀ j, 81 ≤ j → j < 117 → v' j = v j) : RC σ' v' c n := by
  obtain ⟨a, b, e, f⟩ := h
  refine ⟨a, h9.trans b, v8.trans e, fun d hd => ?_⟩
  rw [hr 6 (by omega) (by omega) d hd, hr 7 (by omega) (by omega) d hd, hr 8 (by omega) (by omega) d hd, hv _ (by omega) (by omega), hv _ (by omega) (by omega), hv _ (by omega) (by omega)]
  exact f d hd
theorem RC_n {m : Nat} (h : RC σ v c n) (hm : n ≤ m) : RC σ v c m := by
  obtain ⟨a, b, e, f⟩ := h
  refine ⟨a, b, e, fun d hd => ?_⟩
  obtain ⟨f1, f2, f3, ⟨x, hx, hx2⟩, f5⟩ := f d hd
  exact ⟨f1, f2, f3, ⟨x, by omega, hx2⟩, f5⟩
theorem RF_c (h : RF σ v) (hr : ∀ f, f < 4 → σ'.2.1 f = σ.2.1 f) (hv : ∀ j, 73 ≤ j → j < 81 → v' j = v j) : RF σ' v' := by
  intro f hf
  rw [hr f hf, hv _ (by omega) (by omega), hv _ (by omega) (by omega)]
  exact h f hf
theorem RN_c (h : RN σ v T) (h9 : ∀ j, 2 ≤ j → j < 8 → σ'.1 9 j = σ.1 9 j) (hv : ∀ j, 2 ≤ j → j < 8 → v' j = v j) : RN σ' v' T := by
  unfold RN at h ⊢
  rw [h9 2 (by omega) (by omega), h9 3 (by omega) (by omega), h9 4 (by omega) (by omega), h9 5 (by omega) (by omega), h9 6 (by omega) (by omega), h9 7 (by omega) (by omega), hv 2 (by omega) (by omega), hv 3 (by omega) (by omega), hv 4 (by omega) (by omega), hv 5 (by omega) (by omega), hv 6 (by omega) (by omega), hv 7 (by omega) (by omega)]
  exact h
theorem Bz_c (h : Bz σ) (h4 : ∀ d, d < 10 → σ'.1 4 d = σ.1 4 d) (h5 : ∀ d, d < 10 → σ'.1 5 d = σ.1 5 d) : Bz σ' := by
  intro d hd
  rw [h4 d hd, h5 d hd]
  exact h d hd
theorem RX_mono {T' : Nat} (h : RX T σ v n q c) (hT : T ≤ T') : RX T' σ v n q c := by
  obtain ⟨a, b, e, f, ⟨g1, g2, g3, g4, g5, g6, g7, ⟨t, ht, ht2⟩⟩, i⟩ := h
  exact ⟨a, b, e, f, ⟨g1, g2, g3, g4, g5, g6, g7, ⟨t, by omega, ht2⟩⟩, i⟩
theorem RR_mono {T' : Nat} (h : RR T σ v) (hT : T ≤ T') : RR T' σ v := by
  obtain ⟨n, q, c, h⟩ := h
  exact ⟨n, q, c, RX_mono h hT⟩
/-- an equal scene, an equal vector -/
theorem RX_eq (h : RX T σ v n q c) (he : Eqs σ' σ) (hv : ∀ j, j < 117 → v' j = v j) : RX T σ' v' n q c := by
  obtain ⟨a, b, e, f, g, i⟩ := h
  obtain ⟨e1, e2, e3, e4, e5⟩ := he
  have hn := a.1
  have hc := e.1
  refine ⟨RD_c a (e3 0 (by omega)) (fun r hr d hd => e1 r hr d (by omega)) (hv 0 (by omega)) (fun j _ h2 => hv j (by omega)), ?_, RC_c e (e3 1 (by omega)) (fun r h1 h2 d hd => e2 r h1 h2 d (by omega)) (hv 8 (by omega)) (fun j _ h2 => hv j h2), RF_c f e4 (fun j _ h2 => hv j (by omega)), RN_c g (fun j _ h2 => e3 j h2) (fun j _ h2 => hv j (by omega)), Bz_c i (fun d hd => e1 4 (by omega) d hd) (fun d hd => e1 5 (by omega) d hd)⟩
  rw [e5]
  exact RP_c b (hv 1 (by omega)) (fun j _ h2 => hv j (by omega))
theorem RR_eq (h : RR T σ v) (he : Eqs σ' σ) (hv : ∀ j, j < 117 → v' j = v j) : RR T σ' v' := by
  obtain ⟨n, q, c, h⟩ := h
  exact ⟨n, q, c, RX_eq h he hv⟩
theorem RR_v (h : RR T σ v) (hv : ∀ j, j < 117 → v' j = v j) : RR T σ v' := RR_eq h ⟨fun _ _ _ _ => rfl, fun _ _ _ _ _ => rfl, fun _ _ => rfl, fun _ _ => rfl, rfl⟩ hv
/-- one drone changes -/
theorem RD_one (h : RD σ v n) (h0 : σ'.1 9 0 = σ.1 9 0) (v0 : v' 0 = v 0) (ho : ∀ r, r < 6 → ∀ e, e < n → e ≠ d → σ'.1 r e = σ.1 r e) (hvo : ∀ e, e < n → e ≠ d → ∀ j, j < 6 → v' (13 + 6 * e + j) = v (13 + 6 * e + j)) (hd : DrR σ' v' d ∧ DrV σ' d) (hc : ∀ e, e < n → e ≠ d → σ'.1 0 d ≠ σ.1 0 e) : RD σ' v' n := by
  obtain ⟨a, b, e, f, g⟩ := h
  refine ⟨a, h0.trans b, v0.trans e, fun i hi => ?_, fun i k hi hk he => ?_⟩
  · by_cases hid : i = d
    · subst hid; exact hd
    · obtain ⟨⟨r0, r1, r2, r3, r4, r5⟩, w⟩ := f i hi
      unfold DrR DrV
      rw [ho 0 (by omega) i hi hid, ho 1 (by omega) i hi hid, ho 2 (by omega) i hi hid, ho 3 (by omega) i hi hid, ho 4 (by omega) i hi hid, ho 5 (by omega) i hi hid, hvo i hi hid 0 (by omega), hvo i hi hid 1 (by omega), hvo i hi hid 2 (by omega), hvo i hi hid 3 (by omega), hvo i hi hid 4 (by omega), hvo i hi hid 5 (by omega)]
      exact ⟨⟨r0, r1, r2, r3, r4, r5⟩, w⟩
  · by_cases hid : i = d
    · by_cases hkd : k = d
      · rw [hid, hkd]
      · subst hid
        rw [ho 0 (by omega) k hk hkd] at he
        exact absurd he (hc k hk hkd)
    · by_cases hkd : k = d
      · subst hkd
        rw [ho 0 (by omega) i hi hid] at he
        exact absurd he.symm (hc i hi hid)
      · rw [ho 0 (by omega) i hi hid, ho 0 (by omega) k hk hkd] at he
        exact g i k hi hk he
theorem Bz_upd4 {x : Int32} (h : Bz σ) (hx : x = 0 ∨ x = 1) : Bz (sI2 σ 4 d x) := by
  intro e he
  obtain ⟨a, b⟩ := h e he
  refine ⟨?_, b⟩
  show upd (σ.1 4) d x e = 0 ∨ upd (σ.1 4) d x e = 1
  unfold upd
  split
  · exact hx
  · exact a
theorem Bz_upd5 {x : Int32} (h : Bz σ) (hx : x = 0 ∨ x = 1) : Bz (sI2 σ 5 d x) := by
  intro e he
  obtain ⟨a, b⟩ := h e he
  refine ⟨a, ?_⟩
  show upd (σ.1 5) d x e = 0 ∨ upd (σ.1 5) d x e = 1
  unfold upd
  split
  · exact hx
  · exact b
theorem Bz_updo {r : Nat} {x : Int32} (h : Bz σ) (h4 : r ≠ 4) (h5 : r ≠ 5) : Bz (sI2 σ r d x) := by
  refine Bz_c h (fun e _ => ?_) (fun e _ => ?_)
  · show (if 4 = r then _ else σ.1 4) e = _
    rw [if_neg (Ne.symm h4)]
  · show (if 5 = r then _ else σ.1 5) e = _
    rw [if_neg (Ne.symm h5)]
theorem s_same {r : Nat} {x : Int32} : (sI2 σ r d x).1 r d = x := by simp [sI2, upd]
theorem s_row {r k e : Nat} {x : Int32} (h : k ≠ r) : (sI2 σ r d x).1 k e = σ.1 k e := by simp [sI2, h]
theorem s_col {r k e : Nat} {x : Int32} (h : e ≠ d) : (sI2 σ r d x).1 k e = σ.1 k e := by
  by_cases hk : k = r
  · subst hk; simp [sI2, upd, h]
  · simp [sI2, hk]
theorem s_snd {r : Nat} {x : Int32} : (sI2 σ r d x).2 = σ.2 := rfl
theorem m_same {M : Mg} {r : Nat} {x : Int32} : (mS M r d x) r d = x := by simp [mS, upd]
theorem m_row {M : Mg} {r k e : Nat} {x : Int32} (h : k ≠ r) : (mS M r d x) k e = M k e := by simp [mS, h]
theorem m_col {M : Mg} {r k e : Nat} {x : Int32} (h : e ≠ d) : (mS M r d x) k e = M k e := by
  by_cases hk : k = r
  · subst hk; simp [mS, upd, h]
  · simp [mS, hk]
/-! what the two sides ask of a scene, said once -/
theorem R_occ {x : Int32} (h : RD σ v n) {M : Mg} (hM : M 0 = v) : mocc M n x = ocp σ n x := by
  refine ffi_congr (fun d _ hd => ?_)
  obtain ⟨⟨r0, -⟩, -⟩ := h.2.2.2.1 d (by omega)
  rw [hM, r0]
theorem ocp_in (σ : Sg) (n : Nat) (x : Int32) : ocp σ n x = -1 ∨ ∃ j, j < n ∧ ocp σ n x = nI j ∧ σ.1 0 j = x := by
  rcases ffi_in (p := fun d => σ.1 0 d = x) n 0 with h | ⟨j, -, hj, h, h2⟩
  · exact Or.inl h
  · exact Or.inr ⟨j, by omega, h, h2⟩
theorem ffi_none {p : Nat → Prop} [DecidablePred p] : ∀ {k i : Nat}, i + k < 2 ^ 31 → (ffi p i k = -1 ↔ ∀ j, i ≤ j → j < i + k → ¬ p j) := by
  intro k
  induction k with
  | zero => intro i _; exact ⟨fun _ j h1 h2 => absurd h2 (by omega), fun _ => rfl⟩
  | succ k ih =>
    intro i hi
    simp only [ffi]
    by_cases hp : p i
    · rw [if_pos hp]
      exact ⟨fun e => absurd e (m1_ne (by omega)), fun h => absurd hp (h i (Nat.le_refl _) (by omega))⟩
    · rw [if_neg hp, ih (i := i + 1) (by omega)]
      exact ⟨fun h j h1 h2 => if e : j = i then e ▸ hp else h j (by omega) (by omega), fun h j h1 h2 => h j (by omega) (by omega)⟩
theorem ocp_none {x : Int32} (hn : n ≤ 10) : ocp σ n x = -1 ↔ ∀ j, j < n → σ.1 0 j ≠ x := by
  have h := ffi_none (p := fun d => σ.1 0 d = x) (k := n) (i := 0) (by omega)
  exact ⟨fun e j hj => (h.mp e) j (Nat.zero_le _) (by omega), fun e => h.mpr (fun j _ hj => e j (by omega))⟩
theorem ocp_at (h : RD σ v n) {j : Nat} (hj : j < n) : ocp σ n (σ.1 0 j) = nI j := by
  rcases ocp_in σ n (σ.1 0 j) with e | ⟨k, hk, e, e2⟩
  · exact absurd rfl ((ocp_none h.1).mp e j hj)
  · rw [e, h.2.2.2.2 k j hk hj e2]
theorem z1_fl {x : Int32} (h : x = 0 ∨ x = 1) : fl1 x = x := by rcases h with h | h <;> rw [h] <;> decide
theorem R_fl (h : RX T σ v n q c) (hd : d < n) : fl1 (v (13 + 6 * d + 1)) = σ.1 4 d := by
  obtain ⟨⟨-, r1, -⟩, -⟩ := h.1.2.2.2.1 d hd
  rw [r1]
  exact z1_fl (h.2.2.2.2.2 d (by have := h.1.1; omega)).1
theorem R_ur (h : RX T σ v n q c) (hd : d < n) : fl1 (v (13 + 6 * d + 5)) = σ.1 5 d := by
  obtain ⟨⟨-, -, -, -, -, r5⟩, -⟩ := h.1.2.2.2.1 d hd
  rw [r5]
  exact z1_fl (h.2.2.2.2.2 d (by have := h.1.1; omega)).2
theorem R_fly (h : RX T σ v n q c) {M : Mg} (hM : M 0 = v) : mfly M n = flc σ n := by
  unfold mfly flc
  refine fo_congr (fun d a _ hd => ?_)
  obtain ⟨⟨-, r1, -⟩, -⟩ := h.1.2.2.2.1 d (by omega)
  rw [hM, r1]
  rcases (h.2.2.2.2.2 d (by have := h.1.1; omega)).1 with e | e <;> rw [e]
  · exact Int32.add_zero a
  · rfl
theorem exi_iff {p : Nat → Prop} [DecidablePred p] : ∀ {k i : Nat}, (exi p i k = 0 ↔ ∀ j, i ≤ j → j < i + k → ¬ p j) ∧ (exi p i k = 0 ∨ exi p i k = 1) := by
  intro k
  induction k with
  | zero => intro i; exact ⟨⟨fun _ j h1 h2 => absurd h2 (by omega), fun _ => rfl⟩, Or.inl rfl⟩
  | succ k ih =>
    intro i
    simp only [exi]
    by_cases hp : p i
    · rw [if_pos hp]
      exact ⟨⟨fun e => absurd e (by decide), fun h => absurd hp (h i (Nat.le_refl _) (by omega))⟩, Or.inr rfl⟩
    · rw [if_neg hp]
      obtain ⟨h1, h2⟩ := ih (i := i + 1)
      refine ⟨?_, h2⟩
      rw [h1]
      exact ⟨fun h j h1 h2 => if e : j = i then e ▸ hp else h j (by omega) (by omega), fun h j h1 h2 => h j (by omega) (by omega)⟩
theorem R_pad {p : Int64} (h : RP p v q) {M : Mg} (hM : M 0 = v) {k : Nat} (hk : k < 64) : mpc M q (nI k) = cnt p (nI k) := by
  obtain ⟨-, -, -, h1, h2⟩ := h
  rw [cnt_tb hk]
  have h3 := exi_iff (p := fun d => M 0 (9 + d) = nI k) (k := q) (i := 0)
  unfold mpc
  by_cases g : tb p k = true
  · rw [if_pos g]
    obtain ⟨j, hj, e⟩ := h2 k hk g
    rcases h3.2 with h4 | h4
    · exact absurd (by rw [hM]; exact e) (h3.1.mp h4 j (Nat.zero_le _) (by omega))
    · exact h4
  · rw [if_neg g]
    refine h3.1.mpr (fun j _ hj e => ?_)
    obtain ⟨k2, hk2, e2, g2⟩ := h1 j (by omega)
    rw [hM, e2] at e
    rw [(nI_eq (by omega) (by omega)).mp e] at g2
    exact g g2
end RL
