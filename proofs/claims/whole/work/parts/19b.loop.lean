/-! ===== the law's loop ===== -/
theorem pum_set {μ : Me} {m a : Nat} {M : Mg} {e : E_} (h : a < m ∨ m + 12 ≤ a) : mset (pum μ m M) a e = pum (mset μ a e) m M := by
  funext q
  show (if q = a then some e else (if m ≤ q ∧ q < m + 12 then some (mE m M (q - m)) else μ q)) = (if m ≤ q ∧ q < m + 12 then some (mE m M (q - m)) else (if q = a then some e else μ q))
  by_cases g : q = a
  · rw [if_pos g, if_neg (by omega), if_pos g]
  · rw [if_neg g, if_neg g]
theorem puc_base {μ : Me} {b : Nat} {S S' : Cg} (h : puc μ b S = puc μ b S') (ν : Me) : puc ν b S = puc ν b S' := by
  funext a
  have := congrFun h a
  unfold puc at this ⊢
  by_cases g : b ≤ a ∧ a < b + 164
  · rw [if_pos g, if_pos g] at this ⊢
    exact this
  · rw [if_neg g, if_neg g]
theorem lg_self (x : Int64) : lg_cmp x x = 0 := (lg_cmp_eq x x).mpr rfl
theorem rt_in {α : Type} {r r' : α} {μ μ' : Me} (h : rt r μ = rt r' μ') : r = r' ∧ μ = μ' := by
  unfold rt at h
  injection h with h
  injection h with h1 h2
  injection h1 with h1
  exact ⟨h1, h2⟩
theorem er_in {α : Type} {r r' : String} {μ μ' : Me} (h : (some (.inr r, μ) : Rs α) = some (.inr r', μ')) : r = r' ∧ μ = μ' := by
  injection h with h
  injection h with h1 h2
  injection h1 with h1
  exact ⟨h1, h2⟩
theorem rt_er {α : Type} {r : α} {r' : String} {μ μ' : Me} (h : rt r μ = some (.inr r', μ')) : False := by
  unfold rt at h
  injection h with h
  injection h with h1 h2
  cases h1
/-- the places beside the show and its model -/
def WK (o q : Nat) (μ : Me) : Prop := μ 0 = none ∧ (∃ f, μ o = some (.inl (3, (1, .inr (.inl f))))) ∧ ∃ g, μ q = some (.inl (4, (1, .inr (.inr (.inr (.inl g))))))
section LW
variable {μ : Me} {b m o q : Nat} {S : Cg} {M : Mg} {T : Nat}
def Wo (b m : Nat) (μ : Me) (S : Cg) (M : Mg) : Me := puc (pum μ m M) b S
theorem Wo_o {a : Nat} (hbm : b + 164 ≤ m) (ho : m + 12 ≤ a) : Wo b m μ S M a = μ a := by
  unfold Wo
  rw [puc_out (Or.inr (by omega)), pum_out (Or.inr ho)]
theorem Wo_set {a : Nat} {e : E_} (hbm : b + 164 ≤ m) (ho : m + 12 ≤ a) : mset (Wo b m μ S M) a e = Wo b m (mset μ a e) S M := by
  unfold Wo
  rw [puc_set (Or.inr (by omega)), pum_set (Or.inr ho)]
theorem z01 : inb 0 1 = true := by decide
theorem zc0 : (0 : Int32).toNatClampNeg = 0 := by decide
theorem e_sJ (hbm : b + 164 ≤ m) (ho : m + 12 ≤ o) (hoq : o ≠ q) (h : WK o q μ) (x : Int64) : ∃ μ', WK o q μ' ∧ (∀ S M, ∀ K : Me → Rs Int32, sJ (Wo b m μ S M) o 0 x K = K (Wo b m μ' S M)) ∧ ∀ S M, ∀ K : Int64 → Rs Unit, aJ (Wo b m μ' S M) o 0 K = K x := by
  obtain ⟨h0, ⟨f, h1⟩, g, h2⟩ := h
  refine ⟨mset μ o (.inl (3, 1, .inr (.inl (vp_updL f 0 x)))), ⟨(mset_ne (by omega)).trans h0, ⟨_, mset_eq _ _ _⟩, g, (mset_ne (fun e => hoq e.symm)).trans h2⟩, fun S M K => ?_, fun S M K => ?_⟩
  · have ha : ar (Wo b m μ S M) o 3 = some (1, .inr (.inl f)) := ar_at ((Wo_o hbm ho).trans h1) (by omega)
    simp only [sJ, ha, z01, if_true, zc0, Wo_set hbm ho]
  · have ha : ar (Wo b m (mset μ o (.inl (3, 1, .inr (.inl (vp_updL f 0 x))))) S M) o 3 = some (1, .inr (.inl (vp_updL f 0 x))) := ar_at ((Wo_o hbm ho).trans (mset_eq _ _ _)) (by omega)
    have e : vp_updL f 0 x 0 = x := by simp [vp_updL]
    simp only [aJ, ha, z01, if_true, zc0, e]
theorem e_sD (hbm : b + 164 ≤ m) (ho : m + 12 ≤ q) (hoq : o ≠ q) (h : WK o q μ) (x : UInt64) : ∃ μ', WK o q μ' ∧ (∀ S M, ∀ K : Me → Rs Int32, sD (Wo b m μ S M) q 0 x K = K (Wo b m μ' S M)) ∧ ∀ S M, ∀ K : UInt64 → Rs Unit, aD (Wo b m μ' S M) q 0 K = K x := by
  obtain ⟨h0, ⟨f, h1⟩, g, h2⟩ := h
  refine ⟨mset μ q (.inl (4, 1, .inr (.inr (.inr (.inl (vf_upd g 0 x)))))), ⟨(mset_ne (by omega)).trans h0, ⟨f, (mset_ne hoq).trans h1⟩, _, mset_eq _ _ _⟩, fun S M K => ?_, fun S M K => ?_⟩
  · have ha : ar (Wo b m μ S M) q 4 = some (1, .inr (.inr (.inr (.inl g)))) := ar_at ((Wo_o hbm ho).trans h2) (by omega)
    simp only [sD, ha, z01, if_true, zc0, Wo_set hbm ho]
  · have ha : ar (Wo b m (mset μ q (.inl (4, 1, .inr (.inr (.inr (.inl (vf_upd g 0 x))))))) S M) q 4 = some (1, .inr (.inr (.inr (.inl (vf_upd g 0 x))))) := ar_at ((Wo_o hbm ho).trans (mset_eq _ _ _)) (by omega)
    have e : vf_upd g 0 x 0 = x := by simp [vf_upd]
    simp only [aD, ha, z01, if_true, zc0, e]
/-- one turn that asks both sides and compares -/
theorem LC {α β : Type} {X : Nat → Me → Rs α} {Y : Nat → Me → Rs β} {ok : α → β → Prop} {es : List (String × Int32)} {Wr : α → Me → Rs Int32} {H : String → Me → Rs Int32} {C : β → Me → Rs Unit} {K : Me → Rs Unit} (hA : Ans T X Y ok es) (hes : ∀ e, e ∈ es → e.2 ≠ 0 ∧ ∀ μ, H e.1 μ = rt e.2 μ) (hb : 0 < b) (hbm : b + 164 ≤ m) (hw : WK o q μ) (hR : RA T S M)
    (hW : ∀ r, (∃ r', ok r r') → ∃ μ', WK o q μ' ∧ (∀ S M, Wr r (Wo b m μ S M) = rt 0 (Wo b m μ' S M)) ∧ ∀ r' S M, ok r r' → C r' (Wo b m μ' S M) = K (Wo b m μ' S M)) :
    ∃ μ' S' M', WK o q μ' ∧ RA (T + 400) S' M' ∧ bndn (bndc (vc (Wo b m μ S M) b 7 (X b (Wo b m μ S M))) (fun x2 μ1 => Wr x2 μ1) (fun E μ1 => H E μ1)) (fun x21 μ20 => (bndn (vc μ20 m 8 (Y m μ20)) (fun x24 μ23 => (bndn (vc μ23 m 8 (FX8_thrown m μ23)) (fun x26 μ25 => (if x26 = x21 then (if x21 = 0 then C x24 μ25 else K μ25) else none)))))) = K (Wo b m μ' S' M') := by
  have hm : 0 < m := by omega
  have h0 : (pum μ m M) 0 = none := (pum_out (Or.inl hm)).trans hw.1
  have hswap : ∀ μ S M, Wo b m μ S M = pum (puc μ b S) m M := fun μ S M => puc_pum hbm
  have hth : ∀ (ν : Me) (M : Mg), FX8_thrown m (pum ν m M) = rt (M 11 0) (pum ν m M) := fun ν M => by simp only [FX8_thrown, w_I0 hm]
  have hX0 : vc (Wo b m μ S M) b 7 (X b (Wo b m μ S M)) = X b (Wo b m μ S M) := k_vc0 hb
  rcases hA (pum μ m M) μ b m S M h0 hb hm hR with ⟨r, r', S', M', x1, y1, k1, t1, R1⟩ | ⟨e, r', S', M', he, x1, y1, t1, R1⟩
  · obtain ⟨μ1, w1, w2, w3⟩ := hW r ⟨r', k1⟩
    rcases hA (pum μ m M) (puc μ1 b S') b m S M h0 hb hm hR with ⟨r2, r2', S2, M2, x2, y2, k2, t2, R2⟩ | ⟨e, r2', S2, M2, he, x2, y2, t2, R2⟩
    · obtain ⟨e1, e2⟩ := rt_in (x1.symm.trans x2)
      subst e1
      refine ⟨μ1, S2, M2, w1, R2, ?_⟩
      have hfin : Wo b m μ1 S2 M2 = pum (puc μ1 b S') m M2 := by
        rw [← hswap]
        exact (puc_base e2 _).symm
      rw [hX0, show X b (Wo b m μ S M) = rt r (Wo b m μ S' M) from x1]
      have s1 : bndc (rt r (Wo b m μ S' M)) (fun x2 μ1 => Wr x2 μ1) (fun E μ1 => H E μ1) = rt 0 (pum (puc μ1 b S') m M) := by
        rw [← hswap]; exact w2 S' M
      rw [s1]
      have s2 : ∀ F : β → Me → Rs Unit, bndn (vc (pum (puc μ1 b S') m M) m 8 (Y m (pum (puc μ1 b S') m M))) F = F r2' (pum (puc μ1 b S') m M2) := fun F => by
        rw [w_vc hm, y2]; rfl
      have s3 : ∀ F : Int32 → Me → Rs Unit, bndn (vc (pum (puc μ1 b S') m M2) m 8 (FX8_thrown m (pum (puc μ1 b S') m M2))) F = F 0 (pum (puc μ1 b S') m M2) := fun F => by
        rw [w_vc hm, hth, t2]; rfl
      refine (show bndn (rt (0 : Int32) (pum (puc μ1 b S') m M)) _ = _ from rfl).trans ?_
      refine (s2 _).trans ((s3 _).trans ?_)
      rw [if_pos rfl, if_pos rfl, hfin, ← hswap]
      exact w3 r2' S' M2 k2
    · exact (rt_er (x1.symm.trans x2)).elim
  · rcases hA (pum μ m M) (puc μ b S') b m S M h0 hb hm hR with ⟨r2, r2', S2, M2, x2, y2, k2, t2, R2⟩ | ⟨f, r2', S2, M2, hf, x2, y2, t2, R2⟩
    · exact (rt_er (x2.symm.trans x1)).elim
    · obtain ⟨e1, e2⟩ := er_in (x1.symm.trans x2)
      have hcode : e.2 = f.2 := by
        have q1 := (hes e he).2 μ
        have q2 := (hes f hf).2 μ
        rw [e1] at q1
        exact (rt_in (q1.symm.trans q2)).1
      refine ⟨μ, S2, M2, hw, R2, ?_⟩
      have hfin : Wo b m μ S2 M2 = pum (puc μ b S') m M2 := by
        rw [← hswap]
        exact (puc_base e2 _).symm
      rw [hX0, show X b (Wo b m μ S M) = some (.inr e.1, Wo b m μ S' M) from x1]
      have s1 : bndc (some (.inr e.1, Wo b m μ S' M)) (fun x2 μ1 => Wr x2 μ1) (fun E μ1 => H E μ1) = rt e.2 (pum (puc μ b S') m M) := by
        rw [← hswap]; exact (hes e he).2 _
      rw [s1]
      have s2 : ∀ F : β → Me → Rs Unit, bndn (vc (pum (puc μ b S') m M) m 8 (Y m (pum (puc μ b S') m M))) F = F r2' (pum (puc μ b S') m M2) := fun F => by
        rw [w_vc hm, y2]; rfl
      have s3 : ∀ F : Int32 → Me → Rs Unit, bndn (vc (pum (puc μ b S') m M2) m 8 (FX8_thrown m (pum (puc μ b S') m M2))) F = F f.2 (pum (puc μ b S') m M2) := fun F => by
        rw [w_vc hm, hth, t2]; rfl
      refine (show bndn (rt e.2 (pum (puc μ b S') m M)) _ = _ from rfl).trans ?_
      refine (s2 _).trans ((s3 _).trans ?_)
      rw [if_pos hcode.symm, if_neg (hes e he).1, hfin]
/-- one turn that asks both sides without more -/
theorem LC0 {α β : Type} {X : Nat → Me → Rs α} {Y : Nat → Me → Rs β} {ok : α → β → Prop} {C : α → β → Me → Rs Unit} {K : Me → Rs Unit} (hA : Ans T X Y ok []) (hC : ∀ r r' μ, ok r r' → C r r' μ = K μ) (hb : 0 < b) (hbm : b + 164 ≤ m) (hw : WK o q μ) (hR : RA T S M) :
    ∃ μ' S' M', WK o q μ' ∧ RA (T + 400) S' M' ∧ bndn (vc (Wo b m μ S M) b 7 (X b (Wo b m μ S M))) (fun x21 μ20 => (bndn (vc μ20 m 8 (Y m μ20)) (fun x24 μ23 => C x21 x24 μ23))) = K (Wo b m μ' S' M') := by
  have hm : 0 < m := by omega
  have h0 : (pum μ m M) 0 = none := (pum_out (Or.inl hm)).trans hw.1
  have hswap : ∀ μ S M, Wo b m μ S M = pum (puc μ b S) m M := fun μ S M => puc_pum hbm
  have hX0 : vc (Wo b m μ S M) b 7 (X b (Wo b m μ S M)) = X b (Wo b m μ S M) := k_vc0 hb
  rcases hA (pum μ m M) μ b m S M h0 hb hm hR with ⟨r, r', S', M', x1, y1, k1, t1, R1⟩ | ⟨e, r', S', M', he, x1, y1, t1, R1⟩
  · rcases hA (pum μ m M) (puc μ b S') b m S M h0 hb hm hR with ⟨r2, r2', S2, M2, x2, y2, k2, t2, R2⟩ | ⟨e, r2', S2, M2, he, x2, y2, t2, R2⟩
    · obtain ⟨e1, e2⟩ := rt_in (x1.symm.trans x2)
      subst e1
      refine ⟨μ, S2, M2, hw, R2, ?_⟩
      have hfin : Wo b m μ S2 M2 = pum (puc μ b S') m M2 := by
        rw [← hswap]
        exact (puc_base e2 _).symm
      rw [hX0, show X b (Wo b m μ S M) = rt r (pum (puc μ b S') m M) from x1.trans (congrArg (rt r) (hswap μ S' M))]
      have s2 : ∀ F : β → Me → Rs Unit, bndn (vc (pum (puc μ b S') m M) m 8 (Y m (pum (puc μ b S') m M))) F = F r2' (pum (puc μ b S') m M2) := fun F => by
        rw [w_vc hm, y2]; rfl
      refine (show bndn (rt r (pum (puc μ b S') m M)) _ = _ from rfl).trans ?_
      refine (s2 _).trans ?_
      rw [hfin]
      exact hC _ _ _ k2
    · cases he
  · cases he
theorem LCJ {α β : Type} {X : Nat → Me → Rs α} {Y : Nat → Me → Rs β} {ok : α → β → Prop} {es : List (String × Int32)} {w : α → Int64} {w' : β → Int64} {H : String → Me → Rs Int32} {K : Me → Rs Unit} (hA : Ans T X Y ok es) (hes : ∀ e, e ∈ es → e.2 ≠ 0 ∧ ∀ μ, H e.1 μ = rt e.2 μ) (hok : ∀ r r', ok r r' → w r = w' r') (hb : 0 < b) (hbm : b + 164 ≤ m) (ho : m + 12 ≤ o) (hoq : o ≠ q) (hw : WK o q μ) (hR : RA T S M) :
    ∃ μ' S' M', WK o q μ' ∧ RA (T + 400) S' M' ∧ bndn (bndc (vc (Wo b m μ S M) b 7 (X b (Wo b m μ S M))) (fun x2 μ1 => sJ μ1 o 0 (w x2) (fun μ3 => rt 0 μ3)) (fun E μ1 => H E μ1)) (fun x21 μ20 => (bndn (vc μ20 m 8 (Y m μ20)) (fun x24 μ23 => (bndn (vc μ23 m 8 (FX8_thrown m μ23)) (fun x26 μ25 => (if x26 = x21 then (if x21 = 0 then (aJ μ25 o 0 (fun x31 => (if (lg_cmp x31 (w' x24)) = 0 then K μ25 else none))) else K μ25) else none)))))) = K (Wo b m μ' S' M') :=
  LC (Wr := fun x2 μ1 => sJ μ1 o 0 (w x2) (fun μ3 => rt 0 μ3)) (C := fun x24 μ25 => aJ μ25 o 0 (fun x31 => (if (lg_cmp x31 (w' x24)) = 0 then K μ25 else none))) hA hes hb hbm hw hR (fun r _ => by
    obtain ⟨μ1, w1, w2, w3⟩ := e_sJ (b := b) (m := m) hbm ho hoq hw (w r)
    refine ⟨μ1, w1, fun S M => w2 S M _, fun r' S M k => ?_⟩
    show aJ (Wo b m μ1 S M) o 0 _ = _
    rw [w3 S M, hok r r' k, if_pos (lg_self _)])
theorem LCB {X Y : Nat → Me → Rs Int32} {es : List (String × Int32)} {H : String → Me → Rs Int32} {K : Me → Rs Unit} (D : Int64 → Int64 → Me → Rs Unit) (hD : ∀ z μ, D z z μ = K μ) (hA : Ans T X Y (fun r r' : Int32 => r = r') es) (hes : ∀ e, e ∈ es → e.2 ≠ 0 ∧ ∀ μ, H e.1 μ = rt e.2 μ) (hb : 0 < b) (hbm : b + 164 ≤ m) (ho : m + 12 ≤ o) (hoq : o ≠ q) (hw : WK o q μ) (hR : RA T S M) :
    ∃ μ' S' M', WK o q μ' ∧ RA (T + 400) S' M' ∧ bndn (bndc (vc (Wo b m μ S M) b 7 (X b (Wo b m μ S M))) (fun x2 μ1 => (if x2 = 0 then (sJ μ1 o 0 0 (fun μ5 => (rt 0 μ5))) else (sJ μ1 o 0 1 (fun μ6 => (rt 0 μ6))))) (fun E μ1 => H E μ1)) (fun x21 μ20 => (bndn (vc μ20 m 8 (Y m μ20)) (fun x24 μ23 => (bndn (vc μ23 m 8 (FX8_thrown m μ23)) (fun x26 μ25 => (if x26 = x21 then (if x21 = 0 then (aJ μ25 o 0 (fun x177 => (if x24 = 0 then D 0 x177 μ25 else D 1 x177 μ25))) else K μ25) else none)))))) = K (Wo b m μ' S' M') :=
  LC (Wr := fun x2 μ1 => (if x2 = 0 then (sJ μ1 o 0 0 (fun μ5 => (rt 0 μ5))) else (sJ μ1 o 0 1 (fun μ6 => (rt 0 μ6))))) (C := fun x24 μ25 => aJ μ25 o 0 (fun x177 => (if x24 = 0 then D 0 x177 μ25 else D 1 x177 μ25))) hA hes hb hbm hw hR (fun r _ => by
    by_cases g : r = 0
    · obtain ⟨μ1, w1, w2, w3⟩ := e_sJ (b := b) (m := m) hbm ho hoq hw 0
      refine ⟨μ1, w1, fun S M => (if_pos g).trans (w2 S M _), fun r' S M k => ?_⟩
      show aJ (Wo b m μ1 S M) o 0 _ = _
      rw [w3 S M, if_pos (k ▸ g), hD]
    · obtain ⟨μ1, w1, w2, w3⟩ := e_sJ (b := b) (m := m) hbm ho hoq hw 1
      refine ⟨μ1, w1, fun S M => (if_neg g).trans (w2 S M _), fun r' S M k => ?_⟩
      show aJ (Wo b m μ1 S M) o 0 _ = _
      rw [w3 S M, if_neg (k ▸ g), hD])
theorem hes1 {E1 : String} : ∀ e : String × Int32, e ∈ [(E1, (1 : Int32))] → e.2 ≠ 0 ∧ ∀ μ : Me, (fun (E : String) (μ1 : Me) => (if E = E1 then (rt (1 : Int32) μ1) else none)) e.1 μ = rt e.2 μ := by
  intro e he
  rw [List.mem_singleton] at he
  subst he
  exact ⟨(show ¬ (1 : Int32) = 0 by decide), fun μ => if_pos rfl⟩
theorem hes2 {E1 E2 : String} (h : ¬ E2 = E1) : ∀ e : String × Int32, e ∈ [(E1, (1 : Int32)), (E2, 2)] → e.2 ≠ 0 ∧ ∀ μ : Me, (fun (E : String) (μ1 : Me) => (if E = E1 then (rt (1 : Int32) μ1) else (if E = E2 then (rt 2 μ1) else none))) e.1 μ = rt e.2 μ := by
  intro e he
  rcases List.mem_cons.mp he with rfl | he
  · exact ⟨(show ¬ (1 : Int32) = 0 by decide), fun μ => if_pos rfl⟩
  · rw [List.mem_singleton] at he
    subst he
    exact ⟨(show ¬ (2 : Int32) = 0 by decide), fun μ => (if_neg h).trans (if_pos rfl)⟩
theorem hes3 {E1 E2 E3 : String} (h : ¬ E2 = E1) (h2 : ¬ E3 = E1) (h3 : ¬ E3 = E2) : ∀ e : String × Int32, e ∈ [(E1, (1 : Int32)), (E2, 2), (E3, 3)] → e.2 ≠ 0 ∧ ∀ μ : Me, (fun (E : String) (μ1 : Me) => (if E = E1 then (rt (1 : Int32) μ1) else (if E = E2 then (rt 2 μ1) else (if E = E3 then (rt 3 μ1) else none)))) e.1 μ = rt e.2 μ := by
  intro e he
  rcases List.mem_cons.mp he with rfl | he
  · exact ⟨(show ¬ (1 : Int32) = 0 by decide), fun μ => if_pos rfl⟩
  · rcases List.mem_cons.mp he with rfl | he
    · exact ⟨(show ¬ (2 : Int32) = 0 by decide), fun μ => (if_neg h).trans (if_pos rfl)⟩
    · rw [List.mem_singleton] at he
      subst he
      exact ⟨(show ¬ (3 : Int32) = 0 by decide), fun μ => (if_neg h2).trans ((if_neg h3).trans (if_pos rfl))⟩
theorem RA_up (h : RA T S M) : RA (T + 400) S M := RA_c h (by omega) rfl rfl rfl rfl (fun _ _ => rfl) (fun _ _ => rfl) (fun _ _ => rfl) (fun _ _ _ _ _ => rfl)
theorem ex_IA : ¬ IAE = IOB := by decide
theorem ex_IS : ¬ ISE = IOB := by decide
theorem ex_IN : ¬ NSE = IOB := by decide
theorem ex_IR : ¬ ARE = IOB := by decide
theorem ex_IU : ¬ UOE = IOB := by decide
theorem ex_AS : ¬ ISE = IAE := by decide
theorem ex_SU : ¬ UOE = ISE := by decide
end LW
