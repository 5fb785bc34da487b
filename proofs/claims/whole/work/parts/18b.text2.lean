/-! ===== the show's reading: commands and texts ===== -/
section SQ
variable {μ : Me} {b : Nat} {X : Nat → Nat} {L : Nat} {aC : Nat → Nat}
def Sc (S S' : Cg) (c : Nat) : Prop := S'.1 = S.1 ∧ S'.2.2.2 = S.2.2.2 ∧ (∀ r, r ≠ 0 → r ≠ 4 + c → S'.2.1 r = S.2.1 r) ∧ (∀ j, j ≠ 8 → S'.2.1 0 j = S.2.1 0 j) ∧ S'.2.2.1 = S.2.2.1
theorem Sc_t {S S1 S2 : Cg} {c : Nat} (h : Sc S S1 c) (h2 : Sc S1 S2 c) : Sc S S2 c := ⟨h2.1.trans h.1, h2.2.1.trans h.2.1, fun r a e => (h2.2.2.1 r a e).trans (h.2.2.1 r a e), fun j e => (h2.2.2.2.1 j e).trans (h.2.2.2.1 j e), h2.2.2.2.2.trans h.2.2.2.2⟩
theorem Sc_ps {S : Cg} {c h : Nat} : Sc S (ps S h) c := ⟨rfl, rfl, fun r a _ => by simp [ps, cS, a], fun j e => by simp [ps, cS, upd, e], rfl⟩
theorem Sc_nm {S : Cg} {c j : Nat} {x : Int32} : Sc S (cS S (4 + c) j x) c := ⟨rfl, rfl, fun r _ e => by simp [cS, e], fun j e => by simp [cS, show ¬ 0 = 4 + c by omega], rfl⟩
theorem Sc_X {S S' : Cg} {c : Nat} (h : Sc S S' c) (hX : TX S X L) : TX S' X L := ⟨hX.1, (h.2.2.2.1 6 (by decide)).trans hX.2.1, fun i hi => by
  rw [h.2.2.1 1 (by decide) (by omega)]
  exact hX.2.2 i hi⟩
theorem Sc_r {S : Cg} {c : Nat} : Sc S S c := ⟨rfl, rfl, fun _ _ _ => rfl, fun _ _ => rfl, rfl⟩
theorem l_pc {c w : Nat} (hc : c < 12) (hw : w < 11) : ∀ (ws : List Nat) f i h (S : Cg), (ww w).drop i = ws → i + ws.length = (ww w).length → ws.length < f → TX S X L → S.2.1 0 8 = nI h → h ≤ 60 → ∃ S', Sc S S' c ∧ S'.2.1 0 8 = nI (nms X L ws (decide (i = 0)) h).2 ∧ (∀ l, (nms X L ws (decide (i = 0)) h).1 = some l → (∀ j, j < l.length → S'.2.1 (4 + c) (i + j) = nI (l.getD j 0)) ∧ ∀ j, j < i → S'.2.1 (4 + c) j = S.2.1 (4 + c) j) ∧ FX5_parseCommand_L20 aC f (b + 146) (nI c) w (nI i) (puc μ b S) = rt (if (nms X L ws (decide (i = 0)) h).1.isSome = true then 1 else 0) (puc μ b S') := by
  obtain ⟨t1, t2⟩ := strT_ww w hw
  obtain ⟨u1, u2, u3⟩ := ww_ok w hw
  have sl : (strT.getD (wdx w) []).length = (ww w).length := by rw [t2, List.length_map]
  intro ws
  induction ws with
  | nil =>
    intro f i h S hd hi hf hX hp hh
    obtain ⟨f, rfl⟩ : ∃ g, f = g + 1 := ⟨f - 1, by omega⟩
    have hi' : i + 0 = (ww w).length := hi
    have h1 : nI (ww w).length ≤ nI i := nI_le (by omega) (by omega)
    refine ⟨S, Sc_r, hp, fun l e => by cases e; exact ⟨fun j hj => absurd hj (Nat.not_lt_zero j), fun _ _ => rfl⟩, ?_⟩
    simp only [FX5_parseCommand_L20, FX5_parseCommand_B20, hw, t1, gd, if_true, fj_len t1, sl, bnd, rt, h1, nms, Option.isSome]
  | cons W ws ih =>
    intro f i h S hd hi hf hX hp hh
    obtain ⟨f, rfl⟩ : ∃ g, f = g + 1 := ⟨f - 1, by omega⟩
    have h60 := hX.1
    have hi' : i + (ws.length + 1) = (ww w).length := hi
    have hf' : ws.length + 1 < f + 1 := hf
    have hi2 : i < (ww w).length := by omega
    have hW0 : (ww w)[i]? = some W := by
      have : ((ww w).drop i)[0]? = some W := by rw [hd]; rfl
      rwa [List.getElem?_drop, Nat.add_zero] at this
    have hWm : W ∈ ww w := List.mem_of_getElem? hW0
    have hW3 : W ≤ 3 := by rcases u3 W hWm with e | e <;> omega
    have hd2 : (ww w).drop (i + 1) = ws := by
      rw [← List.drop_drop, hd]
      rfl
    have hchr : (strT.getD (wdx w) []).getD i 0 = nI (48 + W) := by
      rw [t2, List.getD, List.getElem?_map, hW0]
      rfl
    have e48 : nI (48 + W) - 48 = nI W := by
      have := pk_sub (a := 48 + W) (b := 48) (by omega)
      rw [show 48 + W - 48 = W by omega] at this
      exact this
    have h1 : ¬ nI (ww w).length ≤ nI i := nI_ge hi2 (by omega)
    have h3 : ¬ (3 : Int32) ≤ nI i := nI_ge (b := 3) (by omega) (by decide)
    have hin : inb (nI i) 3 = true := inb_n (by omega) (by decide)
    have hcl : (nI i).toNatClampNeg = i := nI_clamp (by omega)
    /- from the number on -/
    have hB : ∀ (h1 : Nat) (S1 : Cg), h1 ≤ 60 → Sc S S1 c → S1.2.1 0 8 = nI h1 → (∀ j, S1.2.1 (4 + c) j = S.2.1 (4 + c) j) → ∃ S', Sc S S' c ∧ S'.2.1 0 8 = nI (if dgn X L W h1 = 0 then (none, h1) else match nms X L ws false (h1 + dgn X L W h1) with
        | (some l, e) => (some (dgv X L W h1 0 :: l), e)
        | (none, e) => (none, e)).2 ∧ (∀ l, (if dgn X L W h1 = 0 then (none, h1) else match nms X L ws false (h1 + dgn X L W h1) with
        | (some l, e) => (some (dgv X L W h1 0 :: l), e)
        | (none, e) => (none, e)).1 = some l → (∀ j, j < l.length → S'.2.1 (4 + c) (i + j) = nI (l.getD j 0)) ∧ ∀ j, j < i → S'.2.1 (4 + c) j = S.2.1 (4 + c) j) ∧ FX5_parseCommand_B51 aC (FX5_parseCommand_L20 aC f) (b + 146) (nI c) w (nI i) (puc μ b S1) = rt (if (if dgn X L W h1 = 0 then (none, h1) else match nms X L ws false (h1 + dgn X L W h1) with
        | (some l, e) => (some (dgv X L W h1 0 :: l), e)
        | (none, e) => (none, e)).1.isSome = true then 1 else 0) (puc μ b S') := by
      intro h1 S1 hh1 hS1 hp1 hrow
      have hX1 := Sc_X hS1 hX
      have hn := c_num (μ := μ) (b := b) hW3 hX1 hp1 hh1
      simp only [FX5_parseCommand_B51, hw, t1, gd, if_true, fj_chr t1 (show i < (strT.getD (wdx w) []).length by rw [sl]; exact hi2), hchr, bnd, rt, e48, S_vc, hn]
      by_cases g : dgn X L W h1 = 0
      · refine ⟨ps S1 h1, Sc_t hS1 Sc_ps, ?_, ?_, ?_⟩
        · rw [if_pos g]; exact ps_8
        · rw [if_pos g]; intro l e; cases e
        · simp only [if_pos g, g, Nat.add_zero, if_true, Option.isSome, Bool.false_eq_true, if_false]
      · have hd3 := (dgn_in X L W h1).2 (by omega)
        have hv := dgv_3 (X := X) (L := L) (h := h1) hW3
        have hS2 : Sc S (cS (ps S1 (h1 + dgn X L W h1)) (4 + c) i (nI (dgv X L W h1 0))) c := Sc_t (Sc_t hS1 Sc_ps) Sc_nm
        obtain ⟨S', s1, s2, s3, s4⟩ := ih f (i + 1) (h1 + dgn X L W h1) (cS (ps S1 (h1 + dgn X L W h1)) (4 + c) i (nI (dgv X L W h1 0))) hd2 (by omega) (by omega) (Sc_X hS2 hX) (by
          have e0 : (cS (ps S1 (h1 + dgn X L W h1)) (4 + c) i (nI (dgv X L W h1 0))).2.1 0 8 = (ps S1 (h1 + dgn X L W h1)).2.1 0 8 := by simp [cS, show ¬ 0 = 4 + c by omega]
          exact e0.trans ps_8) (by omega)
        rw [decide_eq_false (show ¬ i + 1 = 0 by omega)] at s2 s3 s4
        have hrowi : S'.2.1 (4 + c) i = S'.2.1 (4 + c) i := rfl
        have hne : ¬ nI (dgv X L W h1 0) = -1 := m1_ne (by omega)
        refine ⟨S', Sc_t hS2 s1, ?_, ?_, ?_⟩
        · rw [if_neg g, s2]
          cases nms X L ws false (h1 + dgn X L W h1) with
          | mk o e => cases o <;> rfl
        · rw [if_neg g]
          intro l e
          cases hm : nms X L ws false (h1 + dgn X L W h1) with
          | mk o e2 =>
            rw [hm] at e s3
            cases o with
            | none => cases e
            | some l2 =>
              cases e
              obtain ⟨q1, q2⟩ := s3 l2 rfl
              refine ⟨fun j hj => ?_, fun j hj => ?_⟩
              · cases j with
                | zero =>
                  rw [Nat.add_zero, q2 i (by omega)]
                  simp [cS, upd]
                | succ j =>
                  have := q1 j (by simp at hj; omega)
                  rw [show i + (j + 1) = i + 1 + j by omega, this]
                  rfl
              · rw [q2 j (by omega)]
                have e1 : (cS (ps S1 (h1 + dgn X L W h1)) (4 + c) i (nI (dgv X L W h1 0))).2.1 (4 + c) j = (ps S1 (h1 + dgn X L W h1)).2.1 (4 + c) j := by simp [cS, upd, show ¬ j = i by omega]
                rw [e1, ← hrow j]
                simp [ps, cS, show ¬ 4 + c = 0 by omega]
        · simp only [if_neg g, hne, if_false, k_S3, k_num hc, k_sN hc, hin, hcl, if_true, nI_1]
          rw [s4]
          cases nms X L ws false (h1 + dgn X L W h1) with
          | mk o e => cases o <;> rfl
    simp only [FX5_parseCommand_L20, FX5_parseCommand_B20, hw, t1, gd, if_true, fj_len t1, sl, bnd, rt, h1, h3, if_false]
    simp only [nms]
    rcases Nat.eq_zero_or_pos i with hi0 | hi0
    · have hz : nI i ≤ 0 := by rw [hi0]; decide
      rw [if_pos hz]
      simp only [decide_eq_true hi0, Bool.true_eq_false, false_and, if_false, if_true]
      exact hB h S hh Sc_r hp (fun _ => rfl)
    · have hz : ¬ nI i ≤ 0 := nI_nle hi0 (by omega)
      have hs := c_skip (μ := μ) (b := b) (c := 32) (by decide) hX hp hh
      rw [show nI 32 = (32 : Int32) from rfl] at hs
      rw [if_neg hz]
      simp only [S_vc, hs, decide_eq_false (show ¬ i = 0 by omega), true_and, Bool.false_eq_true, if_false]
      by_cases g : sgn X L h 32 = true
      · have hlt : h < L := (of_decide_eq_true (show decide (h < L ∧ X h = 32) = true from g)).1
        simp only [g, if_true, rt, Bool.true_eq_false, if_false, one_ne]
        exact hB (h + 1) (ps S (h + 1)) (by omega) Sc_ps ps_8 (fun j => by simp [ps, cS, show ¬ 4 + c = 0 by omega])
      · have g0 : sgn X L h 32 = false := by simpa using g
        simp only [g0, Bool.false_eq_true, if_false, rt, if_true]
        exact ⟨S, Sc_r, hp, (fun l e => by cases e), rfl⟩
/-- the whole command -/
theorem c_cmd {c h : Nat} {S : Cg} (hc : c < 12) (hX : TX S X L) (hp : S.2.1 0 8 = nI h) (hh : h ≤ 60) : ∃ S', S'.1 = S.1 ∧ S'.2.2.2 = S.2.2.2 ∧ (∀ r, r ≠ 0 → r ≠ 4 + c → S'.2.1 r = S.2.1 r) ∧ (∀ j, j ≠ 8 → S'.2.1 0 j = S.2.1 0 j) ∧ (∀ j, j ≠ c → S'.2.2.1 j = S.2.2.1 j) ∧ S'.2.1 0 8 = nI (cmd X L h).2 ∧ (∀ p, (cmd X L h).1 = some p → S'.2.2.1 c = some (aC (110 + p.1)) ∧ ∀ j, j < p.2.length → S'.2.1 (4 + c) j = nI (p.2.getD j 0)) ∧ FX5_parseCommand aC (b + 146) (nI c) (puc μ b S) = rt (if (cmd X L h).1.isSome = true then 1 else 0) (puc μ b S') := by
  have hv := c_verb (μ := μ) (b := b) (aC := aC) hX hp hh
  obtain ⟨v1, v2, v3⟩ := vrb_in (X := X) hX.1 hh
  have hcc : inb (nI c) 12 = true := inb_n hc (by decide)
  have hcl : (nI c).toNatClampNeg = c := nI_clamp (by omega)
  unfold cmd
  cases hq : vrb X L h with
  | mk o e =>
    rw [hq] at hv v1 v3
    simp only at hv v1
    cases o with
    | none =>
      refine ⟨ps S e, rfl, rfl, fun r a _ => by simp [ps, cS, a], fun j g => by simp [ps, cS, upd, g], fun _ _ => rfl, ps_8, (fun p g => by cases g), ?_⟩
      simp only [FX5_parseCommand, S_vc, hv, bnd, rt, op_]
      try rfl
    | some w =>
      obtain ⟨w1, -, -⟩ := v3 w rfl
      have hX2 : TX (cV (ps S e) c (aC (110 + w))) X L := ps_X (S := S) (h1 := e) hX
      obtain ⟨S', ⟨s1, s2, s3, s4, s5⟩, q1, q2, q3⟩ := l_pc (μ := μ) (b := b) (aC := aC) hc w1 (ww w) FU 0 e (cV (ps S e) c (aC (110 + w))) rfl (Nat.zero_add _) (by have := (ww_ok w w1).1; unfold FU; omega) hX2 (ps_8 (S := S)) v1
      rw [decide_eq_true rfl] at q1 q2 q3
      have hrw : FX5_parseCommand aC (b + 146) (nI c) (puc μ b S) = FX5_parseCommand_L20 aC FU (b + 146) (nI c) w (nI 0) (puc μ b (cV (ps S e) c (aC (110 + w)))) := by
        simp only [FX5_parseCommand, S_vc, hv, bnd, rt, op_, k_S2, k_sW, hcc, w1, and_self, if_true, hcl, nI_0]
      refine ⟨S', s1, s2, fun r a g => (s3 r a g).trans (by simp [cV, ps, cS, a]), fun j g => (s4 j g).trans (by simp [cV, ps, cS, upd, g]), fun j g => by rw [s5]; simp [cV, va_up, g, ps, cS], ?_, ?_, ?_⟩
      · dsimp only
        rw [q1]
        cases nms X L (ww w) true e with
        | mk o2 e2 => cases o2 <;> rfl
      · dsimp only
        cases hn : nms X L (ww w) true e with
        | mk o2 e2 =>
          rw [hn] at q2
          cases o2 with
          | none => intro p g; cases g
          | some l =>
            intro p g
            cases g
            obtain ⟨g1, -⟩ := q2 l rfl
            exact ⟨by rw [s5]; simp [cV, va_up], fun j hj => by have := g1 j hj; rwa [Nat.zero_add] at this⟩
      · rw [hrw, q3]
        obtain ⟨o2, e2, hn⟩ : ∃ o2 e2, nms X L (ww w) true e = (o2, e2) := ⟨_, _, rfl⟩
        simp only [hn]
        cases o2 <;> rfl
def Sp (S S' : Cg) (c : Nat) : Prop := S'.1 = S.1 ∧ S'.2.2.2 = S.2.2.2 ∧ (∀ r, r ≠ 0 → r < 4 + c → S'.2.1 r = S.2.1 r) ∧ (∀ j, j ≠ 7 → j ≠ 8 → S'.2.1 0 j = S.2.1 0 j) ∧ ∀ j, j < c → S'.2.2.1 j = S.2.2.1 j
theorem Sp_X {S S' : Cg} {c : Nat} (h : Sp S S' c) (hX : TX S X L) : TX S' X L := ⟨hX.1, (h.2.2.2.1 6 (by decide) (by decide)).trans hX.2.1, fun i hi => by
  rw [h.2.2.1 1 (by decide) (by omega)]
  exact hX.2.2 i hi⟩
theorem l_parse : ∀ k f c h (S : Cg), c + k = 12 → k < f → TX S X L → S.2.1 0 8 = nI h → h ≤ 60 → ∃ S', Sp S S' c ∧ S'.2.1 0 8 = nI (prs X L k h).2.1 ∧ ((prs X L k h).2.2 = true → S'.2.1 0 7 = nI (c + (prs X L k h).1.length) ∧ ∀ i, i < (prs X L k h).1.length → S'.2.2.1 (c + i) = some (aC (110 + ((prs X L k h).1.getD i (0, [])).1)) ∧ ∀ j, j < ((prs X L k h).1.getD i (0, [])).2.length → S'.2.1 (4 + (c + i)) j = nI (((prs X L k h).1.getD i (0, [])).2.getD j 0)) ∧ FX5_parse_L7 aC f (b + 146) (nI c) (puc μ b S) = rt (if (prs X L k h).2.2 = true then 1 else 0) (puc μ b S') := by
  intro k
  induction k with
  | zero =>
    intro f c h S hc hf hX hp hh
    obtain ⟨f, rfl⟩ : ∃ g, f = g + 1 := ⟨f - 1, by omega⟩
    have h1 : (12 : Int32) ≤ nI c := nI_le (a := 12) (by omega) (by omega)
    refine ⟨S, ⟨rfl, rfl, fun _ _ _ => rfl, fun _ _ _ => rfl, fun _ _ => rfl⟩, hp, (fun e => by cases e), ?_⟩
    simp only [FX5_parse_L7, FX5_parse_B7, h1, if_true, prs, Bool.false_eq_true, if_false]
  | succ k ih =>
    intro f c h S hc hf hX hp hh
    obtain ⟨f, rfl⟩ : ∃ g, f = g + 1 := ⟨f - 1, by omega⟩
    have hc12 : c < 12 := by omega
    have h60 := hX.1
    have h1 : ¬ (12 : Int32) ≤ nI c := nI_ge (b := 12) hc12 (by decide)
    obtain ⟨S1, s1, s2, s3, s4, s5, s6, s7, s8⟩ := c_cmd (μ := μ) (b := b) (aC := aC) hc12 hX hp hh
    obtain ⟨m1, m2, m3⟩ := cmd_in (X := X) h60 hh
    obtain ⟨o, e, hq⟩ : ∃ o e, cmd X L h = (o, e) := ⟨_, _, rfl⟩
    rw [hq] at s6 s7 s8 m1 m3
    simp only at s6 s7 s8 m1 m3
    simp only [FX5_parse_L7, FX5_parse_B7, h1, if_false, S_vc, s8, bnd, rt]
    cases o with
    | none =>
        have hprs : prs X L (k + 1) h = ([], e, false) := by simp only [prs, hq]
        rw [hprs]
        refine ⟨S1, ⟨s1, s2, fun r a g => s3 r a (by omega), fun j _ g => s4 j g, fun j g => s5 j (by omega)⟩, s6, (fun e => by cases e), ?_⟩
        simp only [Option.isSome, Bool.false_eq_true, if_false, if_true]
    | some p =>
        have hprs : prs X L (k + 1) h = if e = L then ([p], e, true) else if sgn X L e 59 = true then (p :: (prs X L k (e + 1)).1, (prs X L k (e + 1)).2) else ([p], e, false) := by simp only [prs, hq]
        rw [hprs]
        obtain ⟨p1, p2, p3, p4⟩ := m3 p rfl
        obtain ⟨t1, t2⟩ := s7 p rfl
        have hS2 : Sp S (cS S1 0 7 (nI (c + 1))) c := ⟨s1, s2, fun r a g => by rw [← s3 r a (by omega)]; simp [cS, a], fun j a g => by rw [← s4 j g]; simp [cS, upd, a], fun j g => s5 j (by omega)⟩
        have hX2 := Sp_X hS2 hX
        have hp2 : (cS S1 0 7 (nI (c + 1))).2.1 0 8 = nI e := by rw [← s6]; simp [cS, upd]
        have hv2 : (cS S1 0 7 (nI (c + 1))).2.2.1 c = some (aC (110 + p.1)) := t1
        have hn2 : ∀ j, j < p.2.length → (cS S1 0 7 (nI (c + 1))).2.1 (4 + c) j = nI (p.2.getD j 0) := fun j hj => by rw [← t2 j hj]; simp [cS, show ¬ 4 + c = 0 by omega]
        have h7 : (cS S1 0 7 (nI (c + 1))).2.1 0 7 = nI (c + 1) := by simp [cS, upd]
        simp only [Option.isSome, if_true, one_ne, if_false, k_sp4, nI_1, k_S5, k_S1, hp2, hX2.2.1]
        generalize cS S1 0 7 (nI (c + 1)) = S2 at hS2 hX2 hp2 hv2 hn2 h7
        by_cases g : e = L
        · subst g
          refine ⟨S2, hS2, ?_, ?_, ?_⟩
          · simp only [if_true]; exact hp2
          · simp only [if_true]
            intro _
            refine ⟨h7, fun i hi => ?_⟩
            have hi0 : i = 0 := by simp at hi; omega
            subst hi0
            exact ⟨hv2, hn2⟩
          · simp only [if_true]
        · have g2 : ¬ nI e = nI L := fun x => g ((nI_eq (by omega) (by omega)).mp x)
          have hs := c_skip (μ := μ) (b := b) (c := 59) (by decide) hX2 hp2 m1
          rw [show nI 59 = (59 : Int32) from rfl] at hs
          simp only [g2, g, if_false, S_vc, hs]
          by_cases g3 : sgn X L e 59 = true
          · have hlt : e < L := (of_decide_eq_true (show decide (e < L ∧ X e = 59) = true from g3)).1
            simp only [g3, if_true, S_vc, bnd, rt, one_ne, if_false]
            obtain ⟨S', ⟨a1, a2, a3, a4, a5⟩, b1, b2, b3⟩ := ih f (c + 1) (e + 1) (ps S2 (e + 1)) (by omega) (by omega) (ps_X hX2) ps_8 (by omega)
            obtain ⟨c1, c2, c3, c4, c5⟩ := hS2
            refine ⟨S', ⟨a1.trans c1, a2.trans c2, fun r a g => (a3 r a (by omega)).trans ((by simp [ps, cS, a] : (ps S2 (e + 1)).2.1 r = S2.2.1 r).trans (c3 r a g)), fun j a g => (a4 j a g).trans ((by simp [ps, cS, upd, g] : (ps S2 (e + 1)).2.1 0 j = S2.2.1 0 j).trans (c4 j a g)), fun j g => (a5 j (by omega)).trans (c5 j g)⟩, b1, fun ok => ?_, b3⟩
            obtain ⟨d1, d2⟩ := b2 ok
            refine ⟨by rw [d1, List.length_cons]; congr 1; omega, fun i hi => ?_⟩
            cases i with
            | zero =>
              refine ⟨(a5 c (by omega)).trans hv2, fun j hj => ?_⟩
              show S'.2.1 (4 + (c + 0)) j = nI (p.2.getD j 0)
              rw [Nat.add_zero, a3 (4 + c) (by omega) (by omega), ← hn2 j hj]
              simp [ps, cS, show ¬ 4 + c = 0 by omega]
            | succ i =>
              have := d2 i (by rw [List.length_cons] at hi; omega)
              rw [show c + (i + 1) = c + 1 + i by omega]
              exact this
          · have g4 : sgn X L e 59 = false := by simpa using g3
            refine ⟨S2, hS2, ?_, ?_, ?_⟩
            · simp only [g4, Bool.false_eq_true, if_false]; exact hp2
            · simp only [g4, Bool.false_eq_true, if_false]; intro x; exact absurd x (by decide)
            · simp only [g4, Bool.false_eq_true, if_false, S_vc, bnd, rt, if_true]
end SQ
