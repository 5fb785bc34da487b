/-! ===== the law comes to its end ===== -/
theorem cl_a {b k j : Nat} {S : Cg} (hk : k < 3) (hj : j < 13) : clE b S (1 + 13 * k + j) = scE (b + (1 + 13 * k)) (S.1 k) j := by
  unfold clE
  rw [if_neg (by omega), if_pos (by omega), show (1 + 13 * k + j - 1) / 13 = k by omega, show (1 + 13 * k + j - 1) % 13 = j by omega]
  unfold sa
  rw [if_pos hk, show b + 1 + 13 * k = b + (1 + 13 * k) by omega]
theorem cl_b {b k j : Nat} {S : Cg} (h3 : 3 ≤ k) (hk : k < 11) (hj : j < 13) : clE b S (3 + 13 * k + j) = scE (b + (3 + 13 * k)) (S.1 k) j := by
  unfold clE
  rw [if_neg (by omega), if_neg (by omega), if_neg (by omega), if_neg (by omega), if_pos (by omega), show 3 + (3 + 13 * k + j - 42) / 13 = k by omega, show (3 + 13 * k + j - 42) % 13 = j by omega]
  unfold sa
  rw [if_neg (by omega), show b + 3 + 13 * k = b + (3 + 13 * k) by omega]
def S00 : Cg := (fun _ => sc0, fun r j => if r = 0 ∧ (j = 1 ∨ j = 2) then -1 else 0, fun _ => none, 0)
def M00 : Mg := fun r => match r with
  | 0 => upd (fun _ => 0) (2 : Int32).toNatClampNeg 10
  | 9 => w60
  | 10 => w12
  | 11 => fun j => if j = 2 ∨ j = 3 then -1 else 0
  | _ => fun _ => 0
theorem pl {C R : List E_} {F : Nat → Option E_} {o : Nat} (n m : Nat) (hC : C.length = n) (h1 : ∀ j, j < n → C[j]? = F (o + j)) (h2 : ∀ j, j < m → R[j]? = F (o + n + j)) : ∀ j, j < n + m → (C ++ R)[j]? = F (o + j) := by
  intro j hj
  by_cases h : j < n
  · rw [List.getElem?_append_left (by omega)]
    exact h1 j h
  · rw [List.getElem?_append_right (by omega), hC, h2 (j - n) (by omega)]
    congr 1
    omega
theorem c_i0 : (0 : Int32).toNatClampNeg = 0 := by decide
theorem c_i1 : (1 : Int32).toNatClampNeg = 1 := by decide
theorem c_i2 : (2 : Int32).toNatClampNeg = 2 := by decide
theorem c_i3 : (3 : Int32).toNatClampNeg = 3 := by decide
theorem c_i4 : (4 : Int32).toNatClampNeg = 4 := by decide
theorem c_i5 : (5 : Int32).toNatClampNeg = 5 := by decide
theorem c_i6 : (6 : Int32).toNatClampNeg = 6 := by decide
theorem c_i7 : (7 : Int32).toNatClampNeg = 7 := by decide
theorem hf_ok (b : Nat) : hf (b + 40) = fun k => if k < 8 then some (sa b (3 + k)) else none := by
  funext k
  unfold hf
  rw [c_i0, c_i1, c_i2, c_i3, c_i4, c_i5, c_i6, c_i7]
  match k with
  | 0 => rfl
  | 1 => rfl
  | 2 => rfl
  | 3 => rfl
  | 4 => rfl
  | 5 => rfl
  | 6 => rfl
  | 7 => rfl
  | n + 8 =>
    rw [if_neg (by omega)]
    unfold va_up
    rw [if_neg (by omega), if_neg (by omega), if_neg (by omega), if_neg (by omega), if_neg (by omega), if_neg (by omega), if_neg (by omega), if_neg (by omega)]
section ST
variable (b : Nat)
def Fc (i : Nat) : Option E_ := some (clE b S00 i)
theorem sc_a {k : Nat} (hk : k < 3) : ∀ j, j < 13 → (E13 (b + (1 + 13 * k)))[j]? = Fc b (1 + 13 * k + j) := fun j hj => by
  unfold Fc
  rw [E13_at _ j hj, cl_a hk hj]
  rfl
theorem sc_b {k : Nat} (h3 : 3 ≤ k) (hk : k < 11) : ∀ j, j < 13 → (E13 (b + (3 + 13 * k)))[j]? = Fc b (3 + 13 * k + j) := fun j hj => by
  unfold Fc
  rw [E13_at _ j hj, cl_b h3 hk hj]
  rfl
theorem R8_at : ∀ j, j < 104 → (R8 (b + 40))[j]? = Fc b (42 + j) := by
  unfold R8
  have r0 : ∀ j, j < 0 → ([] : List E_)[j]? = Fc b (42 + j) := fun j hj => absurd hj (Nat.not_lt_zero j)
  have r1 := pl (F := Fc b) (o := 42) (R := E13 (b + 40 + 2)) 0 13 (rfl) r0 (sc_b b (k := 3) (by decide) (by decide))
  have r2 := pl (F := Fc b) (o := 42) (R := E13 (b + 40 + 15)) 13 13 (by simp only [List.length_append, E13_len, List.length_nil, Nat.reduceAdd]) r1 (sc_b b (k := 4) (by decide) (by decide))
  have r3 := pl (F := Fc b) (o := 42) (R := E13 (b + 40 + 28)) 26 13 (by simp only [List.length_append, E13_len, List.length_nil, Nat.reduceAdd]) r2 (sc_b b (k := 5) (by decide) (by decide))
  have r4 := pl (F := Fc b) (o := 42) (R := E13 (b + 40 + 41)) 39 13 (by simp only [List.length_append, E13_len, List.length_nil, Nat.reduceAdd]) r3 (sc_b b (k := 6) (by decide) (by decide))
  have r5 := pl (F := Fc b) (o := 42) (R := E13 (b + 40 + 54)) 52 13 (by simp only [List.length_append, E13_len, List.length_nil, Nat.reduceAdd]) r4 (sc_b b (k := 7) (by decide) (by decide))
  have r6 := pl (F := Fc b) (o := 42) (R := E13 (b + 40 + 67)) 65 13 (by simp only [List.length_append, E13_len, List.length_nil, Nat.reduceAdd]) r5 (sc_b b (k := 8) (by decide) (by decide))
  have r7 := pl (F := Fc b) (o := 42) (R := E13 (b + 40 + 80)) 78 13 (by simp only [List.length_append, E13_len, List.length_nil, Nat.reduceAdd]) r6 (sc_b b (k := 9) (by decide) (by decide))
  have r8 := pl (F := Fc b) (o := 42) (R := E13 (b + 40 + 93)) 91 13 (by simp only [List.length_append, E13_len, List.length_nil, Nat.reduceAdd]) r7 (sc_b b (k := 10) (by decide) (by decide))
  exact r8
theorem H_at : ∀ j, j < 2 → ([H4 (b + 40), A5 (hf (b + 40))] : List E_)[j]? = Fc b (40 + j) := by
  intro j hj
  unfold Fc
  match j, hj with
  | 0, _ => rfl
  | 1, _ => rw [hf_ok]; rfl
theorem P_at : ∀ j, j < 16 → (P16 (b + 146))[j]? = Fc b (146 + j) := by
  intro j hj
  unfold Fc
  match j, hj with
  | 0, _ => rfl
  | 1, _ => rfl
  | 2, _ => rfl
  | 3, _ => rfl
  | 4, _ => rfl
  | 5, _ => rfl
  | 6, _ => rfl
  | 7, _ => rfl
  | 8, _ => rfl
  | 9, _ => rfl
  | 10, _ => rfl
  | 11, _ => rfl
  | 12, _ => rfl
  | 13, _ => rfl
  | 14, _ => rfl
  | 15, _ => rfl
  | n + 16, h => exact absurd h (by omega)
theorem Z_at : ∀ j, j < 2 → ([.inl (2, (8, .inl (fun _ => 0))), .inl (0, (64, .inl (fun _ => 0)))] : List E_)[j]? = Fc b (162 + j) := by
  intro j hj
  unfold Fc
  match j, hj with
  | 0, _ => rfl
  | 1, _ => rfl
theorem X_at : ∀ j, j < 1 → ([.inr (7, [.ref (b + 1), .ref (b + 14), .ref (b + 27), .int 0, .ref (b + 40), .ref (b + 146), .int (-1), .int (-1), .ref (b + 162), .int 0, .ref (b + 163)])] : List E_)[j]? = Fc b (0 + j) := by
  intro j hj
  unfold Fc
  match j, hj with
  | 0, _ => rfl
theorem L164_at : ∀ j, j < 164 → (L164 b)[j]? = some (clE b S00 j) := by
  have t1 := pl (F := Fc b) (o := 146) 16 2 (P16_len (b + 146)) (P_at b) (Z_at b)
  have t2 := pl (F := Fc b) (o := 40) 2 104 rfl (H_at b) (R8_at b)
  have t3 := pl (F := Fc b) (o := 40) 106 18 (H106_len (b + 40)) t2 t1
  have t4 := pl (F := Fc b) (o := 27) 13 124 (E13_len (b + 27)) (sc_a b (k := 2) (by decide)) t3
  have t5 := pl (F := Fc b) (o := 14) 13 137 (E13_len (b + 14)) (sc_a b (k := 1) (by decide)) t4
  have t6 := pl (F := Fc b) (o := 1) 13 150 (E13_len (b + 1)) (sc_a b (k := 0) (by decide)) t5
  have t7 := pl (F := Fc b) (o := 0) 1 163 rfl (X_at b) t6
  intro j hj
  have := t7 j hj
  rw [Nat.zero_add] at this
  exact this
theorem M12_len : (M12 b).length = 12 := rfl
theorem M12_at : ∀ j, j < 12 → (M12 b)[j]? = some (mE b M00 j) := by
  intro j hj
  match j, hj with
  | 0, _ => rfl
  | 1, _ => rfl
  | 2, _ => rfl
  | 3, _ => rfl
  | 4, _ => rfl
  | 5, _ => rfl
  | 6, _ => rfl
  | 7, _ => rfl
  | 8, _ => rfl
  | 9, _ => rfl
  | 10, _ => rfl
  | 11, _ => rfl
end ST
/-- what lies beside -/
def mu1 (n : Nat) : Me := fun q => if q = n + 176 then some (.inl (3, (1, .inr (.inl (fun _ => 0))))) else if q = n + 177 then some (.inl (4, (1, .inr (.inr (.inr (.inl (fun _ => 0))))))) else none
theorem mu0_seg (n : Nat) : mu0 n = seg (mu0 n) n [] := by
  funext q
  unfold seg
  by_cases h : q = 0
  · rw [if_pos h]; unfold mu0; rw [if_pos h]; rfl
  · rw [if_neg h, if_neg (by rw [List.length_nil]; omega)]
theorem start_w {n : Nat} (hn : 0 < n) : dr0 (seg (mu0 n) n (L164 n ++ (M12 (n + 164) ++ ([.inl (3, (1, .inr (.inl (fun _ => 0)))), .inl (4, (1, .inr (.inr (.inr (.inl (fun _ => 0))))))] : List E_)))) = Wo n (n + 164) (mu1 n) S00 M00 := by
  funext q
  have hlen : (L164 n ++ (M12 (n + 164) ++ ([.inl (3, (1, .inr (.inl (fun _ => 0)))), .inl (4, (1, .inr (.inr (.inr (.inl (fun _ => 0))))))] : List E_))).length = 178 := by
    rw [List.length_append, List.length_append, L164_len, M12_len]; rfl
  unfold dr0 Wo
  by_cases h0 : q = 0
  · rw [if_pos h0, puc_out (Or.inl (by omega)), pum_out (Or.inl (by omega))]
    unfold mu1
    rw [if_neg (by omega), if_neg (by omega)]
  · rw [if_neg h0]
    by_cases hin : n ≤ q ∧ q < n + 178
    · obtain ⟨i, rfl⟩ : ∃ i, q = n + i := ⟨q - n, by omega⟩
      rw [seg_at hn (by rw [hlen]; omega)]
      by_cases h1 : i < 164
      · rw [List.getElem?_append_left (by rw [L164_len]; exact h1), L164_at n i h1, puc_at _ _ _ h1]
      · rw [List.getElem?_append_right (by rw [L164_len]; omega), L164_len, puc_out (Or.inr (by omega))]
        by_cases h2 : i < 176
        · obtain ⟨j, rfl⟩ : ∃ j, i = 164 + j := ⟨i - 164, by omega⟩
          rw [show 164 + j - 164 = j by omega, List.getElem?_append_left (by rw [M12_len]; omega), M12_at _ j (by omega), show n + (164 + j) = n + 164 + j by omega, pum_at _ _ _ (by omega)]
        · rw [List.getElem?_append_right (by rw [M12_len]; omega), M12_len, pum_out (Or.inr (by omega))]
          unfold mu1
          rcases (show i = 176 ∨ i = 177 by omega) with e | e <;> subst e
          · rw [if_pos rfl]; rfl
          · rw [if_neg (by omega), if_pos rfl]; rfl
    · rw [puc_out (by omega), pum_out (by omega)]
      unfold seg mu1
      rw [if_neg h0, hlen, if_neg hin, if_neg (by omega), if_neg (by omega)]
      unfold mu0
      rw [if_neg h0]
theorem RA_0 : RA 0 S00 M00 := by
  refine ⟨Nat.zero_le _, ⟨0, 0, 0, ⟨Nat.zero_le _, rfl, rfl, fun d hd => absurd hd (Nat.not_lt_zero d), fun d e hd => absurd hd (Nat.not_lt_zero d)⟩, ⟨Nat.zero_le _, rfl, ?_, fun j hj => absurd hj (Nat.not_lt_zero j), ?_⟩, ⟨Nat.zero_le _, rfl, rfl, fun e he => absurd he (Nat.not_lt_zero e)⟩, ?_, ⟨rfl, rfl, rfl, rfl, rfl, rfl, ⟨10, by decide, rfl⟩, ⟨0, Nat.le_refl _, rfl⟩⟩, fun d _ => ⟨Or.inl rfl, Or.inl rfl⟩⟩, ⟨rfl, Or.inl rfl⟩, ⟨0, 0, Nat.zero_le _, by decide, rfl, rfl, rfl, fun k hk => absurd hk (Nat.not_lt_zero k)⟩, ⟨rfl, Or.inl rfl⟩, ⟨rfl, Or.inl rfl⟩, ⟨rfl, Or.inl rfl⟩, ⟨0, Nat.zero_le _, rfl, rfl, fun i hi => absurd hi (Nat.not_lt_zero i)⟩, ?_, ?_⟩
  · show ctb (tb 0) 64 = 0
    decide +kernel
  · show ∀ k, k < 64 → tb 0 k = true → _
    intro k hk h
    exact absurd h ((show ∀ k, k < 64 → ¬ tb 0 k = true by decide +kernel) k hk)
  · intro f hf
    refine ⟨fun k hk => ?_, ?_⟩
    · have e1 : M00 0 (77 + f) = 0 := by
        show upd (fun _ => 0) (2 : Int32).toNatClampNeg 10 (77 + f) = 0
        rw [c_i2]
        unfold upd
        rw [if_neg (by omega)]
      have e2 : M00 0 (73 + f) = 0 := by
        show upd (fun _ => 0) (2 : Int32).toNatClampNeg 10 (73 + f) = 0
        rw [c_i2]
        unfold upd
        rw [if_neg (by omega)]
      rw [e1, e2]
      show blg (if 32 ≤ nI k then 0 else 0) (nI k) = if tb 0 k = true then 1 else 0
      exact (show ∀ k, k < 64 → blg (if 32 ≤ nI k then 0 else 0) (nI k) = if tb 0 k = true then 1 else 0 by decide +kernel) k hk
    · show ctb (tb 0) 64 ≤ 10
      decide +kernel
  · show ∀ i, i < 60 → w60 i = nI (wds.getD i 0)
    decide +kernel
  · show ∀ i, i < 12 → w12 i = nI (wat.getD i 0)
    decide +kernel
theorem L_all {b m o q : Nat} {aC : Nat → Nat} {bb L : Nat} {xs : Nat → Int32} (hL : L ≤ 2048) (hj : inj aC) (hb : 0 < b) (hbm : b + 164 ≤ m) (ho : m + 12 ≤ o) (hq : m + 12 ≤ q) (hoq : o ≠ q) : ∀ f i T (μ : Me) (S : Cg) (M : Mg), 4 * i ≤ L → L + 4 < 4 * (i + f) → T + 400 * f ≤ 1000000 → WK o q μ → RA T S M → ∃ μ', FL_law_L28 aC bb L xs f b m o q (nI (4 * i)) (Wo b m μ S M) = some (.inl (), μ') := by
  intro f
  induction f with
  | zero => intro i T μ S M h1 h2; omega
  | succ f ih =>
    intro i T μ S M h1 h2 hT hw hR
    have hsub : ∀ k, 4 ≤ k → nI k - 4 = nI (k - 4) := fun k hk => by
      obtain ⟨k, rfl⟩ : ∃ x, k = x + 4 := ⟨k - 4, by omega⟩
      rw [← nI_add, Nat.add_sub_cancel]
      exact Int32.add_sub_cancel _ _
    by_cases h : 4 * i + 4 ≤ L
    · have hs : ¬ nI L - 4 < nI (4 * i) := by
        rw [hsub L (by omega)]
        exact Int32.not_lt.mpr (nI_le (by omega) (by omega))
      have n2 : nI (4 * i) + 2 = nI (4 * i + 2) := nI_add (4 * i) 2
      have n3 : nI (4 * i) + 3 = nI (4 * i + 3) := nI_add (4 * i) 3
      have n4 : nI (4 * i) + 4 = nI (4 * (i + 1)) := nI_add (4 * i) 4
      have hT0 : T + (400 * f + 400) ≤ 1000000 := hT
      have hT1 : T + 400 ≤ 1000000 := Nat.le_trans (Nat.add_le_add_left (Nat.le_add_left 400 (400 * f)) T) hT0
      have hT2 : T + 400 < 2 ^ 30 := Nat.lt_of_le_of_lt hT1 (by decide)
      have hT3 : T + 400 + 400 * f ≤ 1000000 := by rw [Nat.add_assoc, Nat.add_comm 400 (400 * f)]; exact hT0
      obtain ⟨μ', S', M', w1, w2, w3⟩ := L_step (k28 := FL_law_L28 aC bb L xs f) (aC := aC) (bb := bb) (xs := xs) (L := L) (v5 := nI (4 * i)) hj hT2 hb hbm ho hq hoq hw hR hs (inb_n (by omega) (by omega)) (by rw [nI_1]; exact inb_n (by omega) (by omega)) (by rw [n2]; exact inb_n (by omega) (by omega)) (by rw [n3]; exact inb_n (by omega) (by omega))
      rw [n4] at w3
      obtain ⟨μ2, e⟩ := ih (i + 1) (T + 400) μ' S' M' (by omega) (by omega) hT3 w1 w2
      exact ⟨μ2, w3.trans e⟩
    · have hs : nI L - 4 < nI (4 * i) := by
        by_cases h4 : 4 ≤ L
        · rw [hsub L h4]
          exact nI_lt (by omega) (by omega)
        · refine Int32.lt_of_lt_of_le ?_ (nI_pos' (n := 4 * i) (by omega))
          rcases (show L = 0 ∨ L = 1 ∨ L = 2 ∨ L = 3 by omega) with e | e | e | e <;> subst e <;> decide
      refine ⟨Wo b m μ S M, ?_⟩
      show FL_law_B28 aC bb L xs (FL_law_L28 aC bb L xs f) b m o q (nI (4 * i)) (Wo b m μ S M) = _
      unfold FL_law_B28
      rw [if_pos hs]
      rfl
theorem law_pure {aC : Nat → Nat} {b L : Nat} {xs : Nat → Int32} (hL : L ≤ 2048) (n : Nat) (hn : 0 < n) (hi : ∀ i j, i < 11 → j < 11 → aC (110 + i) = aC (110 + j) → i = j) : ∃ μ', FL_law aC b L xs (mu0 n) = some (.inl (), μ') := by
  have e : FL_law aC b L xs (mu0 n) = FL_law_L28 aC b L xs 600 n (n + 164) (n + 176) (n + 177) (nI (4 * 0)) (Wo n (n + 164) (mu1 n) S00 M00) := by
    rw [← start_w hn]
    unfold FL_law
    rw [mu0_seg n]
    rw [calln_seg i_X hn]
    rw [List.nil_append, List.length_nil, Nat.add_zero]
    rw [calln_seg i_M hn, L164_len]
    rw [nw_seg hn, List.length_append, L164_len, M12_len]
    rw [nw_seg hn, List.length_append, List.length_append, L164_len, M12_len, List.append_assoc, List.append_assoc]
    rw [← mu0_seg n]
    rfl
  rw [e]
  exact L_all hL hi hn (Nat.le_refl _) (by omega) (by omega) (by omega) 600 0 0 (mu1 n) S00 M00 (Nat.zero_le _) (by omega) (by omega) ⟨by unfold mu1; rw [if_neg (by omega), if_neg (by omega)], ⟨_, if_pos rfl⟩, _, (if_neg (by omega)).trans (if_pos rfl)⟩ RA_0
