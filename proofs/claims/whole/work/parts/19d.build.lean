/-! ===== the things of the start ===== -/
/-- from s on lie es, the next new thing comes behind -/
def seg (μ : Me) (s : Nat) (es : List E_) : Me := fun q => if q = 0 then some (.inr (s + es.length, [])) else if s ≤ q ∧ q < s + es.length then es[q - s]? else μ q
section SG
variable {μ : Me} {s : Nat} {es rest : List E_} {α : Type}
theorem seg0 : seg μ s es 0 = some (.inr (s + es.length, [])) := if_pos rfl
theorem seg_app (hs : 0 < s) (ys : List E_) : seg (seg μ s es) (s + es.length) ys = seg μ s (es ++ ys) := by
  funext q
  unfold seg
  by_cases h0 : q = 0
  · rw [if_pos h0, if_pos h0, List.length_append, Nat.add_assoc]
  · rw [if_neg h0, if_neg h0, if_neg h0]
    by_cases h1 : s + es.length ≤ q ∧ q < s + es.length + ys.length
    · rw [if_pos h1, if_pos ⟨by omega, by rw [List.length_append]; omega⟩, List.getElem?_append_right (by omega)]
      congr 1
      omega
    · rw [if_neg h1]
      by_cases h2 : s ≤ q ∧ q < s + es.length
      · rw [if_pos h2, if_pos ⟨by omega, by rw [List.length_append]; omega⟩, List.getElem?_append_left (by omega)]
      · rw [if_neg h2, if_neg (by rw [List.length_append]; omega)]
theorem seg_at {i : Nat} (hs : 0 < s) (hi : i < es.length) : seg μ s es (s + i) = es[i]? := by
  unfold seg
  rw [if_neg (by omega), if_pos ⟨by omega, by omega⟩]
  congr 1
  omega
theorem seg_h {x : E_} (hs : 0 < s) : seg μ s (x :: rest) s = some x := by
  have := seg_at (μ := μ) (es := x :: rest) (i := 0) hs (by rw [List.length_cons]; omega)
  exact this
theorem mset_seg {i : Nat} {e : E_} (hs : 0 < s) (hi : i < es.length) : mset (seg μ s es) (s + i) e = seg μ s (es.set i e) := by
  funext q
  show (if q = s + i then some e else seg μ s es q) = _
  unfold seg
  rw [List.length_set]
  by_cases h : q = s + i
  · rw [if_pos h, if_neg (by omega), if_pos ⟨by omega, by omega⟩, show q - s = i by omega, List.getElem?_set_self (by omega)]
  · rw [if_neg h]
    by_cases h0 : q = 0
    · rw [if_pos h0, if_pos h0]
    · rw [if_neg h0, if_neg h0]
      by_cases h2 : s ≤ q ∧ q < s + es.length
      · rw [if_pos h2, if_pos h2, List.getElem?_set_ne (by omega)]
      · rw [if_neg h2, if_neg h2]
theorem mset_h {x e : E_} (hs : 0 < s) : mset (seg μ s (x :: rest)) s e = seg μ s (e :: rest) := by
  have := mset_seg (μ := μ) (es := x :: rest) (i := 0) (e := e) hs (by rw [List.length_cons]; omega)
  exact this
theorem nw_seg {e : E_} {K : Nat → Me → Rs α} (hs : 0 < s) : nw (seg μ s es) e K = K (s + es.length) (seg μ s (es ++ [e])) := by
  have hne : ¬ s + es.length = 0 := by omega
  simp only [nw, nx, seg0, hne, if_false]
  congr 1
  funext q
  show (if q = s + es.length then some e else (if q = 0 then some (.inr (s + es.length + 1, [])) else seg μ s es q)) = _
  unfold seg
  rw [List.length_append]
  by_cases h : q = s + es.length
  · rw [if_pos h, if_neg (by omega), if_pos ⟨by omega, by rw [List.length_singleton]; omega⟩, List.getElem?_append_right (by omega), show q - s - es.length = 0 by omega]
    rfl
  · rw [if_neg h]
    by_cases h0 : q = 0
    · rw [if_pos h0, if_pos h0]; rfl
    · rw [if_neg h0, if_neg h0, if_neg h0]
      by_cases h2 : s ≤ q ∧ q < s + es.length
      · rw [if_pos h2, if_pos ⟨by omega, by rw [List.length_singleton]; omega⟩, List.getElem?_append_left (by omega)]
      · rw [if_neg h2, if_neg (by rw [List.length_singleton]; omega)]
theorem pf_seg {c k : Nat} {fs : List Value} {v : Value} {K : Me → Rs α} (hs : 0 < s) : pf (seg μ s (.inr (c, fs) :: rest)) s c k v K = if k < fs.length then K (seg μ s (.inr (c, fs.set k v) :: rest)) else none := by
  have h : ob (seg μ s (.inr (c, fs) :: rest)) s c = some fs := ob_at (seg_h hs) hs
  simp only [pf, h, mset_h hs]
theorem gR_seg {c k a : Nat} {fs : List Value} {K : Nat → Rs α} (hs : 0 < s) (hf : fs[k]? = some (.ref a)) : gR (seg μ s (.inr (c, fs) :: rest)) s c k K = K a := by
  have h : ob (seg μ s (.inr (c, fs) :: rest)) s c = some fs := ob_at (seg_h hs) hs
  simp only [gR, gf, h, hf]
theorem sI_seg {n : Nat} {f : Nat → Int32} {i v : Int32} {K : Me → Rs α} (hs : 0 < s) : sI (seg μ s (.inl (0, (n, .inl f)) :: rest)) s i v K = if inb i n = true then K (seg μ s (.inl (0, (n, .inl (upd f i.toNatClampNeg v))) :: rest)) else none := by
  have h : ar (seg μ s (.inl (0, (n, .inl f)) :: rest)) s 0 = some (n, .inl f) := ar_at (seg_h hs) hs
  simp only [sI, h, mset_h hs]
/-- a thing is made and begun -/
theorem call_seg {F : Nat → Me → Rs Unit} {e : E_} {L : Nat → List E_} {K : Nat → Me → Rs α} (hF : ∀ μ s, 0 < s → F s (seg μ s [e]) = rt () (seg μ s (L s))) (hs : 0 < s) : nw (seg μ s es) e (fun a μ2 => bnd (F a μ2) (fun _ μ3 => K a μ3)) = K (s + es.length) (seg μ s (es ++ L (s + es.length))) := by
  rw [nw_seg hs, ← seg_app hs, hF _ _ (by omega), seg_app hs]
  rfl
theorem calln_seg {F : Nat → Me → Rs Unit} {e : E_} {L : Nat → List E_} {K : Nat → Me → Rs α} (hF : ∀ μ s, 0 < s → F s (seg μ s [e]) = rt () (seg μ s (L s))) (hs : 0 < s) : nw (seg μ s es) e (fun a μ2 => bndn (F a μ2) (fun _ μ3 => K a μ3)) = K (s + es.length) (seg μ s (es ++ L (s + es.length))) := by
  rw [nw_seg hs, ← seg_app hs, hF _ _ (by omega), seg_app hs]
  rfl
def N13 (h : Nat) : List E_ := .inl (7, (12, .inr (.inr (.inr (.inr (fun i => if i < 12 then some (h + 1 + i) else none)))))) :: List.replicate 12 (.inl (0, (3, .inl (fun _ => 0))))
theorem nwm_seg {K : Nat → Me → Rs α} (hs : 0 < s) : nwm (seg μ s es) K = K (s + es.length) (seg μ s (es ++ N13 (s + es.length))) := by
  have hne : ¬ s + es.length = 0 := by omega
  have hl : (N13 (s + es.length)).length = 13 := rfl
  simp only [nwm, seg0, hne, if_false]
  congr 1
  funext q
  rw [← seg_app hs]
  generalize hh : s + es.length = h at hne hl ⊢
  show _ = (if q = 0 then some (.inr (h + (N13 h).length, [])) else if h ≤ q ∧ q < h + (N13 h).length then (N13 h)[q - h]? else seg μ s es q)
  rw [hl]
  by_cases h0 : q = 0
  · rw [if_pos h0, if_pos h0]
  · rw [if_neg h0, if_neg h0]
    by_cases h1 : q = h
    · rw [if_pos h1, if_pos ⟨by omega, by omega⟩, show q - h = 0 by omega]
      rfl
    · rw [if_neg h1]
      by_cases h2 : h < q ∧ q ≤ h + 12
      · rw [if_pos h2, if_pos ⟨by omega, by omega⟩]
        obtain ⟨j, hj, hj2⟩ : ∃ j, j < 12 ∧ q - h = j + 1 := ⟨q - h - 1, by omega, by omega⟩
        rw [hj2]
        show _ = (List.replicate 12 (Sum.inl (0, (3, .inl (fun _ => 0))) : E_))[j]?
        rw [List.getElem?_replicate, if_pos hj]
      · rw [if_neg h2, if_neg (by omega)]
/-! the parts -/
def D7 (s : Nat) : List E_ := [.inr (3, [.ref (s + 1), .ref (s + 2), .ref (s + 3), .ref (s + 4), .ref (s + 5), .ref (s + 6), .int 0]), .inl (0, (10, .inl (fun _ => 0))), .inl (0, (10, .inl (fun _ => 0))), .inl (0, (10, .inl (fun _ => 0))), .inl (0, (10, .inl (fun _ => 0))), .inl (1, (10, .inl (fun _ => 0))), .inl (1, (10, .inl (fun _ => 0)))]
theorem i_D (μ : Me) (s : Nat) (hs : 0 < s) : FX2_init s (seg μ s [.inr (3, [.null, .null, .null, .null, .null, .null, .int 0])]) = rt () (seg μ s (D7 s)) := by
  simp only [FX2_init, nw_seg hs, pf_seg hs, List.cons_append, List.nil_append, List.length_cons, List.length_nil, List.set_cons_zero, List.set_cons_succ, List.set_nil, Nat.reduceAdd, Nat.zero_add, Nat.reduceLT, if_true, D7]
def C4 (s : Nat) : List E_ := [.inr (2, [.ref (s + 1), .ref (s + 2), .ref (s + 3), .int 0]), .inl (0, (12, .inl (fun _ => 0))), .inl (0, (12, .inl (fun _ => 0))), .inl (0, (12, .inl (fun _ => 0)))]
theorem i_C (μ : Me) (s : Nat) (hs : 0 < s) : FX1_init s (seg μ s [.inr (2, [.null, .null, .null, .int 0])]) = rt () (seg μ s (C4 s)) := by
  simp only [FX1_init, nw_seg hs, pf_seg hs, List.cons_append, List.nil_append, List.length_cons, List.length_nil, List.set_cons_zero, List.set_cons_succ, List.set_nil, Nat.reduceAdd, Nat.zero_add, Nat.reduceLT, if_true, C4]
def sc0 : Sg := (fun r j => if r = 9 ∧ j = 2 then 10 else 0, fun _ => 0, 0)
def E13 (s : Nat) : List E_ := [.inr (5, [.ref (s + 1), .ref (s + 8), .ref (s + 12), .long 0, .int 10, .int 0, .int 0, .int 0, .int 0, .int 0]), .inr (3, [.ref (s + 2), .ref (s + 3), .ref (s + 4), .ref (s + 5), .ref (s + 6), .ref (s + 7), .int 0]), .inl (0, (10, .inl (fun _ => 0))), .inl (0, (10, .inl (fun _ => 0))), .inl (0, (10, .inl (fun _ => 0))), .inl (0, (10, .inl (fun _ => 0))), .inl (1, (10, .inl (fun _ => 0))), .inl (1, (10, .inl (fun _ => 0))), .inr (2, [.ref (s + 9), .ref (s + 10), .ref (s + 11), .int 0]), .inl (0, (12, .inl (fun _ => 0))), .inl (0, (12, .inl (fun _ => 0))), .inl (0, (12, .inl (fun _ => 0))), .inl (3, (4, .inr (.inl (fun _ => 0))))]
abbrev b5 : E_ := .inr (5, [.null, .null, .null, .long 0, .int 0, .int 0, .int 0, .int 0, .int 0, .int 0])
theorem i_S (μ : Me) (s : Nat) (hs : 0 < s) : FX4_init s (seg μ s [b5]) = rt () (seg μ s (E13 s)) := by
  simp only [FX4_init, call_seg i_D hs, call_seg i_C hs, D7, C4, nw_seg hs, pf_seg hs, List.cons_append, List.nil_append, List.length_cons, List.length_nil, List.set_cons_zero, List.set_cons_succ, List.set_nil, Nat.reduceAdd, Nat.zero_add, Nat.add_assoc, Nat.reduceLT, if_true, E13]
theorem E13_at (s : Nat) : ∀ j, j < 13 → (E13 s)[j]? = some (scE s sc0 j) := by
  intro j hj
  match j, hj with
  | 0, _ => rfl
  | 1, _ => rfl
  | 2, _ => rfl
  | 3, _ => rfl
  | 4, _ => rfl
  | 5, _ => rfl
  | 6, _ => rfl
  | 7, _ => rfl
  | 8, _ => rfl
  | 9, _ => rfl
  | 10, _ => rfl
  | 11, _ => rfl
  | 12, _ => rfl
theorem E13_len (s : Nat) : (E13 s).length = 13 := rfl
end SG
theorem ibw_0 : inb 0 60 = true := by decide
theorem ibw_1 : inb 1 60 = true := by decide
theorem ibw_2 : inb 2 60 = true := by decide
theorem ibw_3 : inb 3 60 = true := by decide
theorem ibw_4 : inb 4 60 = true := by decide
theorem ibw_5 : inb 5 60 = true := by decide
theorem ibw_6 : inb 6 60 = true := by decide
theorem ibw_7 : inb 7 60 = true := by decide
theorem ibw_8 : inb 8 60 = true := by decide
theorem ibw_9 : inb 9 60 = true := by decide
theorem ibw_10 : inb 10 60 = true := by decide
theorem ibw_11 : inb 11 60 = true := by decide
theorem ibw_12 : inb 12 60 = true := by decide
theorem ibw_13 : inb 13 60 = true := by decide
theorem ibw_14 : inb 14 60 = true := by decide
theorem ibw_15 : inb 15 60 = true := by decide
theorem ibw_16 : inb 16 60 = true := by decide
theorem ibw_17 : inb 17 60 = true := by decide
theorem ibw_18 : inb 18 60 = true := by decide
theorem ibw_19 : inb 19 60 = true := by decide
theorem ibw_20 : inb 20 60 = true := by decide
theorem ibw_21 : inb 21 60 = true := by decide
theorem ibw_22 : inb 22 60 = true := by decide
theorem ibw_23 : inb 23 60 = true := by decide
theorem ibw_24 : inb 24 60 = true := by decide
theorem ibw_25 : inb 25 60 = true := by decide
theorem ibw_26 : inb 26 60 = true := by decide
theorem ibw_27 : inb 27 60 = true := by decide
theorem ibw_28 : inb 28 60 = true := by decide
theorem ibw_29 : inb 29 60 = true := by decide
theorem ibw_30 : inb 30 60 = true := by decide
theorem ibw_31 : inb 31 60 = true := by decide
theorem ibw_32 : inb 32 60 = true := by decide
theorem ibw_33 : inb 33 60 = true := by decide
theorem ibw_34 : inb 34 60 = true := by decide
theorem ibw_35 : inb 35 60 = true := by decide
theorem ibw_36 : inb 36 60 = true := by decide
theorem ibw_37 : inb 37 60 = true := by decide
theorem ibw_38 : inb 38 60 = true := by decide
theorem ibw_39 : inb 39 60 = true := by decide
theorem ibw_40 : inb 40 60 = true := by decide
theorem ibw_41 : inb 41 60 = true := by decide
theorem ibw_42 : inb 42 60 = true := by decide
theorem ibw_43 : inb 43 60 = true := by decide
theorem ibw_44 : inb 44 60 = true := by decide
theorem ibw_45 : inb 45 60 = true := by decide
theorem ibw_46 : inb 46 60 = true := by decide
theorem ibw_47 : inb 47 60 = true := by decide
theorem ibw_48 : inb 48 60 = true := by decide
theorem ibw_49 : inb 49 60 = true := by decide
theorem ibw_50 : inb 50 60 = true := by decide
theorem ibw_51 : inb 51 60 = true := by decide
theorem ibw_52 : inb 52 60 = true := by decide
theorem ibw_53 : inb 53 60 = true := by decide
theorem ibw_54 : inb 54 60 = true := by decide
theorem ibw_55 : inb 55 60 = true := by decide
theorem ibw_56 : inb 56 60 = true := by decide
theorem ibw_57 : inb 57 60 = true := by decide
theorem ibw_58 : inb 58 60 = true := by decide
theorem ibw_59 : inb 59 60 = true := by decide
theorem iba_0 : inb 0 12 = true := by decide
theorem iba_1 : inb 1 12 = true := by decide
theorem iba_2 : inb 2 12 = true := by decide
theorem iba_3 : inb 3 12 = true := by decide
theorem iba_4 : inb 4 12 = true := by decide
theorem iba_5 : inb 5 12 = true := by decide
theorem iba_6 : inb 6 12 = true := by decide
theorem iba_7 : inb 7 12 = true := by decide
theorem iba_8 : inb 8 12 = true := by decide
theorem iba_9 : inb 9 12 = true := by decide
theorem iba_10 : inb 10 12 = true := by decide
theorem iba_11 : inb 11 12 = true := by decide
