/-! ===== the whole start ===== -/
section SH
variable {μ : Me} {s : Nat} {rest : List E_} {α : Type}
abbrev H4 (s : Nat) : E_ := .inr (4, [.ref (s + 1), .int 0, .int 0])
abbrev A5 (f : Nat → Option Nat) : E_ := .inl (5, (8, .inr (.inr (.inr (.inr f)))))
theorem gR_H {K : Nat → Rs α} (hs : 0 < s) : gR (seg μ s (H4 s :: rest)) s 4 0 K = K (s + 1) := gR_seg hs rfl
theorem sS_seg {f : Nat → Option Nat} {i : Int32} {K : Me → Rs α} {x : E_} (hs : 0 < s) (hi : inb i 8 = true) : sS (seg μ s (x :: A5 f :: (rest ++ E13 (s + (rest.length + 2))))) (s + 1) i (s + (rest.length + 2)) K = K (seg μ s (x :: A5 (va_up f i.toNatClampNeg (some (s + (rest.length + 2)))) :: (rest ++ E13 (s + (rest.length + 2))))) := by
  have hl : (x :: A5 f :: (rest ++ E13 (s + (rest.length + 2)))).length = rest.length + 15 := by
    rw [List.length_cons, List.length_cons, List.length_append, E13_len]
  have h1 : ar (seg μ s (x :: A5 f :: (rest ++ E13 (s + (rest.length + 2))))) (s + 1) 5 = some (8, .inr (.inr (.inr (.inr f)))) := ar_at ((seg_at hs (by omega)).trans rfl) (by omega)
  have h2 : (ob (seg μ s (x :: A5 f :: (rest ++ E13 (s + (rest.length + 2))))) (s + (rest.length + 2)) 5).isSome = true := by
    rw [ob_at (fs := [.ref (s + (rest.length + 2) + 1), .ref (s + (rest.length + 2) + 8), .ref (s + (rest.length + 2) + 12), .long 0, .int 10, .int 0, .int 0, .int 0, .int 0, .int 0]) ?_ (by omega)]
    · rfl
    · rw [seg_at hs (by omega)]
      show (rest ++ E13 (s + (rest.length + 2)))[rest.length]? = _
      rw [List.getElem?_append_right (Nat.le_refl _), Nat.sub_self]
      rfl
  simp only [sS, h1, hi, h2, and_self, if_true, mset_seg hs (show 1 < (x :: A5 f :: (rest ++ E13 (s + (rest.length + 2)))).length by omega)]
  rfl
theorem h_step {f : Nat → Option Nat} {k : Int32} {N : Me → Rs α} (hs : 0 < s) (hk : inb k 8 = true) : gR (seg μ s (H4 s :: A5 f :: rest)) s 4 0 (fun x6 => nw (seg μ s (H4 s :: A5 f :: rest)) b5 (fun a7 μ8 => bnd (FX4_init a7 μ8) (fun _ μ9 => sS μ9 x6 k a7 N))) = N (seg μ s (H4 s :: A5 (va_up f k.toNatClampNeg (some (s + (rest.length + 2)))) :: (rest ++ E13 (s + (rest.length + 2))))) := by
  rw [gR_H hs]
  have h := call_seg (es := H4 s :: A5 f :: rest) (μ := μ) (K := fun a7 μ9 => sS μ9 (s + 1) k a7 N) i_S hs
  refine h.trans ?_
  rw [show (H4 s :: A5 f :: rest).length = rest.length + 2 from rfl, List.cons_append, List.cons_append]
  exact sS_seg hs hk
def hf (s : Nat) : Nat → Option Nat := (va_up (va_up (va_up (va_up (va_up (va_up (va_up (va_up (fun _ => none) (0 : Int32).toNatClampNeg (some (s + 2))) (1 : Int32).toNatClampNeg (some (s + 15))) (2 : Int32).toNatClampNeg (some (s + 28))) (3 : Int32).toNatClampNeg (some (s + 41))) (4 : Int32).toNatClampNeg (some (s + 54))) (5 : Int32).toNatClampNeg (some (s + 67))) (6 : Int32).toNatClampNeg (some (s + 80))) (7 : Int32).toNatClampNeg (some (s + 93)))
def R8 (s : Nat) : List E_ := (((((((([] ++ E13 (s + 2)) ++ E13 (s + 15)) ++ E13 (s + 28)) ++ E13 (s + 41)) ++ E13 (s + 54)) ++ E13 (s + 67)) ++ E13 (s + 80)) ++ E13 (s + 93))
theorem R8_len (s : Nat) : (R8 s).length = 104 := by
  unfold R8
  simp only [List.length_append, E13_len, List.length_nil, Nat.reduceAdd]
def H106 (s : Nat) : List E_ := H4 s :: A5 (hf s) :: R8 s
theorem H106_len (s : Nat) : (H106 s).length = 106 := by
  unfold H106
  rw [List.length_cons, List.length_cons, R8_len]
set_option maxRecDepth 100000 in
theorem i_H (μ : Me) (s : Nat) (hs : 0 < s) : FX3_init s (seg μ s [.inr (4, [.null, .int 0, .int 0])]) = rt () (seg μ s (H106 s)) := by
  unfold FX3_init
  rw [nw_seg hs]
  show pf (seg μ s (.inr (4, [.null, .int 0, .int 0]) :: [A5 (fun _ => none)])) s 4 0 (.ref (s + 1)) _ = _
  rw [pf_seg hs, if_pos (by decide)]
  simp only [List.set_cons_zero]
  rw [if_neg (by decide), h_step hs (by decide)]
  simp only [List.length_append, E13_len, List.length_nil, Nat.reduceAdd]
  rw [if_neg (by decide), h_step hs (by decide)]
  simp only [List.length_append, E13_len, List.length_nil, Nat.reduceAdd]
  rw [if_neg (by decide), h_step hs (by decide)]
  simp only [List.length_append, E13_len, List.length_nil, Nat.reduceAdd]
  rw [if_neg (by decide), h_step hs (by decide)]
  simp only [List.length_append, E13_len, List.length_nil, Nat.reduceAdd]
  rw [if_neg (by decide), h_step hs (by decide)]
  simp only [List.length_append, E13_len, List.length_nil, Nat.reduceAdd]
  rw [if_neg (by decide), h_step hs (by decide)]
  simp only [List.length_append, E13_len, List.length_nil, Nat.reduceAdd]
  rw [if_neg (by decide), h_step hs (by decide)]
  simp only [List.length_append, E13_len, List.length_nil, Nat.reduceAdd]
  rw [if_neg (by decide), h_step hs (by decide)]
  simp only [List.length_append, E13_len, List.length_nil, Nat.reduceAdd]
  rw [if_pos (by decide)]
  rfl
def P16 (s : Nat) : List E_ := .inr (6, [.ref (s + 1), .int 0, .ref (s + 2), .ref (s + 3), .int 0, .int 0]) :: .inl (2, (60, .inl (fun _ => 0))) :: .inl (6, (12, .inr (.inr (.inr (.inr (fun _ => none)))))) :: N13 (s + 3)
theorem P16_len (s : Nat) : (P16 s).length = 16 := rfl
theorem i_P (μ : Me) (s : Nat) (hs : 0 < s) : FX5_init s (seg μ s [.inr (6, [.null, .int 0, .null, .null, .int 0, .int 0])]) = rt () (seg μ s (P16 s)) := by
  simp only [FX5_init, nw_seg hs, pf_seg hs, nwm_seg hs, List.cons_append, List.nil_append, List.length_cons, List.length_nil, List.set_cons_zero, List.set_cons_succ, List.set_nil, Nat.reduceAdd, Nat.zero_add, Nat.add_assoc, Nat.reduceLT, if_true, P16]
def L164 (b : Nat) : List E_ := .inr (7, [.ref (b + 1), .ref (b + 14), .ref (b + 27), .int 0, .ref (b + 40), .ref (b + 146), .int (-1), .int (-1), .ref (b + 162), .int 0, .ref (b + 163)]) :: (E13 (b + 1) ++ (E13 (b + 14) ++ (E13 (b + 27) ++ (H106 (b + 40) ++ (P16 (b + 146) ++ [.inl (2, (8, .inl (fun _ => 0))), .inl (0, (64, .inl (fun _ => 0)))])))))
theorem i_X (μ : Me) (s : Nat) (hs : 0 < s) : FX7_init s (seg μ s [.inr (7, [.null, .null, .null, .int 0, .null, .null, .int 0, .int 0, .null, .int 0, .null])]) = rt () (seg μ s (L164 s)) := by
  simp only [FX7_init, call_seg i_S hs, call_seg i_H hs, call_seg i_P hs, nw_seg hs, pf_seg hs, List.append_assoc, List.length_append, E13_len, H106_len, P16_len, List.cons_append, List.nil_append, List.length_cons, List.length_nil, List.set_cons_zero, List.set_cons_succ, List.set_nil, Nat.reduceAdd, Nat.zero_add, Nat.add_assoc, Nat.reduceLT, if_true, L164]
theorem L164_len (b : Nat) : (L164 b).length = 164 := by
  unfold L164
  simp only [List.length_append, E13_len, H106_len, P16_len, List.length_cons, List.length_nil, Nat.reduceAdd]
/-! the model -/
theorem sI_10 {x0 x1 x2 x3 x4 x5 x6 x7 x8 x9 : E_} {n : Nat} {f : Nat → Int32} {i v : Int32} {K : Me → Rs α} (hs : 0 < s) : sI (seg μ s (x0 :: x1 :: x2 :: x3 :: x4 :: x5 :: x6 :: x7 :: x8 :: x9 :: .inl (0, (n, .inl f)) :: rest)) (s + 10) i v K = if inb i n = true then K (seg μ s (x0 :: x1 :: x2 :: x3 :: x4 :: x5 :: x6 :: x7 :: x8 :: x9 :: .inl (0, (n, .inl (upd f i.toNatClampNeg v))) :: rest)) else none := by
  have hl : 10 < (x0 :: x1 :: x2 :: x3 :: x4 :: x5 :: x6 :: x7 :: x8 :: x9 :: (.inl (0, (n, .inl f)) : E_) :: rest).length := by simp only [List.length_cons]; omega
  have h : ar (seg μ s (x0 :: x1 :: x2 :: x3 :: x4 :: x5 :: x6 :: x7 :: x8 :: x9 :: .inl (0, (n, .inl f)) :: rest)) (s + 10) 0 = some (n, .inl f) := ar_at ((seg_at hs hl).trans rfl) (by omega)
  simp only [sI, h, mset_seg hs hl]
  rfl
theorem sI_11 {x0 x1 x2 x3 x4 x5 x6 x7 x8 x9 x10 : E_} {n : Nat} {f : Nat → Int32} {i v : Int32} {K : Me → Rs α} (hs : 0 < s) : sI (seg μ s (x0 :: x1 :: x2 :: x3 :: x4 :: x5 :: x6 :: x7 :: x8 :: x9 :: x10 :: .inl (0, (n, .inl f)) :: rest)) (s + 11) i v K = if inb i n = true then K (seg μ s (x0 :: x1 :: x2 :: x3 :: x4 :: x5 :: x6 :: x7 :: x8 :: x9 :: x10 :: .inl (0, (n, .inl (upd f i.toNatClampNeg v))) :: rest)) else none := by
  have hl : 11 < (x0 :: x1 :: x2 :: x3 :: x4 :: x5 :: x6 :: x7 :: x8 :: x9 :: x10 :: (.inl (0, (n, .inl f)) : E_) :: rest).length := by simp only [List.length_cons]; omega
  have h : ar (seg μ s (x0 :: x1 :: x2 :: x3 :: x4 :: x5 :: x6 :: x7 :: x8 :: x9 :: x10 :: .inl (0, (n, .inl f)) :: rest)) (s + 11) 0 = some (n, .inl f) := ar_at ((seg_at hs hl).trans rfl) (by omega)
  simp only [sI, h, mset_seg hs hl]
  rfl
theorem sI_1 {x0 : E_} {n : Nat} {f : Nat → Int32} {i v : Int32} {K : Me → Rs α} (hs : 0 < s) : sI (seg μ s (x0 :: .inl (0, (n, .inl f)) :: rest)) (s + 1) i v K = if inb i n = true then K (seg μ s (x0 :: .inl (0, (n, .inl (upd f i.toNatClampNeg v))) :: rest)) else none := by
  have hl : 1 < (x0 :: (.inl (0, (n, .inl f)) : E_) :: rest).length := by simp only [List.length_cons]; omega
  have h : ar (seg μ s (x0 :: .inl (0, (n, .inl f)) :: rest)) (s + 1) 0 = some (n, .inl f) := ar_at ((seg_at hs hl).trans rfl) (by omega)
  simp only [sI, h, mset_seg hs hl]
  rfl
theorem gR_M {fs : List Value} {a : Nat} {x0 x1 x2 x3 x4 : Value} {K : Nat → Rs α} (hs : 0 < s) : gR (seg μ s (.inr (8, x0 :: x1 :: x2 :: x3 :: x4 :: .ref a :: fs) :: rest)) s 8 5 K = K a := gR_seg hs rfl
theorem ibv_2 : inb 2 117 = true := by decide
def w60 : Nat → Int32 := (upd (upd (upd (upd (upd (upd (upd (upd (upd (upd (upd (upd (upd (upd (upd (upd (upd (upd (upd (upd (upd (upd (upd (upd (upd (upd (upd (upd (upd (upd (upd (upd (upd (upd (upd (upd (upd (upd (upd (upd (upd (upd (upd (upd (upd (upd (upd (upd (upd (upd (upd (upd (upd (upd (upd (upd (upd (upd (upd (upd (fun _ => 0) (0 : Int32).toNatClampNeg 97) (1 : Int32).toNatClampNeg 100) (2 : Int32).toNatClampNeg 100) (3 : Int32).toNatClampNeg 32) (4 : Int32).toNatClampNeg 112) (5 : Int32).toNatClampNeg 97) (6 : Int32).toNatClampNeg 100) (7 : Int32).toNatClampNeg 32) (8 : Int32).toNatClampNeg 111) (9 : Int32).toNatClampNeg 102) (10 : Int32).toNatClampNeg 102) (11 : Int32).toNatClampNeg 32) (12 : Int32).toNatClampNeg 108) (13 : Int32).toNatClampNeg 97) (14 : Int32).toNatClampNeg 110) (15 : Int32).toNatClampNeg 100) (16 : Int32).toNatClampNeg 32) (17 : Int32).toNatClampNeg 115) (18 : Int32).toNatClampNeg 101) (19 : Int32).toNatClampNeg 110) (20 : Int32).toNatClampNeg 100) (21 : Int32).toNatClampNeg 32) (22 : Int32).toNatClampNeg 114) (23 : Int32).toNatClampNeg 101) (24 : Int32).toNatClampNeg 115) (25 : Int32).toNatClampNeg 101) (26 : Int32).toNatClampNeg 114) (27 : Int32).toNatClampNeg 118) (28 : Int32).toNatClampNeg 101) (29 : Int32).toNatClampNeg 32) (30 : Int32).toNatClampNeg 102) (31 : Int32).toNatClampNeg 111) (32 : Int32).toNatClampNeg 114) (33 : Int32).toNatClampNeg 109) (34 : Int32).toNatClampNeg 32) (35 : Int32).toNatClampNeg 99) (36 : Int32).toNatClampNeg 108) (37 : Int32).toNatClampNeg 101) (38 : Int32).toNatClampNeg 97) (39 : Int32).toNatClampNeg 114) (40 : Int32).toNatClampNeg 32) (41 : Int32).toNatClampNeg 97) (42 : Int32).toNatClampNeg 115) (43 : Int32).toNatClampNeg 115) (44 : Int32).toNatClampNeg 105) (45 : Int32).toNatClampNeg 103) (46 : Int32).toNatClampNeg 110) (47 : Int32).toNatClampNeg 32) (48 : Int32).toNatClampNeg 116) (49 : Int32).toNatClampNeg 105) (50 : Int32).toNatClampNeg 99) (51 : Int32).toNatClampNeg 107) (52 : Int32).toNatClampNeg 32) (53 : Int32).toNatClampNeg 99) (54 : Int32).toNatClampNeg 111) (55 : Int32).toNatClampNeg 108) (56 : Int32).toNatClampNeg 111) (57 : Int32).toNatClampNeg 117) (58 : Int32).toNatClampNeg 114) (59 : Int32).toNatClampNeg 32)
def w12 : Nat → Int32 := (upd (upd (upd (upd (upd (upd (upd (upd (upd (upd (upd (upd (fun _ => 0) (0 : Int32).toNatClampNeg 0) (1 : Int32).toNatClampNeg 4) (2 : Int32).toNatClampNeg 8) (3 : Int32).toNatClampNeg 12) (4 : Int32).toNatClampNeg 17) (5 : Int32).toNatClampNeg 22) (6 : Int32).toNatClampNeg 30) (7 : Int32).toNatClampNeg 35) (8 : Int32).toNatClampNeg 41) (9 : Int32).toNatClampNeg 48) (10 : Int32).toNatClampNeg 53) (11 : Int32).toNatClampNeg 60)
def M12 (s : Nat) : List E_ := [.inr (8, [.int 0, .int 0, .int (-1), .int (-1), .int 0, .ref (s + 1), .ref (s + 2), .ref (s + 3), .ref (s + 4), .ref (s + 5), .ref (s + 6), .ref (s + 7), .ref (s + 8), .ref (s + 9), .ref (s + 10), .ref (s + 11), .int 0, .int 0, .int 0, .int 0, .int 0, .int 0]), .inl (0, (117, .inl (upd (fun _ => 0) (2 : Int32).toNatClampNeg 10))), .inl (0, (117, .inl (fun _ => 0))), .inl (0, (117, .inl (fun _ => 0))), .inl (0, (117, .inl (fun _ => 0))), .inl (0, (936, .inl (fun _ => 0))), .inl (0, (10, .inl (fun _ => 0))), .inl (0, (60, .inl (fun _ => 0))), .inl (0, (8, .inl (fun _ => 0))), .inl (0, (11, .inl (fun _ => 0))), .inl (0, (60, .inl w60)), .inl (0, (12, .inl w12))]
set_option maxRecDepth 100000 in
set_option maxHeartbeats 4000000 in
theorem i_M (μ : Me) (s : Nat) (hs : 0 < s) : FX8_init s (seg μ s [.inr (8, [.int 0, .int 0, .int 0, .int 0, .int 0, .null, .null, .null, .null, .null, .null, .null, .null, .null, .null, .null, .int 0, .int 0, .int 0, .int 0, .int 0, .int 0])]) = rt () (seg μ s (M12 s)) := by
  simp only [FX8_init, nw_seg hs, pf_seg hs, sI_10 hs, sI_11 hs, sI_1 hs, gR_M hs, ibv_2, ibw_0, ibw_1, ibw_2, ibw_3, ibw_4, ibw_5, ibw_6, ibw_7, ibw_8, ibw_9, ibw_10, ibw_11, ibw_12, ibw_13, ibw_14, ibw_15, ibw_16, ibw_17, ibw_18, ibw_19, ibw_20, ibw_21, ibw_22, ibw_23, ibw_24, ibw_25, ibw_26, ibw_27, ibw_28, ibw_29, ibw_30, ibw_31, ibw_32, ibw_33, ibw_34, ibw_35, ibw_36, ibw_37, ibw_38, ibw_39, ibw_40, ibw_41, ibw_42, ibw_43, ibw_44, ibw_45, ibw_46, ibw_47, ibw_48, ibw_49, ibw_50, ibw_51, ibw_52, ibw_53, ibw_54, ibw_55, ibw_56, ibw_57, ibw_58, ibw_59, iba_0, iba_1, iba_2, iba_3, iba_4, iba_5, iba_6, iba_7, iba_8, iba_9, iba_10, iba_11, List.cons_append, List.nil_append, List.length_cons, List.length_nil, List.set_cons_zero, List.set_cons_succ, List.set_nil, Nat.reduceAdd, Nat.zero_add, Nat.add_assoc, Nat.reduceLT, if_true, M12, w60, w12]
end SH
