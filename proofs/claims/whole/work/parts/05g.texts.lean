/-! ===== MY LAYER: the texts' own methods (their JDK bodies), the verbs' numbers ===== -/
theorem Fx_SGa {κ : Cx} {cc : ByteArray} {own : String} {aC : Nat → Nat} (F : Fx κ cc own) (hκ : κ.2.2.2.2.2.2.2.2.2.2.2.2.2.1 = aC) : SG κ.2.2.2.2.2.2.2.2.2.2.2.1 aC := hκ ▸ Fx_SG F
section VR
variable {α β : Type} {κ : Cx} {ρ : (α ⊕ String) × Me} {k n : Nat} {μ : Me} {x : Rs α} {pc : Nat} {lv : List (Nat × Value)} {st : List Value} {cc : ByteArray} {own : String} {cv : α → Option Value} {rm : Room} {tb : List ExceptionTableEntry} {nm : String} {ret ret2 : Option FieldType} {aC : Nat → Nat}
/-- a call on an object of the start -/
theorem V_cO {y : MethodName} {bytes : ByteArray} {maxL idx N : Nat} {C : String} {rmc : Room} {cvb : β → Option Value} {As rest : List Value} {a : Nat} {x : Rs β} {K : β → Me → Rs α} (F : Fx κ cc own) (M : Mx κ cv ρ rm ret2 [] nm) (hO : va_O C a (fun q => κ.2.2.2.2.2.2.2.2.2.2.2.1.heap.size ≤ q) κ.2.2.2.2.2.2.2.2.2.2.2.1 κ.2.2.2.2.2.2.2.2.2.2.2.1.heap) (hct : Ct κ.2.1 y (ws_ y bytes maxL ret) rmc κ.2.2.2.2.2.2.2.2.2.2.2.1 κ.2.2.2.2.2.2.2.2.2.2.2.2.1 κ.2.2.2.2.2.2.2.2.2.2.2.2.2.1 cvb (.ref a :: As) μ x) (hcode : Cond.code y bytes maxL ret ∈ WA) (hini : Cond.initialized y.cls ∈ WA) (hl : Cond.methodLink own idx y ∈ WA) (hin : Cond.instanceMethod y ∈ WA) (hsel : Cond.selects C y y ∈ WA)
    (hd : hd_ y N) (hN : As.length = N) (hR : rmIn rmc rm maxL) (hrest : (rest.map fun v => v.category).sum ≤ 8) (d : decode cc pc = .ok (.invokevirtual idx, 3)) (hk : k + rmc.cells ≤ rm.cells) (hn : n + rmc.slots ≤ rm.slots) (kk : ∀ v μ', V κ ρ (k + rmc.cells) (n + rmc.slots) μ' (K v μ') (pc + 3) lv ((cvb v).toList ++ rest)) : V κ ρ k n μ (bnd x K) pc lv (As.reverse ++ .ref a :: rest) := by
  refine V_bnd F M ?_ hk hn kk
  have hR9 := Mx_R M
  obtain ⟨p, l, e, R, s, m, args, below, meth, c, Q, s0, D, aC, nL⟩ := κ
  have hR9 : R = rm := hR9
  subst hR9
  intro ρ' hx H locs ls hM hl0
  refine ⟨_, vx_runV (As := As) ⟨F.1, F.2.1, F.2.2.1, F.2.2.2.1, F.2.2.2.2.1⟩ (hct ρ' hx) ⟨callB_ F hcode hini hl hd hR, F.2.2.2.2.1 _ hin, F.2.2.2.2.1 _ hsel⟩ ⟨blind_, ?_, fun U hU hW => ⟨rfl, State.WarmedH.trans F.2.2.2.2.2.2.1 hW, by rw [hU]; exact hM⟩⟩ rfl hN hl0.1 rfl (lv_room hrest) d ⟨hk, hn⟩⟩
  obtain ⟨cell, h1, h2, h3, -⟩ := (hO.kept (fun q h _ => hM.2.1 q h)).moved F.2.2.2.2.2.2.1.alike
  exact ⟨cell, h1, h2, h3⟩
theorem V_ldcI {idx : Nat} {v : Int32} (F : Fx κ cc own) (hq : Cond.constant own idx v ∈ WA) (d : decode cc pc = .ok (.ldc idx, 2)) (kk : V κ ρ k n μ x (pc + 2) lv (.int v :: st)) : V κ ρ k n μ x pc lv st := by
  obtain ⟨p, l, e, R, s, m, args, below, meth, c, Q, s0, D, aC, nL⟩ := κ
  intro hx H locs ls hM hloc hl
  exact lv_ldc F.1 F.2.1 F.2.2.2.1 (F.2.2.2.2.1 _ hq) d (kk hx H locs ls hM hloc hl)
theorem V_skip_eq {a : Int32} {off : Int} {tgt : Nat} (F : Fx κ cc own) (d : decode cc pc = .ok (.ifCond .eq off, 3)) (ht : (pc : Int) + off = (tgt : Int)) (h : ¬ a = 0) (kk : V κ ρ k n μ x (pc + 3) lv st) : V κ ρ k n μ x pc lv (.int a :: st) := by
  have := V_if_eq (x1 := (none : Rs α)) F d ht (fun c => absurd c h) (fun _ => kk)
  rw [if_neg h] at this
  exact this
theorem V_skip_ne {a : Int32} {off : Int} {tgt : Nat} (F : Fx κ cc own) (d : decode cc pc = .ok (.ifCond .ne off, 3)) (ht : (pc : Int) + off = (tgt : Int)) (h : a = 0) (kk : V κ ρ k n μ x (pc + 3) lv st) : V κ ρ k n μ x pc lv (.int a :: st) := by
  have := V_if_ne (x1 := (none : Rs α)) F d ht (fun c => absurd h c) (fun _ => kk)
  rw [if_pos h] at this
  exact this
end VR

abbrev rmJ0_coder_7d493 : Room := { frames := 0, cells := 0, slots := 0, locals := 0 }
def FJ0_coder_7d493 (aC : Nat → Nat) (j : Nat) (μ : Me) : Rs Int32 := gd (j < 15) (rt 0 μ)
set_option maxHeartbeats 4000000 in
set_option maxRecDepth 100000 in
theorem metJ0_coder_7d493 {l : Launch} {s0 : State} {D : va_G} {aC aC9 : Nat → ClassId} (hG : Gl s0 D aC9) (hl : l.stackTraces = false) (e9 : aC9 = aC) (j : Nat) (μ : Me) : Ct l yJ0_coder_7d493 (ws_ yJ0_coder_7d493 cJ0_coder_7d493 1 (some .byte)) rmJ0_coder_7d493 s0 D aC9 (fun r : Int32 => some (.int r)) [.ref (aC (130 + j))] μ (FJ0_coder_7d493 aC j μ) := by
  refine Ct_of hG hl (by decide +kernel) (Nat.le_of_ble_eq_true rfl) (fun κ ρ hNL F M hκ => ?_)
  have hκ := hκ.trans e9
  have F : Fx κ cJ0_coder_7d493 "java/lang/String" := F
  change V κ ρ 0 0 μ (FJ0_coder_7d493 aC j μ) 0 [(0, .ref (aC (130 + j)))] []
  have SGa := Fx_SGa F hκ _ rfl
  unfold FJ0_coder_7d493
  refine V_gd (fun g => ?_)
  have Sj := SGa.2.2.2.2.2.2.1 j g
  refine V_gst F SGa.2.2.2.2.2.2.2.1 q1038 dJ0_coder_7d493_0 ?_
  refine V_skip_eq (tgt := 13) F dJ0_coder_7d493_3 (by decide) (by decide) ?_
  refine V_aload_n F dJ0_coder_7d493_6 rfl 0 rfl ?_
  refine V_gof F Sj.2.1 q1726 dJ0_coder_7d493_7 ?_
  refine V_goto (tgt := 14) F dJ0_coder_7d493_10 (by decide) ?_
  exact V_zret F M dJ0_coder_7d493_14 rfl (by decide) (by decide) (by decide)
abbrev rmJ0_length_8abf5 : Room := { frames := 1, cells := 0, slots := 0, locals := 20 }
def FJ0_length_8abf5 (aC : Nat → Nat) (j : Nat) (μ : Me) : Rs Int32 := gd (j < 15) (bnd (FJ0_coder_7d493 aC j μ) (fun z μ1 => rt (nI (strT.getD j []).length >>> (z &&& 31)) μ1))
set_option maxHeartbeats 4000000 in
set_option maxRecDepth 100000 in
theorem metJ0_length_8abf5 {l : Launch} {s0 : State} {D : va_G} {aC aC9 : Nat → ClassId} (hG : Gl s0 D aC9) (hl : l.stackTraces = false) (e9 : aC9 = aC) (j : Nat) (μ : Me) : Ct l yJ0_length_8abf5 (ws_ yJ0_length_8abf5 cJ0_length_8abf5 1 (some .int)) rmJ0_length_8abf5 s0 D aC9 (fun r : Int32 => some (.int r)) [.ref (aC (130 + j))] μ (FJ0_length_8abf5 aC j μ) := by
  refine Ct_of hG hl (by decide +kernel) (Nat.le_of_ble_eq_true rfl) (fun κ ρ hNL F M hκ => ?_)
  have hκ := hκ.trans e9
  have F : Fx κ cJ0_length_8abf5 "java/lang/String" := F
  change V κ ρ 0 0 μ (FJ0_length_8abf5 aC j μ) 0 [(0, .ref (aC (130 + j)))] []
  have SGa := Fx_SGa F hκ _ rfl
  unfold FJ0_length_8abf5
  refine V_gd (fun g => ?_)
  have Sj := SGa.2.2.2.2.2.2.1 j g
  refine V_aload_n F dJ0_length_8abf5_0 rfl 0 rfl ?_
  refine V_gof F Sj.2.2.1 q1725 dJ0_length_8abf5_1 ?_
  refine V_tlen F Sj.2.2.2 dJ0_length_8abf5_4 ?_
  refine V_aload_n F dJ0_length_8abf5_5 rfl 0 rfl ?_
  refine V_cO (As := []) (rest := [.int (nI (strT.getD j []).length)]) (C := "java/lang/String") (N := 0) F M Sj.1 (metJ0_coder_7d493 (Fx_G F) (Fx_l F) hκ j μ) q1037 q78 q1034 q1035 q1036 ⟨by decide +kernel, by decide +kernel, by decide +kernel⟩ rfl ⟨by decide, by decide⟩ (Nat.le_of_ble_eq_true rfl) dJ0_length_8abf5_6 (by decide) (by decide) (fun z μ1 => ?_)
  change V κ ρ 0 0 μ1 _ 9 [(0, .ref (aC (130 + j)))] [.int z, .int (nI (strT.getD j []).length)]
  refine V_ishr F dJ0_length_8abf5_9 ?_
  exact V_iret F M dJ0_length_8abf5_10 rfl (by decide) (by decide)
abbrev rmJ0_isLatin1_aae02 : Room := { frames := 0, cells := 0, slots := 0, locals := 0 }
def FJ0_isLatin1_aae02 (aC : Nat → Nat) (j : Nat) (μ : Me) : Rs Int32 := gd (j < 15) (rt 1 μ)
set_option maxHeartbeats 4000000 in
set_option maxRecDepth 100000 in
theorem metJ0_isLatin1_aae02 {l : Launch} {s0 : State} {D : va_G} {aC aC9 : Nat → ClassId} (hG : Gl s0 D aC9) (hl : l.stackTraces = false) (e9 : aC9 = aC) (j : Nat) (μ : Me) : Ct l yJ0_isLatin1_aae02 (ws_ yJ0_isLatin1_aae02 cJ0_isLatin1_aae02 1 (some .boolean)) rmJ0_isLatin1_aae02 s0 D aC9 (fun r : Int32 => some (.int r)) [.ref (aC (130 + j))] μ (FJ0_isLatin1_aae02 aC j μ) := by
  refine Ct_of hG hl (by decide +kernel) (Nat.le_of_ble_eq_true rfl) (fun κ ρ hNL F M hκ => ?_)
  have hκ := hκ.trans e9
  have F : Fx κ cJ0_isLatin1_aae02 "java/lang/String" := F
  change V κ ρ 0 0 μ (FJ0_isLatin1_aae02 aC j μ) 0 [(0, .ref (aC (130 + j)))] []
  have SGa := Fx_SGa F hκ _ rfl
  unfold FJ0_isLatin1_aae02
  refine V_gd (fun g => ?_)
  have Sj := SGa.2.2.2.2.2.2.1 j g
  refine V_gst F SGa.2.2.2.2.2.2.2.1 q1038 dJ0_isLatin1_aae02_0 ?_
  refine V_skip_eq (tgt := 17) F dJ0_isLatin1_aae02_3 (by decide) (by decide) ?_
  refine V_aload_n F dJ0_isLatin1_aae02_6 rfl 0 rfl ?_
  refine V_gof F Sj.2.1 q1726 dJ0_isLatin1_aae02_7 ?_
  refine V_skip_ne (tgt := 17) F dJ0_isLatin1_aae02_10 (by decide) rfl ?_
  refine V_iconst (v := 1) F dJ0_isLatin1_aae02_13 (by decide) ?_
  refine V_goto (tgt := 18) F dJ0_isLatin1_aae02_14 (by decide) ?_
  exact V_zret F M dJ0_isLatin1_aae02_18 rfl (by decide) (by decide) (by decide)
abbrev rmJ3_checkIndex_8e157 : Room := { frames := 0, cells := 0, slots := 0, locals := 0 }
def FJ3_checkIndex_8e157 (p1 p2 : Int32) (μ : Me) : Rs Int32 := if p1 < 0 then none else if p1 < p2 then rt p1 μ else none
theorem metJ3_checkIndex_8e157 {l : Launch} {s0 : State} {D : va_G} {aC : Nat → ClassId} (hG : Gl s0 D aC) (hl : l.stackTraces = false) (p1 p2 : Int32) (v : Value) (hv : v = .null ∨ ∃ a, v = .ref a) (μ : Me) : Ct l yJ3_checkIndex_8e157 (ws_ yJ3_checkIndex_8e157 cJ3_checkIndex_8e157 3 (some .int)) rmJ3_checkIndex_8e157 s0 D aC (fun r : Int32 => some (.int r)) [.int p1, .int p2, v] μ (FJ3_checkIndex_8e157 p1 p2 μ) := by
  have hlg : (lg_sl [.int p1, .int p2, v]).length ≤ 3 := by rcases hv with rfl | ⟨a, rfl⟩ <;> exact Nat.le_of_ble_eq_true rfl
  refine Ct_of hG hl (by decide +kernel) hlg (fun κ ρ hNL F M hκ => ?_)
  have F : Fx κ cJ3_checkIndex_8e157 "jdk/internal/util/Preconditions" := F
  refine V_sub (lv' := [(0, .int p1), (1, .int p2)]) [0, 1] (by rcases hv with rfl | ⟨a, rfl⟩ <;> rfl) ?_
  unfold FJ3_checkIndex_8e157
  refine V_iload_n F dJ3_checkIndex_8e157_0 rfl 0 rfl ?_
  refine V_if_lt (tgt := 9) F dJ3_checkIndex_8e157_1 (by decide) (fun c1 => V_none) (fun c2 => ?_)
  refine V_iload_n F dJ3_checkIndex_8e157_4 rfl 0 rfl ?_
  refine V_iload_n F dJ3_checkIndex_8e157_5 rfl 1 rfl ?_
  refine V_icmp_lt (tgt := 16) F dJ3_checkIndex_8e157_6 (by decide) (fun c1 => ?_) (fun c2 => V_none)
  refine V_iload_n F dJ3_checkIndex_8e157_16 rfl 0 rfl ?_
  exact V_iret F M dJ3_checkIndex_8e157_17 rfl (by decide) (by decide)
abbrev rmJ0_checkIndex_df160 : Room := { frames := 1, cells := 0, slots := 0, locals := 22 }
def FJ0_checkIndex_df160 (p1 p2 : Int32) (μ : Me) : Rs Unit := bnd (FJ3_checkIndex_8e157 p1 p2 μ) (fun z μ1 => rt () μ1)
set_option maxHeartbeats 4000000 in
theorem metJ0_checkIndex_df160 {l : Launch} {s0 : State} {D : va_G} {aC : Nat → ClassId} (hG : Gl s0 D aC) (hl : l.stackTraces = false) (p1 p2 : Int32) (μ : Me) : Ct l yJ0_checkIndex_df160 (ws_ yJ0_checkIndex_df160 cJ0_checkIndex_df160 2 none) rmJ0_checkIndex_df160 s0 D aC (fun _ : Unit => none) [.int p1, .int p2] μ (FJ0_checkIndex_df160 p1 p2 μ) := by
  refine Ct_of hG hl (by decide +kernel) (Nat.le_of_ble_eq_true rfl) (fun κ ρ hNL F M hκ => ?_)
  have F : Fx κ cJ0_checkIndex_df160 "java/lang/String" := F
  change V κ ρ 0 0 μ (FJ0_checkIndex_df160 p1 p2 μ) 0 [(0, .int p1), (1, .int p2)] []
  have SGa := Fx_SGa F hκ _ rfl
  unfold FJ0_checkIndex_df160
  refine V_iload_n F dJ0_checkIndex_df160_0 rfl 0 rfl ?_
  refine V_iload_n F dJ0_checkIndex_df160_1 rfl 1 rfl ?_
  rcases SGa.2.2.2.2.2.2.2.2.1 with hz | ⟨t, hz⟩
  · refine V_gst F hz q1054 dJ0_checkIndex_df160_2 ?_
    refine V_cS (As := [.int p1, .int p2, .null]) (rest := []) (N := 3) F M (metJ3_checkIndex_8e157 (Fx_G F) (Fx_l F) p1 p2 (.null) (Or.inl rfl) μ) q1058 q88 q1056 q1057 ⟨by decide +kernel, by decide +kernel, by decide +kernel⟩ rfl ⟨by decide, by decide⟩ (Nat.le_of_ble_eq_true rfl) dJ0_checkIndex_df160_5 (by decide) (by decide) (fun z μ1 => ?_)
    change V κ ρ 0 0 μ1 _ 8 [(0, .int p1), (1, .int p2)] [.int z]
    refine V_pop F dJ0_checkIndex_df160_8 rfl ?_
    exact V_vret F M dJ0_checkIndex_df160_9 rfl (by decide) (by decide)
  · refine V_gst F hz q1054 dJ0_checkIndex_df160_2 ?_
    refine V_cS (As := [.int p1, .int p2, .ref t]) (rest := []) (N := 3) F M (metJ3_checkIndex_8e157 (Fx_G F) (Fx_l F) p1 p2 (.ref t) (Or.inr ⟨t, rfl⟩) μ) q1058 q88 q1056 q1057 ⟨by decide +kernel, by decide +kernel, by decide +kernel⟩ rfl ⟨by decide, by decide⟩ (Nat.le_of_ble_eq_true rfl) dJ0_checkIndex_df160_5 (by decide) (by decide) (fun z μ1 => ?_)
    change V κ ρ 0 0 μ1 _ 8 [(0, .int p1), (1, .int p2)] [.int z]
    refine V_pop F dJ0_checkIndex_df160_8 rfl ?_
    exact V_vret F M dJ0_checkIndex_df160_9 rfl (by decide) (by decide)
/-- the signs are plain -/
theorem strT_ok : ∀ j, j < 15 → ∀ i, i < (strT.getD j []).length → ((((strT.getD j []).getD i 0) &&& 255).toUInt32 % 65536).toInt32 = (strT.getD j []).getD i 0 ∧ narrow .char (.int ((strT.getD j []).getD i 0)) = .int ((strT.getD j []).getD i 0) ∧ fits .byte (.int ((strT.getD j []).getD i 0)) = true := by decide +kernel
abbrev rmJ1_charAt_3b067 : Room := { frames := 2, cells := 0, slots := 0, locals := 43 }
def FJ1_charAt_3b067 (aC : Nat → Nat) (j : Nat) (p2 : Int32) (μ : Me) : Rs Int32 := gd (j < 15) (bnd (FJ0_checkIndex_df160 p2 (nI (strT.getD j []).length) μ) (fun _ μ1 => gd (inb p2 (strT.getD j []).length = true) (rt ((strT.getD j []).getD p2.toNatClampNeg 0) μ1)))
set_option maxHeartbeats 4000000 in
set_option maxRecDepth 100000 in
theorem metJ1_charAt_3b067 {l : Launch} {s0 : State} {D : va_G} {aC aC9 : Nat → ClassId} (hG : Gl s0 D aC9) (hl : l.stackTraces = false) (e9 : aC9 = aC) (j : Nat) (p2 : Int32) (μ : Me) : Ct l yJ1_charAt_3b067 (ws_ yJ1_charAt_3b067 cJ1_charAt_3b067 2 (some .char)) rmJ1_charAt_3b067 s0 D aC9 (fun r : Int32 => some (.int r)) [.ref (aC (150 + j)), .int p2] μ (FJ1_charAt_3b067 aC j p2 μ) := by
  refine Ct_of hG hl (by decide +kernel) (Nat.le_of_ble_eq_true rfl) (fun κ ρ hNL F M hκ => ?_)
  have hκ := hκ.trans e9
  have F : Fx κ cJ1_charAt_3b067 "java/lang/StringLatin1" := F
  change V κ ρ 0 0 μ (FJ1_charAt_3b067 aC j p2 μ) 0 [(0, .ref (aC (150 + j))), (1, .int p2)] []
  have SGa := Fx_SGa F hκ _ rfl
  unfold FJ1_charAt_3b067
  refine V_gd (fun g => ?_)
  have Sj := SGa.2.2.2.2.2.2.1 j g
  refine V_iload_n F dJ1_charAt_3b067_0 rfl 1 rfl ?_
  refine V_aload_n F dJ1_charAt_3b067_1 rfl 0 rfl ?_
  refine V_tlen F Sj.2.2.2 dJ1_charAt_3b067_2 ?_
  refine V_cS (As := [.int p2, .int (nI (strT.getD j []).length)]) (rest := []) (N := 2) F M (metJ0_checkIndex_df160 (Fx_G F) (Fx_l F) p2 (nI (strT.getD j []).length) μ) q1053 q78 q1051 q1052 ⟨by decide +kernel, by decide +kernel, by decide +kernel⟩ rfl ⟨by decide, by decide⟩ (Nat.le_of_ble_eq_true rfl) dJ1_charAt_3b067_3 (by decide) (by decide) (fun z μ1 => ?_)
  change V κ ρ 0 0 μ1 _ 6 [(0, .ref (aC (150 + j))), (1, .int p2)] []
  refine V_gd (fun g2 => ?_)
  have hin := inb_ok g2
  have hlt : p2.toNatClampNeg < (strT.getD j []).length := Nat.not_le.mp fun q => hin (Or.inr q)
  obtain ⟨o1, o2, o3⟩ := strT_ok j g p2.toNatClampNeg hlt
  refine V_aload_n F dJ1_charAt_3b067_6 rfl 0 rfl ?_
  refine V_iload_n F dJ1_charAt_3b067_7 rfl 1 rfl ?_
  refine V_tb F Sj.2.2.2 g2 dJ1_charAt_3b067_8 ?_
  refine V_sipush (v := 255) F dJ1_charAt_3b067_9 (by decide) ?_
  refine V_iand F dJ1_charAt_3b067_12 ?_
  refine V_i2c F dJ1_charAt_3b067_13 ?_
  rw [o1]
  exact V_zret F M dJ1_charAt_3b067_14 rfl o2 (by decide) (by decide)
abbrev rmJ0_charAt_5068e : Room := { frames := 3, cells := 0, slots := 0, locals := 64 }
def FJ0_charAt_5068e (aC : Nat → Nat) (j : Nat) (p1 : Int32) (μ : Me) : Rs Int32 := gd (j < 15) (bnd (FJ0_isLatin1_aae02 aC j μ) (fun z μ1 => if z = 0 then none else bnd (FJ1_charAt_3b067 aC j p1 μ1) (fun c μ2 => gd (vp_nar .char c = c) (rt c μ2))))
set_option maxHeartbeats 4000000 in
set_option maxRecDepth 100000 in
theorem metJ0_charAt_5068e {l : Launch} {s0 : State} {D : va_G} {aC aC9 : Nat → ClassId} (hG : Gl s0 D aC9) (hl : l.stackTraces = false) (e9 : aC9 = aC) (j : Nat) (p1 : Int32) (μ : Me) : Ct l yJ0_charAt_5068e (ws_ yJ0_charAt_5068e cJ0_charAt_5068e 2 (some .char)) rmJ0_charAt_5068e s0 D aC9 (fun r : Int32 => some (.int r)) [.ref (aC (130 + j)), .int p1] μ (FJ0_charAt_5068e aC j p1 μ) := by
  refine Ct_of hG hl (by decide +kernel) (Nat.le_of_ble_eq_true rfl) (fun κ ρ hNL F M hκ => ?_)
  have hκ := hκ.trans e9
  have F : Fx κ cJ0_charAt_5068e "java/lang/String" := F
  change V κ ρ 0 0 μ (FJ0_charAt_5068e aC j p1 μ) 0 [(0, .ref (aC (130 + j))), (1, .int p1)] []
  have SGa := Fx_SGa F hκ _ rfl
  unfold FJ0_charAt_5068e
  refine V_gd (fun g => ?_)
  have Sj := SGa.2.2.2.2.2.2.1 j g
  refine V_aload_n F dJ0_charAt_5068e_0 rfl 0 rfl ?_
  refine V_cO (As := []) (rest := []) (C := "java/lang/String") (N := 0) F M Sj.1 (metJ0_isLatin1_aae02 (Fx_G F) (Fx_l F) hκ j μ) q1047 q78 q1044 q1045 q1046 ⟨by decide +kernel, by decide +kernel, by decide +kernel⟩ rfl ⟨by decide, by decide⟩ (Nat.le_of_ble_eq_true rfl) dJ0_charAt_5068e_1 (by decide) (by decide) (fun z μ1 => ?_)
  change V κ ρ 0 0 μ1 _ 4 [(0, .ref (aC (130 + j))), (1, .int p1)] [.int z]
  refine V_if_eq (tgt := 16) F dJ0_charAt_5068e_4 (by decide) (fun c1 => V_none) (fun c2 => ?_)
  refine V_aload_n F dJ0_charAt_5068e_7 rfl 0 rfl ?_
  refine V_gof F Sj.2.2.1 q1725 dJ0_charAt_5068e_8 ?_
  refine V_iload_n F dJ0_charAt_5068e_11 rfl 1 rfl ?_
  refine V_cS (As := [.ref (aC (150 + j)), .int p1]) (rest := []) (N := 2) F M (metJ1_charAt_3b067 (Fx_G F) (Fx_l F) hκ j p1 μ1) q1050 q87 q1048 q1049 ⟨by decide +kernel, by decide +kernel, by decide +kernel⟩ rfl ⟨by decide, by decide⟩ (Nat.le_of_ble_eq_true rfl) dJ0_charAt_5068e_12 (by decide) (by decide) (fun ch μ2 => ?_)
  change V κ ρ 0 0 μ2 _ 15 [(0, .ref (aC (130 + j))), (1, .int p1)] [.int ch]
  refine V_gd (fun g2 => ?_)
  exact V_zret F M dJ0_charAt_5068e_15 rfl (nar_c g2) (by decide) (by decide)
theorem q1682W : Cond.native ⟨"java/lang/Float", "floatToRawIntBits", "(F)I"⟩ ∈ WA := List.mem_filter.mpr ⟨q1682, by decide +kernel⟩
section VS
variable {α β : Type} {κ : Cx} {ρ : (α ⊕ String) × Me} {k n : Nat} {μ : Me} {x : Rs α} {pc : Nat} {lv : List (Nat × Value)} {st : List Value} {cc : ByteArray} {own : String} {cv : α → Option Value} {rm : Room} {tb : List ExceptionTableEntry} {nm : String} {ret ret2 : Option FieldType} {aC : Nat → Nat}
abbrev vref (aC : Nat → Nat) (r : Option Nat) : Value := va_rf (r.map (fun k => aC (110 + k)))
theorem V_opv {o : Option Nat} {x1 : Rs α} {x2 : Nat → Rs α} (h1 : V κ ρ k n μ x1 pc lv (.null :: st)) (h2 : ∀ a, V κ ρ k n μ (x2 a) pc lv (.ref (aC (110 + a)) :: st)) : V κ ρ k n μ (op_ o x1 x2) pc lv (vref aC o :: st) := by
  cases o with
  | none => exact h1
  | some a => exact h2 a
/-- which verb lies at v -/
def vx (aC : Nat → Nat) (v : Nat) : Option Nat := (List.range 11).find? (fun k => aC (110 + k) == v)
def aW {γ : Type} (aC : Nat → Nat) (μ : Me) (a : Nat) (i : Int32) (K : Nat → Rs γ) : Rs γ := match ar μ a 6 with
  | some (n, .inr (.inr (.inr (.inr f)))) => if inb i n = true then (match f i.toNatClampNeg with | some v => (match vx aC v with | some k => K k | none => none) | none => none) else none
  | _ => none
theorem V_aW {a : Nat} {i : Int32} {K : Nat → Rs α} (F : Fx κ cc own) (d : decode cc pc = .ok (.aaload, 1)) (kk : ∀ v, V κ ρ k n μ (K v) (pc + 1) lv (.ref (aC (110 + v)) :: st)) : V κ ρ k n μ (aW aC μ a i K) pc lv (.int i :: .ref a :: st) := by
  have h : V κ ρ k n μ (aR μ 6 a i (fun v => match vx aC v with | some k => K k | none => none)) pc lv (.int i :: .ref a :: st) := by
    refine V_aR F (by decide) d (fun v => ?_)
    split
    · rename_i j hj
      have h1 := List.find?_some hj
      have h2 : aC (110 + j) = v := by simpa using h1
      rw [← h2]
      exact kk j
    · exact V_none
  unfold aR at h
  unfold aW
  exact h
def sW {γ : Type} (aC : Nat → Nat) (μ : Me) (a : Nat) (i : Int32) (v : Nat) (K : Me → Rs γ) : Rs γ := match ar μ a 6 with
  | some (n, .inr (.inr (.inr (.inr f)))) => if inb i n = true ∧ v < 11 then K (mset μ a (.inl (6, n, .inr (.inr (.inr (.inr (va_up f i.toNatClampNeg (some (aC (110 + v)))))))))) else none
  | _ => none
theorem V_sW {a v : Nat} {i : Int32} {K : Me → Rs α} (F : Fx κ cc own) (hκ : κ.2.2.2.2.2.2.2.2.2.2.2.2.2.1 = aC) (d : decode cc pc = .ok (.aastore, 1)) (kk : ∀ μ', V κ ρ k n μ' (K μ') (pc + 1) lv st) : V κ ρ k n μ (sW aC μ a i v K) pc lv (.ref (aC (110 + v)) :: .int i :: .ref a :: st) := by
  unfold sW
  split
  · rename_i N f hf
    split
    · rename_i hi
      obtain ⟨hi, hv⟩ := hi
      have hi := inb_ok hi
      obtain ⟨h0, h1⟩ := ar_some hf
      have kk := kk (mset μ a (.inl (6, N, .inr (.inr (.inr (.inr (va_up f i.toNatClampNeg (some (aC (110 + v))))))))))
      have SGa := Fx_SGa F hκ _ rfl
      obtain ⟨p, l, e, R, s, m, args, below, meth, c, Q, s0, D, aC', nL⟩ := κ
      have hκ : aC' = aC := hκ
      subst hκ
      intro hx H locs ls hM hloc hl
      have hP := VM_get hM h0 h1
      have hK := Fx_K F
      have hlt : i.toNatClampNeg < N := Nat.not_le.mp fun q => hi (Or.inr q)
      have hn0 : ¬ i < 0 := fun q => hi (Or.inl q)
      have hal := F.2.2.2.2.2.2.1.alike
      obtain ⟨cellV, g1, g2, g3, -⟩ := ((SGa.2.2.2.2.1 v hv).1.kept (fun q h _ => hM.2.1 q h)).moved hal
      obtain ⟨cV, kV, c1, c2, c3⟩ := SGa.2.2.2.2.2.2.2.2.2
      obtain ⟨kC, hkC, -⟩ := hal.2.2 _ _ c2
      obtain ⟨kA, comp, k1, k2, k3, -⟩ := (hK.2 6 _ rfl).2
      have e1 : s.vm.findClass "DroneLightShow$Verb" = some cV := by rw [hal.findClass]; exact c1
      have hcomp : comp = cV := Option.some.inj (k3.symm.trans e1)
      subst hcomp
      have hcell : cellV.cls = comp := Option.some.inj (g3.symm.trans e1)
      refine W.aast F.1 F.2.1 (hP 0 _ rfl) (fun q h => by cases h) (fun h => by cases h) k1 k2 rfl hkC ⟨hn0, by show _ < (arrV _ _ _).slots.size; rw [arrV_size]; exact hlt⟩ g1 (fun q h => by rw [h] at g2; cases g2) (by rw [hcell]; exact hkC) (by rw [hcell, hal.assignable]; exact c3) rfl rfl d fun H1 e z oq => ?_
      refine kk hx H1 _ ls (VM_set hM h0 h1 z oq ?_) (locs_put hM h0 h1 hloc) hl
      show H1[a]? = some (vp_cell _ _)
      rw [e]
      rw [vp_cell_q, vp_cell_q, arrV_store]
      congr 2
      funext q
      by_cases hq : q = i.toNatClampNeg
      · subst hq
        simp [updV, va_up, va_rf]
      · simp [updV, va_up, hq]
    · exact V_none
  · exact V_none
/-- a verb's number: Enum.ordinal -/
theorem V_ord {v idx : Nat} (F : Fx κ cc own) (M : Mx κ cv ρ rm ret2 [] nm) (hκ : κ.2.2.2.2.2.2.2.2.2.2.2.2.2.1 = aC) (hv : v < 11) (hl : Cond.methodLink own idx ⟨"DroneLightShow$Verb", "ordinal", "()I"⟩ ∈ WA) (d : decode cc pc = .ok (.invokevirtual idx, 3)) (hf : 1 ≤ rm.frames) (hlo : (st.map fun v => v.category).sum + 12 ≤ rm.locals) (hkc : k ≤ rm.cells) (hns : n ≤ rm.slots) (kk : V κ ρ k n μ x (pc + 3) lv (.int (nI v) :: st)) : V κ ρ k n μ x pc lv (.ref (aC (110 + v)) :: st) := by
  have SGa := Fx_SGa F hκ _ rfl
  exact V_ord0 F M (SGa.2.2.2.2.1 v hv).1 (SGa.2.2.2.2.1 v hv).2.1 hl d hf hlo hkc hns kk
end VS
