/-! the fields of each class are among the words -/
def FU : Nat := 4096
theorem hinX1 : ∀ w ∈ u_ws RX1 TX1 4, w ∈ WA := by decide +kernel
theorem hinX2 : ∀ w ∈ u_ws RX2 TX2 7, w ∈ WA := by decide +kernel
theorem hinX3 : ∀ w ∈ u_ws RX3 TX3 3, w ∈ WA := by decide +kernel
theorem hinX4 : ∀ w ∈ u_ws RX4 TX4 10, w ∈ WA := by decide +kernel
theorem hinX5 : ∀ w ∈ u_ws RX5 TX5 6, w ∈ WA := by decide +kernel
theorem hinX7 : ∀ w ∈ u_ws RX7 TX7 11, w ∈ WA := by decide +kernel
theorem hinX8 : ∀ w ∈ u_ws RX8 TX8 22, w ∈ WA := by decide +kernel
theorem dfX1 : ∀ j, j < 4 → defaultValue (tyX1 j) = vp_V [.null, .null, .null, .int 0] j := by
  intro j hj
  match j, hj with
  | 0, _ => rfl
  | 1, _ => rfl
  | 2, _ => rfl
  | 3, _ => rfl
  | j + 4, h => exact absurd h (by omega)
theorem dfX2 : ∀ j, j < 7 → defaultValue (tyX2 j) = vp_V [.null, .null, .null, .null, .null, .null, .int 0] j := by
  intro j hj
  match j, hj with
  | 0, _ => rfl
  | 1, _ => rfl
  | 2, _ => rfl
  | 3, _ => rfl
  | 4, _ => rfl
  | 5, _ => rfl
  | 6, _ => rfl
  | j + 7, h => exact absurd h (by omega)
theorem dfX3 : ∀ j, j < 3 → defaultValue (tyX3 j) = vp_V [.null, .int 0, .int 0] j := by
  intro j hj
  match j, hj with
  | 0, _ => rfl
  | 1, _ => rfl
  | 2, _ => rfl
  | j + 3, h => exact absurd h (by omega)
theorem dfX4 : ∀ j, j < 10 → defaultValue (tyX4 j) = vp_V [.null, .null, .null, .long 0, .int 0, .int 0, .int 0, .int 0, .int 0, .int 0] j := by
  intro j hj
  match j, hj with
  | 0, _ => rfl
  | 1, _ => rfl
  | 2, _ => rfl
  | 3, _ => rfl
  | 4, _ => rfl
  | 5, _ => rfl
  | 6, _ => rfl
  | 7, _ => rfl
  | 8, _ => rfl
  | 9, _ => rfl
  | j + 10, h => exact absurd h (by omega)
theorem dfX5 : ∀ j, j < 6 → defaultValue (tyX5 j) = vp_V [.null, .int 0, .null, .null, .int 0, .int 0] j := by
  intro j hj
  match j, hj with
  | 0, _ => rfl
  | 1, _ => rfl
  | 2, _ => rfl
  | 3, _ => rfl
  | 4, _ => rfl
  | 5, _ => rfl
  | j + 6, h => exact absurd h (by omega)
theorem dfX7 : ∀ j, j < 11 → defaultValue (tyX7 j) = vp_V [.null, .null, .null, .int 0, .null, .null, .int 0, .int 0, .null, .int 0, .null] j := by
  intro j hj
  match j, hj with
  | 0, _ => rfl
  | 1, _ => rfl
  | 2, _ => rfl
  | 3, _ => rfl
  | 4, _ => rfl
  | 5, _ => rfl
  | 6, _ => rfl
  | 7, _ => rfl
  | 8, _ => rfl
  | 9, _ => rfl
  | 10, _ => rfl
  | j + 11, h => exact absurd h (by omega)
theorem dfX8 : ∀ j, j < 22 → defaultValue (tyX8 j) = vp_V [.int 0, .int 0, .int 0, .int 0, .int 0, .null, .null, .null, .null, .null, .null, .null, .null, .null, .null, .null, .int 0, .int 0, .int 0, .int 0, .int 0, .int 0] j := by
  intro j hj
  match j, hj with
  | 0, _ => rfl
  | 1, _ => rfl
  | 2, _ => rfl
  | 3, _ => rfl
  | 4, _ => rfl
  | 5, _ => rfl
  | 6, _ => rfl
  | 7, _ => rfl
  | 8, _ => rfl
  | 9, _ => rfl
  | 10, _ => rfl
  | 11, _ => rfl
  | 12, _ => rfl
  | 13, _ => rfl
  | 14, _ => rfl
  | 15, _ => rfl
  | 16, _ => rfl
  | 17, _ => rfl
  | 18, _ => rfl
  | 19, _ => rfl
  | 20, _ => rfl
  | 21, _ => rfl
  | j + 22, h => exact absurd h (by omega)
/-! DroneLightShow$CueList.<init>()V -/
abbrev rmX1_init : Room := { frames := 1, cells := 3, slots := 36, locals := 25 }
def FX1_init (a0 : Nat) (μ : Me) : Rs Unit :=
  (nw μ (.inl (0, (12, .inl (fun _ => 0)))) (fun a1 μ2 => (pf μ2 a0 2 0 (.ref a1) (fun μ3 => (nw μ3 (.inl (0, (12, .inl (fun _ => 0)))) (fun a4 μ5 => (pf μ5 a0 2 1 (.ref a4) (fun μ6 => (nw μ6 (.inl (0, (12, .inl (fun _ => 0)))) (fun a7 μ8 => (pf μ8 a0 2 2 (.ref a7) (fun μ9 => (rt () μ9)))))))))))))
set_option maxHeartbeats 4000000 in
set_option maxRecDepth 100000 in
theorem metX1_init {l : Launch} {s0 : State} {D : va_G} {aC : Nat → ClassId} (hG : Gl s0 D aC) (hl : l.stackTraces = false) (a0 : Nat) (μ : Me) : Ct l yX1_init (ws_ yX1_init cX1_init 1 none) rmX1_init s0 D aC (fun _ : Unit => none) [.ref a0] μ (FX1_init a0 μ) := by
  refine Ct_of hG hl (by decide +kernel) (Nat.le_of_ble_eq_true rfl) (fun κ ρ hNL F M hκ => ?_)
  have F : Fx κ cX1_init RX1 := F
  change V κ ρ 0 0 μ (FX1_init a0 μ) 0 [(0, .ref a0)] []
  unfold FX1_init
  refine V_aload_n F dX1_init_0 rfl 0 rfl ?_
  refine V_oinit F M q156 q98 q99 dX1_init_1 (by decide) (Nat.le_of_ble_eq_true rfl) ?_
  refine V_aload_n F dX1_init_4 rfl 0 rfl ?_
  refine V_bipush (v := 12) F dX1_init_5 (by decide) ?_
  refine V_na (N := 12) (ty := .int) F (Mx_R M) q149 rfl (by decide) (fun _ => rfl) (fun _ => rfl) (by decide) (by decide) (by decide) (fun _ _ => rfl) dX1_init_7 (by decide) (by decide) (fun a1 μ2 => ?_)
  change V κ ρ 1 12 μ2 _ 9 [(0, .ref a0)] [.ref a1, .ref a0]
  refine V_pfF (ci := 2) (k9 := 0) (C := RX1) (T := TX1) (N := 4) (ty := tyX1) F rfl hinX1 tyX1_ok nmX1 (by decide) q157 rfl (Mx_nm M) rfl rfl rfl dX1_init_9 (fun μ3 => ?_)
  refine V_aload_n F dX1_init_12 rfl 0 rfl ?_
  refine V_bipush (v := 12) F dX1_init_13 (by decide) ?_
  refine V_na (N := 12) (ty := .int) F (Mx_R M) q149 rfl (by decide) (fun _ => rfl) (fun _ => rfl) (by decide) (by decide) (by decide) (fun _ _ => rfl) dX1_init_15 (by decide) (by decide) (fun a4 μ5 => ?_)
  change V κ ρ 2 24 μ5 _ 17 [(0, .ref a0)] [.ref a4, .ref a0]
  refine V_pfF (ci := 2) (k9 := 1) (C := RX1) (T := TX1) (N := 4) (ty := tyX1) F rfl hinX1 tyX1_ok nmX1 (by decide) q158 rfl (Mx_nm M) rfl rfl rfl dX1_init_17 (fun μ6 => ?_)
  refine V_aload_n F dX1_init_20 rfl 0 rfl ?_
  refine V_bipush (v := 12) F dX1_init_21 (by decide) ?_
  refine V_na (N := 12) (ty := .int) F (Mx_R M) q149 rfl (by decide) (fun _ => rfl) (fun _ => rfl) (by decide) (by decide) (by decide) (fun _ _ => rfl) dX1_init_23 (by decide) (by decide) (fun a7 μ8 => ?_)
  change V κ ρ 3 36 μ8 _ 25 [(0, .ref a0)] [.ref a7, .ref a0]
  refine V_pfF (ci := 2) (k9 := 2) (C := RX1) (T := TX1) (N := 4) (ty := tyX1) F rfl hinX1 tyX1_ok nmX1 (by decide) q159 rfl (Mx_nm M) rfl rfl rfl dX1_init_25 (fun μ9 => ?_)
  exact V_vret F M dX1_init_28 rfl (by decide) (by decide)
/-! DroneLightShow$CueList.put(IIII)V -/
abbrev rmX1_put : Room := { frames := 0, cells := 0, slots := 0, locals := 0 }
def FX1_put (a0 : Nat) (p1 : Int32) (p2 : Int32) (p3 : Int32) (p4 : Int32) (μ : Me) : Rs Unit :=
  (gR μ a0 2 0 (fun x1 => (sI μ x1 p1 p2 (fun μ2 => (gR μ2 a0 2 1 (fun x3 => (sI μ2 x3 p1 p3 (fun μ4 => (gR μ4 a0 2 2 (fun x5 => (sI μ4 x5 p1 p4 (fun μ6 => (rt () μ6)))))))))))))
set_option maxHeartbeats 4000000 in
set_option maxRecDepth 100000 in
theorem metX1_put {l : Launch} {s0 : State} {D : va_G} {aC : Nat → ClassId} (hG : Gl s0 D aC) (hl : l.stackTraces = false) (a0 : Nat) (p1 : Int32) (p2 : Int32) (p3 : Int32) (p4 : Int32) (μ : Me) : Ct l yX1_put (ws_ yX1_put cX1_put 5 none) rmX1_put s0 D aC (fun _ : Unit => none) [.ref a0, .int p1, .int p2, .int p3, .int p4] μ (FX1_put a0 p1 p2 p3 p4 μ) := by
  refine Ct_of hG hl (by decide +kernel) (Nat.le_of_ble_eq_true rfl) (fun κ ρ hNL F M hκ => ?_)
  have F : Fx κ cX1_put RX1 := F
  change V κ ρ 0 0 μ (FX1_put a0 p1 p2 p3 p4 μ) 0 [(0, .ref a0), (1, .int p1), (2, .int p2), (3, .int p3), (4, .int p4)] []
  unfold FX1_put
  refine V_aload_n F dX1_put_0 rfl 0 rfl ?_
  refine V_gR (ci := 2) (k9 := 0) (C := RX1) (T := TX1) (N := 4) F rfl hinX1 (by decide) q157 dX1_put_1 (fun x1 => ?_)
  refine V_iload_n F dX1_put_4 rfl 1 rfl ?_
  refine V_iload_n F dX1_put_5 rfl 2 rfl ?_
  refine V_sI F dX1_put_6 (fun μ2 => ?_)
  refine V_aload_n F dX1_put_7 rfl 0 rfl ?_
  refine V_gR (ci := 2) (k9 := 1) (C := RX1) (T := TX1) (N := 4) F rfl hinX1 (by decide) q158 dX1_put_8 (fun x3 => ?_)
  refine V_iload_n F dX1_put_11 rfl 1 rfl ?_
  refine V_iload_n F dX1_put_12 rfl 3 rfl ?_
  refine V_sI F dX1_put_13 (fun μ4 => ?_)
  refine V_aload_n F dX1_put_14 rfl 0 rfl ?_
  refine V_gR (ci := 2) (k9 := 2) (C := RX1) (T := TX1) (N := 4) F rfl hinX1 (by decide) q159 dX1_put_15 (fun x5 => ?_)
  refine V_iload_n F dX1_put_18 rfl 1 rfl ?_
  refine V_iload F dX1_put_19 4 rfl ?_
  refine V_sI F dX1_put_21 (fun μ6 => ?_)
  exact V_vret F M dX1_put_22 rfl (by decide) (by decide)
/-! DroneLightShow$CueList.earliest()I -/
abbrev rmX1_earliest : Room := { frames := 0, cells := 0, slots := 0, locals := 0 }
def FX1_earliest_B27 (k4 : Nat → Int32 → Int32 → Me → Rs Int32) (v0 : Nat) (v2 : Int32) (μ : Me) : Rs Int32 :=
  (gR μ v0 2 1 (fun x6 => (aI μ x6 v2 (fun x7 => (k4 v0 x7 (v2 + 1) μ)))))
set_option maxHeartbeats 4000000 in
set_option maxRecDepth 100000 in
theorem VX1_earliest_B27 {κ : Cx} {ρ : (Int32 ⊕ String) × Me} (F : Fx κ cX1_earliest RX1) (M : Mx κ (fun r : Int32 => some (.int r)) ρ rmX1_earliest (some .int) [] "earliest") (hNL : κ.2.2.2.2.2.2.2.2.2.2.2.2.2.2 = 3) {k4 : Nat → Int32 → Int32 → Me → Rs Int32} (hk4 : ∀ (v0 : Nat) (v1 : Int32) (v2 : Int32) (μ : Me), V κ ρ 0 0 μ (k4 v0 v1 v2 μ) 4 [(0, .ref v0), (1, .int v1), (2, .int v2)] []) (v0 : Nat) (v2 : Int32) (μ : Me) : V κ ρ 0 0 μ (FX1_earliest_B27 k4 v0 v2 μ) 27 [(0, .ref v0), (2, .int v2)] [] := by
  unfold FX1_earliest_B27
  refine V_aload_n F dX1_earliest_27 rfl 0 rfl ?_
  refine V_gR (ci := 2) (k9 := 1) (C := RX1) (T := TX1) (N := 4) F rfl hinX1 (by decide) q158 dX1_earliest_28 (fun x6 => ?_)
  refine V_iload_n F dX1_earliest_31 rfl 1 rfl ?_
  refine V_aI F dX1_earliest_32 (fun x7 => ?_)
  refine V_istore_n (lv' := [(1, .int x7), (0, .ref v0), (2, .int v2)]) F dX1_earliest_33 rfl (lt_L hNL (by decide)) rfl ?_
  refine V_iinc (lv' := [(2, .int (v2 + 1)), (1, .int x7), (0, .ref v0)]) F dX1_earliest_34 2 rfl rfl (lt_L hNL (by decide)) rfl ?_
  refine V_goto (tgt := 4) F dX1_earliest_37 (by decide) ?_
  refine V_sub [2, 1, 0] rfl ?_
  exact hk4 v0 x7 (v2 + 1) μ
def FX1_earliest_B4 (k4 : Nat → Int32 → Int32 → Me → Rs Int32) (v0 : Nat) (v1 : Int32) (v2 : Int32) (μ : Me) : Rs Int32 :=
  (gI μ v0 2 3 (fun x1 => (if x1 ≤ v2 then (rt v1 μ) else (if v1 = (-1) then (FX1_earliest_B27 k4 v0 v2 μ) else (gR μ v0 2 1 (fun x8 => (aI μ x8 v2 (fun x9 => (if v1 ≤ x9 then (k4 v0 v1 (v2 + 1) μ) else (FX1_earliest_B27 k4 v0 v2 μ))))))))))
set_option maxHeartbeats 4000000 in
set_option maxRecDepth 100000 in
theorem VX1_earliest_B4 {κ : Cx} {ρ : (Int32 ⊕ String) × Me} (F : Fx κ cX1_earliest RX1) (M : Mx κ (fun r : Int32 => some (.int r)) ρ rmX1_earliest (some .int) [] "earliest") (hNL : κ.2.2.2.2.2.2.2.2.2.2.2.2.2.2 = 3) {k4 : Nat → Int32 → Int32 → Me → Rs Int32} (hk4 : ∀ (v0 : Nat) (v1 : Int32) (v2 : Int32) (μ : Me), V κ ρ 0 0 μ (k4 v0 v1 v2 μ) 4 [(0, .ref v0), (1, .int v1), (2, .int v2)] []) (v0 : Nat) (v1 : Int32) (v2 : Int32) (μ : Me) : V κ ρ 0 0 μ (FX1_earliest_B4 k4 v0 v1 v2 μ) 4 [(0, .ref v0), (1, .int v1), (2, .int v2)] [] := by
  unfold FX1_earliest_B4
  refine V_iload_n F dX1_earliest_4 rfl 2 rfl ?_
  refine V_aload_n F dX1_earliest_5 rfl 0 rfl ?_
  refine V_gI (ci := 2) (k9 := 3) (C := RX1) (T := TX1) (N := 4) F rfl hinX1 (by decide) q160 dX1_earliest_6 (fun x1 => ?_)
  refine V_icmp_ge (tgt := 40) F dX1_earliest_9 (by decide) (fun c2 => ?_) (fun c3 => ?_)
  · refine V_iload_n F dX1_earliest_40 rfl 1 rfl ?_
    exact V_iret F M dX1_earliest_41 rfl (by decide) (by decide)
  · refine V_iload_n F dX1_earliest_12 rfl 1 rfl ?_
    refine V_iconst (v := (-1)) F dX1_earliest_13 (by decide) ?_
    refine V_icmp_eq (tgt := 27) F dX1_earliest_14 (by decide) (fun c4 => ?_) (fun c5 => ?_)
    · refine V_sub [0, 2] rfl ?_
      exact VX1_earliest_B27 F M hNL hk4 v0 v2 μ
    · refine V_aload_n F dX1_earliest_17 rfl 0 rfl ?_
      refine V_gR (ci := 2) (k9 := 1) (C := RX1) (T := TX1) (N := 4) F rfl hinX1 (by decide) q158 dX1_earliest_18 (fun x8 => ?_)
      refine V_iload_n F dX1_earliest_21 rfl 2 rfl ?_
      refine V_aI F dX1_earliest_22 (fun x9 => ?_)
      refine V_iload_n F dX1_earliest_23 rfl 1 rfl ?_
      refine V_icmp_ge (tgt := 34) F dX1_earliest_24 (by decide) (fun c10 => ?_) (fun c11 => ?_)
      · refine V_iinc (lv' := [(2, .int (v2 + 1)), (0, .ref v0), (1, .int v1)]) F dX1_earliest_34 2 rfl rfl (lt_L hNL (by decide)) rfl ?_
        refine V_goto (tgt := 4) F dX1_earliest_37 (by decide) ?_
        refine V_sub [1, 2, 0] rfl ?_
        exact hk4 v0 v1 (v2 + 1) μ
      · refine V_sub [0, 2] rfl ?_
        exact VX1_earliest_B27 F M hNL hk4 v0 v2 μ
def FX1_earliest_L4  : Nat → Nat → Int32 → Int32 → Me → Rs Int32
  | 0, _, _, _, _ => none
  | f + 1, v0, v1, v2, μ => FX1_earliest_B4 (FX1_earliest_L4  f) v0 v1 v2 μ
theorem VX1_earliest_L4 {κ : Cx} {ρ : (Int32 ⊕ String) × Me} (F : Fx κ cX1_earliest RX1) (M : Mx κ (fun r : Int32 => some (.int r)) ρ rmX1_earliest (some .int) [] "earliest") (hNL : κ.2.2.2.2.2.2.2.2.2.2.2.2.2.2 = 3)   : ∀ (f : Nat) (v0 : Nat) (v1 : Int32) (v2 : Int32) (μ : Me), V κ ρ 0 0 μ (FX1_earliest_L4  f v0 v1 v2 μ) 4 [(0, .ref v0), (1, .int v1), (2, .int v2)] [] := by
  intro f
  induction f with
  | zero => intros; exact V_none
  | succ f ih => intro v0 v1 v2 μ; exact VX1_earliest_B4 F M hNL (fun v0 v1 v2 μ => ih v0 v1 v2 μ) v0 v1 v2 μ
def FX1_earliest (a0 : Nat) (μ : Me) : Rs Int32 :=
  (FX1_earliest_L4  FU a0 (-1) 0 μ)
set_option maxHeartbeats 4000000 in
set_option maxRecDepth 100000 in
theorem metX1_earliest {l : Launch} {s0 : State} {D : va_G} {aC : Nat → ClassId} (hG : Gl s0 D aC) (hl : l.stackTraces = false) (a0 : Nat) (μ : Me) : Ct l yX1_earliest (ws_ yX1_earliest cX1_earliest 3 (some .int)) rmX1_earliest s0 D aC (fun r : Int32 => some (.int r)) [.ref a0] μ (FX1_earliest a0 μ) := by
  refine Ct_of hG hl (by decide +kernel) (Nat.le_of_ble_eq_true rfl) (fun κ ρ hNL F M hκ => ?_)
  have F : Fx κ cX1_earliest RX1 := F
  change V κ ρ 0 0 μ (FX1_earliest a0 μ) 0 [(0, .ref a0)] []
  unfold FX1_earliest
  refine V_iconst (v := (-1)) F dX1_earliest_0 (by decide) ?_
  refine V_istore_n (lv' := [(1, .int (-1)), (0, .ref a0)]) F dX1_earliest_1 rfl (lt_L hNL (by decide)) rfl ?_
  refine V_iconst (v := 0) F dX1_earliest_2 (by decide) ?_
  refine V_istore_n (lv' := [(2, .int 0), (1, .int (-1)), (0, .ref a0)]) F dX1_earliest_3 rfl (lt_L hNL (by decide)) rfl ?_
  refine V_sub [2, 1, 0] rfl ?_
  exact VX1_earliest_L4 F M hNL  FU a0 (-1) 0 μ
/-! DroneLightShow$CueList.fire(ILDroneLightShow$Fleet;)V -/
abbrev rmX1_fire : Room := { frames := 1, cells := 0, slots := 0, locals := 24 }
def FX1_fire_B5 (k5 : Nat → Int32 → Nat → Int32 → Int32 → Me → Rs Unit) (v0 : Nat) (v1 : Int32) (v2 : Nat) (v3 : Int32) (v4 : Int32) (μ : Me) : Rs Unit :=
  (gI μ v0 2 3 (fun x1 => (if x1 ≤ v4 then (pf μ v0 2 3 (.int v3) (fun μ4 => (rt () μ4))) else (gR μ v0 2 1 (fun x5 => (aI μ x5 v4 (fun x6 => (if x6 = v1 then (gR μ v2 3 3 (fun x17 => (gR μ v0 2 0 (fun x18 => (aI μ x18 v4 (fun x19 => (gR μ v0 2 2 (fun x20 => (aI μ x20 v4 (fun x21 => (sI μ x17 x19 x21 (fun μ22 => (k5 v0 v1 v2 v3 (v4 + 1) μ22))))))))))))) else (gR μ v0 2 0 (fun x9 => (aI μ x9 v4 (fun x10 => (gR μ v0 2 1 (fun x11 => (aI μ x11 v4 (fun x12 => (gR μ v0 2 2 (fun x13 => (aI μ x13 v4 (fun x14 => (bnd (vc μ v0 2 (FX1_put v0 v3 x10 x12 x14 μ)) (fun x16 μ15 => (k5 v0 v1 v2 (v3 + 1) (v4 + 1) μ15)))))))))))))))))))))))
set_option maxHeartbeats 4000000 in
set_option maxRecDepth 100000 in
theorem VX1_fire_B5 {κ : Cx} {ρ : (Unit ⊕ String) × Me} (F : Fx κ cX1_fire RX1) (M : Mx κ (fun _ : Unit => none) ρ rmX1_fire none [] "fire") (hNL : κ.2.2.2.2.2.2.2.2.2.2.2.2.2.2 = 5) {k5 : Nat → Int32 → Nat → Int32 → Int32 → Me → Rs Unit} (hk5 : ∀ (v0 : Nat) (v1 : Int32) (v2 : Nat) (v3 : Int32) (v4 : Int32) (μ : Me), V κ ρ 0 0 μ (k5 v0 v1 v2 v3 v4 μ) 5 [(0, .ref v0), (1, .int v1), (2, .ref v2), (3, .int v3), (4, .int v4)] []) (v0 : Nat) (v1 : Int32) (v2 : Nat) (v3 : Int32) (v4 : Int32) (μ : Me) : V κ ρ 0 0 μ (FX1_fire_B5 k5 v0 v1 v2 v3 v4 μ) 5 [(0, .ref v0), (1, .int v1), (2, .ref v2), (3, .int v3), (4, .int v4)] [] := by
  unfold FX1_fire_B5
  refine V_iload F dX1_fire_5 4 rfl ?_
  refine V_aload_n F dX1_fire_7 rfl 0 rfl ?_
  refine V_gI (ci := 2) (k9 := 3) (C := RX1) (T := TX1) (N := 4) F rfl hinX1 (by decide) q160 dX1_fire_8 (fun x1 => ?_)
  refine V_icmp_ge (tgt := 82) F dX1_fire_11 (by decide) (fun c2 => ?_) (fun c3 => ?_)
  · refine V_aload_n F dX1_fire_82 rfl 0 rfl ?_
    refine V_iload_n F dX1_fire_83 rfl 3 rfl ?_
    refine V_pf (ci := 2) (k9 := 3) (C := RX1) (T := TX1) (N := 4) (ty := tyX1) F rfl hinX1 tyX1_ok nmX1 (by decide) q160 rfl rfl rfl dX1_fire_84 (fun μ4 => ?_)
    exact V_vret F M dX1_fire_87 rfl (by decide) (by decide)
  · refine V_aload_n F dX1_fire_14 rfl 0 rfl ?_
    refine V_gR (ci := 2) (k9 := 1) (C := RX1) (T := TX1) (N := 4) F rfl hinX1 (by decide) q158 dX1_fire_15 (fun x5 => ?_)
    refine V_iload F dX1_fire_18 4 rfl ?_
    refine V_aI F dX1_fire_20 (fun x6 => ?_)
    refine V_iload_n F dX1_fire_21 rfl 1 rfl ?_
    refine V_icmp_ne (tgt := 47) F dX1_fire_22 (by decide) (fun c7 => ?_) (fun c8 => ?_)
    · refine V_aload_n F dX1_fire_47 rfl 0 rfl ?_
      refine V_iload_n F dX1_fire_48 rfl 3 rfl ?_
      refine V_aload_n F dX1_fire_49 rfl 0 rfl ?_
      refine V_gR (ci := 2) (k9 := 0) (C := RX1) (T := TX1) (N := 4) F rfl hinX1 (by decide) q157 dX1_fire_50 (fun x9 => ?_)
      refine V_iload F dX1_fire_53 4 rfl ?_
      refine V_aI F dX1_fire_55 (fun x10 => ?_)
      refine V_aload_n F dX1_fire_56 rfl 0 rfl ?_
      refine V_gR (ci := 2) (k9 := 1) (C := RX1) (T := TX1) (N := 4) F rfl hinX1 (by decide) q158 dX1_fire_57 (fun x11 => ?_)
      refine V_iload F dX1_fire_60 4 rfl ?_
      refine V_aI F dX1_fire_62 (fun x12 => ?_)
      refine V_aload_n F dX1_fire_63 rfl 0 rfl ?_
      refine V_gR (ci := 2) (k9 := 2) (C := RX1) (T := TX1) (N := 4) F rfl hinX1 (by decide) q159 dX1_fire_64 (fun x13 => ?_)
      refine V_iload F dX1_fire_67 4 rfl ?_
      refine V_aI F dX1_fire_69 (fun x14 => ?_)
      refine V_cV (As := [.int v3, .int x10, .int x12, .int x14]) (rest := []) (C := RX1) (N := 4) F M (metX1_put (Fx_G F) (Fx_l F) v0 v3 x10 x12 x14 μ) rfl q441 q69 q438 q439 q440 ⟨by decide +kernel, by decide +kernel, by decide +kernel⟩ rfl ⟨by decide, by decide⟩ (Nat.le_of_ble_eq_true rfl) dX1_fire_70 (by decide) (by decide) (fun x16 μ15 => ?_)
      change V κ ρ 0 0 μ15 _ 73 [(0, .ref v0), (1, .int v1), (2, .ref v2), (3, .int v3), (4, .int v4)] []
      refine V_iinc (lv' := [(3, .int (v3 + 1)), (0, .ref v0), (1, .int v1), (2, .ref v2), (4, .int v4)]) F dX1_fire_73 3 rfl rfl (lt_L hNL (by decide)) rfl ?_
      refine V_iinc (lv' := [(4, .int (v4 + 1)), (3, .int (v3 + 1)), (0, .ref v0), (1, .int v1), (2, .ref v2)]) F dX1_fire_76 4 rfl rfl (lt_L hNL (by decide)) rfl ?_
      refine V_goto (tgt := 5) F dX1_fire_79 (by decide) ?_
      refine V_sub [2, 3, 4, 1, 0] rfl ?_
      exact hk5 v0 v1 v2 (v3 + 1) (v4 + 1) μ15
    · refine V_aload_n F dX1_fire_25 rfl 2 rfl ?_
      refine V_gR (ci := 3) (k9 := 3) (C := RX2) (T := TX2) (N := 7) F rfl hinX2 (by decide) q123 dX1_fire_26 (fun x17 => ?_)
      refine V_aload_n F dX1_fire_29 rfl 0 rfl ?_
      refine V_gR (ci := 2) (k9 := 0) (C := RX1) (T := TX1) (N := 4) F rfl hinX1 (by decide) q157 dX1_fire_30 (fun x18 => ?_)
      refine V_iload F dX1_fire_33 4 rfl ?_
      refine V_aI F dX1_fire_35 (fun x19 => ?_)
      refine V_aload_n F dX1_fire_36 rfl 0 rfl ?_
      refine V_gR (ci := 2) (k9 := 2) (C := RX1) (T := TX1) (N := 4) F rfl hinX1 (by decide) q159 dX1_fire_37 (fun x20 => ?_)
      refine V_iload F dX1_fire_40 4 rfl ?_
      refine V_aI F dX1_fire_42 (fun x21 => ?_)
      refine V_sI F dX1_fire_43 (fun μ22 => ?_)
      refine V_goto (tgt := 76) F dX1_fire_44 (by decide) ?_
      refine V_iinc (lv' := [(4, .int (v4 + 1)), (0, .ref v0), (1, .int v1), (2, .ref v2), (3, .int v3)]) F dX1_fire_76 4 rfl rfl (lt_L hNL (by decide)) rfl ?_
      refine V_goto (tgt := 5) F dX1_fire_79 (by decide) ?_
      refine V_sub [1, 2, 3, 4, 0] rfl ?_
      exact hk5 v0 v1 v2 v3 (v4 + 1) μ22
def FX1_fire_L5  : Nat → Nat → Int32 → Nat → Int32 → Int32 → Me → Rs Unit
  | 0, _, _, _, _, _, _ => none
  | f + 1, v0, v1, v2, v3, v4, μ => FX1_fire_B5 (FX1_fire_L5  f) v0 v1 v2 v3 v4 μ
theorem VX1_fire_L5 {κ : Cx} {ρ : (Unit ⊕ String) × Me} (F : Fx κ cX1_fire RX1) (M : Mx κ (fun _ : Unit => none) ρ rmX1_fire none [] "fire") (hNL : κ.2.2.2.2.2.2.2.2.2.2.2.2.2.2 = 5)   : ∀ (f : Nat) (v0 : Nat) (v1 : Int32) (v2 : Nat) (v3 : Int32) (v4 : Int32) (μ : Me), V κ ρ 0 0 μ (FX1_fire_L5  f v0 v1 v2 v3 v4 μ) 5 [(0, .ref v0), (1, .int v1), (2, .ref v2), (3, .int v3), (4, .int v4)] [] := by
  intro f
  induction f with
  | zero => intros; exact V_none
  | succ f ih => intro v0 v1 v2 v3 v4 μ; exact VX1_fire_B5 F M hNL (fun v0 v1 v2 v3 v4 μ => ih v0 v1 v2 v3 v4 μ) v0 v1 v2 v3 v4 μ
def FX1_fire (a0 : Nat) (p1 : Int32) (p2 : Nat) (μ : Me) : Rs Unit :=
  (FX1_fire_L5  FU a0 p1 p2 0 0 μ)
set_option maxHeartbeats 4000000 in
set_option maxRecDepth 100000 in
theorem metX1_fire {l : Launch} {s0 : State} {D : va_G} {aC : Nat → ClassId} (hG : Gl s0 D aC) (hl : l.stackTraces = false) (a0 : Nat) (p1 : Int32) (p2 : Nat) (μ : Me) : Ct l yX1_fire (ws_ yX1_fire cX1_fire 5 none) rmX1_fire s0 D aC (fun _ : Unit => none) [.ref a0, .int p1, .ref p2] μ (FX1_fire a0 p1 p2 μ) := by
  refine Ct_of hG hl (by decide +kernel) (Nat.le_of_ble_eq_true rfl) (fun κ ρ hNL F M hκ => ?_)
  have F : Fx κ cX1_fire RX1 := F
  change V κ ρ 0 0 μ (FX1_fire a0 p1 p2 μ) 0 [(0, .ref a0), (1, .int p1), (2, .ref p2)] []
  unfold FX1_fire
  refine V_iconst (v := 0) F dX1_fire_0 (by decide) ?_
  refine V_istore_n (lv' := [(3, .int 0), (0, .ref a0), (1, .int p1), (2, .ref p2)]) F dX1_fire_1 rfl (lt_L hNL (by decide)) rfl ?_
  refine V_iconst (v := 0) F dX1_fire_2 (by decide) ?_
  refine V_istore (lv' := [(4, .int 0), (3, .int 0), (0, .ref a0), (1, .int p1), (2, .ref p2)]) F dX1_fire_3 (lt_L hNL (by decide)) rfl ?_
  refine V_sub [2, 3, 4, 1, 0] rfl ?_
  exact VX1_fire_L5 F M hNL  FU a0 p1 p2 0 0 μ
/-! DroneLightShow$Fleet.<init>()V -/
abbrev rmX2_init : Room := { frames := 1, cells := 6, slots := 60, locals := 25 }
def FX2_init (a0 : Nat) (μ : Me) : Rs Unit :=
  (nw μ (.inl (0, (10, .inl (fun _ => 0)))) (fun a1 μ2 => (pf μ2 a0 3 0 (.ref a1) (fun μ3 => (nw μ3 (.inl (0, (10, .inl (fun _ => 0)))) (fun a4 μ5 => (pf μ5 a0 3 1 (.ref a4) (fun μ6 => (nw μ6 (.inl (0, (10, .inl (fun _ => 0)))) (fun a7 μ8 => (pf μ8 a0 3 2 (.ref a7) (fun μ9 => (nw μ9 (.inl (0, (10, .inl (fun _ => 0)))) (fun a10 μ11 => (pf μ11 a0 3 3 (.ref a10) (fun μ12 => (nw μ12 (.inl (1, (10, .inl (fun _ => 0)))) (fun a13 μ14 => (pf μ14 a0 3 4 (.ref a13) (fun μ15 => (nw μ15 (.inl (1, (10, .inl (fun _ => 0)))) (fun a16 μ17 => (pf μ17 a0 3 5 (.ref a16) (fun μ18 => (rt () μ18)))))))))))))))))))))))))
set_option maxHeartbeats 4000000 in
set_option maxRecDepth 100000 in
theorem metX2_init {l : Launch} {s0 : State} {D : va_G} {aC : Nat → ClassId} (hG : Gl s0 D aC) (hl : l.stackTraces = false) (a0 : Nat) (μ : Me) : Ct l yX2_init (ws_ yX2_init cX2_init 1 none) rmX2_init s0 D aC (fun _ : Unit => none) [.ref a0] μ (FX2_init a0 μ) := by
  refine Ct_of hG hl (by decide +kernel) (Nat.le_of_ble_eq_true rfl) (fun κ ρ hNL F M hκ => ?_)
  have F : Fx κ cX2_init RX2 := F
  change V κ ρ 0 0 μ (FX2_init a0 μ) 0 [(0, .ref a0)] []
  unfold FX2_init
  refine V_aload_n F dX2_init_0 rfl 0 rfl ?_
  refine V_oinit F M q111 q98 q99 dX2_init_1 (by decide) (Nat.le_of_ble_eq_true rfl) ?_
  refine V_aload_n F dX2_init_4 rfl 0 rfl ?_
  refine V_bipush (v := 10) F dX2_init_5 (by decide) ?_
  refine V_na (N := 10) (ty := .int) F (Mx_R M) q149 rfl (by decide) (fun _ => rfl) (fun _ => rfl) (by decide) (by decide) (by decide) (fun _ _ => rfl) dX2_init_7 (by decide) (by decide) (fun a1 μ2 => ?_)
  change V κ ρ 1 10 μ2 _ 9 [(0, .ref a0)] [.ref a1, .ref a0]
  refine V_pfF (ci := 3) (k9 := 0) (C := RX2) (T := TX2) (N := 7) (ty := tyX2) F rfl hinX2 tyX2_ok nmX2 (by decide) q112 rfl (Mx_nm M) rfl rfl rfl dX2_init_9 (fun μ3 => ?_)
  refine V_aload_n F dX2_init_12 rfl 0 rfl ?_
  refine V_bipush (v := 10) F dX2_init_13 (by decide) ?_
  refine V_na (N := 10) (ty := .int) F (Mx_R M) q149 rfl (by decide) (fun _ => rfl) (fun _ => rfl) (by decide) (by decide) (by decide) (fun _ _ => rfl) dX2_init_15 (by decide) (by decide) (fun a4 μ5 => ?_)
  change V κ ρ 2 20 μ5 _ 17 [(0, .ref a0)] [.ref a4, .ref a0]
  refine V_pfF (ci := 3) (k9 := 1) (C := RX2) (T := TX2) (N := 7) (ty := tyX2) F rfl hinX2 tyX2_ok nmX2 (by decide) q115 rfl (Mx_nm M) rfl rfl rfl dX2_init_17 (fun μ6 => ?_)
  refine V_aload_n F dX2_init_20 rfl 0 rfl ?_
  refine V_bipush (v := 10) F dX2_init_21 (by decide) ?_
  refine V_na (N := 10) (ty := .int) F (Mx_R M) q149 rfl (by decide) (fun _ => rfl) (fun _ => rfl) (by decide) (by decide) (by decide) (fun _ _ => rfl) dX2_init_23 (by decide) (by decide) (fun a7 μ8 => ?_)
  change V κ ρ 3 30 μ8 _ 25 [(0, .ref a0)] [.ref a7, .ref a0]
  refine V_pfF (ci := 3) (k9 := 2) (C := RX2) (T := TX2) (N := 7) (ty := tyX2) F rfl hinX2 tyX2_ok nmX2 (by decide) q118 rfl (Mx_nm M) rfl rfl rfl dX2_init_25 (fun μ9 => ?_)
  refine V_aload_n F dX2_init_28 rfl 0 rfl ?_
  refine V_bipush (v := 10) F dX2_init_29 (by decide) ?_
  refine V_na (N := 10) (ty := .int) F (Mx_R M) q149 rfl (by decide) (fun _ => rfl) (fun _ => rfl) (by decide) (by decide) (by decide) (fun _ _ => rfl) dX2_init_31 (by decide) (by decide) (fun a10 μ11 => ?_)
  change V κ ρ 4 40 μ11 _ 33 [(0, .ref a0)] [.ref a10, .ref a0]
  refine V_pfF (ci := 3) (k9 := 3) (C := RX2) (T := TX2) (N := 7) (ty := tyX2) F rfl hinX2 tyX2_ok nmX2 (by decide) q121 rfl (Mx_nm M) rfl rfl rfl dX2_init_33 (fun μ12 => ?_)
  refine V_aload_n F dX2_init_36 rfl 0 rfl ?_
  refine V_bipush (v := 10) F dX2_init_37 (by decide) ?_
  refine V_na (N := 10) (ty := .boolean) F (Mx_R M) q150 rfl (by decide) (fun _ => rfl) (fun _ => rfl) (by decide) (by decide) (by decide) (fun _ _ => rfl) dX2_init_39 (by decide) (by decide) (fun a13 μ14 => ?_)
  change V κ ρ 5 50 μ14 _ 41 [(0, .ref a0)] [.ref a13, .ref a0]
  refine V_pfF (ci := 3) (k9 := 4) (C := RX2) (T := TX2) (N := 7) (ty := tyX2) F rfl hinX2 tyX2_ok nmX2 (by decide) q125 rfl (Mx_nm M) rfl rfl rfl dX2_init_41 (fun μ15 => ?_)
  refine V_aload_n F dX2_init_44 rfl 0 rfl ?_
  refine V_bipush (v := 10) F dX2_init_45 (by decide) ?_
  refine V_na (N := 10) (ty := .boolean) F (Mx_R M) q150 rfl (by decide) (fun _ => rfl) (fun _ => rfl) (by decide) (by decide) (by decide) (fun _ _ => rfl) dX2_init_47 (by decide) (by decide) (fun a16 μ17 => ?_)
  change V κ ρ 6 60 μ17 _ 49 [(0, .ref a0)] [.ref a16, .ref a0]
  refine V_pfF (ci := 3) (k9 := 5) (C := RX2) (T := TX2) (N := 7) (ty := tyX2) F rfl hinX2 tyX2_ok nmX2 (by decide) q128 rfl (Mx_nm M) rfl rfl rfl dX2_init_49 (fun μ18 => ?_)
  exact V_vret F M dX2_init_52 rfl (by decide) (by decide)
/-! DroneLightShow$Fleet.copyFrom(LDroneLightShow$Fleet;)V -/
abbrev rmX2_copyFrom : Room := { frames := 0, cells := 0, slots := 0, locals := 0 }
def FX2_copyFrom_B10 (k10 : Nat → Nat → Int32 → Me → Rs Unit) (v0 : Nat) (v1 : Nat) (v2 : Int32) (μ : Me) : Rs Unit :=
  (if 10 ≤ v2 then (rt () μ) else (gR μ v0 3 0 (fun x5 => (gR μ v1 3 0 (fun x6 => (aI μ x6 v2 (fun x7 => (sI μ x5 v2 x7 (fun μ8 => (gR μ8 v0 3 1 (fun x9 => (gR μ8 v1 3 1 (fun x10 => (aI μ8 x10 v2 (fun x11 => (sI μ8 x9 v2 x11 (fun μ12 => (gR μ12 v0 3 2 (fun x13 => (gR μ12 v1 3 2 (fun x14 => (aI μ12 x14 v2 (fun x15 => (sI μ12 x13 v2 x15 (fun μ16 => (gR μ16 v0 3 3 (fun x17 => (gR μ16 v1 3 3 (fun x18 => (aI μ16 x18 v2 (fun x19 => (sI μ16 x17 v2 x19 (fun μ20 => (gR μ20 v0 3 4 (fun x21 => (gR μ20 v1 3 4 (fun x22 => (aZ μ20 x22 v2 (fun x23 => (sZ μ20 x21 v2 x23 (fun μ24 => (gR μ24 v0 3 5 (fun x25 => (gR μ24 v1 3 5 (fun x26 => (aZ μ24 x26 v2 (fun x27 => (sZ μ24 x25 v2 x27 (fun μ28 => (k10 v0 v1 (v2 + 1) μ28))))))))))))))))))))))))))))))))))))))))))))))))))
set_option maxHeartbeats 4000000 in
set_option maxRecDepth 100000 in
theorem VX2_copyFrom_B10 {κ : Cx} {ρ : (Unit ⊕ String) × Me} (F : Fx κ cX2_copyFrom RX2) (M : Mx κ (fun _ : Unit => none) ρ rmX2_copyFrom none [] "copyFrom") (hNL : κ.2.2.2.2.2.2.2.2.2.2.2.2.2.2 = 3) {k10 : Nat → Nat → Int32 → Me → Rs Unit} (hk10 : ∀ (v0 : Nat) (v1 : Nat) (v2 : Int32) (μ : Me), V κ ρ 0 0 μ (k10 v0 v1 v2 μ) 10 [(0, .ref v0), (1, .ref v1), (2, .int v2)] []) (v0 : Nat) (v1 : Nat) (v2 : Int32) (μ : Me) : V κ ρ 0 0 μ (FX2_copyFrom_B10 k10 v0 v1 v2 μ) 10 [(0, .ref v0), (1, .ref v1), (2, .int v2)] [] := by
  unfold FX2_copyFrom_B10
  refine V_iload_n F dX2_copyFrom_10 rfl 2 rfl ?_
  refine V_bipush (v := 10) F dX2_copyFrom_11 (by decide) ?_
  refine V_icmp_ge (tgt := 94) F dX2_copyFrom_13 (by decide) (fun c3 => ?_) (fun c4 => ?_)
  · exact V_vret F M dX2_copyFrom_94 rfl (by decide) (by decide)
  · refine V_aload_n F dX2_copyFrom_16 rfl 0 rfl ?_
    refine V_gR (ci := 3) (k9 := 0) (C := RX2) (T := TX2) (N := 7) F rfl hinX2 (by decide) q112 dX2_copyFrom_17 (fun x5 => ?_)
    refine V_iload_n F dX2_copyFrom_20 rfl 2 rfl ?_
    refine V_aload_n F dX2_copyFrom_21 rfl 1 rfl ?_
    refine V_gR (ci := 3) (k9 := 0) (C := RX2) (T := TX2) (N := 7) F rfl hinX2 (by decide) q112 dX2_copyFrom_22 (fun x6 => ?_)
    refine V_iload_n F dX2_copyFrom_25 rfl 2 rfl ?_
    refine V_aI F dX2_copyFrom_26 (fun x7 => ?_)
    refine V_sI F dX2_copyFrom_27 (fun μ8 => ?_)
    refine V_aload_n F dX2_copyFrom_28 rfl 0 rfl ?_
    refine V_gR (ci := 3) (k9 := 1) (C := RX2) (T := TX2) (N := 7) F rfl hinX2 (by decide) q115 dX2_copyFrom_29 (fun x9 => ?_)
    refine V_iload_n F dX2_copyFrom_32 rfl 2 rfl ?_
    refine V_aload_n F dX2_copyFrom_33 rfl 1 rfl ?_
    refine V_gR (ci := 3) (k9 := 1) (C := RX2) (T := TX2) (N := 7) F rfl hinX2 (by decide) q115 dX2_copyFrom_34 (fun x10 => ?_)
    refine V_iload_n F dX2_copyFrom_37 rfl 2 rfl ?_
    refine V_aI F dX2_copyFrom_38 (fun x11 => ?_)
    refine V_sI F dX2_copyFrom_39 (fun μ12 => ?_)
    refine V_aload_n F dX2_copyFrom_40 rfl 0 rfl ?_
    refine V_gR (ci := 3) (k9 := 2) (C := RX2) (T := TX2) (N := 7) F rfl hinX2 (by decide) q118 dX2_copyFrom_41 (fun x13 => ?_)
    refine V_iload_n F dX2_copyFrom_44 rfl 2 rfl ?_
    refine V_aload_n F dX2_copyFrom_45 rfl 1 rfl ?_
    refine V_gR (ci := 3) (k9 := 2) (C := RX2) (T := TX2) (N := 7) F rfl hinX2 (by decide) q118 dX2_copyFrom_46 (fun x14 => ?_)
    refine V_iload_n F dX2_copyFrom_49 rfl 2 rfl ?_
    refine V_aI F dX2_copyFrom_50 (fun x15 => ?_)
    refine V_sI F dX2_copyFrom_51 (fun μ16 => ?_)
    refine V_aload_n F dX2_copyFrom_52 rfl 0 rfl ?_
    refine V_gR (ci := 3) (k9 := 3) (C := RX2) (T := TX2) (N := 7) F rfl hinX2 (by decide) q121 dX2_copyFrom_53 (fun x17 => ?_)
    refine V_iload_n F dX2_copyFrom_56 rfl 2 rfl ?_
    refine V_aload_n F dX2_copyFrom_57 rfl 1 rfl ?_
    refine V_gR (ci := 3) (k9 := 3) (C := RX2) (T := TX2) (N := 7) F rfl hinX2 (by decide) q121 dX2_copyFrom_58 (fun x18 => ?_)
    refine V_iload_n F dX2_copyFrom_61 rfl 2 rfl ?_
    refine V_aI F dX2_copyFrom_62 (fun x19 => ?_)
    refine V_sI F dX2_copyFrom_63 (fun μ20 => ?_)
    refine V_aload_n F dX2_copyFrom_64 rfl 0 rfl ?_
    refine V_gR (ci := 3) (k9 := 4) (C := RX2) (T := TX2) (N := 7) F rfl hinX2 (by decide) q125 dX2_copyFrom_65 (fun x21 => ?_)
    refine V_iload_n F dX2_copyFrom_68 rfl 2 rfl ?_
    refine V_aload_n F dX2_copyFrom_69 rfl 1 rfl ?_
    refine V_gR (ci := 3) (k9 := 4) (C := RX2) (T := TX2) (N := 7) F rfl hinX2 (by decide) q125 dX2_copyFrom_70 (fun x22 => ?_)
    refine V_iload_n F dX2_copyFrom_73 rfl 2 rfl ?_
    refine V_aZ F dX2_copyFrom_74 (fun x23 => ?_)
    refine V_sZ F dX2_copyFrom_75 (fun μ24 => ?_)
    refine V_aload_n F dX2_copyFrom_76 rfl 0 rfl ?_
    refine V_gR (ci := 3) (k9 := 5) (C := RX2) (T := TX2) (N := 7) F rfl hinX2 (by decide) q128 dX2_copyFrom_77 (fun x25 => ?_)
    refine V_iload_n F dX2_copyFrom_80 rfl 2 rfl ?_
    refine V_aload_n F dX2_copyFrom_81 rfl 1 rfl ?_
    refine V_gR (ci := 3) (k9 := 5) (C := RX2) (T := TX2) (N := 7) F rfl hinX2 (by decide) q128 dX2_copyFrom_82 (fun x26 => ?_)
    refine V_iload_n F dX2_copyFrom_85 rfl 2 rfl ?_
    refine V_aZ F dX2_copyFrom_86 (fun x27 => ?_)
    refine V_sZ F dX2_copyFrom_87 (fun μ28 => ?_)
    refine V_iinc (lv' := [(2, .int (v2 + 1)), (0, .ref v0), (1, .ref v1)]) F dX2_copyFrom_88 2 rfl rfl (lt_L hNL (by decide)) rfl ?_
    refine V_goto (tgt := 10) F dX2_copyFrom_91 (by decide) ?_
    refine V_sub [1, 2, 0] rfl ?_
    exact hk10 v0 v1 (v2 + 1) μ28
def FX2_copyFrom_L10  : Nat → Nat → Nat → Int32 → Me → Rs Unit
  | 0, _, _, _, _ => none
  | f + 1, v0, v1, v2, μ => FX2_copyFrom_B10 (FX2_copyFrom_L10  f) v0 v1 v2 μ
theorem VX2_copyFrom_L10 {κ : Cx} {ρ : (Unit ⊕ String) × Me} (F : Fx κ cX2_copyFrom RX2) (M : Mx κ (fun _ : Unit => none) ρ rmX2_copyFrom none [] "copyFrom") (hNL : κ.2.2.2.2.2.2.2.2.2.2.2.2.2.2 = 3)   : ∀ (f : Nat) (v0 : Nat) (v1 : Nat) (v2 : Int32) (μ : Me), V κ ρ 0 0 μ (FX2_copyFrom_L10  f v0 v1 v2 μ) 10 [(0, .ref v0), (1, .ref v1), (2, .int v2)] [] := by
  intro f
  induction f with
  | zero => intros; exact V_none
  | succ f ih => intro v0 v1 v2 μ; exact VX2_copyFrom_B10 F M hNL (fun v0 v1 v2 μ => ih v0 v1 v2 μ) v0 v1 v2 μ
def FX2_copyFrom (a0 : Nat) (p1 : Nat) (μ : Me) : Rs Unit :=
  (gI μ p1 3 6 (fun x1 => (pf μ a0 3 6 (.int x1) (fun μ2 => (FX2_copyFrom_L10  FU a0 p1 0 μ2)))))
set_option maxHeartbeats 4000000 in
set_option maxRecDepth 100000 in
theorem metX2_copyFrom {l : Launch} {s0 : State} {D : va_G} {aC : Nat → ClassId} (hG : Gl s0 D aC) (hl : l.stackTraces = false) (a0 : Nat) (p1 : Nat) (μ : Me) : Ct l yX2_copyFrom (ws_ yX2_copyFrom cX2_copyFrom 3 none) rmX2_copyFrom s0 D aC (fun _ : Unit => none) [.ref a0, .ref p1] μ (FX2_copyFrom a0 p1 μ) := by
  refine Ct_of hG hl (by decide +kernel) (Nat.le_of_ble_eq_true rfl) (fun κ ρ hNL F M hκ => ?_)
  have F : Fx κ cX2_copyFrom RX2 := F
  change V κ ρ 0 0 μ (FX2_copyFrom a0 p1 μ) 0 [(0, .ref a0), (1, .ref p1)] []
  unfold FX2_copyFrom
  refine V_aload_n F dX2_copyFrom_0 rfl 0 rfl ?_
  refine V_aload_n F dX2_copyFrom_1 rfl 1 rfl ?_
  refine V_gI (ci := 3) (k9 := 6) (C := RX2) (T := TX2) (N := 7) F rfl hinX2 (by decide) q131 dX2_copyFrom_2 (fun x1 => ?_)
  refine V_pf (ci := 3) (k9 := 6) (C := RX2) (T := TX2) (N := 7) (ty := tyX2) F rfl hinX2 tyX2_ok nmX2 (by decide) q131 rfl rfl rfl dX2_copyFrom_5 (fun μ2 => ?_)
  refine V_iconst (v := 0) F dX2_copyFrom_8 (by decide) ?_
  refine V_istore_n (lv' := [(2, .int 0), (0, .ref a0), (1, .ref p1)]) F dX2_copyFrom_9 rfl (lt_L hNL (by decide)) rfl ?_
  refine V_sub [1, 2, 0] rfl ?_
  exact VX2_copyFrom_L10 F M hNL  FU a0 p1 0 μ2
/-! DroneLightShow$Fleet.has(I)Z -/
abbrev rmX2_has : Room := { frames := 0, cells := 0, slots := 0, locals := 0 }
def FX2_has (a0 : Nat) (p1 : Int32) (μ : Me) : Rs Int32 :=
  (if p1 < 0 then (rt 0 μ) else (gI μ a0 3 6 (fun x3 => (if x3 ≤ p1 then (rt 0 μ) else (rt 1 μ)))))
set_option maxHeartbeats 4000000 in
set_option maxRecDepth 100000 in
theorem metX2_has {l : Launch} {s0 : State} {D : va_G} {aC : Nat → ClassId} (hG : Gl s0 D aC) (hl : l.stackTraces = false) (a0 : Nat) (p1 : Int32) (μ : Me) : Ct l yX2_has (ws_ yX2_has cX2_has 2 (some .boolean)) rmX2_has s0 D aC (fun r : Int32 => some (.int r)) [.ref a0, .int p1] μ (FX2_has a0 p1 μ) := by
  refine Ct_of hG hl (by decide +kernel) (Nat.le_of_ble_eq_true rfl) (fun κ ρ hNL F M hκ => ?_)
  have F : Fx κ cX2_has RX2 := F
  change V κ ρ 0 0 μ (FX2_has a0 p1 μ) 0 [(0, .ref a0), (1, .int p1)] []
  unfold FX2_has
  refine V_iload_n F dX2_has_0 rfl 1 rfl ?_
  refine V_if_lt (tgt := 16) F dX2_has_1 (by decide) (fun c1 => ?_) (fun c2 => ?_)
  · refine V_iconst (v := 0) F dX2_has_16 (by decide) ?_
    exact V_zret F M dX2_has_17 rfl (by decide) (by decide) (by decide)
  · refine V_iload_n F dX2_has_4 rfl 1 rfl ?_
    refine V_aload_n F dX2_has_5 rfl 0 rfl ?_
    refine V_gI (ci := 3) (k9 := 6) (C := RX2) (T := TX2) (N := 7) F rfl hinX2 (by decide) q131 dX2_has_6 (fun x3 => ?_)
    refine V_icmp_ge (tgt := 16) F dX2_has_9 (by decide) (fun c4 => ?_) (fun c5 => ?_)
    · refine V_iconst (v := 0) F dX2_has_16 (by decide) ?_
      exact V_zret F M dX2_has_17 rfl (by decide) (by decide) (by decide)
    · refine V_iconst (v := 1) F dX2_has_12 (by decide) ?_
      refine V_goto (tgt := 17) F dX2_has_13 (by decide) ?_
      exact V_zret F M dX2_has_17 rfl (by decide) (by decide) (by decide)
/-! DroneLightShow$Fleet.occupant(I)I -/
abbrev rmX2_occupant : Room := { frames := 0, cells := 0, slots := 0, locals := 0 }
def FX2_occupant_B2 (k2 : Nat → Int32 → Int32 → Me → Rs Int32) (v0 : Nat) (v1 : Int32) (v2 : Int32) (μ : Me) : Rs Int32 :=
  (gI μ v0 3 6 (fun x1 => (if x1 ≤ v2 then (rt (-1) μ) else (gR μ v0 3 0 (fun x4 => (aI μ x4 v2 (fun x5 => (if x5 = v1 then (rt v2 μ) else (k2 v0 v1 (v2 + 1) μ)))))))))
set_option maxHeartbeats 4000000 in
set_option maxRecDepth 100000 in
theorem VX2_occupant_B2 {κ : Cx} {ρ : (Int32 ⊕ String) × Me} (F : Fx κ cX2_occupant RX2) (M : Mx κ (fun r : Int32 => some (.int r)) ρ rmX2_occupant (some .int) [] "occupant") (hNL : κ.2.2.2.2.2.2.2.2.2.2.2.2.2.2 = 3) {k2 : Nat → Int32 → Int32 → Me → Rs Int32} (hk2 : ∀ (v0 : Nat) (v1 : Int32) (v2 : Int32) (μ : Me), V κ ρ 0 0 μ (k2 v0 v1 v2 μ) 2 [(0, .ref v0), (1, .int v1), (2, .int v2)] []) (v0 : Nat) (v1 : Int32) (v2 : Int32) (μ : Me) : V κ ρ 0 0 μ (FX2_occupant_B2 k2 v0 v1 v2 μ) 2 [(0, .ref v0), (1, .int v1), (2, .int v2)] [] := by
  unfold FX2_occupant_B2
  refine V_iload_n F dX2_occupant_2 rfl 2 rfl ?_
  refine V_aload_n F dX2_occupant_3 rfl 0 rfl ?_
  refine V_gI (ci := 3) (k9 := 6) (C := RX2) (T := TX2) (N := 7) F rfl hinX2 (by decide) q131 dX2_occupant_4 (fun x1 => ?_)
  refine V_icmp_ge (tgt := 28) F dX2_occupant_7 (by decide) (fun c2 => ?_) (fun c3 => ?_)
  · refine V_iconst (v := (-1)) F dX2_occupant_28 (by decide) ?_
    exact V_iret F M dX2_occupant_29 rfl (by decide) (by decide)
  · refine V_aload_n F dX2_occupant_10 rfl 0 rfl ?_
    refine V_gR (ci := 3) (k9 := 0) (C := RX2) (T := TX2) (N := 7) F rfl hinX2 (by decide) q112 dX2_occupant_11 (fun x4 => ?_)
    refine V_iload_n F dX2_occupant_14 rfl 2 rfl ?_
    refine V_aI F dX2_occupant_15 (fun x5 => ?_)
    refine V_iload_n F dX2_occupant_16 rfl 1 rfl ?_
    refine V_icmp_ne (tgt := 22) F dX2_occupant_17 (by decide) (fun c6 => ?_) (fun c7 => ?_)
    · refine V_iinc (lv' := [(2, .int (v2 + 1)), (0, .ref v0), (1, .int v1)]) F dX2_occupant_22 2 rfl rfl (lt_L hNL (by decide)) rfl ?_
      refine V_goto (tgt := 2) F dX2_occupant_25 (by decide) ?_
      refine V_sub [1, 2, 0] rfl ?_
      exact hk2 v0 v1 (v2 + 1) μ
    · refine V_iload_n F dX2_occupant_20 rfl 2 rfl ?_
      exact V_iret F M dX2_occupant_21 rfl (by decide) (by decide)
def FX2_occupant_L2  : Nat → Nat → Int32 → Int32 → Me → Rs Int32
  | 0, _, _, _, _ => none
  | f + 1, v0, v1, v2, μ => FX2_occupant_B2 (FX2_occupant_L2  f) v0 v1 v2 μ
theorem VX2_occupant_L2 {κ : Cx} {ρ : (Int32 ⊕ String) × Me} (F : Fx κ cX2_occupant RX2) (M : Mx κ (fun r : Int32 => some (.int r)) ρ rmX2_occupant (some .int) [] "occupant") (hNL : κ.2.2.2.2.2.2.2.2.2.2.2.2.2.2 = 3)   : ∀ (f : Nat) (v0 : Nat) (v1 : Int32) (v2 : Int32) (μ : Me), V κ ρ 0 0 μ (FX2_occupant_L2  f v0 v1 v2 μ) 2 [(0, .ref v0), (1, .int v1), (2, .int v2)] [] := by
  intro f
  induction f with
  | zero => intros; exact V_none
  | succ f ih => intro v0 v1 v2 μ; exact VX2_occupant_B2 F M hNL (fun v0 v1 v2 μ => ih v0 v1 v2 μ) v0 v1 v2 μ
def FX2_occupant (a0 : Nat) (p1 : Int32) (μ : Me) : Rs Int32 :=
  (FX2_occupant_L2  FU a0 p1 0 μ)
set_option maxHeartbeats 4000000 in
set_option maxRecDepth 100000 in
theorem metX2_occupant {l : Launch} {s0 : State} {D : va_G} {aC : Nat → ClassId} (hG : Gl s0 D aC) (hl : l.stackTraces = false) (a0 : Nat) (p1 : Int32) (μ : Me) : Ct l yX2_occupant (ws_ yX2_occupant cX2_occupant 3 (some .int)) rmX2_occupant s0 D aC (fun r : Int32 => some (.int r)) [.ref a0, .int p1] μ (FX2_occupant a0 p1 μ) := by
  refine Ct_of hG hl (by decide +kernel) (Nat.le_of_ble_eq_true rfl) (fun κ ρ hNL F M hκ => ?_)
  have F : Fx κ cX2_occupant RX2 := F
  change V κ ρ 0 0 μ (FX2_occupant a0 p1 μ) 0 [(0, .ref a0), (1, .int p1)] []
  unfold FX2_occupant
  refine V_iconst (v := 0) F dX2_occupant_0 (by decide) ?_
  refine V_istore_n (lv' := [(2, .int 0), (0, .ref a0), (1, .int p1)]) F dX2_occupant_1 rfl (lt_L hNL (by decide)) rfl ?_
  refine V_sub [1, 2, 0] rfl ?_
  exact VX2_occupant_L2 F M hNL  FU a0 p1 0 μ
/-! DroneLightShow$Fleet.ground(I)V -/
abbrev rmX2_ground : Room := { frames := 0, cells := 0, slots := 0, locals := 0 }
def FX2_ground (a0 : Nat) (p1 : Int32) (μ : Me) : Rs Unit :=
  (gR μ a0 3 4 (fun x1 => (sZ μ x1 p1 0 (fun μ2 => (gR μ2 a0 3 5 (fun x3 => (sZ μ2 x3 p1 0 (fun μ4 => (gR μ4 a0 3 2 (fun x5 => (sI μ4 x5 p1 (-1) (fun μ6 => (rt () μ6)))))))))))))
set_option maxHeartbeats 4000000 in
set_option maxRecDepth 100000 in
theorem metX2_ground {l : Launch} {s0 : State} {D : va_G} {aC : Nat → ClassId} (hG : Gl s0 D aC) (hl : l.stackTraces = false) (a0 : Nat) (p1 : Int32) (μ : Me) : Ct l yX2_ground (ws_ yX2_ground cX2_ground 2 none) rmX2_ground s0 D aC (fun _ : Unit => none) [.ref a0, .int p1] μ (FX2_ground a0 p1 μ) := by
  refine Ct_of hG hl (by decide +kernel) (Nat.le_of_ble_eq_true rfl) (fun κ ρ hNL F M hκ => ?_)
  have F : Fx κ cX2_ground RX2 := F
  change V κ ρ 0 0 μ (FX2_ground a0 p1 μ) 0 [(0, .ref a0), (1, .int p1)] []
  unfold FX2_ground
  refine V_aload_n F dX2_ground_0 rfl 0 rfl ?_
  refine V_gR (ci := 3) (k9 := 4) (C := RX2) (T := TX2) (N := 7) F rfl hinX2 (by decide) q125 dX2_ground_1 (fun x1 => ?_)
  refine V_iload_n F dX2_ground_4 rfl 1 rfl ?_
  refine V_iconst (v := 0) F dX2_ground_5 (by decide) ?_
  refine V_sZ F dX2_ground_6 (fun μ2 => ?_)
  refine V_aload_n F dX2_ground_7 rfl 0 rfl ?_
  refine V_gR (ci := 3) (k9 := 5) (C := RX2) (T := TX2) (N := 7) F rfl hinX2 (by decide) q128 dX2_ground_8 (fun x3 => ?_)
  refine V_iload_n F dX2_ground_11 rfl 1 rfl ?_
  refine V_iconst (v := 0) F dX2_ground_12 (by decide) ?_
  refine V_sZ F dX2_ground_13 (fun μ4 => ?_)
  refine V_aload_n F dX2_ground_14 rfl 0 rfl ?_
  refine V_gR (ci := 3) (k9 := 2) (C := RX2) (T := TX2) (N := 7) F rfl hinX2 (by decide) q118 dX2_ground_15 (fun x5 => ?_)
  refine V_iload_n F dX2_ground_18 rfl 1 rfl ?_
  refine V_iconst (v := (-1)) F dX2_ground_19 (by decide) ?_
  refine V_sI F dX2_ground_20 (fun μ6 => ?_)
  exact V_vret F M dX2_ground_21 rfl (by decide) (by decide)
/-! DroneLightShow$Fleet.flyingCount()I -/
abbrev rmX2_flyingCount : Room := { frames := 0, cells := 0, slots := 0, locals := 0 }
def FX2_flyingCount_B4 (k4 : Nat → Int32 → Int32 → Me → Rs Int32) (v0 : Nat) (v1 : Int32) (v2 : Int32) (μ : Me) : Rs Int32 :=
  (gI μ v0 3 6 (fun x1 => (if x1 ≤ v2 then (rt v1 μ) else (gR μ v0 3 4 (fun x4 => (aZ μ x4 v2 (fun x5 => (if x5 = 0 then (k4 v0 v1 (v2 + 1) μ) else (k4 v0 (v1 + 1) (v2 + 1) μ)))))))))
set_option maxHeartbeats 4000000 in
set_option maxRecDepth 100000 in
theorem VX2_flyingCount_B4 {κ : Cx} {ρ : (Int32 ⊕ String) × Me} (F : Fx κ cX2_flyingCount RX2) (M : Mx κ (fun r : Int32 => some (.int r)) ρ rmX2_flyingCount (some .int) [] "flyingCount") (hNL : κ.2.2.2.2.2.2.2.2.2.2.2.2.2.2 = 3) {k4 : Nat → Int32 → Int32 → Me → Rs Int32} (hk4 : ∀ (v0 : Nat) (v1 : Int32) (v2 : Int32) (μ : Me), V κ ρ 0 0 μ (k4 v0 v1 v2 μ) 4 [(0, .ref v0), (1, .int v1), (2, .int v2)] []) (v0 : Nat) (v1 : Int32) (v2 : Int32) (μ : Me) : V κ ρ 0 0 μ (FX2_flyingCount_B4 k4 v0 v1 v2 μ) 4 [(0, .ref v0), (1, .int v1), (2, .int v2)] [] := by
  unfold FX2_flyingCount_B4
  refine V_iload_n F dX2_flyingCount_4 rfl 2 rfl ?_
  refine V_aload_n F dX2_flyingCount_5 rfl 0 rfl ?_
  refine V_gI (ci := 3) (k9 := 6) (C := RX2) (T := TX2) (N := 7) F rfl hinX2 (by decide) q131 dX2_flyingCount_6 (fun x1 => ?_)
  refine V_icmp_ge (tgt := 30) F dX2_flyingCount_9 (by decide) (fun c2 => ?_) (fun c3 => ?_)
  · refine V_iload_n F dX2_flyingCount_30 rfl 1 rfl ?_
    exact V_iret F M dX2_flyingCount_31 rfl (by decide) (by decide)
  · refine V_aload_n F dX2_flyingCount_12 rfl 0 rfl ?_
    refine V_gR (ci := 3) (k9 := 4) (C := RX2) (T := TX2) (N := 7) F rfl hinX2 (by decide) q125 dX2_flyingCount_13 (fun x4 => ?_)
    refine V_iload_n F dX2_flyingCount_16 rfl 2 rfl ?_
    refine V_aZ F dX2_flyingCount_17 (fun x5 => ?_)
    refine V_if_eq (tgt := 24) F dX2_flyingCount_18 (by decide) (fun c6 => ?_) (fun c7 => ?_)
    · refine V_iinc (lv' := [(2, .int (v2 + 1)), (0, .ref v0), (1, .int v1)]) F dX2_flyingCount_24 2 rfl rfl (lt_L hNL (by decide)) rfl ?_
      refine V_goto (tgt := 4) F dX2_flyingCount_27 (by decide) ?_
      refine V_sub [1, 2, 0] rfl ?_
      exact hk4 v0 v1 (v2 + 1) μ
    · refine V_iinc (lv' := [(1, .int (v1 + 1)), (0, .ref v0), (2, .int v2)]) F dX2_flyingCount_21 1 rfl rfl (lt_L hNL (by decide)) rfl ?_
      refine V_iinc (lv' := [(2, .int (v2 + 1)), (1, .int (v1 + 1)), (0, .ref v0)]) F dX2_flyingCount_24 2 rfl rfl (lt_L hNL (by decide)) rfl ?_
      refine V_goto (tgt := 4) F dX2_flyingCount_27 (by decide) ?_
      refine V_sub [2, 1, 0] rfl ?_
      exact hk4 v0 (v1 + 1) (v2 + 1) μ
def FX2_flyingCount_L4  : Nat → Nat → Int32 → Int32 → Me → Rs Int32
  | 0, _, _, _, _ => none
  | f + 1, v0, v1, v2, μ => FX2_flyingCount_B4 (FX2_flyingCount_L4  f) v0 v1 v2 μ
theorem VX2_flyingCount_L4 {κ : Cx} {ρ : (Int32 ⊕ String) × Me} (F : Fx κ cX2_flyingCount RX2) (M : Mx κ (fun r : Int32 => some (.int r)) ρ rmX2_flyingCount (some .int) [] "flyingCount") (hNL : κ.2.2.2.2.2.2.2.2.2.2.2.2.2.2 = 3)   : ∀ (f : Nat) (v0 : Nat) (v1 : Int32) (v2 : Int32) (μ : Me), V κ ρ 0 0 μ (FX2_flyingCount_L4  f v0 v1 v2 μ) 4 [(0, .ref v0), (1, .int v1), (2, .int v2)] [] := by
  intro f
  induction f with
  | zero => intros; exact V_none
  | succ f ih => intro v0 v1 v2 μ; exact VX2_flyingCount_B4 F M hNL (fun v0 v1 v2 μ => ih v0 v1 v2 μ) v0 v1 v2 μ
def FX2_flyingCount (a0 : Nat) (μ : Me) : Rs Int32 :=
  (FX2_flyingCount_L4  FU a0 0 0 μ)
set_option maxHeartbeats 4000000 in
set_option maxRecDepth 100000 in
theorem metX2_flyingCount {l : Launch} {s0 : State} {D : va_G} {aC : Nat → ClassId} (hG : Gl s0 D aC) (hl : l.stackTraces = false) (a0 : Nat) (μ : Me) : Ct l yX2_flyingCount (ws_ yX2_flyingCount cX2_flyingCount 3 (some .int)) rmX2_flyingCount s0 D aC (fun r : Int32 => some (.int r)) [.ref a0] μ (FX2_flyingCount a0 μ) := by
  refine Ct_of hG hl (by decide +kernel) (Nat.le_of_ble_eq_true rfl) (fun κ ρ hNL F M hκ => ?_)
  have F : Fx κ cX2_flyingCount RX2 := F
  change V κ ρ 0 0 μ (FX2_flyingCount a0 μ) 0 [(0, .ref a0)] []
  unfold FX2_flyingCount
  refine V_iconst (v := 0) F dX2_flyingCount_0 (by decide) ?_
  refine V_istore_n (lv' := [(1, .int 0), (0, .ref a0)]) F dX2_flyingCount_1 rfl (lt_L hNL (by decide)) rfl ?_
  refine V_iconst (v := 0) F dX2_flyingCount_2 (by decide) ?_
  refine V_istore_n (lv' := [(2, .int 0), (1, .int 0), (0, .ref a0)]) F dX2_flyingCount_3 rfl (lt_L hNL (by decide)) rfl ?_
  refine V_sub [2, 1, 0] rfl ?_
  exact VX2_flyingCount_L4 F M hNL  FU a0 0 0 μ
/-! DroneLightShow$Fleet.allCells()J -/
abbrev rmX2_allCells : Room := { frames := 0, cells := 0, slots := 0, locals := 0 }
def FX2_allCells_B4 (k4 : Nat → Int64 → Int32 → Me → Rs Int64) (v0 : Nat) (v1 : Int64) (v3 : Int32) (μ : Me) : Rs Int64 :=
  (gI μ v0 3 6 (fun x1 => (if x1 ≤ v3 then (rt v1 μ) else (gR μ v0 3 0 (fun x4 => (aI μ x4 v3 (fun x5 => (k4 v0 (v1 ||| (1 <<< ((x5 : Int32).toInt64 &&& 63))) (v3 + 1) μ))))))))
set_option maxHeartbeats 4000000 in
set_option maxRecDepth 100000 in
theorem VX2_allCells_B4 {κ : Cx} {ρ : (Int64 ⊕ String) × Me} (F : Fx κ cX2_allCells RX2) (M : Mx κ (fun r : Int64 => some (.long r)) ρ rmX2_allCells (some .long) [] "allCells") (hNL : κ.2.2.2.2.2.2.2.2.2.2.2.2.2.2 = 4) {k4 : Nat → Int64 → Int32 → Me → Rs Int64} (hk4 : ∀ (v0 : Nat) (v1 : Int64) (v3 : Int32) (μ : Me), V κ ρ 0 0 μ (k4 v0 v1 v3 μ) 4 [(0, .ref v0), (1, .long v1), (3, .int v3)] []) (v0 : Nat) (v1 : Int64) (v3 : Int32) (μ : Me) : V κ ρ 0 0 μ (FX2_allCells_B4 k4 v0 v1 v3 μ) 4 [(0, .ref v0), (1, .long v1), (3, .int v3)] [] := by
  unfold FX2_allCells_B4
  refine V_iload_n F dX2_allCells_4 rfl 2 rfl ?_
  refine V_aload_n F dX2_allCells_5 rfl 0 rfl ?_
  refine V_gI (ci := 3) (k9 := 6) (C := RX2) (T := TX2) (N := 7) F rfl hinX2 (by decide) q131 dX2_allCells_6 (fun x1 => ?_)
  refine V_icmp_ge (tgt := 29) F dX2_allCells_9 (by decide) (fun c2 => ?_) (fun c3 => ?_)
  · refine V_lload_n F dX2_allCells_29 rfl 1 rfl ?_
    exact V_lret F M dX2_allCells_30 rfl (by decide) (by decide)
  · refine V_lload_n F dX2_allCells_12 rfl 1 rfl ?_
    refine V_lconst (v := 1) F dX2_allCells_13 (by decide) ?_
    refine V_aload_n F dX2_allCells_14 rfl 0 rfl ?_
    refine V_gR (ci := 3) (k9 := 0) (C := RX2) (T := TX2) (N := 7) F rfl hinX2 (by decide) q112 dX2_allCells_15 (fun x4 => ?_)
    refine V_iload_n F dX2_allCells_18 rfl 2 rfl ?_
    refine V_aI F dX2_allCells_19 (fun x5 => ?_)
    refine V_lshl F dX2_allCells_20 ?_
    refine V_lor F dX2_allCells_21 ?_
    refine V_lstore_n (lv' := [(1, .long (v1 ||| (1 <<< ((x5 : Int32).toInt64 &&& 63)))), (0, .ref v0), (3, .int v3)]) F dX2_allCells_22 rfl (lt_L hNL (by decide)) rfl ?_
    refine V_iinc (lv' := [(3, .int (v3 + 1)), (1, .long (v1 ||| (1 <<< ((x5 : Int32).toInt64 &&& 63)))), (0, .ref v0)]) F dX2_allCells_23 2 rfl rfl (lt_L hNL (by decide)) rfl ?_
    refine V_goto (tgt := 4) F dX2_allCells_26 (by decide) ?_
    refine V_sub [2, 1, 0] rfl ?_
    exact hk4 v0 (v1 ||| (1 <<< ((x5 : Int32).toInt64 &&& 63))) (v3 + 1) μ
def FX2_allCells_L4  : Nat → Nat → Int64 → Int32 → Me → Rs Int64
  | 0, _, _, _, _ => none
  | f + 1, v0, v1, v3, μ => FX2_allCells_B4 (FX2_allCells_L4  f) v0 v1 v3 μ
theorem VX2_allCells_L4 {κ : Cx} {ρ : (Int64 ⊕ String) × Me} (F : Fx κ cX2_allCells RX2) (M : Mx κ (fun r : Int64 => some (.long r)) ρ rmX2_allCells (some .long) [] "allCells") (hNL : κ.2.2.2.2.2.2.2.2.2.2.2.2.2.2 = 4)   : ∀ (f : Nat) (v0 : Nat) (v1 : Int64) (v3 : Int32) (μ : Me), V κ ρ 0 0 μ (FX2_allCells_L4  f v0 v1 v3 μ) 4 [(0, .ref v0), (1, .long v1), (3, .int v3)] [] := by
  intro f
  induction f with
  | zero => intros; exact V_none
  | succ f ih => intro v0 v1 v3 μ; exact VX2_allCells_B4 F M hNL (fun v0 v1 v3 μ => ih v0 v1 v3 μ) v0 v1 v3 μ
def FX2_allCells (a0 : Nat) (μ : Me) : Rs Int64 :=
  (FX2_allCells_L4  FU a0 0 0 μ)
set_option maxHeartbeats 4000000 in
set_option maxRecDepth 100000 in
theorem metX2_allCells {l : Launch} {s0 : State} {D : va_G} {aC : Nat → ClassId} (hG : Gl s0 D aC) (hl : l.stackTraces = false) (a0 : Nat) (μ : Me) : Ct l yX2_allCells (ws_ yX2_allCells cX2_allCells 4 (some .long)) rmX2_allCells s0 D aC (fun r : Int64 => some (.long r)) [.ref a0] μ (FX2_allCells a0 μ) := by
  refine Ct_of hG hl (by decide +kernel) (Nat.le_of_ble_eq_true rfl) (fun κ ρ hNL F M hκ => ?_)
  have F : Fx κ cX2_allCells RX2 := F
  change V κ ρ 0 0 μ (FX2_allCells a0 μ) 0 [(0, .ref a0)] []
  unfold FX2_allCells
  refine V_lconst (v := 0) F dX2_allCells_0 (by decide) ?_
  refine V_lstore_n (lv' := [(1, .long 0), (0, .ref a0)]) F dX2_allCells_1 rfl (lt_L hNL (by decide)) rfl ?_
  refine V_iconst (v := 0) F dX2_allCells_2 (by decide) ?_
  refine V_istore_n (lv' := [(3, .int 0), (1, .long 0), (0, .ref a0)]) F dX2_allCells_3 rfl (lt_L hNL (by decide)) rfl ?_
  refine V_sub [2, 1, 0] rfl ?_
  exact VX2_allCells_L4 F M hNL  FU a0 0 0 μ
/-! DroneLightShow$Fleet.flyingCells()J -/
abbrev rmX2_flyingCells : Room := { frames := 0, cells := 0, slots := 0, locals := 0 }
def FX2_flyingCells_B4 (k4 : Nat → Int64 → Int32 → Me → Rs Int64) (v0 : Nat) (v1 : Int64) (v3 : Int32) (μ : Me) : Rs Int64 :=
  (gI μ v0 3 6 (fun x1 => (if x1 ≤ v3 then (rt v1 μ) else (gR μ v0 3 4 (fun x4 => (aZ μ x4 v3 (fun x5 => (if x5 = 0 then (k4 v0 v1 (v3 + 1) μ) else (gR μ v0 3 0 (fun x8 => (aI μ x8 v3 (fun x9 => (k4 v0 (v1 ||| (1 <<< ((x9 : Int32).toInt64 &&& 63))) (v3 + 1) μ)))))))))))))
set_option maxHeartbeats 4000000 in
set_option maxRecDepth 100000 in
theorem VX2_flyingCells_B4 {κ : Cx} {ρ : (Int64 ⊕ String) × Me} (F : Fx κ cX2_flyingCells RX2) (M : Mx κ (fun r : Int64 => some (.long r)) ρ rmX2_flyingCells (some .long) [] "flyingCells") (hNL : κ.2.2.2.2.2.2.2.2.2.2.2.2.2.2 = 4) {k4 : Nat → Int64 → Int32 → Me → Rs Int64} (hk4 : ∀ (v0 : Nat) (v1 : Int64) (v3 : Int32) (μ : Me), V κ ρ 0 0 μ (k4 v0 v1 v3 μ) 4 [(0, .ref v0), (1, .long v1), (3, .int v3)] []) (v0 : Nat) (v1 : Int64) (v3 : Int32) (μ : Me) : V κ ρ 0 0 μ (FX2_flyingCells_B4 k4 v0 v1 v3 μ) 4 [(0, .ref v0), (1, .long v1), (3, .int v3)] [] := by
  unfold FX2_flyingCells_B4
  refine V_iload_n F dX2_flyingCells_4 rfl 2 rfl ?_
  refine V_aload_n F dX2_flyingCells_5 rfl 0 rfl ?_
  refine V_gI (ci := 3) (k9 := 6) (C := RX2) (T := TX2) (N := 7) F rfl hinX2 (by decide) q131 dX2_flyingCells_6 (fun x1 => ?_)
  refine V_icmp_ge (tgt := 38) F dX2_flyingCells_9 (by decide) (fun c2 => ?_) (fun c3 => ?_)
  · refine V_lload_n F dX2_flyingCells_38 rfl 1 rfl ?_
    exact V_lret F M dX2_flyingCells_39 rfl (by decide) (by decide)
  · refine V_aload_n F dX2_flyingCells_12 rfl 0 rfl ?_
    refine V_gR (ci := 3) (k9 := 4) (C := RX2) (T := TX2) (N := 7) F rfl hinX2 (by decide) q125 dX2_flyingCells_13 (fun x4 => ?_)
    refine V_iload_n F dX2_flyingCells_16 rfl 2 rfl ?_
    refine V_aZ F dX2_flyingCells_17 (fun x5 => ?_)
    refine V_if_eq (tgt := 32) F dX2_flyingCells_18 (by decide) (fun c6 => ?_) (fun c7 => ?_)
    · refine V_iinc (lv' := [(3, .int (v3 + 1)), (0, .ref v0), (1, .long v1)]) F dX2_flyingCells_32 2 rfl rfl (lt_L hNL (by decide)) rfl ?_
      refine V_goto (tgt := 4) F dX2_flyingCells_35 (by decide) ?_
      refine V_sub [1, 2, 0] rfl ?_
      exact hk4 v0 v1 (v3 + 1) μ
    · refine V_lload_n F dX2_flyingCells_21 rfl 1 rfl ?_
      refine V_lconst (v := 1) F dX2_flyingCells_22 (by decide) ?_
      refine V_aload_n F dX2_flyingCells_23 rfl 0 rfl ?_
      refine V_gR (ci := 3) (k9 := 0) (C := RX2) (T := TX2) (N := 7) F rfl hinX2 (by decide) q112 dX2_flyingCells_24 (fun x8 => ?_)
      refine V_iload_n F dX2_flyingCells_27 rfl 2 rfl ?_
      refine V_aI F dX2_flyingCells_28 (fun x9 => ?_)
      refine V_lshl F dX2_flyingCells_29 ?_
      refine V_lor F dX2_flyingCells_30 ?_
      refine V_lstore_n (lv' := [(1, .long (v1 ||| (1 <<< ((x9 : Int32).toInt64 &&& 63)))), (0, .ref v0), (3, .int v3)]) F dX2_flyingCells_31 rfl (lt_L hNL (by decide)) rfl ?_
      refine V_iinc (lv' := [(3, .int (v3 + 1)), (1, .long (v1 ||| (1 <<< ((x9 : Int32).toInt64 &&& 63)))), (0, .ref v0)]) F dX2_flyingCells_32 2 rfl rfl (lt_L hNL (by decide)) rfl ?_
      refine V_goto (tgt := 4) F dX2_flyingCells_35 (by decide) ?_
      refine V_sub [2, 1, 0] rfl ?_
      exact hk4 v0 (v1 ||| (1 <<< ((x9 : Int32).toInt64 &&& 63))) (v3 + 1) μ
def FX2_flyingCells_L4  : Nat → Nat → Int64 → Int32 → Me → Rs Int64
  | 0, _, _, _, _ => none
  | f + 1, v0, v1, v3, μ => FX2_flyingCells_B4 (FX2_flyingCells_L4  f) v0 v1 v3 μ
theorem VX2_flyingCells_L4 {κ : Cx} {ρ : (Int64 ⊕ String) × Me} (F : Fx κ cX2_flyingCells RX2) (M : Mx κ (fun r : Int64 => some (.long r)) ρ rmX2_flyingCells (some .long) [] "flyingCells") (hNL : κ.2.2.2.2.2.2.2.2.2.2.2.2.2.2 = 4)   : ∀ (f : Nat) (v0 : Nat) (v1 : Int64) (v3 : Int32) (μ : Me), V κ ρ 0 0 μ (FX2_flyingCells_L4  f v0 v1 v3 μ) 4 [(0, .ref v0), (1, .long v1), (3, .int v3)] [] := by
  intro f
  induction f with
  | zero => intros; exact V_none
  | succ f ih => intro v0 v1 v3 μ; exact VX2_flyingCells_B4 F M hNL (fun v0 v1 v3 μ => ih v0 v1 v3 μ) v0 v1 v3 μ
def FX2_flyingCells (a0 : Nat) (μ : Me) : Rs Int64 :=
  (FX2_flyingCells_L4  FU a0 0 0 μ)
set_option maxHeartbeats 4000000 in
set_option maxRecDepth 100000 in
theorem metX2_flyingCells {l : Launch} {s0 : State} {D : va_G} {aC : Nat → ClassId} (hG : Gl s0 D aC) (hl : l.stackTraces = false) (a0 : Nat) (μ : Me) : Ct l yX2_flyingCells (ws_ yX2_flyingCells cX2_flyingCells 4 (some .long)) rmX2_flyingCells s0 D aC (fun r : Int64 => some (.long r)) [.ref a0] μ (FX2_flyingCells a0 μ) := by
  refine Ct_of hG hl (by decide +kernel) (Nat.le_of_ble_eq_true rfl) (fun κ ρ hNL F M hκ => ?_)
  have F : Fx κ cX2_flyingCells RX2 := F
  change V κ ρ 0 0 μ (FX2_flyingCells a0 μ) 0 [(0, .ref a0)] []
  unfold FX2_flyingCells
  refine V_lconst (v := 0) F dX2_flyingCells_0 (by decide) ?_
  refine V_lstore_n (lv' := [(1, .long 0), (0, .ref a0)]) F dX2_flyingCells_1 rfl (lt_L hNL (by decide)) rfl ?_
  refine V_iconst (v := 0) F dX2_flyingCells_2 (by decide) ?_
  refine V_istore_n (lv' := [(3, .int 0), (1, .long 0), (0, .ref a0)]) F dX2_flyingCells_3 rfl (lt_L hNL (by decide)) rfl ?_
  refine V_sub [2, 1, 0] rfl ?_
  exact VX2_flyingCells_L4 F M hNL  FU a0 0 0 μ
/-! DroneLightShow$Fleet.precedes(II)Z -/
abbrev rmX2_precedes : Room := { frames := 0, cells := 0, slots := 0, locals := 0 }
def FX2_precedes (a0 : Nat) (p1 : Int32) (p2 : Int32) (μ : Me) : Rs Int32 :=
  (gR μ a0 3 1 (fun x1 => (aI μ x1 p1 (fun x2 => (gR μ a0 3 1 (fun x3 => (aI μ x3 p2 (fun x4 => (if x2 = x4 then (gR μ a0 3 4 (fun x7 => (aZ μ x7 p1 (fun x8 => (gR μ a0 3 4 (fun x9 => (aZ μ x9 p2 (fun x10 => (if x8 = x10 then (if p2 ≤ p1 then (rt 0 μ) else (rt 1 μ)) else (gR μ a0 3 4 (fun x15 => (aZ μ x15 p1 (fun x16 => (gd (vp_nar .boolean x16 = x16) (rt x16 μ))))))))))))))) else (gR μ a0 3 1 (fun x18 => (aI μ x18 p1 (fun x19 => (gR μ a0 3 1 (fun x20 => (aI μ x20 p2 (fun x21 => (if x21 ≤ x19 then (rt 0 μ) else (rt 1 μ)))))))))))))))))))
set_option maxHeartbeats 4000000 in
set_option maxRecDepth 100000 in
theorem metX2_precedes {l : Launch} {s0 : State} {D : va_G} {aC : Nat → ClassId} (hG : Gl s0 D aC) (hl : l.stackTraces = false) (a0 : Nat) (p1 : Int32) (p2 : Int32) (μ : Me) : Ct l yX2_precedes (ws_ yX2_precedes cX2_precedes 3 (some .boolean)) rmX2_precedes s0 D aC (fun r : Int32 => some (.int r)) [.ref a0, .int p1, .int p2] μ (FX2_precedes a0 p1 p2 μ) := by
  refine Ct_of hG hl (by decide +kernel) (Nat.le_of_ble_eq_true rfl) (fun κ ρ hNL F M hκ => ?_)
  have F : Fx κ cX2_precedes RX2 := F
  change V κ ρ 0 0 μ (FX2_precedes a0 p1 p2 μ) 0 [(0, .ref a0), (1, .int p1), (2, .int p2)] []
  unfold FX2_precedes
  refine V_aload_n F dX2_precedes_0 rfl 0 rfl ?_
  refine V_gR (ci := 3) (k9 := 1) (C := RX2) (T := TX2) (N := 7) F rfl hinX2 (by decide) q115 dX2_precedes_1 (fun x1 => ?_)
  refine V_iload_n F dX2_precedes_4 rfl 1 rfl ?_
  refine V_aI F dX2_precedes_5 (fun x2 => ?_)
  refine V_aload_n F dX2_precedes_6 rfl 0 rfl ?_
  refine V_gR (ci := 3) (k9 := 1) (C := RX2) (T := TX2) (N := 7) F rfl hinX2 (by decide) q115 dX2_precedes_7 (fun x3 => ?_)
  refine V_iload_n F dX2_precedes_10 rfl 2 rfl ?_
  refine V_aI F dX2_precedes_11 (fun x4 => ?_)
  refine V_icmp_eq (tgt := 36) F dX2_precedes_12 (by decide) (fun c5 => ?_) (fun c6 => ?_)
  · refine V_aload_n F dX2_precedes_36 rfl 0 rfl ?_
    refine V_gR (ci := 3) (k9 := 4) (C := RX2) (T := TX2) (N := 7) F rfl hinX2 (by decide) q125 dX2_precedes_37 (fun x7 => ?_)
    refine V_iload_n F dX2_precedes_40 rfl 1 rfl ?_
    refine V_aZ F dX2_precedes_41 (fun x8 => ?_)
    refine V_aload_n F dX2_precedes_42 rfl 0 rfl ?_
    refine V_gR (ci := 3) (k9 := 4) (C := RX2) (T := TX2) (N := 7) F rfl hinX2 (by decide) q125 dX2_precedes_43 (fun x9 => ?_)
    refine V_iload_n F dX2_precedes_46 rfl 2 rfl ?_
    refine V_aZ F dX2_precedes_47 (fun x10 => ?_)
    refine V_icmp_eq (tgt := 58) F dX2_precedes_48 (by decide) (fun c11 => ?_) (fun c12 => ?_)
    · refine V_iload_n F dX2_precedes_58 rfl 1 rfl ?_
      refine V_iload_n F dX2_precedes_59 rfl 2 rfl ?_
      refine V_icmp_ge (tgt := 67) F dX2_precedes_60 (by decide) (fun c13 => ?_) (fun c14 => ?_)
      · refine V_iconst (v := 0) F dX2_precedes_67 (by decide) ?_
        exact V_zret F M dX2_precedes_68 rfl (by decide) (by decide) (by decide)
      · refine V_iconst (v := 1) F dX2_precedes_63 (by decide) ?_
        refine V_goto (tgt := 68) F dX2_precedes_64 (by decide) ?_
        exact V_zret F M dX2_precedes_68 rfl (by decide) (by decide) (by decide)
    · refine V_aload_n F dX2_precedes_51 rfl 0 rfl ?_
      refine V_gR (ci := 3) (k9 := 4) (C := RX2) (T := TX2) (N := 7) F rfl hinX2 (by decide) q125 dX2_precedes_52 (fun x15 => ?_)
      refine V_iload_n F dX2_precedes_55 rfl 1 rfl ?_
      refine V_aZ F dX2_precedes_56 (fun x16 => ?_)
      refine V_gd (fun g17 => ?_)
      exact V_zret F M dX2_precedes_57 rfl (nar_z g17) (by decide) (by decide)
  · refine V_aload_n F dX2_precedes_15 rfl 0 rfl ?_
    refine V_gR (ci := 3) (k9 := 1) (C := RX2) (T := TX2) (N := 7) F rfl hinX2 (by decide) q115 dX2_precedes_16 (fun x18 => ?_)
    refine V_iload_n F dX2_precedes_19 rfl 1 rfl ?_
    refine V_aI F dX2_precedes_20 (fun x19 => ?_)
    refine V_aload_n F dX2_precedes_21 rfl 0 rfl ?_
    refine V_gR (ci := 3) (k9 := 1) (C := RX2) (T := TX2) (N := 7) F rfl hinX2 (by decide) q115 dX2_precedes_22 (fun x20 => ?_)
    refine V_iload_n F dX2_precedes_25 rfl 2 rfl ?_
    refine V_aI F dX2_precedes_26 (fun x21 => ?_)
    refine V_icmp_ge (tgt := 34) F dX2_precedes_27 (by decide) (fun c22 => ?_) (fun c23 => ?_)
    · refine V_iconst (v := 0) F dX2_precedes_34 (by decide) ?_
      exact V_zret F M dX2_precedes_35 rfl (by decide) (by decide) (by decide)
    · refine V_iconst (v := 1) F dX2_precedes_30 (by decide) ?_
      refine V_goto (tgt := 35) F dX2_precedes_31 (by decide) ?_
      exact V_zret F M dX2_precedes_35 rfl (by decide) (by decide) (by decide)
/-! DroneLightShow$Fleet.isAssignable(I)Z -/
abbrev rmX2_isAssignable : Room := { frames := 0, cells := 0, slots := 0, locals := 0 }
def FX2_isAssignable (a0 : Nat) (p1 : Int32) (μ : Me) : Rs Int32 :=
  (gR μ a0 3 4 (fun x1 => (aZ μ x1 p1 (fun x2 => (if x2 = 0 then (rt 0 μ) else (gR μ a0 3 5 (fun x5 => (aZ μ x5 p1 (fun x6 => (if x6 = 0 then (rt 1 μ) else (rt 0 μ)))))))))))
set_option maxHeartbeats 4000000 in
set_option maxRecDepth 100000 in
theorem metX2_isAssignable {l : Launch} {s0 : State} {D : va_G} {aC : Nat → ClassId} (hG : Gl s0 D aC) (hl : l.stackTraces = false) (a0 : Nat) (p1 : Int32) (μ : Me) : Ct l yX2_isAssignable (ws_ yX2_isAssignable cX2_isAssignable 2 (some .boolean)) rmX2_isAssignable s0 D aC (fun r : Int32 => some (.int r)) [.ref a0, .int p1] μ (FX2_isAssignable a0 p1 μ) := by
  refine Ct_of hG hl (by decide +kernel) (Nat.le_of_ble_eq_true rfl) (fun κ ρ hNL F M hκ => ?_)
  have F : Fx κ cX2_isAssignable RX2 := F
  change V κ ρ 0 0 μ (FX2_isAssignable a0 p1 μ) 0 [(0, .ref a0), (1, .int p1)] []
  unfold FX2_isAssignable
  refine V_aload_n F dX2_isAssignable_0 rfl 0 rfl ?_
  refine V_gR (ci := 3) (k9 := 4) (C := RX2) (T := TX2) (N := 7) F rfl hinX2 (by decide) q125 dX2_isAssignable_1 (fun x1 => ?_)
  refine V_iload_n F dX2_isAssignable_4 rfl 1 rfl ?_
  refine V_aZ F dX2_isAssignable_5 (fun x2 => ?_)
  refine V_if_eq (tgt := 22) F dX2_isAssignable_6 (by decide) (fun c3 => ?_) (fun c4 => ?_)
  · refine V_iconst (v := 0) F dX2_isAssignable_22 (by decide) ?_
    exact V_zret F M dX2_isAssignable_23 rfl (by decide) (by decide) (by decide)
  · refine V_aload_n F dX2_isAssignable_9 rfl 0 rfl ?_
    refine V_gR (ci := 3) (k9 := 5) (C := RX2) (T := TX2) (N := 7) F rfl hinX2 (by decide) q128 dX2_isAssignable_10 (fun x5 => ?_)
    refine V_iload_n F dX2_isAssignable_13 rfl 1 rfl ?_
    refine V_aZ F dX2_isAssignable_14 (fun x6 => ?_)
    refine V_if_ne (tgt := 22) F dX2_isAssignable_15 (by decide) (fun c7 => ?_) (fun c8 => ?_)
    · refine V_iconst (v := 0) F dX2_isAssignable_22 (by decide) ?_
      exact V_zret F M dX2_isAssignable_23 rfl (by decide) (by decide) (by decide)
    · refine V_iconst (v := 1) F dX2_isAssignable_18 (by decide) ?_
      refine V_goto (tgt := 23) F dX2_isAssignable_19 (by decide) ?_
      exact V_zret F M dX2_isAssignable_23 rfl (by decide) (by decide) (by decide)
/-! DroneLightShow$Fleet.dropTargets()V -/
abbrev rmX2_dropTargets : Room := { frames := 1, cells := 0, slots := 0, locals := 21 }
def FX2_dropTargets_B2 (k2 : Nat → Int32 → Me → Rs Unit) (v0 : Nat) (v1 : Int32) (μ : Me) : Rs Unit :=
  (gI μ v0 3 6 (fun x1 => (if x1 ≤ v1 then (rt () μ) else (bnd (vc μ v0 3 (FX2_isAssignable v0 v1 μ)) (fun x5 μ4 => (if x5 = 0 then (k2 v0 (v1 + 1) μ4) else (gR μ4 v0 3 2 (fun x8 => (sI μ4 x8 v1 (-1) (fun μ9 => (k2 v0 (v1 + 1) μ9)))))))))))
set_option maxHeartbeats 4000000 in
set_option maxRecDepth 100000 in
theorem VX2_dropTargets_B2 {κ : Cx} {ρ : (Unit ⊕ String) × Me} (F : Fx κ cX2_dropTargets RX2) (M : Mx κ (fun _ : Unit => none) ρ rmX2_dropTargets none [] "dropTargets") (hNL : κ.2.2.2.2.2.2.2.2.2.2.2.2.2.2 = 2) {k2 : Nat → Int32 → Me → Rs Unit} (hk2 : ∀ (v0 : Nat) (v1 : Int32) (μ : Me), V κ ρ 0 0 μ (k2 v0 v1 μ) 2 [(0, .ref v0), (1, .int v1)] []) (v0 : Nat) (v1 : Int32) (μ : Me) : V κ ρ 0 0 μ (FX2_dropTargets_B2 k2 v0 v1 μ) 2 [(0, .ref v0), (1, .int v1)] [] := by
  unfold FX2_dropTargets_B2
  refine V_iload_n F dX2_dropTargets_2 rfl 1 rfl ?_
  refine V_aload_n F dX2_dropTargets_3 rfl 0 rfl ?_
  refine V_gI (ci := 3) (k9 := 6) (C := RX2) (T := TX2) (N := 7) F rfl hinX2 (by decide) q131 dX2_dropTargets_4 (fun x1 => ?_)
  refine V_icmp_ge (tgt := 31) F dX2_dropTargets_7 (by decide) (fun c2 => ?_) (fun c3 => ?_)
  · exact V_vret F M dX2_dropTargets_31 rfl (by decide) (by decide)
  · refine V_aload_n F dX2_dropTargets_10 rfl 0 rfl ?_
    refine V_iload_n F dX2_dropTargets_11 rfl 1 rfl ?_
    refine V_cV (As := [.int v1]) (rest := []) (C := RX2) (N := 1) F M (metX2_isAssignable (Fx_G F) (Fx_l F) v0 v1 μ) rfl q825 q68 q822 q823 q824 ⟨by decide +kernel, by decide +kernel, by decide +kernel⟩ rfl ⟨by decide, by decide⟩ (Nat.le_of_ble_eq_true rfl) dX2_dropTargets_12 (by decide) (by decide) (fun x5 μ4 => ?_)
    change V κ ρ 0 0 μ4 _ 15 [(0, .ref v0), (1, .int v1)] [.int x5]
    refine V_if_eq (tgt := 25) F dX2_dropTargets_15 (by decide) (fun c6 => ?_) (fun c7 => ?_)
    · refine V_iinc (lv' := [(1, .int (v1 + 1)), (0, .ref v0)]) F dX2_dropTargets_25 1 rfl rfl (lt_L hNL (by decide)) rfl ?_
      refine V_goto (tgt := 2) F dX2_dropTargets_28 (by decide) ?_
      refine V_sub [1, 0] rfl ?_
      exact hk2 v0 (v1 + 1) μ4
    · refine V_aload_n F dX2_dropTargets_18 rfl 0 rfl ?_
      refine V_gR (ci := 3) (k9 := 2) (C := RX2) (T := TX2) (N := 7) F rfl hinX2 (by decide) q118 dX2_dropTargets_19 (fun x8 => ?_)
      refine V_iload_n F dX2_dropTargets_22 rfl 1 rfl ?_
      refine V_iconst (v := (-1)) F dX2_dropTargets_23 (by decide) ?_
      refine V_sI F dX2_dropTargets_24 (fun μ9 => ?_)
      refine V_iinc (lv' := [(1, .int (v1 + 1)), (0, .ref v0)]) F dX2_dropTargets_25 1 rfl rfl (lt_L hNL (by decide)) rfl ?_
      refine V_goto (tgt := 2) F dX2_dropTargets_28 (by decide) ?_
      refine V_sub [1, 0] rfl ?_
      exact hk2 v0 (v1 + 1) μ9
def FX2_dropTargets_L2  : Nat → Nat → Int32 → Me → Rs Unit
  | 0, _, _, _ => none
  | f + 1, v0, v1, μ => FX2_dropTargets_B2 (FX2_dropTargets_L2  f) v0 v1 μ
theorem VX2_dropTargets_L2 {κ : Cx} {ρ : (Unit ⊕ String) × Me} (F : Fx κ cX2_dropTargets RX2) (M : Mx κ (fun _ : Unit => none) ρ rmX2_dropTargets none [] "dropTargets") (hNL : κ.2.2.2.2.2.2.2.2.2.2.2.2.2.2 = 2)   : ∀ (f : Nat) (v0 : Nat) (v1 : Int32) (μ : Me), V κ ρ 0 0 μ (FX2_dropTargets_L2  f v0 v1 μ) 2 [(0, .ref v0), (1, .int v1)] [] := by
  intro f
  induction f with
  | zero => intros; exact V_none
  | succ f ih => intro v0 v1 μ; exact VX2_dropTargets_B2 F M hNL (fun v0 v1 μ => ih v0 v1 μ) v0 v1 μ
def FX2_dropTargets (a0 : Nat) (μ : Me) : Rs Unit :=
  (FX2_dropTargets_L2  FU a0 0 μ)
set_option maxHeartbeats 4000000 in
set_option maxRecDepth 100000 in
theorem metX2_dropTargets {l : Launch} {s0 : State} {D : va_G} {aC : Nat → ClassId} (hG : Gl s0 D aC) (hl : l.stackTraces = false) (a0 : Nat) (μ : Me) : Ct l yX2_dropTargets (ws_ yX2_dropTargets cX2_dropTargets 2 none) rmX2_dropTargets s0 D aC (fun _ : Unit => none) [.ref a0] μ (FX2_dropTargets a0 μ) := by
  refine Ct_of hG hl (by decide +kernel) (Nat.le_of_ble_eq_true rfl) (fun κ ρ hNL F M hκ => ?_)
  have F : Fx κ cX2_dropTargets RX2 := F
  change V κ ρ 0 0 μ (FX2_dropTargets a0 μ) 0 [(0, .ref a0)] []
  unfold FX2_dropTargets
  refine V_iconst (v := 0) F dX2_dropTargets_0 (by decide) ?_
  refine V_istore_n (lv' := [(1, .int 0), (0, .ref a0)]) F dX2_dropTargets_1 rfl (lt_L hNL (by decide)) rfl ?_
  refine V_sub [1, 0] rfl ?_
  exact VX2_dropTargets_L2 F M hNL  FU a0 0 μ
/-! DroneLightShow$Fleet.batterySum()I -/
abbrev rmX2_batterySum : Room := { frames := 0, cells := 0, slots := 0, locals := 0 }
def FX2_batterySum_B4 (k4 : Nat → Int32 → Int32 → Me → Rs Int32) (v0 : Nat) (v1 : Int32) (v2 : Int32) (μ : Me) : Rs Int32 :=
  (gI μ v0 3 6 (fun x1 => (if x1 ≤ v2 then (rt v1 μ) else (gR μ v0 3 1 (fun x4 => (aI μ x4 v2 (fun x5 => (k4 v0 (v1 + x5) (v2 + 1) μ))))))))
set_option maxHeartbeats 4000000 in
set_option maxRecDepth 100000 in
theorem VX2_batterySum_B4 {κ : Cx} {ρ : (Int32 ⊕ String) × Me} (F : Fx κ cX2_batterySum RX2) (M : Mx κ (fun r : Int32 => some (.int r)) ρ rmX2_batterySum (some .int) [] "batterySum") (hNL : κ.2.2.2.2.2.2.2.2.2.2.2.2.2.2 = 3) {k4 : Nat → Int32 → Int32 → Me → Rs Int32} (hk4 : ∀ (v0 : Nat) (v1 : Int32) (v2 : Int32) (μ : Me), V κ ρ 0 0 μ (k4 v0 v1 v2 μ) 4 [(0, .ref v0), (1, .int v1), (2, .int v2)] []) (v0 : Nat) (v1 : Int32) (v2 : Int32) (μ : Me) : V κ ρ 0 0 μ (FX2_batterySum_B4 k4 v0 v1 v2 μ) 4 [(0, .ref v0), (1, .int v1), (2, .int v2)] [] := by
  unfold FX2_batterySum_B4
  refine V_iload_n F dX2_batterySum_4 rfl 2 rfl ?_
  refine V_aload_n F dX2_batterySum_5 rfl 0 rfl ?_
  refine V_gI (ci := 3) (k9 := 6) (C := RX2) (T := TX2) (N := 7) F rfl hinX2 (by decide) q131 dX2_batterySum_6 (fun x1 => ?_)
  refine V_icmp_ge (tgt := 27) F dX2_batterySum_9 (by decide) (fun c2 => ?_) (fun c3 => ?_)
  · refine V_iload_n F dX2_batterySum_27 rfl 1 rfl ?_
    exact V_iret F M dX2_batterySum_28 rfl (by decide) (by decide)
  · refine V_iload_n F dX2_batterySum_12 rfl 1 rfl ?_
    refine V_aload_n F dX2_batterySum_13 rfl 0 rfl ?_
    refine V_gR (ci := 3) (k9 := 1) (C := RX2) (T := TX2) (N := 7) F rfl hinX2 (by decide) q115 dX2_batterySum_14 (fun x4 => ?_)
    refine V_iload_n F dX2_batterySum_17 rfl 2 rfl ?_
    refine V_aI F dX2_batterySum_18 (fun x5 => ?_)
    refine V_iadd F dX2_batterySum_19 ?_
    refine V_istore_n (lv' := [(1, .int (v1 + x5)), (0, .ref v0), (2, .int v2)]) F dX2_batterySum_20 rfl (lt_L hNL (by decide)) rfl ?_
    refine V_iinc (lv' := [(2, .int (v2 + 1)), (1, .int (v1 + x5)), (0, .ref v0)]) F dX2_batterySum_21 2 rfl rfl (lt_L hNL (by decide)) rfl ?_
    refine V_goto (tgt := 4) F dX2_batterySum_24 (by decide) ?_
    refine V_sub [2, 1, 0] rfl ?_
    exact hk4 v0 (v1 + x5) (v2 + 1) μ
def FX2_batterySum_L4  : Nat → Nat → Int32 → Int32 → Me → Rs Int32
  | 0, _, _, _, _ => none
  | f + 1, v0, v1, v2, μ => FX2_batterySum_B4 (FX2_batterySum_L4  f) v0 v1 v2 μ
theorem VX2_batterySum_L4 {κ : Cx} {ρ : (Int32 ⊕ String) × Me} (F : Fx κ cX2_batterySum RX2) (M : Mx κ (fun r : Int32 => some (.int r)) ρ rmX2_batterySum (some .int) [] "batterySum") (hNL : κ.2.2.2.2.2.2.2.2.2.2.2.2.2.2 = 3)   : ∀ (f : Nat) (v0 : Nat) (v1 : Int32) (v2 : Int32) (μ : Me), V κ ρ 0 0 μ (FX2_batterySum_L4  f v0 v1 v2 μ) 4 [(0, .ref v0), (1, .int v1), (2, .int v2)] [] := by
  intro f
  induction f with
  | zero => intros; exact V_none
  | succ f ih => intro v0 v1 v2 μ; exact VX2_batterySum_B4 F M hNL (fun v0 v1 v2 μ => ih v0 v1 v2 μ) v0 v1 v2 μ
def FX2_batterySum (a0 : Nat) (μ : Me) : Rs Int32 :=
  (FX2_batterySum_L4  FU a0 0 0 μ)
set_option maxHeartbeats 4000000 in
set_option maxRecDepth 100000 in
theorem metX2_batterySum {l : Launch} {s0 : State} {D : va_G} {aC : Nat → ClassId} (hG : Gl s0 D aC) (hl : l.stackTraces = false) (a0 : Nat) (μ : Me) : Ct l yX2_batterySum (ws_ yX2_batterySum cX2_batterySum 3 (some .int)) rmX2_batterySum s0 D aC (fun r : Int32 => some (.int r)) [.ref a0] μ (FX2_batterySum a0 μ) := by
  refine Ct_of hG hl (by decide +kernel) (Nat.le_of_ble_eq_true rfl) (fun κ ρ hNL F M hκ => ?_)
  have F : Fx κ cX2_batterySum RX2 := F
  change V κ ρ 0 0 μ (FX2_batterySum a0 μ) 0 [(0, .ref a0)] []
  unfold FX2_batterySum
  refine V_iconst (v := 0) F dX2_batterySum_0 (by decide) ?_
  refine V_istore_n (lv' := [(1, .int 0), (0, .ref a0)]) F dX2_batterySum_1 rfl (lt_L hNL (by decide)) rfl ?_
  refine V_iconst (v := 0) F dX2_batterySum_2 (by decide) ?_
  refine V_istore_n (lv' := [(2, .int 0), (1, .int 0), (0, .ref a0)]) F dX2_batterySum_3 rfl (lt_L hNL (by decide)) rfl ?_
  refine V_sub [2, 1, 0] rfl ?_
  exact VX2_batterySum_L4 F M hNL  FU a0 0 0 μ
/-! DroneLightShow$Fleet.targetCount()I -/
abbrev rmX2_targetCount : Room := { frames := 0, cells := 0, slots := 0, locals := 0 }
def FX2_targetCount_B4 (k4 : Nat → Int32 → Int32 → Me → Rs Int32) (v0 : Nat) (v1 : Int32) (v2 : Int32) (μ : Me) : Rs Int32 :=
  (gI μ v0 3 6 (fun x1 => (if x1 ≤ v2 then (rt v1 μ) else (gR μ v0 3 2 (fun x4 => (aI μ x4 v2 (fun x5 => (if x5 = (-1) then (k4 v0 v1 (v2 + 1) μ) else (k4 v0 (v1 + 1) (v2 + 1) μ)))))))))
set_option maxHeartbeats 4000000 in
set_option maxRecDepth 100000 in
theorem VX2_targetCount_B4 {κ : Cx} {ρ : (Int32 ⊕ String) × Me} (F : Fx κ cX2_targetCount RX2) (M : Mx κ (fun r : Int32 => some (.int r)) ρ rmX2_targetCount (some .int) [] "targetCount") (hNL : κ.2.2.2.2.2.2.2.2.2.2.2.2.2.2 = 3) {k4 : Nat → Int32 → Int32 → Me → Rs Int32} (hk4 : ∀ (v0 : Nat) (v1 : Int32) (v2 : Int32) (μ : Me), V κ ρ 0 0 μ (k4 v0 v1 v2 μ) 4 [(0, .ref v0), (1, .int v1), (2, .int v2)] []) (v0 : Nat) (v1 : Int32) (v2 : Int32) (μ : Me) : V κ ρ 0 0 μ (FX2_targetCount_B4 k4 v0 v1 v2 μ) 4 [(0, .ref v0), (1, .int v1), (2, .int v2)] [] := by
  unfold FX2_targetCount_B4
  refine V_iload_n F dX2_targetCount_4 rfl 2 rfl ?_
  refine V_aload_n F dX2_targetCount_5 rfl 0 rfl ?_
  refine V_gI (ci := 3) (k9 := 6) (C := RX2) (T := TX2) (N := 7) F rfl hinX2 (by decide) q131 dX2_targetCount_6 (fun x1 => ?_)
  refine V_icmp_ge (tgt := 31) F dX2_targetCount_9 (by decide) (fun c2 => ?_) (fun c3 => ?_)
  · refine V_iload_n F dX2_targetCount_31 rfl 1 rfl ?_
    exact V_iret F M dX2_targetCount_32 rfl (by decide) (by decide)
  · refine V_aload_n F dX2_targetCount_12 rfl 0 rfl ?_
    refine V_gR (ci := 3) (k9 := 2) (C := RX2) (T := TX2) (N := 7) F rfl hinX2 (by decide) q118 dX2_targetCount_13 (fun x4 => ?_)
    refine V_iload_n F dX2_targetCount_16 rfl 2 rfl ?_
    refine V_aI F dX2_targetCount_17 (fun x5 => ?_)
    refine V_iconst (v := (-1)) F dX2_targetCount_18 (by decide) ?_
    refine V_icmp_eq (tgt := 25) F dX2_targetCount_19 (by decide) (fun c6 => ?_) (fun c7 => ?_)
    · refine V_iinc (lv' := [(2, .int (v2 + 1)), (0, .ref v0), (1, .int v1)]) F dX2_targetCount_25 2 rfl rfl (lt_L hNL (by decide)) rfl ?_
      refine V_goto (tgt := 4) F dX2_targetCount_28 (by decide) ?_
      refine V_sub [1, 2, 0] rfl ?_
      exact hk4 v0 v1 (v2 + 1) μ
    · refine V_iinc (lv' := [(1, .int (v1 + 1)), (0, .ref v0), (2, .int v2)]) F dX2_targetCount_22 1 rfl rfl (lt_L hNL (by decide)) rfl ?_
      refine V_iinc (lv' := [(2, .int (v2 + 1)), (1, .int (v1 + 1)), (0, .ref v0)]) F dX2_targetCount_25 2 rfl rfl (lt_L hNL (by decide)) rfl ?_
      refine V_goto (tgt := 4) F dX2_targetCount_28 (by decide) ?_
      refine V_sub [2, 1, 0] rfl ?_
      exact hk4 v0 (v1 + 1) (v2 + 1) μ
def FX2_targetCount_L4  : Nat → Nat → Int32 → Int32 → Me → Rs Int32
  | 0, _, _, _, _ => none
  | f + 1, v0, v1, v2, μ => FX2_targetCount_B4 (FX2_targetCount_L4  f) v0 v1 v2 μ
theorem VX2_targetCount_L4 {κ : Cx} {ρ : (Int32 ⊕ String) × Me} (F : Fx κ cX2_targetCount RX2) (M : Mx κ (fun r : Int32 => some (.int r)) ρ rmX2_targetCount (some .int) [] "targetCount") (hNL : κ.2.2.2.2.2.2.2.2.2.2.2.2.2.2 = 3)   : ∀ (f : Nat) (v0 : Nat) (v1 : Int32) (v2 : Int32) (μ : Me), V κ ρ 0 0 μ (FX2_targetCount_L4  f v0 v1 v2 μ) 4 [(0, .ref v0), (1, .int v1), (2, .int v2)] [] := by
  intro f
  induction f with
  | zero => intros; exact V_none
  | succ f ih => intro v0 v1 v2 μ; exact VX2_targetCount_B4 F M hNL (fun v0 v1 v2 μ => ih v0 v1 v2 μ) v0 v1 v2 μ
def FX2_targetCount (a0 : Nat) (μ : Me) : Rs Int32 :=
  (FX2_targetCount_L4  FU a0 0 0 μ)
set_option maxHeartbeats 4000000 in
set_option maxRecDepth 100000 in
theorem metX2_targetCount {l : Launch} {s0 : State} {D : va_G} {aC : Nat → ClassId} (hG : Gl s0 D aC) (hl : l.stackTraces = false) (a0 : Nat) (μ : Me) : Ct l yX2_targetCount (ws_ yX2_targetCount cX2_targetCount 3 (some .int)) rmX2_targetCount s0 D aC (fun r : Int32 => some (.int r)) [.ref a0] μ (FX2_targetCount a0 μ) := by
  refine Ct_of hG hl (by decide +kernel) (Nat.le_of_ble_eq_true rfl) (fun κ ρ hNL F M hκ => ?_)
  have F : Fx κ cX2_targetCount RX2 := F
  change V κ ρ 0 0 μ (FX2_targetCount a0 μ) 0 [(0, .ref a0)] []
  unfold FX2_targetCount
  refine V_iconst (v := 0) F dX2_targetCount_0 (by decide) ?_
  refine V_istore_n (lv' := [(1, .int 0), (0, .ref a0)]) F dX2_targetCount_1 rfl (lt_L hNL (by decide)) rfl ?_
  refine V_iconst (v := 0) F dX2_targetCount_2 (by decide) ?_
  refine V_istore_n (lv' := [(2, .int 0), (1, .int 0), (0, .ref a0)]) F dX2_targetCount_3 rfl (lt_L hNL (by decide)) rfl ?_
  refine V_sub [2, 1, 0] rfl ?_
  exact VX2_targetCount_L4 F M hNL  FU a0 0 0 μ
/-! DroneLightShow$Scene.<init>()V -/
abbrev rmX4_init : Room := { frames := 2, cells := 12, slots := 111, locals := 45 }
def FX4_init (a0 : Nat) (μ : Me) : Rs Unit :=
  (nw μ (.inr (3, [.null, .null, .null, .null, .null, .null, .int 0])) (fun a1 μ2 => (bnd (FX2_init a1  μ2) (fun x4 μ3 => (pf μ3 a0 5 0 (.ref a1) (fun μ5 => (nw μ5 (.inr (2, [.null, .null, .null, .int 0])) (fun a6 μ7 => (bnd (FX1_init a6  μ7) (fun x9 μ8 => (pf μ8 a0 5 1 (.ref a6) (fun μ10 => (nw μ10 (.inl (3, (4, .inr (.inl (fun _ => 0))))) (fun a11 μ12 => (pf μ12 a0 5 2 (.ref a11) (fun μ13 => (pf μ13 a0 5 4 (.int 10) (fun μ14 => (rt () μ14)))))))))))))))))))
set_option maxHeartbeats 4000000 in
set_option maxRecDepth 100000 in
theorem metX4_init {l : Launch} {s0 : State} {D : va_G} {aC : Nat → ClassId} (hG : Gl s0 D aC) (hl : l.stackTraces = false) (a0 : Nat) (μ : Me) : Ct l yX4_init (ws_ yX4_init cX4_init 1 none) rmX4_init s0 D aC (fun _ : Unit => none) [.ref a0] μ (FX4_init a0 μ) := by
  refine Ct_of hG hl (by decide +kernel) (Nat.le_of_ble_eq_true rfl) (fun κ ρ hNL F M hκ => ?_)
  have F : Fx κ cX4_init RX4 := F
  change V κ ρ 0 0 μ (FX4_init a0 μ) 0 [(0, .ref a0)] []
  unfold FX4_init
  refine V_aload_n F dX4_init_0 rfl 0 rfl ?_
  refine V_oinit F M q105 q98 q99 dX4_init_1 (by decide) (Nat.le_of_ble_eq_true rfl) ?_
  refine V_aload_n F dX4_init_4 rfl 0 rfl ?_
  refine V_new (ci := 3) (C := RX2) (T := TX2) (N := 7) (ty := tyX2) F (Mx_R M) rfl hinX2 tyX2_ok q106 q107 q68 dfX2 dX4_init_5 (by decide) (by decide) (fun a1 μ2 => ?_)
  change V κ ρ 1 7 μ2 _ 8 [(0, .ref a0)] [.ref a1, .ref a0]
  refine V_dup F dX4_init_8 rfl ?_
  refine V_cIN (As := []) (rest := [.ref a1, .ref a0]) (N := 0) F M (metX2_init (Fx_G F) (Fx_l F) a1  μ2) q110 q68 q108 q109 rfl ⟨by decide +kernel, by decide +kernel, by decide +kernel⟩ rfl ⟨by decide, by decide⟩ (Nat.le_of_ble_eq_true rfl) dX4_init_9 (by decide) (by decide) (fun x4 μ3 => ?_)
  change V κ ρ 7 67 μ3 _ 12 [(0, .ref a0)] [.ref a1, .ref a0]
  refine V_pfF (ci := 5) (k9 := 0) (C := RX4) (T := TX4) (N := 10) (ty := tyX4) F rfl hinX4 tyX4_ok nmX4 (by decide) q172 rfl (Mx_nm M) rfl rfl rfl dX4_init_12 (fun μ5 => ?_)
  refine V_aload_n F dX4_init_15 rfl 0 rfl ?_
  refine V_new (ci := 2) (C := RX1) (T := TX1) (N := 4) (ty := tyX1) F (Mx_R M) rfl hinX1 tyX1_ok q151 q152 q69 dfX1 dX4_init_16 (by decide) (by decide) (fun a6 μ7 => ?_)
  change V κ ρ 8 71 μ7 _ 19 [(0, .ref a0)] [.ref a6, .ref a0]
  refine V_dup F dX4_init_19 rfl ?_
  refine V_cIN (As := []) (rest := [.ref a6, .ref a0]) (N := 0) F M (metX1_init (Fx_G F) (Fx_l F) a6  μ7) q155 q69 q153 q154 rfl ⟨by decide +kernel, by decide +kernel, by decide +kernel⟩ rfl ⟨by decide, by decide⟩ (Nat.le_of_ble_eq_true rfl) dX4_init_20 (by decide) (by decide) (fun x9 μ8 => ?_)
  change V κ ρ 11 107 μ8 _ 23 [(0, .ref a0)] [.ref a6, .ref a0]
  refine V_pfF (ci := 5) (k9 := 1) (C := RX4) (T := TX4) (N := 10) (ty := tyX4) F rfl hinX4 tyX4_ok nmX4 (by decide) q174 rfl (Mx_nm M) rfl rfl rfl dX4_init_23 (fun μ10 => ?_)
  refine V_aload_n F dX4_init_26 rfl 0 rfl ?_
  refine V_iconst (v := 4) F dX4_init_27 (by decide) ?_
  refine V_na (N := 4) (ty := .long) F (Mx_R M) q212 rfl (by decide) (fun _ => rfl) (fun _ => rfl) (by decide) (by decide) (by decide) (fun _ _ => rfl) dX4_init_28 (by decide) (by decide) (fun a11 μ12 => ?_)
  change V κ ρ 12 111 μ12 _ 30 [(0, .ref a0)] [.ref a11, .ref a0]
  refine V_pfF (ci := 5) (k9 := 2) (C := RX4) (T := TX4) (N := 10) (ty := tyX4) F rfl hinX4 tyX4_ok nmX4 (by decide) q176 rfl (Mx_nm M) rfl rfl rfl dX4_init_30 (fun μ13 => ?_)
  refine V_aload_n F dX4_init_33 rfl 0 rfl ?_
  refine V_bipush (v := 10) F dX4_init_34 (by decide) ?_
  refine V_pf (ci := 5) (k9 := 4) (C := RX4) (T := TX4) (N := 10) (ty := tyX4) F rfl hinX4 tyX4_ok nmX4 (by decide) q180 rfl rfl rfl dX4_init_36 (fun μ14 => ?_)
  exact V_vret F M dX4_init_39 rfl (by decide) (by decide)
/-! DroneLightShow$Scene.lift(I)I -/
abbrev rmX4_lift : Room := { frames := 1, cells := 0, slots := 0, locals := 22 }
def FX4_lift (a0 : Nat) (p1 : Int32) (μ : Me) : Rs Int32 :=
  (gR μ a0 5 0 (fun x1 => (bnd (vc μ x1 3 (FX2_has x1 p1 μ)) (fun x3 μ2 => (if x3 = 0 then (rt (-1) μ2) else (gR μ2 a0 5 0 (fun x6 => (gR μ2 x6 3 4 (fun x7 => (aZ μ2 x7 p1 (fun x8 => (if x8 = 0 then (gR μ2 a0 5 0 (fun x11 => (gR μ2 x11 3 1 (fun x12 => (aI μ2 x12 p1 (fun x13 => (gI μ2 a0 5 4 (fun x14 => (if x14 < x13 then (gR μ2 a0 5 0 (fun x17 => (gR μ2 x17 3 4 (fun x18 => (sZ μ2 x18 p1 1 (fun μ19 => (gR μ19 a0 5 0 (fun x20 => (bnd (vc μ19 x20 3 (FX2_flyingCount x20  μ19)) (fun x22 μ21 => (rt x22 μ21))))))))))) else (rt (-4) μ2)))))))))) else (rt (-3) μ2)))))))))))))
set_option maxHeartbeats 4000000 in
set_option maxRecDepth 100000 in
theorem metX4_lift {l : Launch} {s0 : State} {D : va_G} {aC : Nat → ClassId} (hG : Gl s0 D aC) (hl : l.stackTraces = false) (a0 : Nat) (p1 : Int32) (μ : Me) : Ct l yX4_lift (ws_ yX4_lift cX4_lift 2 (some .int)) rmX4_lift s0 D aC (fun r : Int32 => some (.int r)) [.ref a0, .int p1] μ (FX4_lift a0 p1 μ) := by
  refine Ct_of hG hl (by decide +kernel) (Nat.le_of_ble_eq_true rfl) (fun κ ρ hNL F M hκ => ?_)
  have F : Fx κ cX4_lift RX4 := F
  change V κ ρ 0 0 μ (FX4_lift a0 p1 μ) 0 [(0, .ref a0), (1, .int p1)] []
  unfold FX4_lift
  refine V_aload_n F dX4_lift_0 rfl 0 rfl ?_
  refine V_gR (ci := 5) (k9 := 0) (C := RX4) (T := TX4) (N := 10) F rfl hinX4 (by decide) q172 dX4_lift_1 (fun x1 => ?_)
  refine V_iload_n F dX4_lift_4 rfl 1 rfl ?_
  refine V_cV (As := [.int p1]) (rest := []) (C := RX2) (N := 1) F M (metX2_has (Fx_G F) (Fx_l F) x1 p1 μ) rfl q641 q68 q638 q639 q640 ⟨by decide +kernel, by decide +kernel, by decide +kernel⟩ rfl ⟨by decide, by decide⟩ (Nat.le_of_ble_eq_true rfl) dX4_lift_5 (by decide) (by decide) (fun x3 μ2 => ?_)
  change V κ ρ 0 0 μ2 _ 8 [(0, .ref a0), (1, .int p1)] [.int x3]
  refine V_if_ne (tgt := 13) F dX4_lift_8 (by decide) (fun c4 => ?_) (fun c5 => ?_)
  · refine V_aload_n F dX4_lift_13 rfl 0 rfl ?_
    refine V_gR (ci := 5) (k9 := 0) (C := RX4) (T := TX4) (N := 10) F rfl hinX4 (by decide) q172 dX4_lift_14 (fun x6 => ?_)
    refine V_gR (ci := 3) (k9 := 4) (C := RX2) (T := TX2) (N := 7) F rfl hinX2 (by decide) q126 dX4_lift_17 (fun x7 => ?_)
    refine V_iload_n F dX4_lift_20 rfl 1 rfl ?_
    refine V_aZ F dX4_lift_21 (fun x8 => ?_)
    refine V_if_eq (tgt := 28) F dX4_lift_22 (by decide) (fun c9 => ?_) (fun c10 => ?_)
    · refine V_aload_n F dX4_lift_28 rfl 0 rfl ?_
      refine V_gR (ci := 5) (k9 := 0) (C := RX4) (T := TX4) (N := 10) F rfl hinX4 (by decide) q172 dX4_lift_29 (fun x11 => ?_)
      refine V_gR (ci := 3) (k9 := 1) (C := RX2) (T := TX2) (N := 7) F rfl hinX2 (by decide) q116 dX4_lift_32 (fun x12 => ?_)
      refine V_iload_n F dX4_lift_35 rfl 1 rfl ?_
      refine V_aI F dX4_lift_36 (fun x13 => ?_)
      refine V_aload_n F dX4_lift_37 rfl 0 rfl ?_
      refine V_gI (ci := 5) (k9 := 4) (C := RX4) (T := TX4) (N := 10) F rfl hinX4 (by decide) q180 dX4_lift_38 (fun x14 => ?_)
      refine V_icmp_gt (tgt := 47) F dX4_lift_41 (by decide) (fun c15 => ?_) (fun c16 => ?_)
      · refine V_aload_n F dX4_lift_47 rfl 0 rfl ?_
        refine V_gR (ci := 5) (k9 := 0) (C := RX4) (T := TX4) (N := 10) F rfl hinX4 (by decide) q172 dX4_lift_48 (fun x17 => ?_)
        refine V_gR (ci := 3) (k9 := 4) (C := RX2) (T := TX2) (N := 7) F rfl hinX2 (by decide) q126 dX4_lift_51 (fun x18 => ?_)
        refine V_iload_n F dX4_lift_54 rfl 1 rfl ?_
        refine V_iconst (v := 1) F dX4_lift_55 (by decide) ?_
        refine V_sZ F dX4_lift_56 (fun μ19 => ?_)
        refine V_aload_n F dX4_lift_57 rfl 0 rfl ?_
        refine V_gR (ci := 5) (k9 := 0) (C := RX4) (T := TX4) (N := 10) F rfl hinX4 (by decide) q172 dX4_lift_58 (fun x20 => ?_)
        refine V_cV (As := []) (rest := []) (C := RX2) (N := 0) F M (metX2_flyingCount (Fx_G F) (Fx_l F) x20  μ19) rfl q645 q68 q642 q643 q644 ⟨by decide +kernel, by decide +kernel, by decide +kernel⟩ rfl ⟨by decide, by decide⟩ (Nat.le_of_ble_eq_true rfl) dX4_lift_61 (by decide) (by decide) (fun x22 μ21 => ?_)
        change V κ ρ 0 0 μ21 _ 64 [(0, .ref a0), (1, .int p1)] [.int x22]
        exact V_iret F M dX4_lift_64 rfl (by decide) (by decide)
      · refine V_bipush (v := (-4)) F dX4_lift_44 (by decide) ?_
        exact V_iret F M dX4_lift_46 rfl (by decide) (by decide)
    · refine V_bipush (v := (-3)) F dX4_lift_25 (by decide) ?_
      exact V_iret F M dX4_lift_27 rfl (by decide) (by decide)
  · refine V_iconst (v := (-1)) F dX4_lift_11 (by decide) ?_
    exact V_iret F M dX4_lift_12 rfl (by decide) (by decide)
/-! DroneLightShow$Scene.changeReserve(I)I -/
abbrev rmX4_changeReserve : Room := { frames := 0, cells := 0, slots := 0, locals := 0 }
def FX4_changeReserve (a0 : Nat) (p1 : Int32) (μ : Me) : Rs Int32 :=
  (if p1 < 5 then (rt (-2) μ) else (if p1 ≤ 30 then (gI μ a0 5 4 (fun x5 => (pf μ a0 5 4 (.int p1) (fun μ6 => (rt x5 μ6))))) else (rt (-2) μ)))
set_option maxHeartbeats 4000000 in
set_option maxRecDepth 100000 in
theorem metX4_changeReserve {l : Launch} {s0 : State} {D : va_G} {aC : Nat → ClassId} (hG : Gl s0 D aC) (hl : l.stackTraces = false) (a0 : Nat) (p1 : Int32) (μ : Me) : Ct l yX4_changeReserve (ws_ yX4_changeReserve cX4_changeReserve 3 (some .int)) rmX4_changeReserve s0 D aC (fun r : Int32 => some (.int r)) [.ref a0, .int p1] μ (FX4_changeReserve a0 p1 μ) := by
  refine Ct_of hG hl (by decide +kernel) (Nat.le_of_ble_eq_true rfl) (fun κ ρ hNL F M hκ => ?_)
  have F : Fx κ cX4_changeReserve RX4 := F
  change V κ ρ 0 0 μ (FX4_changeReserve a0 p1 μ) 0 [(0, .ref a0), (1, .int p1)] []
  unfold FX4_changeReserve
  refine V_iload_n F dX4_changeReserve_0 rfl 1 rfl ?_
  refine V_iconst (v := 5) F dX4_changeReserve_1 (by decide) ?_
  refine V_icmp_lt (tgt := 11) F dX4_changeReserve_2 (by decide) (fun c1 => ?_) (fun c2 => ?_)
  · refine V_bipush (v := (-2)) F dX4_changeReserve_11 (by decide) ?_
    exact V_iret F M dX4_changeReserve_13 rfl (by decide) (by decide)
  · refine V_iload_n F dX4_changeReserve_5 rfl 1 rfl ?_
    refine V_bipush (v := 30) F dX4_changeReserve_6 (by decide) ?_
    refine V_icmp_le (tgt := 14) F dX4_changeReserve_8 (by decide) (fun c3 => ?_) (fun c4 => ?_)
    · refine V_aload_n F dX4_changeReserve_14 rfl 0 rfl ?_
      refine V_gI (ci := 5) (k9 := 4) (C := RX4) (T := TX4) (N := 10) F rfl hinX4 (by decide) q180 dX4_changeReserve_15 (fun x5 => ?_)
      refine V_istore_n (lv' := [(2, .int x5), (0, .ref a0), (1, .int p1)]) F dX4_changeReserve_18 rfl (lt_L hNL (by decide)) rfl ?_
      refine V_aload_n F dX4_changeReserve_19 rfl 1 rfl ?_
      refine V_iload_n F dX4_changeReserve_20 rfl 2 rfl ?_
      refine V_pf (ci := 5) (k9 := 4) (C := RX4) (T := TX4) (N := 10) (ty := tyX4) F rfl hinX4 tyX4_ok nmX4 (by decide) q180 rfl rfl rfl dX4_changeReserve_21 (fun μ6 => ?_)
      refine V_iload_n F dX4_changeReserve_24 rfl 0 rfl ?_
      exact V_iret F M dX4_changeReserve_25 rfl (by decide) (by decide)
    · refine V_bipush (v := (-2)) F dX4_changeReserve_11 (by decide) ?_
      exact V_iret F M dX4_changeReserve_13 rfl (by decide) (by decide)
/-! DroneLightShow$Scene.schedule(III)I -/
abbrev rmX4_schedule : Room := { frames := 1, cells := 0, slots := 0, locals := 24 }
def FX4_schedule (a0 : Nat) (p1 : Int32) (p2 : Int32) (p3 : Int32) (μ : Me) : Rs Int32 :=
  (gR μ a0 5 0 (fun x1 => (bnd (vc μ x1 3 (FX2_has x1 p1 μ)) (fun x3 μ2 => (if x3 = 0 then (rt (-1) μ2) else (gI μ2 a0 5 5 (fun x6 => (if p2 ≤ x6 then (rt (-2) μ2) else (if 999 < p2 then (rt (-2) μ2) else (if p3 < 0 then (rt (-2) μ2) else (if p3 < 8 then (gR μ2 a0 5 1 (fun x15 => (gI μ2 x15 2 3 (fun x16 => (if x16 < 12 then (gR μ2 a0 5 1 (fun x19 => (gR μ2 a0 5 1 (fun x20 => (gI μ2 x20 2 3 (fun x21 => (bnd (vc μ2 x19 2 (FX1_put x19 x21 p1 p2 p3 μ2)) (fun x23 μ22 => (gR μ22 a0 5 1 (fun x24 => (gI μ22 x24 2 3 (fun x25 => (pf μ22 x24 2 3 (.int (x25 + 1)) (fun μ26 => (gR μ26 a0 5 1 (fun x27 => (gI μ26 x27 2 3 (fun x28 => (rt x28 μ26))))))))))))))))))) else (rt (-3) μ2)))))) else (rt (-2) μ2))))))))))))
set_option maxHeartbeats 4000000 in
set_option maxRecDepth 100000 in
theorem metX4_schedule {l : Launch} {s0 : State} {D : va_G} {aC : Nat → ClassId} (hG : Gl s0 D aC) (hl : l.stackTraces = false) (a0 : Nat) (p1 : Int32) (p2 : Int32) (p3 : Int32) (μ : Me) : Ct l yX4_schedule (ws_ yX4_schedule cX4_schedule 4 (some .int)) rmX4_schedule s0 D aC (fun r : Int32 => some (.int r)) [.ref a0, .int p1, .int p2, .int p3] μ (FX4_schedule a0 p1 p2 p3 μ) := by
  refine Ct_of hG hl (by decide +kernel) (Nat.le_of_ble_eq_true rfl) (fun κ ρ hNL F M hκ => ?_)
  have F : Fx κ cX4_schedule RX4 := F
  change V κ ρ 0 0 μ (FX4_schedule a0 p1 p2 p3 μ) 0 [(0, .ref a0), (1, .int p1), (2, .int p2), (3, .int p3)] []
  unfold FX4_schedule
  refine V_aload_n F dX4_schedule_0 rfl 0 rfl ?_
  refine V_gR (ci := 5) (k9 := 0) (C := RX4) (T := TX4) (N := 10) F rfl hinX4 (by decide) q172 dX4_schedule_1 (fun x1 => ?_)
  refine V_iload_n F dX4_schedule_4 rfl 1 rfl ?_
  refine V_cV (As := [.int p1]) (rest := []) (C := RX2) (N := 1) F M (metX2_has (Fx_G F) (Fx_l F) x1 p1 μ) rfl q641 q68 q638 q639 q640 ⟨by decide +kernel, by decide +kernel, by decide +kernel⟩ rfl ⟨by decide, by decide⟩ (Nat.le_of_ble_eq_true rfl) dX4_schedule_5 (by decide) (by decide) (fun x3 μ2 => ?_)
  change V κ ρ 0 0 μ2 _ 8 [(0, .ref a0), (1, .int p1), (2, .int p2), (3, .int p3)] [.int x3]
  refine V_if_ne (tgt := 13) F dX4_schedule_8 (by decide) (fun c4 => ?_) (fun c5 => ?_)
  · refine V_iload_n F dX4_schedule_13 rfl 2 rfl ?_
    refine V_aload_n F dX4_schedule_14 rfl 0 rfl ?_
    refine V_gI (ci := 5) (k9 := 5) (C := RX4) (T := TX4) (N := 10) F rfl hinX4 (by decide) q181 dX4_schedule_15 (fun x6 => ?_)
    refine V_icmp_le (tgt := 38) F dX4_schedule_18 (by decide) (fun c7 => ?_) (fun c8 => ?_)
    · refine V_bipush (v := (-2)) F dX4_schedule_38 (by decide) ?_
      exact V_iret F M dX4_schedule_40 rfl (by decide) (by decide)
    · refine V_iload_n F dX4_schedule_21 rfl 2 rfl ?_
      refine V_sipush (v := 999) F dX4_schedule_22 (by decide) ?_
      refine V_icmp_gt (tgt := 38) F dX4_schedule_25 (by decide) (fun c9 => ?_) (fun c10 => ?_)
      · refine V_bipush (v := (-2)) F dX4_schedule_38 (by decide) ?_
        exact V_iret F M dX4_schedule_40 rfl (by decide) (by decide)
      · refine V_iload_n F dX4_schedule_28 rfl 3 rfl ?_
        refine V_if_lt (tgt := 38) F dX4_schedule_29 (by decide) (fun c11 => ?_) (fun c12 => ?_)
        · refine V_bipush (v := (-2)) F dX4_schedule_38 (by decide) ?_
          exact V_iret F M dX4_schedule_40 rfl (by decide) (by decide)
        · refine V_iload_n F dX4_schedule_32 rfl 3 rfl ?_
          refine V_bipush (v := 8) F dX4_schedule_33 (by decide) ?_
          refine V_icmp_lt (tgt := 41) F dX4_schedule_35 (by decide) (fun c13 => ?_) (fun c14 => ?_)
          · refine V_aload_n F dX4_schedule_41 rfl 0 rfl ?_
            refine V_gR (ci := 5) (k9 := 1) (C := RX4) (T := TX4) (N := 10) F rfl hinX4 (by decide) q174 dX4_schedule_42 (fun x15 => ?_)
            refine V_gI (ci := 2) (k9 := 3) (C := RX1) (T := TX1) (N := 4) F rfl hinX1 (by decide) q161 dX4_schedule_45 (fun x16 => ?_)
            refine V_bipush (v := 12) F dX4_schedule_48 (by decide) ?_
            refine V_icmp_lt (tgt := 56) F dX4_schedule_50 (by decide) (fun c17 => ?_) (fun c18 => ?_)
            · refine V_aload_n F dX4_schedule_56 rfl 0 rfl ?_
              refine V_gR (ci := 5) (k9 := 1) (C := RX4) (T := TX4) (N := 10) F rfl hinX4 (by decide) q174 dX4_schedule_57 (fun x19 => ?_)
              refine V_aload_n F dX4_schedule_60 rfl 0 rfl ?_
              refine V_gR (ci := 5) (k9 := 1) (C := RX4) (T := TX4) (N := 10) F rfl hinX4 (by decide) q174 dX4_schedule_61 (fun x20 => ?_)
              refine V_gI (ci := 2) (k9 := 3) (C := RX1) (T := TX1) (N := 4) F rfl hinX1 (by decide) q161 dX4_schedule_64 (fun x21 => ?_)
              refine V_iload_n F dX4_schedule_67 rfl 1 rfl ?_
              refine V_iload_n F dX4_schedule_68 rfl 2 rfl ?_
              refine V_iload_n F dX4_schedule_69 rfl 3 rfl ?_
              refine V_cV (As := [.int x21, .int p1, .int p2, .int p3]) (rest := []) (C := RX1) (N := 4) F M (metX1_put (Fx_G F) (Fx_l F) x19 x21 p1 p2 p3 μ2) rfl q441 q69 q980 q439 q440 ⟨by decide +kernel, by decide +kernel, by decide +kernel⟩ rfl ⟨by decide, by decide⟩ (Nat.le_of_ble_eq_true rfl) dX4_schedule_70 (by decide) (by decide) (fun x23 μ22 => ?_)
              change V κ ρ 0 0 μ22 _ 73 [(0, .ref a0), (1, .int p1), (2, .int p2), (3, .int p3)] []
              refine V_aload_n F dX4_schedule_73 rfl 0 rfl ?_
              refine V_gR (ci := 5) (k9 := 1) (C := RX4) (T := TX4) (N := 10) F rfl hinX4 (by decide) q174 dX4_schedule_74 (fun x24 => ?_)
              refine V_dup F dX4_schedule_77 rfl ?_
              refine V_gI (ci := 2) (k9 := 3) (C := RX1) (T := TX1) (N := 4) F rfl hinX1 (by decide) q161 dX4_schedule_78 (fun x25 => ?_)
              refine V_iconst (v := 1) F dX4_schedule_81 (by decide) ?_
              refine V_iadd F dX4_schedule_82 ?_
              refine V_pf (ci := 2) (k9 := 3) (C := RX1) (T := TX1) (N := 4) (ty := tyX1) F rfl hinX1 tyX1_ok nmX1 (by decide) q161 rfl rfl rfl dX4_schedule_83 (fun μ26 => ?_)
              refine V_aload_n F dX4_schedule_86 rfl 0 rfl ?_
              refine V_gR (ci := 5) (k9 := 1) (C := RX4) (T := TX4) (N := 10) F rfl hinX4 (by decide) q174 dX4_schedule_87 (fun x27 => ?_)
              refine V_gI (ci := 2) (k9 := 3) (C := RX1) (T := TX1) (N := 4) F rfl hinX1 (by decide) q161 dX4_schedule_90 (fun x28 => ?_)
              exact V_iret F M dX4_schedule_93 rfl (by decide) (by decide)
            · refine V_bipush (v := (-3)) F dX4_schedule_53 (by decide) ?_
              exact V_iret F M dX4_schedule_55 rfl (by decide) (by decide)
          · refine V_bipush (v := (-2)) F dX4_schedule_38 (by decide) ?_
            exact V_iret F M dX4_schedule_40 rfl (by decide) (by decide)
  · refine V_iconst (v := (-1)) F dX4_schedule_11 (by decide) ?_
    exact V_iret F M dX4_schedule_12 rfl (by decide) (by decide)
/-! DroneLightShow$Scene.forceDown(I)V -/
abbrev rmX4_forceDown : Room := { frames := 1, cells := 0, slots := 0, locals := 21 }
def FX4_forceDown (a0 : Nat) (p1 : Int32) (μ : Me) : Rs Unit :=
  (gR μ a0 5 0 (fun x1 => (bnd (vc μ x1 3 (FX2_ground x1 p1 μ)) (fun x3 μ2 => (gI μ2 a0 5 9 (fun x4 => (pf μ2 a0 5 9 (.int (x4 + 1)) (fun μ5 => (rt () μ5)))))))))
set_option maxHeartbeats 4000000 in
set_option maxRecDepth 100000 in
theorem metX4_forceDown {l : Launch} {s0 : State} {D : va_G} {aC : Nat → ClassId} (hG : Gl s0 D aC) (hl : l.stackTraces = false) (a0 : Nat) (p1 : Int32) (μ : Me) : Ct l yX4_forceDown (ws_ yX4_forceDown cX4_forceDown 2 none) rmX4_forceDown s0 D aC (fun _ : Unit => none) [.ref a0, .int p1] μ (FX4_forceDown a0 p1 μ) := by
  refine Ct_of hG hl (by decide +kernel) (Nat.le_of_ble_eq_true rfl) (fun κ ρ hNL F M hκ => ?_)
  have F : Fx κ cX4_forceDown RX4 := F
  change V κ ρ 0 0 μ (FX4_forceDown a0 p1 μ) 0 [(0, .ref a0), (1, .int p1)] []
  unfold FX4_forceDown
  refine V_aload_n F dX4_forceDown_0 rfl 0 rfl ?_
  refine V_gR (ci := 5) (k9 := 0) (C := RX4) (T := TX4) (N := 10) F rfl hinX4 (by decide) q172 dX4_forceDown_1 (fun x1 => ?_)
  refine V_iload_n F dX4_forceDown_4 rfl 1 rfl ?_
  refine V_cV (As := [.int p1]) (rest := []) (C := RX2) (N := 1) F M (metX2_ground (Fx_G F) (Fx_l F) x1 p1 μ) rfl q541 q68 q538 q539 q540 ⟨by decide +kernel, by decide +kernel, by decide +kernel⟩ rfl ⟨by decide, by decide⟩ (Nat.le_of_ble_eq_true rfl) dX4_forceDown_5 (by decide) (by decide) (fun x3 μ2 => ?_)
  change V κ ρ 0 0 μ2 _ 8 [(0, .ref a0), (1, .int p1)] []
  refine V_aload_n F dX4_forceDown_8 rfl 0 rfl ?_
  refine V_dup F dX4_forceDown_9 rfl ?_
  refine V_gI (ci := 5) (k9 := 9) (C := RX4) (T := TX4) (N := 10) F rfl hinX4 (by decide) q189 dX4_forceDown_10 (fun x4 => ?_)
  refine V_iconst (v := 1) F dX4_forceDown_13 (by decide) ?_
  refine V_iadd F dX4_forceDown_14 ?_
  refine V_pf (ci := 5) (k9 := 9) (C := RX4) (T := TX4) (N := 10) (ty := tyX4) F rfl hinX4 tyX4_ok nmX4 (by decide) q189 rfl rfl rfl dX4_forceDown_15 (fun μ5 => ?_)
  exact V_vret F M dX4_forceDown_18 rfl (by decide) (by decide)
/-! DroneLightShow$Script.<init>()V -/
abbrev rmX5_init : Room := { frames := 1, cells := 15, slots := 120, locals := 25 }
def FX5_init (a0 : Nat) (μ : Me) : Rs Unit :=
  (nw μ (.inl (2, (60, .inl (fun _ => 0)))) (fun a1 μ2 => (pf μ2 a0 6 0 (.ref a1) (fun μ3 => (nw μ3 (.inl (6, (12, .inr (.inr (.inr (.inr (fun _ => none))))))) (fun a4 μ5 => (pf μ5 a0 6 2 (.ref a4) (fun μ6 => (nwm μ6 (fun a7 μ8 => (pf μ8 a0 6 3 (.ref a7) (fun μ9 => (rt () μ9)))))))))))))
set_option maxHeartbeats 4000000 in
set_option maxRecDepth 100000 in
theorem metX5_init {l : Launch} {s0 : State} {D : va_G} {aC : Nat → ClassId} (hG : Gl s0 D aC) (hl : l.stackTraces = false) (a0 : Nat) (μ : Me) : Ct l yX5_init (ws_ yX5_init cX5_init 1 none) rmX5_init s0 D aC (fun _ : Unit => none) [.ref a0] μ (FX5_init a0 μ) := by
  refine Ct_of hG hl (by decide +kernel) (Nat.le_of_ble_eq_true rfl) (fun κ ρ hNL F M hκ => ?_)
  have F : Fx κ cX5_init RX5 := F
  change V κ ρ 0 0 μ (FX5_init a0 μ) 0 [(0, .ref a0)] []
  unfold FX5_init
  refine V_aload_n F dX5_init_0 rfl 0 rfl ?_
  refine V_oinit F M q238 q98 q99 dX5_init_1 (by decide) (Nat.le_of_ble_eq_true rfl) ?_
  refine V_aload_n F dX5_init_4 rfl 0 rfl ?_
  refine V_bipush (v := 60) F dX5_init_5 (by decide) ?_
  refine V_na (N := 60) (ty := .char) F (Mx_R M) q267 rfl (by decide) (fun _ => rfl) (fun _ => rfl) (by decide) (by decide) (by decide) (fun _ _ => rfl) dX5_init_7 (by decide) (by decide) (fun a1 μ2 => ?_)
  change V κ ρ 1 60 μ2 _ 9 [(0, .ref a0)] [.ref a1, .ref a0]
  refine V_pfF (ci := 6) (k9 := 0) (C := RX5) (T := TX5) (N := 6) (ty := tyX5) F rfl hinX5 tyX5_ok nmX5 (by decide) q243 rfl (Mx_nm M) rfl rfl rfl dX5_init_9 (fun μ3 => ?_)
  refine V_aload_n F dX5_init_12 rfl 0 rfl ?_
  refine V_bipush (v := 12) F dX5_init_13 (by decide) ?_
  refine V_anew (c9 := 6) (N := 12) F (Mx_R M) q239 q240 (fun _ => rfl) (by decide) (by decide) (by decide) dX5_init_15 (by decide) (by decide) (fun a4 μ5 => ?_)
  change V κ ρ 2 72 μ5 _ 18 [(0, .ref a0)] [.ref a4, .ref a0]
  refine V_pfF (ci := 6) (k9 := 2) (C := RX5) (T := TX5) (N := 6) (ty := tyX5) F rfl hinX5 tyX5_ok nmX5 (by decide) q246 rfl (Mx_nm M) rfl rfl rfl dX5_init_18 (fun μ6 => ?_)
  refine V_aload_n F dX5_init_21 rfl 0 rfl ?_
  refine V_bipush (v := 12) F dX5_init_22 (by decide) ?_
  refine V_iconst (v := 3) F dX5_init_24 (by decide) ?_
  refine V_mna F (Mx_R M) q241 q242 q149 dX5_init_25 (by decide) (by decide) (fun a7 μ8 => ?_)
  change V κ ρ 15 120 μ8 _ 29 [(0, .ref a0)] [.ref a7, .ref a0]
  refine V_pfF (ci := 6) (k9 := 3) (C := RX5) (T := TX5) (N := 6) (ty := tyX5) F rfl hinX5 tyX5_ok nmX5 (by decide) q248 rfl (Mx_nm M) rfl rfl rfl dX5_init_29 (fun μ9 => ?_)
  exact V_vret F M dX5_init_32 rfl (by decide) (by decide)
/-! DroneLightShow$Script.put(C)V -/
abbrev rmX5_put : Room := { frames := 0, cells := 0, slots := 0, locals := 0 }
def FX5_put (a0 : Nat) (p1 : Int32) (μ : Me) : Rs Unit :=
  (gR μ a0 6 0 (fun x1 => (gI μ a0 6 1 (fun x2 => (sC μ x1 x2 p1 (fun μ3 => (gI μ3 a0 6 1 (fun x4 => (pf μ3 a0 6 1 (.int (x4 + 1)) (fun μ5 => (rt () μ5)))))))))))
set_option maxHeartbeats 4000000 in
set_option maxRecDepth 100000 in
theorem metX5_put {l : Launch} {s0 : State} {D : va_G} {aC : Nat → ClassId} (hG : Gl s0 D aC) (hl : l.stackTraces = false) (a0 : Nat) (p1 : Int32) (μ : Me) : Ct l yX5_put (ws_ yX5_put cX5_put 2 none) rmX5_put s0 D aC (fun _ : Unit => none) [.ref a0, .int p1] μ (FX5_put a0 p1 μ) := by
  refine Ct_of hG hl (by decide +kernel) (Nat.le_of_ble_eq_true rfl) (fun κ ρ hNL F M hκ => ?_)
  have F : Fx κ cX5_put RX5 := F
  change V κ ρ 0 0 μ (FX5_put a0 p1 μ) 0 [(0, .ref a0), (1, .int p1)] []
  unfold FX5_put
  refine V_aload_n F dX5_put_0 rfl 0 rfl ?_
  refine V_gR (ci := 6) (k9 := 0) (C := RX5) (T := TX5) (N := 6) F rfl hinX5 (by decide) q243 dX5_put_1 (fun x1 => ?_)
  refine V_aload_n F dX5_put_4 rfl 0 rfl ?_
  refine V_gI (ci := 6) (k9 := 1) (C := RX5) (T := TX5) (N := 6) F rfl hinX5 (by decide) q244 dX5_put_5 (fun x2 => ?_)
  refine V_iload_n F dX5_put_8 rfl 1 rfl ?_
  refine V_sC F dX5_put_9 (fun μ3 => ?_)
  refine V_aload_n F dX5_put_10 rfl 0 rfl ?_
  refine V_dup F dX5_put_11 rfl ?_
  refine V_gI (ci := 6) (k9 := 1) (C := RX5) (T := TX5) (N := 6) F rfl hinX5 (by decide) q244 dX5_put_12 (fun x4 => ?_)
  refine V_iconst (v := 1) F dX5_put_15 (by decide) ?_
  refine V_iadd F dX5_put_16 ?_
  refine V_pf (ci := 6) (k9 := 1) (C := RX5) (T := TX5) (N := 6) (ty := tyX5) F rfl hinX5 tyX5_ok nmX5 (by decide) q244 rfl rfl rfl dX5_put_17 (fun μ5 => ?_)
  exact V_vret F M dX5_put_20 rfl (by decide) (by decide)
/-! DroneLightShow$Script.sameCharacters(Ljava/lang/String;)I -/
abbrev rmX5_sameCharacters : Room := { frames := 4, cells := 0, slots := 0, locals := 85 }
def FX5_sameCharacters_B2 (aC : Nat → Nat) (k2 : Nat → Nat → Int32 → Me → Rs Int32) (v0 : Nat) (v1 : Nat) (v2 : Int32) (μ : Me) : Rs Int32 :=
  (gd (v1 < 15) (bnd (FJ0_length_8abf5 aC v1  μ) (fun x3 μ2 => (if x3 ≤ v2 then (rt v2 μ2) else (gI μ2 v0 6 5 (fun x6 => (gI μ2 v0 6 1 (fun x7 => (if x7 ≤ (x6 + v2) then (rt v2 μ2) else (gR μ2 v0 6 0 (fun x10 => (gI μ2 v0 6 5 (fun x11 => (aCh μ2 x10 (x11 + v2) (fun x12 => (gd (v1 < 15) (bnd (FJ0_charAt_5068e aC v1 v2 μ2) (fun x15 μ14 => (if x12 = x15 then (k2 v0 v1 (v2 + 1) μ14) else (rt v2 μ14))))))))))))))))))))
set_option maxHeartbeats 4000000 in
set_option maxRecDepth 100000 in
theorem VX5_sameCharacters_B2 {aC : Nat → Nat} {κ : Cx} {ρ : (Int32 ⊕ String) × Me} (F : Fx κ cX5_sameCharacters RX5) (M : Mx κ (fun r : Int32 => some (.int r)) ρ rmX5_sameCharacters (some .int) [] "sameCharacters") (hNL : κ.2.2.2.2.2.2.2.2.2.2.2.2.2.2 = 3) (hκ : κ.2.2.2.2.2.2.2.2.2.2.2.2.2.1 = aC) {k2 : Nat → Nat → Int32 → Me → Rs Int32} (hk2 : ∀ (v0 : Nat) (v1 : Nat) (v2 : Int32) (μ : Me), V κ ρ 0 0 μ (k2 v0 v1 v2 μ) 2 [(0, .ref v0), (1, .ref (aC (130 + v1))), (2, .int v2)] []) (v0 : Nat) (v1 : Nat) (v2 : Int32) (μ : Me) : V κ ρ 0 0 μ (FX5_sameCharacters_B2 aC k2 v0 v1 v2 μ) 2 [(0, .ref v0), (1, .ref (aC (130 + v1))), (2, .int v2)] [] := by
  have SGa := Fx_SGa F hκ _ rfl
  unfold FX5_sameCharacters_B2
  refine V_iload_n F dX5_sameCharacters_2 rfl 2 rfl ?_
  refine V_aload_n F dX5_sameCharacters_3 rfl 1 rfl ?_
  refine V_gd (fun g1 => ?_)
  refine V_cO (As := []) (rest := [.int v2]) (C := "java/lang/String") (N := 0) F M (SGa.2.2.2.2.2.2.1 v1 g1).1 (metJ0_length_8abf5 (Fx_G F) (Fx_l F) hκ v1  μ) q1033 q78 q1030 q1031 q1032 ⟨by decide +kernel, by decide +kernel, by decide +kernel⟩ rfl ⟨by decide, by decide⟩ (Nat.le_of_ble_eq_true rfl) dX5_sameCharacters_4 (by decide) (by decide) (fun x3 μ2 => ?_)
  change V κ ρ 0 0 μ2 _ 7 [(0, .ref v0), (1, .ref (aC (130 + v1))), (2, .int v2)] [.int x3, .int v2]
  refine V_icmp_ge (tgt := 48) F dX5_sameCharacters_7 (by decide) (fun c4 => ?_) (fun c5 => ?_)
  · refine V_iload_n F dX5_sameCharacters_48 rfl 2 rfl ?_
    exact V_iret F M dX5_sameCharacters_49 rfl (by decide) (by decide)
  · refine V_aload_n F dX5_sameCharacters_10 rfl 0 rfl ?_
    refine V_gI (ci := 6) (k9 := 5) (C := RX5) (T := TX5) (N := 6) F rfl hinX5 (by decide) q252 dX5_sameCharacters_11 (fun x6 => ?_)
    refine V_iload_n F dX5_sameCharacters_14 rfl 2 rfl ?_
    refine V_iadd F dX5_sameCharacters_15 ?_
    refine V_aload_n F dX5_sameCharacters_16 rfl 0 rfl ?_
    refine V_gI (ci := 6) (k9 := 1) (C := RX5) (T := TX5) (N := 6) F rfl hinX5 (by decide) q244 dX5_sameCharacters_17 (fun x7 => ?_)
    refine V_icmp_ge (tgt := 48) F dX5_sameCharacters_20 (by decide) (fun c8 => ?_) (fun c9 => ?_)
    · refine V_iload_n F dX5_sameCharacters_48 rfl 2 rfl ?_
      exact V_iret F M dX5_sameCharacters_49 rfl (by decide) (by decide)
    · refine V_aload_n F dX5_sameCharacters_23 rfl 0 rfl ?_
      refine V_gR (ci := 6) (k9 := 0) (C := RX5) (T := TX5) (N := 6) F rfl hinX5 (by decide) q243 dX5_sameCharacters_24 (fun x10 => ?_)
      refine V_aload_n F dX5_sameCharacters_27 rfl 0 rfl ?_
      refine V_gI (ci := 6) (k9 := 5) (C := RX5) (T := TX5) (N := 6) F rfl hinX5 (by decide) q252 dX5_sameCharacters_28 (fun x11 => ?_)
      refine V_iload_n F dX5_sameCharacters_31 rfl 2 rfl ?_
      refine V_iadd F dX5_sameCharacters_32 ?_
      refine V_aCh F dX5_sameCharacters_33 (fun x12 => ?_)
      refine V_aload_n F dX5_sameCharacters_34 rfl 1 rfl ?_
      refine V_iload_n F dX5_sameCharacters_35 rfl 2 rfl ?_
      refine V_gd (fun g13 => ?_)
      refine V_cO (As := [.int v2]) (rest := [.int x12]) (C := "java/lang/String") (N := 1) F M (SGa.2.2.2.2.2.2.1 v1 g13).1 (metJ0_charAt_5068e (Fx_G F) (Fx_l F) hκ v1 v2 μ2) q1043 q78 q1040 q1041 q1042 ⟨by decide +kernel, by decide +kernel, by decide +kernel⟩ rfl ⟨by decide, by decide⟩ (Nat.le_of_ble_eq_true rfl) dX5_sameCharacters_36 (by decide) (by decide) (fun x15 μ14 => ?_)
      change V κ ρ 0 0 μ14 _ 39 [(0, .ref v0), (1, .ref (aC (130 + v1))), (2, .int v2)] [.int x15, .int x12]
      refine V_icmp_ne (tgt := 48) F dX5_sameCharacters_39 (by decide) (fun c16 => ?_) (fun c17 => ?_)
      · refine V_iload_n F dX5_sameCharacters_48 rfl 2 rfl ?_
        exact V_iret F M dX5_sameCharacters_49 rfl (by decide) (by decide)
      · refine V_iinc (lv' := [(2, .int (v2 + 1)), (0, .ref v0), (1, .ref (aC (130 + v1)))]) F dX5_sameCharacters_42 2 rfl rfl (lt_L hNL (by decide)) rfl ?_
        refine V_goto (tgt := 2) F dX5_sameCharacters_45 (by decide) ?_
        refine V_sub [1, 2, 0] rfl ?_
        exact hk2 v0 v1 (v2 + 1) μ14
def FX5_sameCharacters_L2 (aC : Nat → Nat)  : Nat → Nat → Nat → Int32 → Me → Rs Int32
  | 0, _, _, _, _ => none
  | f + 1, v0, v1, v2, μ => FX5_sameCharacters_B2 aC (FX5_sameCharacters_L2 aC  f) v0 v1 v2 μ
theorem VX5_sameCharacters_L2 {aC : Nat → Nat} {κ : Cx} {ρ : (Int32 ⊕ String) × Me} (F : Fx κ cX5_sameCharacters RX5) (M : Mx κ (fun r : Int32 => some (.int r)) ρ rmX5_sameCharacters (some .int) [] "sameCharacters") (hNL : κ.2.2.2.2.2.2.2.2.2.2.2.2.2.2 = 3) (hκ : κ.2.2.2.2.2.2.2.2.2.2.2.2.2.1 = aC)   : ∀ (f : Nat) (v0 : Nat) (v1 : Nat) (v2 : Int32) (μ : Me), V κ ρ 0 0 μ (FX5_sameCharacters_L2 aC  f v0 v1 v2 μ) 2 [(0, .ref v0), (1, .ref (aC (130 + v1))), (2, .int v2)] [] := by
  intro f
  induction f with
  | zero => intros; exact V_none
  | succ f ih => intro v0 v1 v2 μ; exact VX5_sameCharacters_B2 F M hNL hκ (fun v0 v1 v2 μ => ih v0 v1 v2 μ) v0 v1 v2 μ
def FX5_sameCharacters (aC : Nat → Nat) (a0 : Nat) (p1 : Nat) (μ : Me) : Rs Int32 :=
  (FX5_sameCharacters_L2 aC  FU a0 p1 0 μ)
set_option maxHeartbeats 4000000 in
set_option maxRecDepth 100000 in
theorem metX5_sameCharacters {l : Launch} {s0 : State} {D : va_G} {aC aC9 : Nat → ClassId} (hG : Gl s0 D aC9) (hl : l.stackTraces = false) (e9 : aC9 = aC) (a0 : Nat) (p1 : Nat) (μ : Me) : Ct l yX5_sameCharacters (ws_ yX5_sameCharacters cX5_sameCharacters 3 (some .int)) rmX5_sameCharacters s0 D aC9 (fun r : Int32 => some (.int r)) [.ref a0, .ref (aC (130 + p1))] μ (FX5_sameCharacters aC a0 p1 μ) := by
  refine Ct_of hG hl (by decide +kernel) (Nat.le_of_ble_eq_true rfl) (fun κ ρ hNL F M hκ => ?_)
  have hκ := hκ.trans e9
  have F : Fx κ cX5_sameCharacters RX5 := F
  change V κ ρ 0 0 μ (FX5_sameCharacters aC a0 p1 μ) 0 [(0, .ref a0), (1, .ref (aC (130 + p1)))] []
  have SGa := Fx_SGa F hκ _ rfl
  unfold FX5_sameCharacters
  refine V_iconst (v := 0) F dX5_sameCharacters_0 (by decide) ?_
  refine V_istore_n (lv' := [(2, .int 0), (0, .ref a0), (1, .ref (aC (130 + p1)))]) F dX5_sameCharacters_1 rfl (lt_L hNL (by decide)) rfl ?_
  refine V_sub [1, 2, 0] rfl ?_
  exact VX5_sameCharacters_L2 F M hNL hκ  FU a0 p1 0 μ
/-! DroneLightShow$Script.atDigit()Z -/
abbrev rmX5_atDigit : Room := { frames := 0, cells := 0, slots := 0, locals := 0 }
def FX5_atDigit (a0 : Nat) (μ : Me) : Rs Int32 :=
  (gI μ a0 6 5 (fun x1 => (gI μ a0 6 1 (fun x2 => (if x2 ≤ x1 then (rt 0 μ) else (gR μ a0 6 0 (fun x5 => (gI μ a0 6 5 (fun x6 => (aCh μ x5 x6 (fun x7 => (if x7 < 48 then (rt 0 μ) else (gR μ a0 6 0 (fun x10 => (gI μ a0 6 5 (fun x11 => (aCh μ x10 x11 (fun x12 => (if 57 < x12 then (rt 0 μ) else (rt 1 μ))))))))))))))))))))
set_option maxHeartbeats 4000000 in
set_option maxRecDepth 100000 in
theorem metX5_atDigit {l : Launch} {s0 : State} {D : va_G} {aC : Nat → ClassId} (hG : Gl s0 D aC) (hl : l.stackTraces = false) (a0 : Nat) (μ : Me) : Ct l yX5_atDigit (ws_ yX5_atDigit cX5_atDigit 1 (some .boolean)) rmX5_atDigit s0 D aC (fun r : Int32 => some (.int r)) [.ref a0] μ (FX5_atDigit a0 μ) := by
  refine Ct_of hG hl (by decide +kernel) (Nat.le_of_ble_eq_true rfl) (fun κ ρ hNL F M hκ => ?_)
  have F : Fx κ cX5_atDigit RX5 := F
  change V κ ρ 0 0 μ (FX5_atDigit a0 μ) 0 [(0, .ref a0)] []
  unfold FX5_atDigit
  refine V_aload_n F dX5_atDigit_0 rfl 0 rfl ?_
  refine V_gI (ci := 6) (k9 := 5) (C := RX5) (T := TX5) (N := 6) F rfl hinX5 (by decide) q252 dX5_atDigit_1 (fun x1 => ?_)
  refine V_aload_n F dX5_atDigit_4 rfl 0 rfl ?_
  refine V_gI (ci := 6) (k9 := 1) (C := RX5) (T := TX5) (N := 6) F rfl hinX5 (by decide) q244 dX5_atDigit_5 (fun x2 => ?_)
  refine V_icmp_ge (tgt := 43) F dX5_atDigit_8 (by decide) (fun c3 => ?_) (fun c4 => ?_)
  · refine V_iconst (v := 0) F dX5_atDigit_43 (by decide) ?_
    exact V_zret F M dX5_atDigit_44 rfl (by decide) (by decide) (by decide)
  · refine V_aload_n F dX5_atDigit_11 rfl 0 rfl ?_
    refine V_gR (ci := 6) (k9 := 0) (C := RX5) (T := TX5) (N := 6) F rfl hinX5 (by decide) q243 dX5_atDigit_12 (fun x5 => ?_)
    refine V_aload_n F dX5_atDigit_15 rfl 0 rfl ?_
    refine V_gI (ci := 6) (k9 := 5) (C := RX5) (T := TX5) (N := 6) F rfl hinX5 (by decide) q252 dX5_atDigit_16 (fun x6 => ?_)
    refine V_aCh F dX5_atDigit_19 (fun x7 => ?_)
    refine V_bipush (v := 48) F dX5_atDigit_20 (by decide) ?_
    refine V_icmp_lt (tgt := 43) F dX5_atDigit_22 (by decide) (fun c8 => ?_) (fun c9 => ?_)
    · refine V_iconst (v := 0) F dX5_atDigit_43 (by decide) ?_
      exact V_zret F M dX5_atDigit_44 rfl (by decide) (by decide) (by decide)
    · refine V_aload_n F dX5_atDigit_25 rfl 0 rfl ?_
      refine V_gR (ci := 6) (k9 := 0) (C := RX5) (T := TX5) (N := 6) F rfl hinX5 (by decide) q243 dX5_atDigit_26 (fun x10 => ?_)
      refine V_aload_n F dX5_atDigit_29 rfl 0 rfl ?_
      refine V_gI (ci := 6) (k9 := 5) (C := RX5) (T := TX5) (N := 6) F rfl hinX5 (by decide) q252 dX5_atDigit_30 (fun x11 => ?_)
      refine V_aCh F dX5_atDigit_33 (fun x12 => ?_)
      refine V_bipush (v := 57) F dX5_atDigit_34 (by decide) ?_
      refine V_icmp_gt (tgt := 43) F dX5_atDigit_36 (by decide) (fun c13 => ?_) (fun c14 => ?_)
      · refine V_iconst (v := 0) F dX5_atDigit_43 (by decide) ?_
        exact V_zret F M dX5_atDigit_44 rfl (by decide) (by decide) (by decide)
      · refine V_iconst (v := 1) F dX5_atDigit_39 (by decide) ?_
        refine V_goto (tgt := 44) F dX5_atDigit_40 (by decide) ?_
        exact V_zret F M dX5_atDigit_44 rfl (by decide) (by decide) (by decide)
/-! DroneLightShow$Script.skip(C)Z -/
abbrev rmX5_skip : Room := { frames := 0, cells := 0, slots := 0, locals := 0 }
def FX5_skip (a0 : Nat) (p1 : Int32) (μ : Me) : Rs Int32 :=
  (gI μ a0 6 5 (fun x1 => (gI μ a0 6 1 (fun x2 => (if x2 ≤ x1 then (rt 0 μ) else (gR μ a0 6 0 (fun x5 => (gI μ a0 6 5 (fun x6 => (aCh μ x5 x6 (fun x7 => (if x7 = p1 then (gI μ a0 6 5 (fun x10 => (pf μ a0 6 5 (.int (x10 + 1)) (fun μ11 => (rt 1 μ11))))) else (rt 0 μ)))))))))))))
set_option maxHeartbeats 4000000 in
set_option maxRecDepth 100000 in
theorem metX5_skip {l : Launch} {s0 : State} {D : va_G} {aC : Nat → ClassId} (hG : Gl s0 D aC) (hl : l.stackTraces = false) (a0 : Nat) (p1 : Int32) (μ : Me) : Ct l yX5_skip (ws_ yX5_skip cX5_skip 2 (some .boolean)) rmX5_skip s0 D aC (fun r : Int32 => some (.int r)) [.ref a0, .int p1] μ (FX5_skip a0 p1 μ) := by
  refine Ct_of hG hl (by decide +kernel) (Nat.le_of_ble_eq_true rfl) (fun κ ρ hNL F M hκ => ?_)
  have F : Fx κ cX5_skip RX5 := F
  change V κ ρ 0 0 μ (FX5_skip a0 p1 μ) 0 [(0, .ref a0), (1, .int p1)] []
  unfold FX5_skip
  refine V_aload_n F dX5_skip_0 rfl 0 rfl ?_
  refine V_gI (ci := 6) (k9 := 5) (C := RX5) (T := TX5) (N := 6) F rfl hinX5 (by decide) q252 dX5_skip_1 (fun x1 => ?_)
  refine V_aload_n F dX5_skip_4 rfl 0 rfl ?_
  refine V_gI (ci := 6) (k9 := 1) (C := RX5) (T := TX5) (N := 6) F rfl hinX5 (by decide) q244 dX5_skip_5 (fun x2 => ?_)
  refine V_icmp_ge (tgt := 24) F dX5_skip_8 (by decide) (fun c3 => ?_) (fun c4 => ?_)
  · refine V_iconst (v := 0) F dX5_skip_24 (by decide) ?_
    exact V_zret F M dX5_skip_25 rfl (by decide) (by decide) (by decide)
  · refine V_aload_n F dX5_skip_11 rfl 0 rfl ?_
    refine V_gR (ci := 6) (k9 := 0) (C := RX5) (T := TX5) (N := 6) F rfl hinX5 (by decide) q243 dX5_skip_12 (fun x5 => ?_)
    refine V_aload_n F dX5_skip_15 rfl 0 rfl ?_
    refine V_gI (ci := 6) (k9 := 5) (C := RX5) (T := TX5) (N := 6) F rfl hinX5 (by decide) q252 dX5_skip_16 (fun x6 => ?_)
    refine V_aCh F dX5_skip_19 (fun x7 => ?_)
    refine V_iload_n F dX5_skip_20 rfl 1 rfl ?_
    refine V_icmp_eq (tgt := 26) F dX5_skip_21 (by decide) (fun c8 => ?_) (fun c9 => ?_)
    · refine V_aload_n F dX5_skip_26 rfl 0 rfl ?_
      refine V_dup F dX5_skip_27 rfl ?_
      refine V_gI (ci := 6) (k9 := 5) (C := RX5) (T := TX5) (N := 6) F rfl hinX5 (by decide) q252 dX5_skip_28 (fun x10 => ?_)
      refine V_iconst (v := 1) F dX5_skip_31 (by decide) ?_
      refine V_iadd F dX5_skip_32 ?_
      refine V_pf (ci := 6) (k9 := 5) (C := RX5) (T := TX5) (N := 6) (ty := tyX5) F rfl hinX5 tyX5_ok nmX5 (by decide) q252 rfl rfl rfl dX5_skip_33 (fun μ11 => ?_)
      refine V_iconst (v := 1) F dX5_skip_36 (by decide) ?_
      exact V_zret F M dX5_skip_37 rfl (by decide) (by decide) (by decide)
    · refine V_iconst (v := 0) F dX5_skip_24 (by decide) ?_
      exact V_zret F M dX5_skip_25 rfl (by decide) (by decide) (by decide)
/-! DroneLightShow.droneCount()I -/
abbrev rmX7_droneCount : Room := { frames := 0, cells := 0, slots := 0, locals := 0 }
def FX7_droneCount (a0 : Nat) (μ : Me) : Rs Int32 :=
  (gR μ a0 7 0 (fun x1 => (gR μ x1 5 0 (fun x2 => (gI μ x2 3 6 (fun x3 => (rt x3 μ)))))))
set_option maxHeartbeats 4000000 in
set_option maxRecDepth 100000 in
theorem metX7_droneCount {l : Launch} {s0 : State} {D : va_G} {aC : Nat → ClassId} (hG : Gl s0 D aC) (hl : l.stackTraces = false) (a0 : Nat) (μ : Me) : Ct l yX7_droneCount (ws_ yX7_droneCount cX7_droneCount 1 (some .int)) rmX7_droneCount s0 D aC (fun r : Int32 => some (.int r)) [.ref a0] μ (FX7_droneCount a0 μ) := by
  refine Ct_of hG hl (by decide +kernel) (Nat.le_of_ble_eq_true rfl) (fun κ ρ hNL F M hκ => ?_)
  have F : Fx κ cX7_droneCount RX7 := F
  change V κ ρ 0 0 μ (FX7_droneCount a0 μ) 0 [(0, .ref a0)] []
  unfold FX7_droneCount
  refine V_aload_n F dX7_droneCount_0 rfl 0 rfl ?_
  refine V_gR (ci := 7) (k9 := 0) (C := RX7) (T := TX7) (N := 11) F rfl hinX7 (by decide) q268 dX7_droneCount_1 (fun x1 => ?_)
  refine V_gR (ci := 5) (k9 := 0) (C := RX4) (T := TX4) (N := 10) F rfl hinX4 (by decide) q173 dX7_droneCount_4 (fun x2 => ?_)
  refine V_gI (ci := 3) (k9 := 6) (C := RX2) (T := TX2) (N := 7) F rfl hinX2 (by decide) q133 dX7_droneCount_7 (fun x3 => ?_)
  exact V_iret F M dX7_droneCount_10 rfl (by decide) (by decide)
/-! DroneLightShow.occupiedMask()J -/
abbrev rmX7_occupiedMask : Room := { frames := 1, cells := 0, slots := 0, locals := 23 }
def FX7_occupiedMask (a0 : Nat) (μ : Me) : Rs Int64 :=
  (gR μ a0 7 0 (fun x1 => (gR μ x1 5 0 (fun x2 => (bnd (vc μ x2 3 (FX2_allCells x2  μ)) (fun x4 μ3 => (rt x4 μ3)))))))
set_option maxHeartbeats 4000000 in
set_option maxRecDepth 100000 in
theorem metX7_occupiedMask {l : Launch} {s0 : State} {D : va_G} {aC : Nat → ClassId} (hG : Gl s0 D aC) (hl : l.stackTraces = false) (a0 : Nat) (μ : Me) : Ct l yX7_occupiedMask (ws_ yX7_occupiedMask cX7_occupiedMask 1 (some .long)) rmX7_occupiedMask s0 D aC (fun r : Int64 => some (.long r)) [.ref a0] μ (FX7_occupiedMask a0 μ) := by
  refine Ct_of hG hl (by decide +kernel) (Nat.le_of_ble_eq_true rfl) (fun κ ρ hNL F M hκ => ?_)
  have F : Fx κ cX7_occupiedMask RX7 := F
  change V κ ρ 0 0 μ (FX7_occupiedMask a0 μ) 0 [(0, .ref a0)] []
  unfold FX7_occupiedMask
  refine V_aload_n F dX7_occupiedMask_0 rfl 0 rfl ?_
  refine V_gR (ci := 7) (k9 := 0) (C := RX7) (T := TX7) (N := 11) F rfl hinX7 (by decide) q268 dX7_occupiedMask_1 (fun x1 => ?_)
  refine V_gR (ci := 5) (k9 := 0) (C := RX4) (T := TX4) (N := 10) F rfl hinX4 (by decide) q173 dX7_occupiedMask_4 (fun x2 => ?_)
  refine V_cV (As := []) (rest := []) (C := RX2) (N := 0) F M (metX2_allCells (Fx_G F) (Fx_l F) x2  μ) rfl q313 q68 q310 q311 q312 ⟨by decide +kernel, by decide +kernel, by decide +kernel⟩ rfl ⟨by decide, by decide⟩ (Nat.le_of_ble_eq_true rfl) dX7_occupiedMask_7 (by decide) (by decide) (fun x4 μ3 => ?_)
  change V κ ρ 0 0 μ3 _ 10 [(0, .ref a0)] [.long x4]
  exact V_lret F M dX7_occupiedMask_10 rfl (by decide) (by decide)
/-! DroneLightShow.now()I -/
abbrev rmX7_now : Room := { frames := 0, cells := 0, slots := 0, locals := 0 }
def FX7_now (a0 : Nat) (μ : Me) : Rs Int32 :=
  (gR μ a0 7 0 (fun x1 => (gI μ x1 5 5 (fun x2 => (rt x2 μ)))))
set_option maxHeartbeats 4000000 in
set_option maxRecDepth 100000 in
theorem metX7_now {l : Launch} {s0 : State} {D : va_G} {aC : Nat → ClassId} (hG : Gl s0 D aC) (hl : l.stackTraces = false) (a0 : Nat) (μ : Me) : Ct l yX7_now (ws_ yX7_now cX7_now 1 (some .int)) rmX7_now s0 D aC (fun r : Int32 => some (.int r)) [.ref a0] μ (FX7_now a0 μ) := by
  refine Ct_of hG hl (by decide +kernel) (Nat.le_of_ble_eq_true rfl) (fun κ ρ hNL F M hκ => ?_)
  have F : Fx κ cX7_now RX7 := F
  change V κ ρ 0 0 μ (FX7_now a0 μ) 0 [(0, .ref a0)] []
  unfold FX7_now
  refine V_aload_n F dX7_now_0 rfl 0 rfl ?_
  refine V_gR (ci := 7) (k9 := 0) (C := RX7) (T := TX7) (N := 11) F rfl hinX7 (by decide) q268 dX7_now_1 (fun x1 => ?_)
  refine V_gI (ci := 5) (k9 := 5) (C := RX4) (T := TX4) (N := 10) F rfl hinX4 (by decide) q182 dX7_now_4 (fun x2 => ?_)
  exact V_iret F M dX7_now_7 rfl (by decide) (by decide)
/-! DroneLightShow.cueCount()I -/
abbrev rmX7_cueCount : Room := { frames := 0, cells := 0, slots := 0, locals := 0 }
def FX7_cueCount (a0 : Nat) (μ : Me) : Rs Int32 :=
  (gR μ a0 7 0 (fun x1 => (gR μ x1 5 1 (fun x2 => (gI μ x2 2 3 (fun x3 => (rt x3 μ)))))))
set_option maxHeartbeats 4000000 in
set_option maxRecDepth 100000 in
theorem metX7_cueCount {l : Launch} {s0 : State} {D : va_G} {aC : Nat → ClassId} (hG : Gl s0 D aC) (hl : l.stackTraces = false) (a0 : Nat) (μ : Me) : Ct l yX7_cueCount (ws_ yX7_cueCount cX7_cueCount 1 (some .int)) rmX7_cueCount s0 D aC (fun r : Int32 => some (.int r)) [.ref a0] μ (FX7_cueCount a0 μ) := by
  refine Ct_of hG hl (by decide +kernel) (Nat.le_of_ble_eq_true rfl) (fun κ ρ hNL F M hκ => ?_)
  have F : Fx κ cX7_cueCount RX7 := F
  change V κ ρ 0 0 μ (FX7_cueCount a0 μ) 0 [(0, .ref a0)] []
  unfold FX7_cueCount
  refine V_aload_n F dX7_cueCount_0 rfl 0 rfl ?_
  refine V_gR (ci := 7) (k9 := 0) (C := RX7) (T := TX7) (N := 11) F rfl hinX7 (by decide) q268 dX7_cueCount_1 (fun x1 => ?_)
  refine V_gR (ci := 5) (k9 := 1) (C := RX4) (T := TX4) (N := 10) F rfl hinX4 (by decide) q175 dX7_cueCount_4 (fun x2 => ?_)
  refine V_gI (ci := 2) (k9 := 3) (C := RX1) (T := TX1) (N := 4) F rfl hinX1 (by decide) q162 dX7_cueCount_7 (fun x3 => ?_)
  exact V_iret F M dX7_cueCount_10 rfl (by decide) (by decide)
/-! DroneLightShow.movedTotal()I -/
abbrev rmX7_movedTotal : Room := { frames := 0, cells := 0, slots := 0, locals := 0 }
def FX7_movedTotal (a0 : Nat) (μ : Me) : Rs Int32 :=
  (gR μ a0 7 0 (fun x1 => (gI μ x1 5 6 (fun x2 => (rt x2 μ)))))
set_option maxHeartbeats 4000000 in
set_option maxRecDepth 100000 in
theorem metX7_movedTotal {l : Launch} {s0 : State} {D : va_G} {aC : Nat → ClassId} (hG : Gl s0 D aC) (hl : l.stackTraces = false) (a0 : Nat) (μ : Me) : Ct l yX7_movedTotal (ws_ yX7_movedTotal cX7_movedTotal 1 (some .int)) rmX7_movedTotal s0 D aC (fun r : Int32 => some (.int r)) [.ref a0] μ (FX7_movedTotal a0 μ) := by
  refine Ct_of hG hl (by decide +kernel) (Nat.le_of_ble_eq_true rfl) (fun κ ρ hNL F M hκ => ?_)
  have F : Fx κ cX7_movedTotal RX7 := F
  change V κ ρ 0 0 μ (FX7_movedTotal a0 μ) 0 [(0, .ref a0)] []
  unfold FX7_movedTotal
  refine V_aload_n F dX7_movedTotal_0 rfl 0 rfl ?_
  refine V_gR (ci := 7) (k9 := 0) (C := RX7) (T := TX7) (N := 11) F rfl hinX7 (by decide) q268 dX7_movedTotal_1 (fun x1 => ?_)
  refine V_gI (ci := 5) (k9 := 6) (C := RX4) (T := TX4) (N := 10) F rfl hinX4 (by decide) q184 dX7_movedTotal_4 (fun x2 => ?_)
  exact V_iret F M dX7_movedTotal_7 rfl (by decide) (by decide)
/-! DroneLightShow.blockedTotal()I -/
abbrev rmX7_blockedTotal : Room := { frames := 0, cells := 0, slots := 0, locals := 0 }
def FX7_blockedTotal (a0 : Nat) (μ : Me) : Rs Int32 :=
  (gR μ a0 7 0 (fun x1 => (gI μ x1 5 7 (fun x2 => (rt x2 μ)))))
set_option maxHeartbeats 4000000 in
set_option maxRecDepth 100000 in
theorem metX7_blockedTotal {l : Launch} {s0 : State} {D : va_G} {aC : Nat → ClassId} (hG : Gl s0 D aC) (hl : l.stackTraces = false) (a0 : Nat) (μ : Me) : Ct l yX7_blockedTotal (ws_ yX7_blockedTotal cX7_blockedTotal 1 (some .int)) rmX7_blockedTotal s0 D aC (fun r : Int32 => some (.int r)) [.ref a0] μ (FX7_blockedTotal a0 μ) := by
  refine Ct_of hG hl (by decide +kernel) (Nat.le_of_ble_eq_true rfl) (fun κ ρ hNL F M hκ => ?_)
  have F : Fx κ cX7_blockedTotal RX7 := F
  change V κ ρ 0 0 μ (FX7_blockedTotal a0 μ) 0 [(0, .ref a0)] []
  unfold FX7_blockedTotal
  refine V_aload_n F dX7_blockedTotal_0 rfl 0 rfl ?_
  refine V_gR (ci := 7) (k9 := 0) (C := RX7) (T := TX7) (N := 11) F rfl hinX7 (by decide) q268 dX7_blockedTotal_1 (fun x1 => ?_)
  refine V_gI (ci := 5) (k9 := 7) (C := RX4) (T := TX4) (N := 10) F rfl hinX4 (by decide) q186 dX7_blockedTotal_4 (fun x2 => ?_)
  exact V_iret F M dX7_blockedTotal_7 rfl (by decide) (by decide)
/-! DroneLightShow.emergencyTotal()I -/
abbrev rmX7_emergencyTotal : Room := { frames := 0, cells := 0, slots := 0, locals := 0 }
def FX7_emergencyTotal (a0 : Nat) (μ : Me) : Rs Int32 :=
  (gR μ a0 7 0 (fun x1 => (gI μ x1 5 8 (fun x2 => (rt x2 μ)))))
set_option maxHeartbeats 4000000 in
set_option maxRecDepth 100000 in
theorem metX7_emergencyTotal {l : Launch} {s0 : State} {D : va_G} {aC : Nat → ClassId} (hG : Gl s0 D aC) (hl : l.stackTraces = false) (a0 : Nat) (μ : Me) : Ct l yX7_emergencyTotal (ws_ yX7_emergencyTotal cX7_emergencyTotal 1 (some .int)) rmX7_emergencyTotal s0 D aC (fun r : Int32 => some (.int r)) [.ref a0] μ (FX7_emergencyTotal a0 μ) := by
  refine Ct_of hG hl (by decide +kernel) (Nat.le_of_ble_eq_true rfl) (fun κ ρ hNL F M hκ => ?_)
  have F : Fx κ cX7_emergencyTotal RX7 := F
  change V κ ρ 0 0 μ (FX7_emergencyTotal a0 μ) 0 [(0, .ref a0)] []
  unfold FX7_emergencyTotal
  refine V_aload_n F dX7_emergencyTotal_0 rfl 0 rfl ?_
  refine V_gR (ci := 7) (k9 := 0) (C := RX7) (T := TX7) (N := 11) F rfl hinX7 (by decide) q268 dX7_emergencyTotal_1 (fun x1 => ?_)
  refine V_gI (ci := 5) (k9 := 8) (C := RX4) (T := TX4) (N := 10) F rfl hinX4 (by decide) q188 dX7_emergencyTotal_4 (fun x2 => ?_)
  exact V_iret F M dX7_emergencyTotal_7 rfl (by decide) (by decide)
/-! DroneLightShow.forcedTotal()I -/
abbrev rmX7_forcedTotal : Room := { frames := 0, cells := 0, slots := 0, locals := 0 }
def FX7_forcedTotal (a0 : Nat) (μ : Me) : Rs Int32 :=
  (gR μ a0 7 0 (fun x1 => (gI μ x1 5 9 (fun x2 => (rt x2 μ)))))
set_option maxHeartbeats 4000000 in
set_option maxRecDepth 100000 in
theorem metX7_forcedTotal {l : Launch} {s0 : State} {D : va_G} {aC : Nat → ClassId} (hG : Gl s0 D aC) (hl : l.stackTraces = false) (a0 : Nat) (μ : Me) : Ct l yX7_forcedTotal (ws_ yX7_forcedTotal cX7_forcedTotal 1 (some .int)) rmX7_forcedTotal s0 D aC (fun r : Int32 => some (.int r)) [.ref a0] μ (FX7_forcedTotal a0 μ) := by
  refine Ct_of hG hl (by decide +kernel) (Nat.le_of_ble_eq_true rfl) (fun κ ρ hNL F M hκ => ?_)
  have F : Fx κ cX7_forcedTotal RX7 := F
  change V κ ρ 0 0 μ (FX7_forcedTotal a0 μ) 0 [(0, .ref a0)] []
  unfold FX7_forcedTotal
  refine V_aload_n F dX7_forcedTotal_0 rfl 0 rfl ?_
  refine V_gR (ci := 7) (k9 := 0) (C := RX7) (T := TX7) (N := 11) F rfl hinX7 (by decide) q268 dX7_forcedTotal_1 (fun x1 => ?_)
  refine V_gI (ci := 5) (k9 := 9) (C := RX4) (T := TX4) (N := 10) F rfl hinX4 (by decide) q190 dX7_forcedTotal_4 (fun x2 => ?_)
  exact V_iret F M dX7_forcedTotal_7 rfl (by decide) (by decide)
/-! DroneLightShow.append(C)I -/
abbrev rmX7_append : Room := { frames := 6, cells := 1, slots := 6, locals := 100 }
def FX7_append_B12   (μ : Me) : Rs Int32 :=
  (thr "java/lang/IllegalArgumentException" μ)
set_option maxHeartbeats 4000000 in
set_option maxRecDepth 100000 in
theorem VX7_append_B12 {κ : Cx} {ρ : (Int32 ⊕ String) × Me} (F : Fx κ cX7_append RX7) (M : Mx κ (fun r : Int32 => some (.int r)) ρ rmX7_append (some .int) [] "append") (hNL : κ.2.2.2.2.2.2.2.2.2.2.2.2.2.2 = 2)    (μ : Me) : V κ ρ 0 0 μ (FX7_append_B12   μ) 12 [] [] := by
  unfold FX7_append_B12
  exact V_throw F M q562 q79 (List.mem_of_getElem? (i := 10) rfl) th_IllegalArgumentException (by decide) dX7_append_12 dX7_append_15 dX7_append_16 dX7_append_18 dX7_append_21 (by decide) (by decide) (by decide) (by decide)
def FX7_append (a0 : Nat) (p1 : Int32) (μ : Me) : Rs Int32 :=
  (if p1 < 32 then (FX7_append_B12  μ) else (if p1 ≤ 126 then (gR μ a0 7 5 (fun x5 => (gI μ x5 6 1 (fun x6 => (if x6 < 60 then (gR μ a0 7 5 (fun x9 => (bnd (vc μ x9 6 (FX5_put x9 p1 μ)) (fun x11 μ10 => (gR μ10 a0 7 5 (fun x12 => (gI μ10 x12 6 1 (fun x13 => (rt x13 μ10))))))))) else (thr "java/lang/IllegalStateException" μ)))))) else (FX7_append_B12  μ)))
set_option maxHeartbeats 4000000 in
set_option maxRecDepth 100000 in
theorem metX7_append {l : Launch} {s0 : State} {D : va_G} {aC : Nat → ClassId} (hG : Gl s0 D aC) (hl : l.stackTraces = false) (a0 : Nat) (p1 : Int32) (μ : Me) : Ct l yX7_append (ws_ yX7_append cX7_append 2 (some .int)) rmX7_append s0 D aC (fun r : Int32 => some (.int r)) [.ref a0, .int p1] μ (FX7_append a0 p1 μ) := by
  refine Ct_of hG hl (by decide +kernel) (Nat.le_of_ble_eq_true rfl) (fun κ ρ hNL F M hκ => ?_)
  have F : Fx κ cX7_append RX7 := F
  change V κ ρ 0 0 μ (FX7_append a0 p1 μ) 0 [(0, .ref a0), (1, .int p1)] []
  unfold FX7_append
  refine V_iload_n F dX7_append_0 rfl 1 rfl ?_
  refine V_bipush (v := 32) F dX7_append_1 (by decide) ?_
  refine V_icmp_lt (tgt := 12) F dX7_append_3 (by decide) (fun c1 => ?_) (fun c2 => ?_)
  · refine V_sub [] rfl ?_
    exact VX7_append_B12 F M hNL  μ
  · refine V_iload_n F dX7_append_6 rfl 1 rfl ?_
    refine V_bipush (v := 126) F dX7_append_7 (by decide) ?_
    refine V_icmp_le (tgt := 22) F dX7_append_9 (by decide) (fun c3 => ?_) (fun c4 => ?_)
    · refine V_aload_n F dX7_append_22 rfl 0 rfl ?_
      refine V_gR (ci := 7) (k9 := 5) (C := RX7) (T := TX7) (N := 11) F rfl hinX7 (by decide) q273 dX7_append_23 (fun x5 => ?_)
      refine V_gI (ci := 6) (k9 := 1) (C := RX5) (T := TX5) (N := 6) F rfl hinX5 (by decide) q245 dX7_append_26 (fun x6 => ?_)
      refine V_bipush (v := 60) F dX7_append_29 (by decide) ?_
      refine V_icmp_lt (tgt := 44) F dX7_append_31 (by decide) (fun c7 => ?_) (fun c8 => ?_)
      · refine V_aload_n F dX7_append_44 rfl 0 rfl ?_
        refine V_gR (ci := 7) (k9 := 5) (C := RX7) (T := TX7) (N := 11) F rfl hinX7 (by decide) q273 dX7_append_45 (fun x9 => ?_)
        refine V_iload_n F dX7_append_48 rfl 1 rfl ?_
        refine V_cV (As := [.int p1]) (rest := []) (C := RX5) (N := 1) F M (metX5_put (Fx_G F) (Fx_l F) x9 p1 μ) rfl q1004 q71 q1001 q1002 q1003 ⟨by decide +kernel, by decide +kernel, by decide +kernel⟩ rfl ⟨by decide, by decide⟩ (Nat.le_of_ble_eq_true rfl) dX7_append_49 (by decide) (by decide) (fun x11 μ10 => ?_)
        change V κ ρ 0 0 μ10 _ 52 [(0, .ref a0), (1, .int p1)] []
        refine V_aload_n F dX7_append_52 rfl 0 rfl ?_
        refine V_gR (ci := 7) (k9 := 5) (C := RX7) (T := TX7) (N := 11) F rfl hinX7 (by decide) q273 dX7_append_53 (fun x12 => ?_)
        refine V_gI (ci := 6) (k9 := 1) (C := RX5) (T := TX5) (N := 6) F rfl hinX5 (by decide) q245 dX7_append_56 (fun x13 => ?_)
        exact V_iret F M dX7_append_59 rfl (by decide) (by decide)
      · exact V_throw F M q578 q80 (List.mem_of_getElem? (i := 11) rfl) th_IllegalStateException (by decide) dX7_append_34 dX7_append_37 dX7_append_38 dX7_append_40 dX7_append_43 (by decide) (by decide) (by decide) (by decide)
    · refine V_sub [] rfl ?_
      exact VX7_append_B12 F M hNL  μ
/-! DroneLightShow.lineAt(I)C -/
abbrev rmX7_lineAt : Room := { frames := 6, cells := 1, slots := 6, locals := 100 }
def FX7_lineAt_B12   (μ : Me) : Rs Int32 :=
  (thr "java/lang/IndexOutOfBoundsException" μ)
set_option maxHeartbeats 4000000 in
set_option maxRecDepth 100000 in
theorem VX7_lineAt_B12 {κ : Cx} {ρ : (Int32 ⊕ String) × Me} (F : Fx κ cX7_lineAt RX7) (M : Mx κ (fun r : Int32 => some (.int r)) ρ rmX7_lineAt (some .char) [] "lineAt") (hNL : κ.2.2.2.2.2.2.2.2.2.2.2.2.2.2 = 2)    (μ : Me) : V κ ρ 0 0 μ (FX7_lineAt_B12   μ) 12 [] [] := by
  unfold FX7_lineAt_B12
  exact V_throwW F M q549 q76 (List.mem_of_getElem? (i := 15) rfl) th_IndexOutOfBoundsException (by decide) dX7_lineAt_12 dX7_lineAt_15 dX7_lineAt_16 dX7_lineAt_19 dX7_lineAt_22 (by decide) (by decide) (by decide) (by decide)
def FX7_lineAt (a0 : Nat) (p1 : Int32) (μ : Me) : Rs Int32 :=
  (if p1 < 0 then (FX7_lineAt_B12  μ) else (gI μ a0 7 9 (fun x3 => (if p1 < x3 then (gR μ a0 7 8 (fun x6 => (aCh μ x6 p1 (fun x7 => (gd (vp_nar .char x7 = x7) (rt x7 μ)))))) else (FX7_lineAt_B12  μ)))))
set_option maxHeartbeats 4000000 in
set_option maxRecDepth 100000 in
theorem metX7_lineAt {l : Launch} {s0 : State} {D : va_G} {aC : Nat → ClassId} (hG : Gl s0 D aC) (hl : l.stackTraces = false) (a0 : Nat) (p1 : Int32) (μ : Me) : Ct l yX7_lineAt (ws_ yX7_lineAt cX7_lineAt 2 (some .char)) rmX7_lineAt s0 D aC (fun r : Int32 => some (.int r)) [.ref a0, .int p1] μ (FX7_lineAt a0 p1 μ) := by
  refine Ct_of hG hl (by decide +kernel) (Nat.le_of_ble_eq_true rfl) (fun κ ρ hNL F M hκ => ?_)
  have F : Fx κ cX7_lineAt RX7 := F
  change V κ ρ 0 0 μ (FX7_lineAt a0 p1 μ) 0 [(0, .ref a0), (1, .int p1)] []
  unfold FX7_lineAt
  refine V_iload_n F dX7_lineAt_0 rfl 1 rfl ?_
  refine V_if_lt (tgt := 12) F dX7_lineAt_1 (by decide) (fun c1 => ?_) (fun c2 => ?_)
  · refine V_sub [] rfl ?_
    exact VX7_lineAt_B12 F M hNL  μ
  · refine V_iload_n F dX7_lineAt_4 rfl 1 rfl ?_
    refine V_aload_n F dX7_lineAt_5 rfl 0 rfl ?_
    refine V_gI (ci := 7) (k9 := 9) (C := RX7) (T := TX7) (N := 11) F rfl hinX7 (by decide) q277 dX7_lineAt_6 (fun x3 => ?_)
    refine V_icmp_lt (tgt := 23) F dX7_lineAt_9 (by decide) (fun c4 => ?_) (fun c5 => ?_)
    · refine V_aload_n F dX7_lineAt_23 rfl 0 rfl ?_
      refine V_gR (ci := 7) (k9 := 8) (C := RX7) (T := TX7) (N := 11) F rfl hinX7 (by decide) q276 dX7_lineAt_24 (fun x6 => ?_)
      refine V_iload_n F dX7_lineAt_27 rfl 1 rfl ?_
      refine V_aCh F dX7_lineAt_28 (fun x7 => ?_)
      refine V_gd (fun g8 => ?_)
      exact V_zret F M dX7_lineAt_29 rfl (nar_c g8) (by decide) (by decide)
    · refine V_sub [] rfl ?_
      exact VX7_lineAt_B12 F M hNL  μ
/-! DroneLightShow.refuse(I)V -/
abbrev rmX7_refuse : Room := { frames := 6, cells := 1, slots := 6, locals := 100 }
def FX7_refuse (p1 : Int32) (μ : Me) : Rs Unit :=
  (if p1.toInt < (-3) ∨ (-1) < p1.toInt then (thr "java/lang/UnsupportedOperationException" μ) else (if p1.toInt = (-3) then (thr "java/lang/IllegalStateException" μ) else (if p1.toInt = (-2) then (thr "java/lang/IllegalArgumentException" μ) else (if p1.toInt = (-1) then (thr "java/lang/IndexOutOfBoundsException" μ) else none))))
set_option maxHeartbeats 4000000 in
set_option maxRecDepth 100000 in
theorem metX7_refuse {l : Launch} {s0 : State} {D : va_G} {aC : Nat → ClassId} (hG : Gl s0 D aC) (hl : l.stackTraces = false) (p1 : Int32) (μ : Me) : Ct l yX7_refuse (ws_ yX7_refuse cX7_refuse 1 none) rmX7_refuse s0 D aC (fun _ : Unit => none) [.int p1] μ (FX7_refuse p1 μ) := by
  refine Ct_of hG hl (by decide +kernel) (Nat.le_of_ble_eq_true rfl) (fun κ ρ hNL F M hκ => ?_)
  have F : Fx κ cX7_refuse RX7 := F
  change V κ ρ 0 0 μ (FX7_refuse p1 μ) 0 [(0, .int p1)] []
  unfold FX7_refuse
  refine V_iload_n F dX7_refuse_0 rfl 0 rfl ?_
  refine V_out (tgt := 61) F dX7_refuse_1 (by decide) ?_ (fun c1 => ?_)
  · exact V_throwW F M q594 q81 (List.mem_of_getElem? (i := 3) rfl) th_UnsupportedOperationException (by decide) dX7_refuse_61 dX7_refuse_64 dX7_refuse_65 dX7_refuse_68 dX7_refuse_71 (by decide) (by decide) (by decide) (by decide)
  · skip
    refine V_case (z := (-3)) (tgt := 50) F dX7_refuse_1 (by decide) rfl (by decide) (fun c2 => ?_) (fun c3 => ?_)
    · exact V_throwW F M q578 q80 (List.mem_of_getElem? (i := 2) rfl) th_IllegalStateException (by decide) dX7_refuse_50 dX7_refuse_53 dX7_refuse_54 dX7_refuse_57 dX7_refuse_60 (by decide) (by decide) (by decide) (by decide)
    refine V_case (z := (-2)) (tgt := 39) F dX7_refuse_1 (by decide) rfl (by decide) (fun c4 => ?_) (fun c5 => ?_)
    · exact V_throwW F M q562 q79 (List.mem_of_getElem? (i := 1) rfl) th_IllegalArgumentException (by decide) dX7_refuse_39 dX7_refuse_42 dX7_refuse_43 dX7_refuse_46 dX7_refuse_49 (by decide) (by decide) (by decide) (by decide)
    refine V_case (z := (-1)) (tgt := 28) F dX7_refuse_1 (by decide) rfl (by decide) (fun c6 => ?_) (fun c7 => ?_)
    · exact V_throwW F M q549 q76 (List.mem_of_getElem? (i := 0) rfl) th_IndexOutOfBoundsException (by decide) dX7_refuse_28 dX7_refuse_31 dX7_refuse_32 dX7_refuse_35 dX7_refuse_38 (by decide) (by decide) (by decide) (by decide)
    exact V_none
/-! DroneLightShow.found(I)I -/
abbrev rmX7_found : Room := { frames := 6, cells := 1, slots := 6, locals := 100 }
def FX7_found (p1 : Int32) (μ : Me) : Rs Int32 :=
  (if p1 = (-1) then (thr "java/util/NoSuchElementException" μ) else (rt p1 μ))
set_option maxHeartbeats 4000000 in
set_option maxRecDepth 100000 in
theorem metX7_found {l : Launch} {s0 : State} {D : va_G} {aC : Nat → ClassId} (hG : Gl s0 D aC) (hl : l.stackTraces = false) (p1 : Int32) (μ : Me) : Ct l yX7_found (ws_ yX7_found cX7_found 1 (some .int)) rmX7_found s0 D aC (fun r : Int32 => some (.int r)) [.int p1] μ (FX7_found p1 μ) := by
  refine Ct_of hG hl (by decide +kernel) (Nat.le_of_ble_eq_true rfl) (fun κ ρ hNL F M hκ => ?_)
  have F : Fx κ cX7_found RX7 := F
  change V κ ρ 0 0 μ (FX7_found p1 μ) 0 [(0, .int p1)] []
  unfold FX7_found
  refine V_iload_n F dX7_found_0 rfl 0 rfl ?_
  refine V_iconst (v := (-1)) F dX7_found_1 (by decide) ?_
  refine V_icmp_ne (tgt := 16) F dX7_found_2 (by decide) (fun c1 => ?_) (fun c2 => ?_)
  · refine V_iload_n F dX7_found_16 rfl 0 rfl ?_
    exact V_iret F M dX7_found_17 rfl (by decide) (by decide)
  · exact V_throwNW F M q724 q85 (List.mem_of_getElem? (i := 5) rfl) th_NoSuchElementException (by decide) dX7_found_5 dX7_found_8 dX7_found_9 dX7_found_12 dX7_found_15 (by decide) (by decide) (by decide) (by decide)
/-! DroneLightShow.demandDrone(I)V -/
abbrev rmX7_demandDrone : Room := { frames := 6, cells := 1, slots := 6, locals := 100 }
def FX7_demandDrone (a0 : Nat) (p1 : Int32) (μ : Me) : Rs Unit :=
  (gR μ a0 7 0 (fun x1 => (gR μ x1 5 0 (fun x2 => (bnd (vc μ x2 3 (FX2_has x2 p1 μ)) (fun x4 μ3 => (if x4 = 0 then (thr "java/lang/IndexOutOfBoundsException" μ3) else (rt () μ3))))))))
set_option maxHeartbeats 4000000 in
set_option maxRecDepth 100000 in
theorem metX7_demandDrone {l : Launch} {s0 : State} {D : va_G} {aC : Nat → ClassId} (hG : Gl s0 D aC) (hl : l.stackTraces = false) (a0 : Nat) (p1 : Int32) (μ : Me) : Ct l yX7_demandDrone (ws_ yX7_demandDrone cX7_demandDrone 2 none) rmX7_demandDrone s0 D aC (fun _ : Unit => none) [.ref a0, .int p1] μ (FX7_demandDrone a0 p1 μ) := by
  refine Ct_of hG hl (by decide +kernel) (Nat.le_of_ble_eq_true rfl) (fun κ ρ hNL F M hκ => ?_)
  have F : Fx κ cX7_demandDrone RX7 := F
  change V κ ρ 0 0 μ (FX7_demandDrone a0 p1 μ) 0 [(0, .ref a0), (1, .int p1)] []
  unfold FX7_demandDrone
  refine V_aload_n F dX7_demandDrone_0 rfl 0 rfl ?_
  refine V_gR (ci := 7) (k9 := 0) (C := RX7) (T := TX7) (N := 11) F rfl hinX7 (by decide) q268 dX7_demandDrone_1 (fun x1 => ?_)
  refine V_gR (ci := 5) (k9 := 0) (C := RX4) (T := TX4) (N := 10) F rfl hinX4 (by decide) q173 dX7_demandDrone_4 (fun x2 => ?_)
  refine V_iload_n F dX7_demandDrone_7 rfl 1 rfl ?_
  refine V_cV (As := [.int p1]) (rest := []) (C := RX2) (N := 1) F M (metX2_has (Fx_G F) (Fx_l F) x2 p1 μ) rfl q641 q68 q690 q639 q640 ⟨by decide +kernel, by decide +kernel, by decide +kernel⟩ rfl ⟨by decide, by decide⟩ (Nat.le_of_ble_eq_true rfl) dX7_demandDrone_8 (by decide) (by decide) (fun x4 μ3 => ?_)
  change V κ ρ 0 0 μ3 _ 11 [(0, .ref a0), (1, .int p1)] [.int x4]
  refine V_if_ne (tgt := 25) F dX7_demandDrone_11 (by decide) (fun c5 => ?_) (fun c6 => ?_)
  · exact V_vret F M dX7_demandDrone_25 rfl (by decide) (by decide)
  · exact V_throwW F M q549 q76 (List.mem_of_getElem? (i := 4) rfl) th_IndexOutOfBoundsException (by decide) dX7_demandDrone_14 dX7_demandDrone_17 dX7_demandDrone_18 dX7_demandDrone_21 dX7_demandDrone_24 (by decide) (by decide) (by decide) (by decide)
/-! DroneLightShow.isCell(I)Z -/
abbrev rmX7_isCell : Room := { frames := 0, cells := 0, slots := 0, locals := 0 }
def FX7_isCell (p1 : Int32) (μ : Me) : Rs Int32 :=
  (if p1 < 0 then (rt 0 μ) else (if 64 ≤ p1 then (rt 0 μ) else (rt 1 μ)))
set_option maxHeartbeats 4000000 in
set_option maxRecDepth 100000 in
theorem metX7_isCell {l : Launch} {s0 : State} {D : va_G} {aC : Nat → ClassId} (hG : Gl s0 D aC) (hl : l.stackTraces = false) (p1 : Int32) (μ : Me) : Ct l yX7_isCell (ws_ yX7_isCell cX7_isCell 1 (some .boolean)) rmX7_isCell s0 D aC (fun r : Int32 => some (.int r)) [.int p1] μ (FX7_isCell p1 μ) := by
  refine Ct_of hG hl (by decide +kernel) (Nat.le_of_ble_eq_true rfl) (fun κ ρ hNL F M hκ => ?_)
  have F : Fx κ cX7_isCell RX7 := F
  change V κ ρ 0 0 μ (FX7_isCell p1 μ) 0 [(0, .int p1)] []
  unfold FX7_isCell
  refine V_iload_n F dX7_isCell_0 rfl 0 rfl ?_
  refine V_if_lt (tgt := 14) F dX7_isCell_1 (by decide) (fun c1 => ?_) (fun c2 => ?_)
  · refine V_iconst (v := 0) F dX7_isCell_14 (by decide) ?_
    exact V_zret F M dX7_isCell_15 rfl (by decide) (by decide) (by decide)
  · refine V_iload_n F dX7_isCell_4 rfl 0 rfl ?_
    refine V_bipush (v := 64) F dX7_isCell_5 (by decide) ?_
    refine V_icmp_ge (tgt := 14) F dX7_isCell_7 (by decide) (fun c3 => ?_) (fun c4 => ?_)
    · refine V_iconst (v := 0) F dX7_isCell_14 (by decide) ?_
      exact V_zret F M dX7_isCell_15 rfl (by decide) (by decide) (by decide)
    · refine V_iconst (v := 1) F dX7_isCell_10 (by decide) ?_
      refine V_goto (tgt := 15) F dX7_isCell_11 (by decide) ?_
      exact V_zret F M dX7_isCell_15 rfl (by decide) (by decide) (by decide)
/-! DroneLightShow.isFormation(I)Z -/
abbrev rmX7_isFormation : Room := { frames := 0, cells := 0, slots := 0, locals := 0 }
def FX7_isFormation (p1 : Int32) (μ : Me) : Rs Int32 :=
  (if p1 < 0 then (rt 0 μ) else (if 4 ≤ p1 then (rt 0 μ) else (rt 1 μ)))
set_option maxHeartbeats 4000000 in
set_option maxRecDepth 100000 in
theorem metX7_isFormation {l : Launch} {s0 : State} {D : va_G} {aC : Nat → ClassId} (hG : Gl s0 D aC) (hl : l.stackTraces = false) (p1 : Int32) (μ : Me) : Ct l yX7_isFormation (ws_ yX7_isFormation cX7_isFormation 1 (some .boolean)) rmX7_isFormation s0 D aC (fun r : Int32 => some (.int r)) [.int p1] μ (FX7_isFormation p1 μ) := by
  refine Ct_of hG hl (by decide +kernel) (Nat.le_of_ble_eq_true rfl) (fun κ ρ hNL F M hκ => ?_)
  have F : Fx κ cX7_isFormation RX7 := F
  change V κ ρ 0 0 μ (FX7_isFormation p1 μ) 0 [(0, .int p1)] []
  unfold FX7_isFormation
  refine V_iload_n F dX7_isFormation_0 rfl 0 rfl ?_
  refine V_if_lt (tgt := 13) F dX7_isFormation_1 (by decide) (fun c1 => ?_) (fun c2 => ?_)
  · refine V_iconst (v := 0) F dX7_isFormation_13 (by decide) ?_
    exact V_zret F M dX7_isFormation_14 rfl (by decide) (by decide) (by decide)
  · refine V_iload_n F dX7_isFormation_4 rfl 0 rfl ?_
    refine V_iconst (v := 4) F dX7_isFormation_5 (by decide) ?_
    refine V_icmp_ge (tgt := 13) F dX7_isFormation_6 (by decide) (fun c3 => ?_) (fun c4 => ?_)
    · refine V_iconst (v := 0) F dX7_isFormation_13 (by decide) ?_
      exact V_zret F M dX7_isFormation_14 rfl (by decide) (by decide) (by decide)
    · refine V_iconst (v := 1) F dX7_isFormation_9 (by decide) ?_
      refine V_goto (tgt := 14) F dX7_isFormation_10 (by decide) ?_
      exact V_zret F M dX7_isFormation_14 rfl (by decide) (by decide) (by decide)
/-! DroneLightShow.contains(JI)Z -/
abbrev rmX7_contains : Room := { frames := 0, cells := 0, slots := 0, locals := 0 }
def FX7_contains (p1 : Int64) (p2 : Int32) (μ : Me) : Rs Int32 :=
  (if (lg_cmp (p1 &&& (1 <<< ((p2 : Int32).toInt64 &&& 63))) 0) = 0 then (rt 0 μ) else (rt 1 μ))
set_option maxHeartbeats 4000000 in
set_option maxRecDepth 100000 in
theorem metX7_contains {l : Launch} {s0 : State} {D : va_G} {aC : Nat → ClassId} (hG : Gl s0 D aC) (hl : l.stackTraces = false) (p1 : Int64) (p2 : Int32) (μ : Me) : Ct l yX7_contains (ws_ yX7_contains cX7_contains 3 (some .boolean)) rmX7_contains s0 D aC (fun r : Int32 => some (.int r)) [.long p1, .int p2] μ (FX7_contains p1 p2 μ) := by
  refine Ct_of hG hl (by decide +kernel) (Nat.le_of_ble_eq_true rfl) (fun κ ρ hNL F M hκ => ?_)
  have F : Fx κ cX7_contains RX7 := F
  change V κ ρ 0 0 μ (FX7_contains p1 p2 μ) 0 [(0, .long p1), (2, .int p2)] []
  unfold FX7_contains
  refine V_lload_n F dX7_contains_0 rfl 0 rfl ?_
  refine V_lconst (v := 1) F dX7_contains_1 (by decide) ?_
  refine V_iload_n F dX7_contains_2 rfl 1 rfl ?_
  refine V_lshl F dX7_contains_3 ?_
  refine V_land F dX7_contains_4 ?_
  refine V_lconst (v := 0) F dX7_contains_5 (by decide) ?_
  refine V_lcmp F dX7_contains_6 ?_
  refine V_if_eq (tgt := 14) F dX7_contains_7 (by decide) (fun c1 => ?_) (fun c2 => ?_)
  · refine V_iconst (v := 0) F dX7_contains_14 (by decide) ?_
    exact V_zret F M dX7_contains_15 rfl (by decide) (by decide) (by decide)
  · refine V_iconst (v := 1) F dX7_contains_10 (by decide) ?_
    refine V_goto (tgt := 15) F dX7_contains_11 (by decide) ?_
    exact V_zret F M dX7_contains_15 rfl (by decide) (by decide) (by decide)
/-! DroneLightShow.distance(II)I -/
abbrev rmX7_distance : Room := { frames := 1, cells := 0, slots := 0, locals := 25 }
def FX7_distance (p1 : Int32) (p2 : Int32) (μ : Me) : Rs Int32 :=
  (rt ((if 0 ≤ ((p1 / 8) - (p2 / 8)) then ((p1 / 8) - (p2 / 8)) else 0 - ((p1 / 8) - (p2 / 8))) + (if 0 ≤ ((p1 - p1 / 8 * 8) - (p2 - p2 / 8 * 8)) then ((p1 - p1 / 8 * 8) - (p2 - p2 / 8 * 8)) else 0 - ((p1 - p1 / 8 * 8) - (p2 - p2 / 8 * 8)))) μ)
set_option maxHeartbeats 4000000 in
set_option maxRecDepth 100000 in
theorem metX7_distance {l : Launch} {s0 : State} {D : va_G} {aC : Nat → ClassId} (hG : Gl s0 D aC) (hl : l.stackTraces = false) (p1 : Int32) (p2 : Int32) (μ : Me) : Ct l yX7_distance (ws_ yX7_distance cX7_distance 2 (some .int)) rmX7_distance s0 D aC (fun r : Int32 => some (.int r)) [.int p1, .int p2] μ (FX7_distance p1 p2 μ) := by
  refine Ct_of hG hl (by decide +kernel) (Nat.le_of_ble_eq_true rfl) (fun κ ρ hNL F M hκ => ?_)
  have F : Fx κ cX7_distance RX7 := F
  change V κ ρ 0 0 μ (FX7_distance p1 p2 μ) 0 [(0, .int p1), (1, .int p2)] []
  unfold FX7_distance
  refine V_iload_n F dX7_distance_0 rfl 0 rfl ?_
  refine V_bipush (v := 8) F dX7_distance_1 (by decide) ?_
  refine V_idiv F dX7_distance_3 (by decide) ?_
  refine V_iload_n F dX7_distance_4 rfl 1 rfl ?_
  refine V_bipush (v := 8) F dX7_distance_5 (by decide) ?_
  refine V_idiv F dX7_distance_7 (by decide) ?_
  refine V_isub F dX7_distance_8 ?_
  refine V_abs F M q410 q411 q84 q412 dX7_distance_9 (by decide) (Nat.le_of_ble_eq_true rfl) (by decide) (by decide) ?_
  refine V_iload_n F dX7_distance_12 rfl 0 rfl ?_
  refine V_bipush (v := 8) F dX7_distance_13 (by decide) ?_
  refine V_irem F dX7_distance_15 (by decide) ?_
  refine V_iload_n F dX7_distance_16 rfl 1 rfl ?_
  refine V_bipush (v := 8) F dX7_distance_17 (by decide) ?_
  refine V_irem F dX7_distance_19 (by decide) ?_
  refine V_isub F dX7_distance_20 ?_
  refine V_abs F M q410 q411 q84 q412 dX7_distance_21 (by decide) (Nat.le_of_ble_eq_true rfl) (by decide) (by decide) ?_
  refine V_iadd F dX7_distance_24 ?_
  exact V_iret F M dX7_distance_25 rfl (by decide) (by decide)
/-! DroneLightShow.rowStep(II)I -/
abbrev rmX7_rowStep : Room := { frames := 0, cells := 0, slots := 0, locals := 0 }
def FX7_rowStep (p1 : Int32) (p2 : Int32) (μ : Me) : Rs Int32 :=
  (if (p1 / 8) = (p2 / 8) then (rt (-1) μ) else (if (p2 / 8) ≤ (p1 / 8) then (rt (p1 - 8) μ) else (rt (p1 + 8) μ)))
set_option maxHeartbeats 4000000 in
set_option maxRecDepth 100000 in
theorem metX7_rowStep {l : Launch} {s0 : State} {D : va_G} {aC : Nat → ClassId} (hG : Gl s0 D aC) (hl : l.stackTraces = false) (p1 : Int32) (p2 : Int32) (μ : Me) : Ct l yX7_rowStep (ws_ yX7_rowStep cX7_rowStep 2 (some .int)) rmX7_rowStep s0 D aC (fun r : Int32 => some (.int r)) [.int p1, .int p2] μ (FX7_rowStep p1 p2 μ) := by
  refine Ct_of hG hl (by decide +kernel) (Nat.le_of_ble_eq_true rfl) (fun κ ρ hNL F M hκ => ?_)
  have F : Fx κ cX7_rowStep RX7 := F
  change V κ ρ 0 0 μ (FX7_rowStep p1 p2 μ) 0 [(0, .int p1), (1, .int p2)] []
  unfold FX7_rowStep
  refine V_iload_n F dX7_rowStep_0 rfl 0 rfl ?_
  refine V_bipush (v := 8) F dX7_rowStep_1 (by decide) ?_
  refine V_idiv F dX7_rowStep_3 (by decide) ?_
  refine V_iload_n F dX7_rowStep_4 rfl 1 rfl ?_
  refine V_bipush (v := 8) F dX7_rowStep_5 (by decide) ?_
  refine V_idiv F dX7_rowStep_7 (by decide) ?_
  refine V_icmp_ne (tgt := 13) F dX7_rowStep_8 (by decide) (fun c1 => ?_) (fun c2 => ?_)
  · refine V_iload_n F dX7_rowStep_13 rfl 0 rfl ?_
    refine V_bipush (v := 8) F dX7_rowStep_14 (by decide) ?_
    refine V_idiv F dX7_rowStep_16 (by decide) ?_
    refine V_iload_n F dX7_rowStep_17 rfl 1 rfl ?_
    refine V_bipush (v := 8) F dX7_rowStep_18 (by decide) ?_
    refine V_idiv F dX7_rowStep_20 (by decide) ?_
    refine V_icmp_ge (tgt := 31) F dX7_rowStep_21 (by decide) (fun c3 => ?_) (fun c4 => ?_)
    · refine V_iload_n F dX7_rowStep_31 rfl 0 rfl ?_
      refine V_bipush (v := 8) F dX7_rowStep_32 (by decide) ?_
      refine V_isub F dX7_rowStep_34 ?_
      exact V_iret F M dX7_rowStep_35 rfl (by decide) (by decide)
    · refine V_iload_n F dX7_rowStep_24 rfl 0 rfl ?_
      refine V_bipush (v := 8) F dX7_rowStep_25 (by decide) ?_
      refine V_iadd F dX7_rowStep_27 ?_
      refine V_goto (tgt := 35) F dX7_rowStep_28 (by decide) ?_
      exact V_iret F M dX7_rowStep_35 rfl (by decide) (by decide)
  · refine V_iconst (v := (-1)) F dX7_rowStep_11 (by decide) ?_
    exact V_iret F M dX7_rowStep_12 rfl (by decide) (by decide)
/-! DroneLightShow.columnStep(II)I -/
abbrev rmX7_columnStep : Room := { frames := 0, cells := 0, slots := 0, locals := 0 }
def FX7_columnStep (p1 : Int32) (p2 : Int32) (μ : Me) : Rs Int32 :=
  (if (p1 - p1 / 8 * 8) = (p2 - p2 / 8 * 8) then (rt (-1) μ) else (if (p2 - p2 / 8 * 8) ≤ (p1 - p1 / 8 * 8) then (rt (p1 - 1) μ) else (rt (p1 + 1) μ)))
set_option maxHeartbeats 4000000 in
set_option maxRecDepth 100000 in
theorem metX7_columnStep {l : Launch} {s0 : State} {D : va_G} {aC : Nat → ClassId} (hG : Gl s0 D aC) (hl : l.stackTraces = false) (p1 : Int32) (p2 : Int32) (μ : Me) : Ct l yX7_columnStep (ws_ yX7_columnStep cX7_columnStep 2 (some .int)) rmX7_columnStep s0 D aC (fun r : Int32 => some (.int r)) [.int p1, .int p2] μ (FX7_columnStep p1 p2 μ) := by
  refine Ct_of hG hl (by decide +kernel) (Nat.le_of_ble_eq_true rfl) (fun κ ρ hNL F M hκ => ?_)
  have F : Fx κ cX7_columnStep RX7 := F
  change V κ ρ 0 0 μ (FX7_columnStep p1 p2 μ) 0 [(0, .int p1), (1, .int p2)] []
  unfold FX7_columnStep
  refine V_iload_n F dX7_columnStep_0 rfl 0 rfl ?_
  refine V_bipush (v := 8) F dX7_columnStep_1 (by decide) ?_
  refine V_irem F dX7_columnStep_3 (by decide) ?_
  refine V_iload_n F dX7_columnStep_4 rfl 1 rfl ?_
  refine V_bipush (v := 8) F dX7_columnStep_5 (by decide) ?_
  refine V_irem F dX7_columnStep_7 (by decide) ?_
  refine V_icmp_ne (tgt := 13) F dX7_columnStep_8 (by decide) (fun c1 => ?_) (fun c2 => ?_)
  · refine V_iload_n F dX7_columnStep_13 rfl 0 rfl ?_
    refine V_bipush (v := 8) F dX7_columnStep_14 (by decide) ?_
    refine V_irem F dX7_columnStep_16 (by decide) ?_
    refine V_iload_n F dX7_columnStep_17 rfl 1 rfl ?_
    refine V_bipush (v := 8) F dX7_columnStep_18 (by decide) ?_
    refine V_irem F dX7_columnStep_20 (by decide) ?_
    refine V_icmp_ge (tgt := 30) F dX7_columnStep_21 (by decide) (fun c3 => ?_) (fun c4 => ?_)
    · refine V_iload_n F dX7_columnStep_30 rfl 0 rfl ?_
      refine V_iconst (v := 1) F dX7_columnStep_31 (by decide) ?_
      refine V_isub F dX7_columnStep_32 ?_
      exact V_iret F M dX7_columnStep_33 rfl (by decide) (by decide)
    · refine V_iload_n F dX7_columnStep_24 rfl 0 rfl ?_
      refine V_iconst (v := 1) F dX7_columnStep_25 (by decide) ?_
      refine V_iadd F dX7_columnStep_26 ?_
      refine V_goto (tgt := 33) F dX7_columnStep_27 (by decide) ?_
      exact V_iret F M dX7_columnStep_33 rfl (by decide) (by decide)
  · refine V_iconst (v := (-1)) F dX7_columnStep_11 (by decide) ?_
    exact V_iret F M dX7_columnStep_12 rfl (by decide) (by decide)
/-! DroneLightShow.bitsOf(F)I -/
abbrev rmX7_bitsOf : Room := { frames := 0, cells := 0, slots := 0, locals := 0 }
def FX7_bitsOf_B57  (v1 : UInt32) (v2 : Int32) (μ : Me) : Rs Int32 :=
  (gd (nn32 (FP.fsub v1 FP.fconst1) = true) (gd (nn32 (FP.fmul (FP.fsub v1 FP.fconst1) 1258291200) = true) (rt ((v2 <<< (23 &&& 31)) ||| (FP.f2i (FP.fmul (FP.fsub v1 FP.fconst1) 1258291200))) μ)))
set_option maxHeartbeats 4000000 in
set_option maxRecDepth 100000 in
theorem VX7_bitsOf_B57 {κ : Cx} {ρ : (Int32 ⊕ String) × Me} (F : Fx κ cX7_bitsOf RX7) (M : Mx κ (fun r : Int32 => some (.int r)) ρ rmX7_bitsOf (some .int) [] "bitsOf") (hNL : κ.2.2.2.2.2.2.2.2.2.2.2.2.2.2 = 3)   (v1 : UInt32) (v2 : Int32) (μ : Me) : V κ ρ 0 0 μ (FX7_bitsOf_B57  v1 v2 μ) 57 [(1, .float v1), (2, .int v2)] [] := by
  unfold FX7_bitsOf_B57
  refine V_iload_n F dX7_bitsOf_57 rfl 1 rfl ?_
  refine V_bipush (v := 23) F dX7_bitsOf_58 (by decide) ?_
  refine V_ishl F dX7_bitsOf_60 ?_
  refine V_fload_n F dX7_bitsOf_61 rfl 0 rfl ?_
  refine V_fconst1 F dX7_bitsOf_62 ?_
  refine V_gd (fun g7 => ?_)
  refine V_fsub F dX7_bitsOf_63 g7 ?_
  refine V_ldcFW (v := 1258291200) F q1165 dX7_bitsOf_64 ?_
  refine V_gd (fun g8 => ?_)
  refine V_fmul F dX7_bitsOf_67 g8 ?_
  refine V_f2i F dX7_bitsOf_68 ?_
  refine V_ior F dX7_bitsOf_69 ?_
  exact V_iret F M dX7_bitsOf_70 rfl (by decide) (by decide)
def FX7_bitsOf_B36 (k36 : UInt32 → Int32 → Me → Rs Int32) (v1 : UInt32) (v2 : Int32) (μ : Me) : Rs Int32 :=
  (if 0 ≤ (Op.cmpValue (FP.fcmp v1 FP.fconst1) .g) then (FX7_bitsOf_B57  v1 v2 μ) else (if v2 ≤ 1 then (FX7_bitsOf_B57  v1 v2 μ) else (gd (nn32 (FP.fmul v1 FP.fconst2) = true) (k36 (FP.fmul v1 FP.fconst2) (v2 + (-1)) μ))))
set_option maxHeartbeats 4000000 in
set_option maxRecDepth 100000 in
theorem VX7_bitsOf_B36 {κ : Cx} {ρ : (Int32 ⊕ String) × Me} (F : Fx κ cX7_bitsOf RX7) (M : Mx κ (fun r : Int32 => some (.int r)) ρ rmX7_bitsOf (some .int) [] "bitsOf") (hNL : κ.2.2.2.2.2.2.2.2.2.2.2.2.2.2 = 3) {k36 : UInt32 → Int32 → Me → Rs Int32} (hk36 : ∀ (v1 : UInt32) (v2 : Int32) (μ : Me), V κ ρ 0 0 μ (k36 v1 v2 μ) 36 [(1, .float v1), (2, .int v2)] []) (v1 : UInt32) (v2 : Int32) (μ : Me) : V κ ρ 0 0 μ (FX7_bitsOf_B36 k36 v1 v2 μ) 36 [(1, .float v1), (2, .int v2)] [] := by
  unfold FX7_bitsOf_B36
  refine V_fload_n F dX7_bitsOf_36 rfl 0 rfl ?_
  refine V_fconst1 F dX7_bitsOf_37 ?_
  refine V_fcmp F dX7_bitsOf_38 ?_
  refine V_if_ge (tgt := 57) F dX7_bitsOf_39 (by decide) (fun c5 => ?_) (fun c6 => ?_)
  · refine V_sub [0, 1] rfl ?_
    exact VX7_bitsOf_B57 F M hNL  v1 v2 μ
  · refine V_iload_n F dX7_bitsOf_42 rfl 1 rfl ?_
    refine V_iconst (v := 1) F dX7_bitsOf_43 (by decide) ?_
    refine V_icmp_le (tgt := 57) F dX7_bitsOf_44 (by decide) (fun c9 => ?_) (fun c10 => ?_)
    · refine V_sub [0, 1] rfl ?_
      exact VX7_bitsOf_B57 F M hNL  v1 v2 μ
    · refine V_fload_n F dX7_bitsOf_47 rfl 0 rfl ?_
      refine V_fconst2 F dX7_bitsOf_48 ?_
      refine V_gd (fun g11 => ?_)
      refine V_fmul F dX7_bitsOf_49 g11 ?_
      refine V_fstore_n (lv' := [(1, .float (FP.fmul v1 FP.fconst2)), (2, .int v2)]) F dX7_bitsOf_50 rfl (lt_L hNL (by decide)) rfl ?_
      refine V_iinc (lv' := [(2, .int (v2 + (-1))), (1, .float (FP.fmul v1 FP.fconst2))]) F dX7_bitsOf_51 1 rfl rfl (lt_L hNL (by decide)) rfl ?_
      refine V_goto (tgt := 36) F dX7_bitsOf_54 (by decide) ?_
      refine V_sub [1, 0] rfl ?_
      exact hk36 (FP.fmul v1 FP.fconst2) (v2 + (-1)) μ
def FX7_bitsOf_L36  : Nat → UInt32 → Int32 → Me → Rs Int32
  | 0, _, _, _ => none
  | f + 1, v1, v2, μ => FX7_bitsOf_B36 (FX7_bitsOf_L36  f) v1 v2 μ
theorem VX7_bitsOf_L36 {κ : Cx} {ρ : (Int32 ⊕ String) × Me} (F : Fx κ cX7_bitsOf RX7) (M : Mx κ (fun r : Int32 => some (.int r)) ρ rmX7_bitsOf (some .int) [] "bitsOf") (hNL : κ.2.2.2.2.2.2.2.2.2.2.2.2.2.2 = 3)   : ∀ (f : Nat) (v1 : UInt32) (v2 : Int32) (μ : Me), V κ ρ 0 0 μ (FX7_bitsOf_L36  f v1 v2 μ) 36 [(1, .float v1), (2, .int v2)] [] := by
  intro f
  induction f with
  | zero => intros; exact V_none
  | succ f ih => intro v1 v2 μ; exact VX7_bitsOf_B36 F M hNL (fun v1 v2 μ => ih v1 v2 μ) v1 v2 μ
def FX7_bitsOf_B13 (k13 : UInt32 → Int32 → Me → Rs Int32) (v1 : UInt32) (v2 : Int32) (μ : Me) : Rs Int32 :=
  (if (Op.cmpValue (FP.fcmp v1 FP.fconst2) .l) < 0 then (FX7_bitsOf_L36  FU v1 v2 μ) else (if 254 ≤ v2 then (FX7_bitsOf_L36  FU v1 v2 μ) else (gd (nn32 (FP.fdiv v1 FP.fconst2) = true) (k13 (FP.fdiv v1 FP.fconst2) (v2 + 1) μ))))
set_option maxHeartbeats 4000000 in
set_option maxRecDepth 100000 in
theorem VX7_bitsOf_B13 {κ : Cx} {ρ : (Int32 ⊕ String) × Me} (F : Fx κ cX7_bitsOf RX7) (M : Mx κ (fun r : Int32 => some (.int r)) ρ rmX7_bitsOf (some .int) [] "bitsOf") (hNL : κ.2.2.2.2.2.2.2.2.2.2.2.2.2.2 = 3) {k13 : UInt32 → Int32 → Me → Rs Int32} (hk13 : ∀ (v1 : UInt32) (v2 : Int32) (μ : Me), V κ ρ 0 0 μ (k13 v1 v2 μ) 13 [(1, .float v1), (2, .int v2)] []) (v1 : UInt32) (v2 : Int32) (μ : Me) : V κ ρ 0 0 μ (FX7_bitsOf_B13 k13 v1 v2 μ) 13 [(1, .float v1), (2, .int v2)] [] := by
  unfold FX7_bitsOf_B13
  refine V_fload_n F dX7_bitsOf_13 rfl 0 rfl ?_
  refine V_fconst2 F dX7_bitsOf_14 ?_
  refine V_fcmp F dX7_bitsOf_15 ?_
  refine V_if_lt (tgt := 36) F dX7_bitsOf_16 (by decide) (fun c3 => ?_) (fun c4 => ?_)
  · refine V_sub [0, 1] rfl ?_
    exact VX7_bitsOf_L36 F M hNL  FU v1 v2 μ
  · refine V_iload_n F dX7_bitsOf_19 rfl 1 rfl ?_
    refine V_sipush (v := 254) F dX7_bitsOf_20 (by decide) ?_
    refine V_icmp_ge (tgt := 36) F dX7_bitsOf_23 (by decide) (fun c12 => ?_) (fun c13 => ?_)
    · refine V_sub [0, 1] rfl ?_
      exact VX7_bitsOf_L36 F M hNL  FU v1 v2 μ
    · refine V_fload_n F dX7_bitsOf_26 rfl 0 rfl ?_
      refine V_fconst2 F dX7_bitsOf_27 ?_
      refine V_gd (fun g14 => ?_)
      refine V_fdiv F dX7_bitsOf_28 g14 ?_
      refine V_fstore_n (lv' := [(1, .float (FP.fdiv v1 FP.fconst2)), (2, .int v2)]) F dX7_bitsOf_29 rfl (lt_L hNL (by decide)) rfl ?_
      refine V_iinc (lv' := [(2, .int (v2 + 1)), (1, .float (FP.fdiv v1 FP.fconst2))]) F dX7_bitsOf_30 1 rfl rfl (lt_L hNL (by decide)) rfl ?_
      refine V_goto (tgt := 13) F dX7_bitsOf_33 (by decide) ?_
      refine V_sub [1, 0] rfl ?_
      exact hk13 (FP.fdiv v1 FP.fconst2) (v2 + 1) μ
def FX7_bitsOf_L13  : Nat → UInt32 → Int32 → Me → Rs Int32
  | 0, _, _, _ => none
  | f + 1, v1, v2, μ => FX7_bitsOf_B13 (FX7_bitsOf_L13  f) v1 v2 μ
theorem VX7_bitsOf_L13 {κ : Cx} {ρ : (Int32 ⊕ String) × Me} (F : Fx κ cX7_bitsOf RX7) (M : Mx κ (fun r : Int32 => some (.int r)) ρ rmX7_bitsOf (some .int) [] "bitsOf") (hNL : κ.2.2.2.2.2.2.2.2.2.2.2.2.2.2 = 3)   : ∀ (f : Nat) (v1 : UInt32) (v2 : Int32) (μ : Me), V κ ρ 0 0 μ (FX7_bitsOf_L13  f v1 v2 μ) 13 [(1, .float v1), (2, .int v2)] [] := by
  intro f
  induction f with
  | zero => intros; exact V_none
  | succ f ih => intro v1 v2 μ; exact VX7_bitsOf_B13 F M hNL (fun v1 v2 μ => ih v1 v2 μ) v1 v2 μ
def FX7_bitsOf (p1 : UInt32) (μ : Me) : Rs Int32 :=
  (if 0 < (Op.cmpValue (FP.fcmp p1 FP.fconst0) .g) then (FX7_bitsOf_L13  FU p1 127 μ) else (rt 0 μ))
set_option maxHeartbeats 4000000 in
set_option maxRecDepth 100000 in
theorem metX7_bitsOf {l : Launch} {s0 : State} {D : va_G} {aC : Nat → ClassId} (hG : Gl s0 D aC) (hl : l.stackTraces = false) (p1 : UInt32) (μ : Me) : Ct l yX7_bitsOf (ws_ yX7_bitsOf cX7_bitsOf 3 (some .int)) rmX7_bitsOf s0 D aC (fun r : Int32 => some (.int r)) [.float p1] μ (FX7_bitsOf p1 μ) := by
  refine Ct_of hG hl (by decide +kernel) (Nat.le_of_ble_eq_true rfl) (fun κ ρ hNL F M hκ => ?_)
  have F : Fx κ cX7_bitsOf RX7 := F
  change V κ ρ 0 0 μ (FX7_bitsOf p1 μ) 0 [(0, .float p1)] []
  unfold FX7_bitsOf
  refine V_fload_n F dX7_bitsOf_0 rfl 0 rfl ?_
  refine V_fconst0 F dX7_bitsOf_1 ?_
  refine V_fcmp F dX7_bitsOf_2 ?_
  refine V_if_gt (tgt := 8) F dX7_bitsOf_3 (by decide) (fun c1 => ?_) (fun c2 => ?_)
  · refine V_fload_n F dX7_bitsOf_8 rfl 0 rfl ?_
    refine V_fstore_n (lv' := [(1, .float p1), (0, .float p1)]) F dX7_bitsOf_9 rfl (lt_L hNL (by decide)) rfl ?_
    refine V_bipush (v := 127) F dX7_bitsOf_10 (by decide) ?_
    refine V_istore_n (lv' := [(2, .int 127), (1, .float p1), (0, .float p1)]) F dX7_bitsOf_12 rfl (lt_L hNL (by decide)) rfl ?_
    refine V_sub [1, 0] rfl ?_
    exact VX7_bitsOf_L13 F M hNL  FU p1 127 μ
  · refine V_iconst (v := 0) F dX7_bitsOf_6 (by decide) ?_
    exact V_iret F M dX7_bitsOf_7 rfl (by decide) (by decide)
/-! java/lang/Float.isNaN(F)Z -/
abbrev rmJxf58ca_isNaN_12338 : Room := { frames := 0, cells := 0, slots := 0, locals := 0 }
def FJxf58ca_isNaN_12338 (p1 : UInt32) (μ : Me) : Rs Int32 :=
  (if (Op.cmpValue (FP.fcmp p1 p1) .l) = 0 then (rt 0 μ) else (rt 1 μ))
set_option maxHeartbeats 4000000 in
set_option maxRecDepth 100000 in
theorem metJxf58ca_isNaN_12338 {l : Launch} {s0 : State} {D : va_G} {aC : Nat → ClassId} (hG : Gl s0 D aC) (hl : l.stackTraces = false) (p1 : UInt32) (μ : Me) : Ct l yJxf58ca_isNaN_12338 (ws_ yJxf58ca_isNaN_12338 cJxf58ca_isNaN_12338 1 (some .boolean)) rmJxf58ca_isNaN_12338 s0 D aC (fun r : Int32 => some (.int r)) [.float p1] μ (FJxf58ca_isNaN_12338 p1 μ) := by
  refine Ct_of hG hl (by decide +kernel) (Nat.le_of_ble_eq_true rfl) (fun κ ρ hNL F M hκ => ?_)
  have F : Fx κ cJxf58ca_isNaN_12338 RJxf58ca := F
  change V κ ρ 0 0 μ (FJxf58ca_isNaN_12338 p1 μ) 0 [(0, .float p1)] []
  unfold FJxf58ca_isNaN_12338
  refine V_fload_n F dJxf58ca_isNaN_12338_0 rfl 0 rfl ?_
  refine V_fload_n F dJxf58ca_isNaN_12338_1 rfl 0 rfl ?_
  refine V_fcmp F dJxf58ca_isNaN_12338_2 ?_
  refine V_if_eq (tgt := 10) F dJxf58ca_isNaN_12338_3 (by decide) (fun c1 => ?_) (fun c2 => ?_)
  · refine V_iconst (v := 0) F dJxf58ca_isNaN_12338_10 (by decide) ?_
    exact V_zret F M dJxf58ca_isNaN_12338_11 rfl (by decide) (by decide) (by decide)
  · refine V_iconst (v := 1) F dJxf58ca_isNaN_12338_6 (by decide) ?_
    refine V_goto (tgt := 11) F dJxf58ca_isNaN_12338_7 (by decide) ?_
    exact V_zret F M dJxf58ca_isNaN_12338_11 rfl (by decide) (by decide) (by decide)
/-! java/lang/Float.floatToIntBits(F)I -/
abbrev rmJxf58ca_floatToIntBits_5c35a : Room := { frames := 1, cells := 0, slots := 0, locals := 25 }
def FJxf58ca_floatToIntBits_5c35a (p1 : UInt32) (μ : Me) : Rs Int32 :=
  (bnd (FJxf58ca_isNaN_12338 p1 μ) (fun x2 μ1 => (if x2 = 0 then (rt ((p1 : UInt32).toInt32) μ1) else (rt 2143289344 μ1))))
set_option maxHeartbeats 4000000 in
set_option maxRecDepth 100000 in
theorem metJxf58ca_floatToIntBits_5c35a {l : Launch} {s0 : State} {D : va_G} {aC : Nat → ClassId} (hG : Gl s0 D aC) (hl : l.stackTraces = false) (p1 : UInt32) (μ : Me) : Ct l yJxf58ca_floatToIntBits_5c35a (ws_ yJxf58ca_floatToIntBits_5c35a cJxf58ca_floatToIntBits_5c35a 1 (some .int)) rmJxf58ca_floatToIntBits_5c35a s0 D aC (fun r : Int32 => some (.int r)) [.float p1] μ (FJxf58ca_floatToIntBits_5c35a p1 μ) := by
  refine Ct_of hG hl (by decide +kernel) (Nat.le_of_ble_eq_true rfl) (fun κ ρ hNL F M hκ => ?_)
  have F : Fx κ cJxf58ca_floatToIntBits_5c35a RJxf58ca := F
  change V κ ρ 0 0 μ (FJxf58ca_floatToIntBits_5c35a p1 μ) 0 [(0, .float p1)] []
  unfold FJxf58ca_floatToIntBits_5c35a
  refine V_fload_n F dJxf58ca_floatToIntBits_5c35a_0 rfl 0 rfl ?_
  refine V_cS (As := [.float p1]) (rest := []) (N := 1) F M (metJxf58ca_isNaN_12338 (Fx_G F) (Fx_l F) p1 μ) q1679 q91 q1677 q1678 ⟨by decide +kernel, by decide +kernel, by decide +kernel⟩ rfl ⟨by decide, by decide⟩ (Nat.le_of_ble_eq_true rfl) dJxf58ca_floatToIntBits_5c35a_1 (by decide) (by decide) (fun x2 μ1 => ?_)
  change V κ ρ 0 0 μ1 _ 4 [(0, .float p1)] [.int x2]
  refine V_if_ne (tgt := 12) F dJxf58ca_floatToIntBits_5c35a_4 (by decide) (fun c3 => ?_) (fun c4 => ?_)
  · refine V_ldcI (v := 2143289344) F q1683 dJxf58ca_floatToIntBits_5c35a_12 ?_
    exact V_iret F M dJxf58ca_floatToIntBits_5c35a_14 rfl (by decide) (by decide)
  · refine V_fload_n F dJxf58ca_floatToIntBits_5c35a_7 rfl 0 rfl ?_
    refine V_f2b F (Mx_R M) q1680 q1682W q1681 q91 dJxf58ca_floatToIntBits_5c35a_8 (by decide) (Nat.le_of_ble_eq_true rfl) ?_
    exact V_iret F M dJxf58ca_floatToIntBits_5c35a_11 rfl (by decide) (by decide)
/-! java/lang/Long.bitCount(J)I -/
abbrev rmJ13_bitCount_95d88 : Room := { frames := 0, cells := 0, slots := 0, locals := 0 }
def FJ13_bitCount_95d88 (p1 : Int64) (μ : Me) : Rs Int32 :=
  (rt ((((((((((p1 - (((p1 : Int64).toUInt64 >>> ((1 : Int32).toInt64.toUInt64 &&& Int64.toUInt64 63)).toInt64 &&& 6148914691236517205)) &&& 3689348814741910323) + ((((p1 - (((p1 : Int64).toUInt64 >>> ((1 : Int32).toInt64.toUInt64 &&& Int64.toUInt64 63)).toInt64 &&& 6148914691236517205)) : Int64).toUInt64 >>> ((2 : Int32).toInt64.toUInt64 &&& Int64.toUInt64 63)).toInt64 &&& 3689348814741910323)) + (((((p1 - (((p1 : Int64).toUInt64 >>> ((1 : Int32).toInt64.toUInt64 &&& Int64.toUInt64 63)).toInt64 &&& 6148914691236517205)) &&& 3689348814741910323) + ((((p1 - (((p1 : Int64).toUInt64 >>> ((1 : Int32).toInt64.toUInt64 &&& Int64.toUInt64 63)).toInt64 &&& 6148914691236517205)) : Int64).toUInt64 >>> ((2 : Int32).toInt64.toUInt64 &&& Int64.toUInt64 63)).toInt64 &&& 3689348814741910323)) : Int64).toUInt64 >>> ((4 : Int32).toInt64.toUInt64 &&& Int64.toUInt64 63)).toInt64) &&& 1085102592571150095) + (((((((p1 - (((p1 : Int64).toUInt64 >>> ((1 : Int32).toInt64.toUInt64 &&& Int64.toUInt64 63)).toInt64 &&& 6148914691236517205)) &&& 3689348814741910323) + ((((p1 - (((p1 : Int64).toUInt64 >>> ((1 : Int32).toInt64.toUInt64 &&& Int64.toUInt64 63)).toInt64 &&& 6148914691236517205)) : Int64).toUInt64 >>> ((2 : Int32).toInt64.toUInt64 &&& Int64.toUInt64 63)).toInt64 &&& 3689348814741910323)) + (((((p1 - (((p1 : Int64).toUInt64 >>> ((1 : Int32).toInt64.toUInt64 &&& Int64.toUInt64 63)).toInt64 &&& 6148914691236517205)) &&& 3689348814741910323) + ((((p1 - (((p1 : Int64).toUInt64 >>> ((1 : Int32).toInt64.toUInt64 &&& Int64.toUInt64 63)).toInt64 &&& 6148914691236517205)) : Int64).toUInt64 >>> ((2 : Int32).toInt64.toUInt64 &&& Int64.toUInt64 63)).toInt64 &&& 3689348814741910323)) : Int64).toUInt64 >>> ((4 : Int32).toInt64.toUInt64 &&& Int64.toUInt64 63)).toInt64) &&& 1085102592571150095) : Int64).toUInt64 >>> ((8 : Int32).toInt64.toUInt64 &&& Int64.toUInt64 63)).toInt64) + ((((((((p1 - (((p1 : Int64).toUInt64 >>> ((1 : Int32).toInt64.toUInt64 &&& Int64.toUInt64 63)).toInt64 &&& 6148914691236517205)) &&& 3689348814741910323) + ((((p1 - (((p1 : Int64).toUInt64 >>> ((1 : Int32).toInt64.toUInt64 &&& Int64.toUInt64 63)).toInt64 &&& 6148914691236517205)) : Int64).toUInt64 >>> ((2 : Int32).toInt64.toUInt64 &&& Int64.toUInt64 63)).toInt64 &&& 3689348814741910323)) + (((((p1 - (((p1 : Int64).toUInt64 >>> ((1 : Int32).toInt64.toUInt64 &&& Int64.toUInt64 63)).toInt64 &&& 6148914691236517205)) &&& 3689348814741910323) + ((((p1 - (((p1 : Int64).toUInt64 >>> ((1 : Int32).toInt64.toUInt64 &&& Int64.toUInt64 63)).toInt64 &&& 6148914691236517205)) : Int64).toUInt64 >>> ((2 : Int32).toInt64.toUInt64 &&& Int64.toUInt64 63)).toInt64 &&& 3689348814741910323)) : Int64).toUInt64 >>> ((4 : Int32).toInt64.toUInt64 &&& Int64.toUInt64 63)).toInt64) &&& 1085102592571150095) + (((((((p1 - (((p1 : Int64).toUInt64 >>> ((1 : Int32).toInt64.toUInt64 &&& Int64.toUInt64 63)).toInt64 &&& 6148914691236517205)) &&& 3689348814741910323) + ((((p1 - (((p1 : Int64).toUInt64 >>> ((1 : Int32).toInt64.toUInt64 &&& Int64.toUInt64 63)).toInt64 &&& 6148914691236517205)) : Int64).toUInt64 >>> ((2 : Int32).toInt64.toUInt64 &&& Int64.toUInt64 63)).toInt64 &&& 3689348814741910323)) + (((((p1 - (((p1 : Int64).toUInt64 >>> ((1 : Int32).toInt64.toUInt64 &&& Int64.toUInt64 63)).toInt64 &&& 6148914691236517205)) &&& 3689348814741910323) + ((((p1 - (((p1 : Int64).toUInt64 >>> ((1 : Int32).toInt64.toUInt64 &&& Int64.toUInt64 63)).toInt64 &&& 6148914691236517205)) : Int64).toUInt64 >>> ((2 : Int32).toInt64.toUInt64 &&& Int64.toUInt64 63)).toInt64 &&& 3689348814741910323)) : Int64).toUInt64 >>> ((4 : Int32).toInt64.toUInt64 &&& Int64.toUInt64 63)).toInt64) &&& 1085102592571150095) : Int64).toUInt64 >>> ((8 : Int32).toInt64.toUInt64 &&& Int64.toUInt64 63)).toInt64) : Int64).toUInt64 >>> ((16 : Int32).toInt64.toUInt64 &&& Int64.toUInt64 63)).toInt64) + (((((((((p1 - (((p1 : Int64).toUInt64 >>> ((1 : Int32).toInt64.toUInt64 &&& Int64.toUInt64 63)).toInt64 &&& 6148914691236517205)) &&& 3689348814741910323) + ((((p1 - (((p1 : Int64).toUInt64 >>> ((1 : Int32).toInt64.toUInt64 &&& Int64.toUInt64 63)).toInt64 &&& 6148914691236517205)) : Int64).toUInt64 >>> ((2 : Int32).toInt64.toUInt64 &&& Int64.toUInt64 63)).toInt64 &&& 3689348814741910323)) + (((((p1 - (((p1 : Int64).toUInt64 >>> ((1 : Int32).toInt64.toUInt64 &&& Int64.toUInt64 63)).toInt64 &&& 6148914691236517205)) &&& 3689348814741910323) + ((((p1 - (((p1 : Int64).toUInt64 >>> ((1 : Int32).toInt64.toUInt64 &&& Int64.toUInt64 63)).toInt64 &&& 6148914691236517205)) : Int64).toUInt64 >>> ((2 : Int32).toInt64.toUInt64 &&& Int64.toUInt64 63)).toInt64 &&& 3689348814741910323)) : Int64).toUInt64 >>> ((4 : Int32).toInt64.toUInt64 &&& Int64.toUInt64 63)).toInt64) &&& 1085102592571150095) + (((((((p1 - (((p1 : Int64).toUInt64 >>> ((1 : Int32).toInt64.toUInt64 &&& Int64.toUInt64 63)).toInt64 &&& 6148914691236517205)) &&& 3689348814741910323) + ((((p1 - (((p1 : Int64).toUInt64 >>> ((1 : Int32).toInt64.toUInt64 &&& Int64.toUInt64 63)).toInt64 &&& 6148914691236517205)) : Int64).toUInt64 >>> ((2 : Int32).toInt64.toUInt64 &&& Int64.toUInt64 63)).toInt64 &&& 3689348814741910323)) + (((((p1 - (((p1 : Int64).toUInt64 >>> ((1 : Int32).toInt64.toUInt64 &&& Int64.toUInt64 63)).toInt64 &&& 6148914691236517205)) &&& 3689348814741910323) + ((((p1 - (((p1 : Int64).toUInt64 >>> ((1 : Int32).toInt64.toUInt64 &&& Int64.toUInt64 63)).toInt64 &&& 6148914691236517205)) : Int64).toUInt64 >>> ((2 : Int32).toInt64.toUInt64 &&& Int64.toUInt64 63)).toInt64 &&& 3689348814741910323)) : Int64).toUInt64 >>> ((4 : Int32).toInt64.toUInt64 &&& Int64.toUInt64 63)).toInt64) &&& 1085102592571150095) : Int64).toUInt64 >>> ((8 : Int32).toInt64.toUInt64 &&& Int64.toUInt64 63)).toInt64) + ((((((((p1 - (((p1 : Int64).toUInt64 >>> ((1 : Int32).toInt64.toUInt64 &&& Int64.toUInt64 63)).toInt64 &&& 6148914691236517205)) &&& 3689348814741910323) + ((((p1 - (((p1 : Int64).toUInt64 >>> ((1 : Int32).toInt64.toUInt64 &&& Int64.toUInt64 63)).toInt64 &&& 6148914691236517205)) : Int64).toUInt64 >>> ((2 : Int32).toInt64.toUInt64 &&& Int64.toUInt64 63)).toInt64 &&& 3689348814741910323)) + (((((p1 - (((p1 : Int64).toUInt64 >>> ((1 : Int32).toInt64.toUInt64 &&& Int64.toUInt64 63)).toInt64 &&& 6148914691236517205)) &&& 3689348814741910323) + ((((p1 - (((p1 : Int64).toUInt64 >>> ((1 : Int32).toInt64.toUInt64 &&& Int64.toUInt64 63)).toInt64 &&& 6148914691236517205)) : Int64).toUInt64 >>> ((2 : Int32).toInt64.toUInt64 &&& Int64.toUInt64 63)).toInt64 &&& 3689348814741910323)) : Int64).toUInt64 >>> ((4 : Int32).toInt64.toUInt64 &&& Int64.toUInt64 63)).toInt64) &&& 1085102592571150095) + (((((((p1 - (((p1 : Int64).toUInt64 >>> ((1 : Int32).toInt64.toUInt64 &&& Int64.toUInt64 63)).toInt64 &&& 6148914691236517205)) &&& 3689348814741910323) + ((((p1 - (((p1 : Int64).toUInt64 >>> ((1 : Int32).toInt64.toUInt64 &&& Int64.toUInt64 63)).toInt64 &&& 6148914691236517205)) : Int64).toUInt64 >>> ((2 : Int32).toInt64.toUInt64 &&& Int64.toUInt64 63)).toInt64 &&& 3689348814741910323)) + (((((p1 - (((p1 : Int64).toUInt64 >>> ((1 : Int32).toInt64.toUInt64 &&& Int64.toUInt64 63)).toInt64 &&& 6148914691236517205)) &&& 3689348814741910323) + ((((p1 - (((p1 : Int64).toUInt64 >>> ((1 : Int32).toInt64.toUInt64 &&& Int64.toUInt64 63)).toInt64 &&& 6148914691236517205)) : Int64).toUInt64 >>> ((2 : Int32).toInt64.toUInt64 &&& Int64.toUInt64 63)).toInt64 &&& 3689348814741910323)) : Int64).toUInt64 >>> ((4 : Int32).toInt64.toUInt64 &&& Int64.toUInt64 63)).toInt64) &&& 1085102592571150095) : Int64).toUInt64 >>> ((8 : Int32).toInt64.toUInt64 &&& Int64.toUInt64 63)).toInt64) : Int64).toUInt64 >>> ((16 : Int32).toInt64.toUInt64 &&& Int64.toUInt64 63)).toInt64) : Int64).toUInt64 >>> ((32 : Int32).toInt64.toUInt64 &&& Int64.toUInt64 63)).toInt64) : Int64).toInt32 &&& 127) μ)
set_option maxHeartbeats 4000000 in
set_option maxRecDepth 100000 in
theorem metJ13_bitCount_95d88 {l : Launch} {s0 : State} {D : va_G} {aC : Nat → ClassId} (hG : Gl s0 D aC) (hl : l.stackTraces = false) (p1 : Int64) (μ : Me) : Ct l yJ13_bitCount_95d88 (ws_ yJ13_bitCount_95d88 cJ13_bitCount_95d88 2 (some .int)) rmJ13_bitCount_95d88 s0 D aC (fun r : Int32 => some (.int r)) [.long p1] μ (FJ13_bitCount_95d88 p1 μ) := by
  refine Ct_of hG hl (by decide +kernel) (Nat.le_of_ble_eq_true rfl) (fun κ ρ hNL F M hκ => ?_)
  have F : Fx κ cJ13_bitCount_95d88 RJ13 := F
  change V κ ρ 0 0 μ (FJ13_bitCount_95d88 p1 μ) 0 [(0, .long p1)] []
  unfold FJ13_bitCount_95d88
  refine V_lload_n F dJ13_bitCount_95d88_0 rfl 0 rfl ?_
  refine V_lload_n F dJ13_bitCount_95d88_1 rfl 0 rfl ?_
  refine V_iconst (v := 1) F dJ13_bitCount_95d88_2 (by decide) ?_
  refine V_lushr F dJ13_bitCount_95d88_3 ?_
  refine V_ldc2 (v := 6148914691236517205) F q372 dJ13_bitCount_95d88_4 ?_
  refine V_land F dJ13_bitCount_95d88_7 ?_
  refine V_lsub F dJ13_bitCount_95d88_8 ?_
  refine V_lstore_n (lv' := [(0, .long (p1 - (((p1 : Int64).toUInt64 >>> ((1 : Int32).toInt64.toUInt64 &&& Int64.toUInt64 63)).toInt64 &&& 6148914691236517205)))]) F dJ13_bitCount_95d88_9 rfl (lt_L hNL (by decide)) rfl ?_
  refine V_lload_n F dJ13_bitCount_95d88_10 rfl 0 rfl ?_
  refine V_ldc2 (v := 3689348814741910323) F q373 dJ13_bitCount_95d88_11 ?_
  refine V_land F dJ13_bitCount_95d88_14 ?_
  refine V_lload_n F dJ13_bitCount_95d88_15 rfl 0 rfl ?_
  refine V_iconst (v := 2) F dJ13_bitCount_95d88_16 (by decide) ?_
  refine V_lushr F dJ13_bitCount_95d88_17 ?_
  refine V_ldc2 (v := 3689348814741910323) F q373 dJ13_bitCount_95d88_18 ?_
  refine V_land F dJ13_bitCount_95d88_21 ?_
  refine V_ladd F dJ13_bitCount_95d88_22 ?_
  refine V_lstore_n (lv' := [(0, .long (((p1 - (((p1 : Int64).toUInt64 >>> ((1 : Int32).toInt64.toUInt64 &&& Int64.toUInt64 63)).toInt64 &&& 6148914691236517205)) &&& 3689348814741910323) + ((((p1 - (((p1 : Int64).toUInt64 >>> ((1 : Int32).toInt64.toUInt64 &&& Int64.toUInt64 63)).toInt64 &&& 6148914691236517205)) : Int64).toUInt64 >>> ((2 : Int32).toInt64.toUInt64 &&& Int64.toUInt64 63)).toInt64 &&& 3689348814741910323)))]) F dJ13_bitCount_95d88_23 rfl (lt_L hNL (by decide)) rfl ?_
  refine V_lload_n F dJ13_bitCount_95d88_24 rfl 0 rfl ?_
  refine V_lload_n F dJ13_bitCount_95d88_25 rfl 0 rfl ?_
  refine V_iconst (v := 4) F dJ13_bitCount_95d88_26 (by decide) ?_
  refine V_lushr F dJ13_bitCount_95d88_27 ?_
  refine V_ladd F dJ13_bitCount_95d88_28 ?_
  refine V_ldc2 (v := 1085102592571150095) F q374 dJ13_bitCount_95d88_29 ?_
  refine V_land F dJ13_bitCount_95d88_32 ?_
  refine V_lstore_n (lv' := [(0, .long (((((p1 - (((p1 : Int64).toUInt64 >>> ((1 : Int32).toInt64.toUInt64 &&& Int64.toUInt64 63)).toInt64 &&& 6148914691236517205)) &&& 3689348814741910323) + ((((p1 - (((p1 : Int64).toUInt64 >>> ((1 : Int32).toInt64.toUInt64 &&& Int64.toUInt64 63)).toInt64 &&& 6148914691236517205)) : Int64).toUInt64 >>> ((2 : Int32).toInt64.toUInt64 &&& Int64.toUInt64 63)).toInt64 &&& 3689348814741910323)) + (((((p1 - (((p1 : Int64).toUInt64 >>> ((1 : Int32).toInt64.toUInt64 &&& Int64.toUInt64 63)).toInt64 &&& 6148914691236517205)) &&& 3689348814741910323) + ((((p1 - (((p1 : Int64).toUInt64 >>> ((1 : Int32).toInt64.toUInt64 &&& Int64.toUInt64 63)).toInt64 &&& 6148914691236517205)) : Int64).toUInt64 >>> ((2 : Int32).toInt64.toUInt64 &&& Int64.toUInt64 63)).toInt64 &&& 3689348814741910323)) : Int64).toUInt64 >>> ((4 : Int32).toInt64.toUInt64 &&& Int64.toUInt64 63)).toInt64) &&& 1085102592571150095))]) F dJ13_bitCount_95d88_33 rfl (lt_L hNL (by decide)) rfl ?_
  refine V_lload_n F dJ13_bitCount_95d88_34 rfl 0 rfl ?_
  refine V_lload_n F dJ13_bitCount_95d88_35 rfl 0 rfl ?_
  refine V_bipush (v := 8) F dJ13_bitCount_95d88_36 (by decide) ?_
  refine V_lushr F dJ13_bitCount_95d88_38 ?_
  refine V_ladd F dJ13_bitCount_95d88_39 ?_
  refine V_lstore_n (lv' := [(0, .long ((((((p1 - (((p1 : Int64).toUInt64 >>> ((1 : Int32).toInt64.toUInt64 &&& Int64.toUInt64 63)).toInt64 &&& 6148914691236517205)) &&& 3689348814741910323) + ((((p1 - (((p1 : Int64).toUInt64 >>> ((1 : Int32).toInt64.toUInt64 &&& Int64.toUInt64 63)).toInt64 &&& 6148914691236517205)) : Int64).toUInt64 >>> ((2 : Int32).toInt64.toUInt64 &&& Int64.toUInt64 63)).toInt64 &&& 3689348814741910323)) + (((((p1 - (((p1 : Int64).toUInt64 >>> ((1 : Int32).toInt64.toUInt64 &&& Int64.toUInt64 63)).toInt64 &&& 6148914691236517205)) &&& 3689348814741910323) + ((((p1 - (((p1 : Int64).toUInt64 >>> ((1 : Int32).toInt64.toUInt64 &&& Int64.toUInt64 63)).toInt64 &&& 6148914691236517205)) : Int64).toUInt64 >>> ((2 : Int32).toInt64.toUInt64 &&& Int64.toUInt64 63)).toInt64 &&& 3689348814741910323)) : Int64).toUInt64 >>> ((4 : Int32).toInt64.toUInt64 &&& Int64.toUInt64 63)).toInt64) &&& 1085102592571150095) + (((((((p1 - (((p1 : Int64).toUInt64 >>> ((1 : Int32).toInt64.toUInt64 &&& Int64.toUInt64 63)).toInt64 &&& 6148914691236517205)) &&& 3689348814741910323) + ((((p1 - (((p1 : Int64).toUInt64 >>> ((1 : Int32).toInt64.toUInt64 &&& Int64.toUInt64 63)).toInt64 &&& 6148914691236517205)) : Int64).toUInt64 >>> ((2 : Int32).toInt64.toUInt64 &&& Int64.toUInt64 63)).toInt64 &&& 3689348814741910323)) + (((((p1 - (((p1 : Int64).toUInt64 >>> ((1 : Int32).toInt64.toUInt64 &&& Int64.toUInt64 63)).toInt64 &&& 6148914691236517205)) &&& 3689348814741910323) + ((((p1 - (((p1 : Int64).toUInt64 >>> ((1 : Int32).toInt64.toUInt64 &&& Int64.toUInt64 63)).toInt64 &&& 6148914691236517205)) : Int64).toUInt64 >>> ((2 : Int32).toInt64.toUInt64 &&& Int64.toUInt64 63)).toInt64 &&& 3689348814741910323)) : Int64).toUInt64 >>> ((4 : Int32).toInt64.toUInt64 &&& Int64.toUInt64 63)).toInt64) &&& 1085102592571150095) : Int64).toUInt64 >>> ((8 : Int32).toInt64.toUInt64 &&& Int64.toUInt64 63)).toInt64))]) F dJ13_bitCount_95d88_40 rfl (lt_L hNL (by decide)) rfl ?_
  refine V_lload_n F dJ13_bitCount_95d88_41 rfl 0 rfl ?_
  refine V_lload_n F dJ13_bitCount_95d88_42 rfl 0 rfl ?_
  refine V_bipush (v := 16) F dJ13_bitCount_95d88_43 (by decide) ?_
  refine V_lushr F dJ13_bitCount_95d88_45 ?_
  refine V_ladd F dJ13_bitCount_95d88_46 ?_
  refine V_lstore_n (lv' := [(0, .long (((((((p1 - (((p1 : Int64).toUInt64 >>> ((1 : Int32).toInt64.toUInt64 &&& Int64.toUInt64 63)).toInt64 &&& 6148914691236517205)) &&& 3689348814741910323) + ((((p1 - (((p1 : Int64).toUInt64 >>> ((1 : Int32).toInt64.toUInt64 &&& Int64.toUInt64 63)).toInt64 &&& 6148914691236517205)) : Int64).toUInt64 >>> ((2 : Int32).toInt64.toUInt64 &&& Int64.toUInt64 63)).toInt64 &&& 3689348814741910323)) + (((((p1 - (((p1 : Int64).toUInt64 >>> ((1 : Int32).toInt64.toUInt64 &&& Int64.toUInt64 63)).toInt64 &&& 6148914691236517205)) &&& 3689348814741910323) + ((((p1 - (((p1 : Int64).toUInt64 >>> ((1 : Int32).toInt64.toUInt64 &&& Int64.toUInt64 63)).toInt64 &&& 6148914691236517205)) : Int64).toUInt64 >>> ((2 : Int32).toInt64.toUInt64 &&& Int64.toUInt64 63)).toInt64 &&& 3689348814741910323)) : Int64).toUInt64 >>> ((4 : Int32).toInt64.toUInt64 &&& Int64.toUInt64 63)).toInt64) &&& 1085102592571150095) + (((((((p1 - (((p1 : Int64).toUInt64 >>> ((1 : Int32).toInt64.toUInt64 &&& Int64.toUInt64 63)).toInt64 &&& 6148914691236517205)) &&& 3689348814741910323) + ((((p1 - (((p1 : Int64).toUInt64 >>> ((1 : Int32).toInt64.toUInt64 &&& Int64.toUInt64 63)).toInt64 &&& 6148914691236517205)) : Int64).toUInt64 >>> ((2 : Int32).toInt64.toUInt64 &&& Int64.toUInt64 63)).toInt64 &&& 3689348814741910323)) + (((((p1 - (((p1 : Int64).toUInt64 >>> ((1 : Int32).toInt64.toUInt64 &&& Int64.toUInt64 63)).toInt64 &&& 6148914691236517205)) &&& 3689348814741910323) + ((((p1 - (((p1 : Int64).toUInt64 >>> ((1 : Int32).toInt64.toUInt64 &&& Int64.toUInt64 63)).toInt64 &&& 6148914691236517205)) : Int64).toUInt64 >>> ((2 : Int32).toInt64.toUInt64 &&& Int64.toUInt64 63)).toInt64 &&& 3689348814741910323)) : Int64).toUInt64 >>> ((4 : Int32).toInt64.toUInt64 &&& Int64.toUInt64 63)).toInt64) &&& 1085102592571150095) : Int64).toUInt64 >>> ((8 : Int32).toInt64.toUInt64 &&& Int64.toUInt64 63)).toInt64) + ((((((((p1 - (((p1 : Int64).toUInt64 >>> ((1 : Int32).toInt64.toUInt64 &&& Int64.toUInt64 63)).toInt64 &&& 6148914691236517205)) &&& 3689348814741910323) + ((((p1 - (((p1 : Int64).toUInt64 >>> ((1 : Int32).toInt64.toUInt64 &&& Int64.toUInt64 63)).toInt64 &&& 6148914691236517205)) : Int64).toUInt64 >>> ((2 : Int32).toInt64.toUInt64 &&& Int64.toUInt64 63)).toInt64 &&& 3689348814741910323)) + (((((p1 - (((p1 : Int64).toUInt64 >>> ((1 : Int32).toInt64.toUInt64 &&& Int64.toUInt64 63)).toInt64 &&& 6148914691236517205)) &&& 3689348814741910323) + ((((p1 - (((p1 : Int64).toUInt64 >>> ((1 : Int32).toInt64.toUInt64 &&& Int64.toUInt64 63)).toInt64 &&& 6148914691236517205)) : Int64).toUInt64 >>> ((2 : Int32).toInt64.toUInt64 &&& Int64.toUInt64 63)).toInt64 &&& 3689348814741910323)) : Int64).toUInt64 >>> ((4 : Int32).toInt64.toUInt64 &&& Int64.toUInt64 63)).toInt64) &&& 1085102592571150095) + (((((((p1 - (((p1 : Int64).toUInt64 >>> ((1 : Int32).toInt64.toUInt64 &&& Int64.toUInt64 63)).toInt64 &&& 6148914691236517205)) &&& 3689348814741910323) + ((((p1 - (((p1 : Int64).toUInt64 >>> ((1 : Int32).toInt64.toUInt64 &&& Int64.toUInt64 63)).toInt64 &&& 6148914691236517205)) : Int64).toUInt64 >>> ((2 : Int32).toInt64.toUInt64 &&& Int64.toUInt64 63)).toInt64 &&& 3689348814741910323)) + (((((p1 - (((p1 : Int64).toUInt64 >>> ((1 : Int32).toInt64.toUInt64 &&& Int64.toUInt64 63)).toInt64 &&& 6148914691236517205)) &&& 3689348814741910323) + ((((p1 - (((p1 : Int64).toUInt64 >>> ((1 : Int32).toInt64.toUInt64 &&& Int64.toUInt64 63)).toInt64 &&& 6148914691236517205)) : Int64).toUInt64 >>> ((2 : Int32).toInt64.toUInt64 &&& Int64.toUInt64 63)).toInt64 &&& 3689348814741910323)) : Int64).toUInt64 >>> ((4 : Int32).toInt64.toUInt64 &&& Int64.toUInt64 63)).toInt64) &&& 1085102592571150095) : Int64).toUInt64 >>> ((8 : Int32).toInt64.toUInt64 &&& Int64.toUInt64 63)).toInt64) : Int64).toUInt64 >>> ((16 : Int32).toInt64.toUInt64 &&& Int64.toUInt64 63)).toInt64))]) F dJ13_bitCount_95d88_47 rfl (lt_L hNL (by decide)) rfl ?_
  refine V_lload_n F dJ13_bitCount_95d88_48 rfl 0 rfl ?_
  refine V_lload_n F dJ13_bitCount_95d88_49 rfl 0 rfl ?_
  refine V_bipush (v := 32) F dJ13_bitCount_95d88_50 (by decide) ?_
  refine V_lushr F dJ13_bitCount_95d88_52 ?_
  refine V_ladd F dJ13_bitCount_95d88_53 ?_
  refine V_lstore_n (lv' := [(0, .long ((((((((p1 - (((p1 : Int64).toUInt64 >>> ((1 : Int32).toInt64.toUInt64 &&& Int64.toUInt64 63)).toInt64 &&& 6148914691236517205)) &&& 3689348814741910323) + ((((p1 - (((p1 : Int64).toUInt64 >>> ((1 : Int32).toInt64.toUInt64 &&& Int64.toUInt64 63)).toInt64 &&& 6148914691236517205)) : Int64).toUInt64 >>> ((2 : Int32).toInt64.toUInt64 &&& Int64.toUInt64 63)).toInt64 &&& 3689348814741910323)) + (((((p1 - (((p1 : Int64).toUInt64 >>> ((1 : Int32).toInt64.toUInt64 &&& Int64.toUInt64 63)).toInt64 &&& 6148914691236517205)) &&& 3689348814741910323) + ((((p1 - (((p1 : Int64).toUInt64 >>> ((1 : Int32).toInt64.toUInt64 &&& Int64.toUInt64 63)).toInt64 &&& 6148914691236517205)) : Int64).toUInt64 >>> ((2 : Int32).toInt64.toUInt64 &&& Int64.toUInt64 63)).toInt64 &&& 3689348814741910323)) : Int64).toUInt64 >>> ((4 : Int32).toInt64.toUInt64 &&& Int64.toUInt64 63)).toInt64) &&& 1085102592571150095) + (((((((p1 - (((p1 : Int64).toUInt64 >>> ((1 : Int32).toInt64.toUInt64 &&& Int64.toUInt64 63)).toInt64 &&& 6148914691236517205)) &&& 3689348814741910323) + ((((p1 - (((p1 : Int64).toUInt64 >>> ((1 : Int32).toInt64.toUInt64 &&& Int64.toUInt64 63)).toInt64 &&& 6148914691236517205)) : Int64).toUInt64 >>> ((2 : Int32).toInt64.toUInt64 &&& Int64.toUInt64 63)).toInt64 &&& 3689348814741910323)) + (((((p1 - (((p1 : Int64).toUInt64 >>> ((1 : Int32).toInt64.toUInt64 &&& Int64.toUInt64 63)).toInt64 &&& 6148914691236517205)) &&& 3689348814741910323) + ((((p1 - (((p1 : Int64).toUInt64 >>> ((1 : Int32).toInt64.toUInt64 &&& Int64.toUInt64 63)).toInt64 &&& 6148914691236517205)) : Int64).toUInt64 >>> ((2 : Int32).toInt64.toUInt64 &&& Int64.toUInt64 63)).toInt64 &&& 3689348814741910323)) : Int64).toUInt64 >>> ((4 : Int32).toInt64.toUInt64 &&& Int64.toUInt64 63)).toInt64) &&& 1085102592571150095) : Int64).toUInt64 >>> ((8 : Int32).toInt64.toUInt64 &&& Int64.toUInt64 63)).toInt64) + ((((((((p1 - (((p1 : Int64).toUInt64 >>> ((1 : Int32).toInt64.toUInt64 &&& Int64.toUInt64 63)).toInt64 &&& 6148914691236517205)) &&& 3689348814741910323) + ((((p1 - (((p1 : Int64).toUInt64 >>> ((1 : Int32).toInt64.toUInt64 &&& Int64.toUInt64 63)).toInt64 &&& 6148914691236517205)) : Int64).toUInt64 >>> ((2 : Int32).toInt64.toUInt64 &&& Int64.toUInt64 63)).toInt64 &&& 3689348814741910323)) + (((((p1 - (((p1 : Int64).toUInt64 >>> ((1 : Int32).toInt64.toUInt64 &&& Int64.toUInt64 63)).toInt64 &&& 6148914691236517205)) &&& 3689348814741910323) + ((((p1 - (((p1 : Int64).toUInt64 >>> ((1 : Int32).toInt64.toUInt64 &&& Int64.toUInt64 63)).toInt64 &&& 6148914691236517205)) : Int64).toUInt64 >>> ((2 : Int32).toInt64.toUInt64 &&& Int64.toUInt64 63)).toInt64 &&& 3689348814741910323)) : Int64).toUInt64 >>> ((4 : Int32).toInt64.toUInt64 &&& Int64.toUInt64 63)).toInt64) &&& 1085102592571150095) + (((((((p1 - (((p1 : Int64).toUInt64 >>> ((1 : Int32).toInt64.toUInt64 &&& Int64.toUInt64 63)).toInt64 &&& 6148914691236517205)) &&& 3689348814741910323) + ((((p1 - (((p1 : Int64).toUInt64 >>> ((1 : Int32).toInt64.toUInt64 &&& Int64.toUInt64 63)).toInt64 &&& 6148914691236517205)) : Int64).toUInt64 >>> ((2 : Int32).toInt64.toUInt64 &&& Int64.toUInt64 63)).toInt64 &&& 3689348814741910323)) + (((((p1 - (((p1 : Int64).toUInt64 >>> ((1 : Int32).toInt64.toUInt64 &&& Int64.toUInt64 63)).toInt64 &&& 6148914691236517205)) &&& 3689348814741910323) + ((((p1 - (((p1 : Int64).toUInt64 >>> ((1 : Int32).toInt64.toUInt64 &&& Int64.toUInt64 63)).toInt64 &&& 6148914691236517205)) : Int64).toUInt64 >>> ((2 : Int32).toInt64.toUInt64 &&& Int64.toUInt64 63)).toInt64 &&& 3689348814741910323)) : Int64).toUInt64 >>> ((4 : Int32).toInt64.toUInt64 &&& Int64.toUInt64 63)).toInt64) &&& 1085102592571150095) : Int64).toUInt64 >>> ((8 : Int32).toInt64.toUInt64 &&& Int64.toUInt64 63)).toInt64) : Int64).toUInt64 >>> ((16 : Int32).toInt64.toUInt64 &&& Int64.toUInt64 63)).toInt64) + (((((((((p1 - (((p1 : Int64).toUInt64 >>> ((1 : Int32).toInt64.toUInt64 &&& Int64.toUInt64 63)).toInt64 &&& 6148914691236517205)) &&& 3689348814741910323) + ((((p1 - (((p1 : Int64).toUInt64 >>> ((1 : Int32).toInt64.toUInt64 &&& Int64.toUInt64 63)).toInt64 &&& 6148914691236517205)) : Int64).toUInt64 >>> ((2 : Int32).toInt64.toUInt64 &&& Int64.toUInt64 63)).toInt64 &&& 3689348814741910323)) + (((((p1 - (((p1 : Int64).toUInt64 >>> ((1 : Int32).toInt64.toUInt64 &&& Int64.toUInt64 63)).toInt64 &&& 6148914691236517205)) &&& 3689348814741910323) + ((((p1 - (((p1 : Int64).toUInt64 >>> ((1 : Int32).toInt64.toUInt64 &&& Int64.toUInt64 63)).toInt64 &&& 6148914691236517205)) : Int64).toUInt64 >>> ((2 : Int32).toInt64.toUInt64 &&& Int64.toUInt64 63)).toInt64 &&& 3689348814741910323)) : Int64).toUInt64 >>> ((4 : Int32).toInt64.toUInt64 &&& Int64.toUInt64 63)).toInt64) &&& 1085102592571150095) + (((((((p1 - (((p1 : Int64).toUInt64 >>> ((1 : Int32).toInt64.toUInt64 &&& Int64.toUInt64 63)).toInt64 &&& 6148914691236517205)) &&& 3689348814741910323) + ((((p1 - (((p1 : Int64).toUInt64 >>> ((1 : Int32).toInt64.toUInt64 &&& Int64.toUInt64 63)).toInt64 &&& 6148914691236517205)) : Int64).toUInt64 >>> ((2 : Int32).toInt64.toUInt64 &&& Int64.toUInt64 63)).toInt64 &&& 3689348814741910323)) + (((((p1 - (((p1 : Int64).toUInt64 >>> ((1 : Int32).toInt64.toUInt64 &&& Int64.toUInt64 63)).toInt64 &&& 6148914691236517205)) &&& 3689348814741910323) + ((((p1 - (((p1 : Int64).toUInt64 >>> ((1 : Int32).toInt64.toUInt64 &&& Int64.toUInt64 63)).toInt64 &&& 6148914691236517205)) : Int64).toUInt64 >>> ((2 : Int32).toInt64.toUInt64 &&& Int64.toUInt64 63)).toInt64 &&& 3689348814741910323)) : Int64).toUInt64 >>> ((4 : Int32).toInt64.toUInt64 &&& Int64.toUInt64 63)).toInt64) &&& 1085102592571150095) : Int64).toUInt64 >>> ((8 : Int32).toInt64.toUInt64 &&& Int64.toUInt64 63)).toInt64) + ((((((((p1 - (((p1 : Int64).toUInt64 >>> ((1 : Int32).toInt64.toUInt64 &&& Int64.toUInt64 63)).toInt64 &&& 6148914691236517205)) &&& 3689348814741910323) + ((((p1 - (((p1 : Int64).toUInt64 >>> ((1 : Int32).toInt64.toUInt64 &&& Int64.toUInt64 63)).toInt64 &&& 6148914691236517205)) : Int64).toUInt64 >>> ((2 : Int32).toInt64.toUInt64 &&& Int64.toUInt64 63)).toInt64 &&& 3689348814741910323)) + (((((p1 - (((p1 : Int64).toUInt64 >>> ((1 : Int32).toInt64.toUInt64 &&& Int64.toUInt64 63)).toInt64 &&& 6148914691236517205)) &&& 3689348814741910323) + ((((p1 - (((p1 : Int64).toUInt64 >>> ((1 : Int32).toInt64.toUInt64 &&& Int64.toUInt64 63)).toInt64 &&& 6148914691236517205)) : Int64).toUInt64 >>> ((2 : Int32).toInt64.toUInt64 &&& Int64.toUInt64 63)).toInt64 &&& 3689348814741910323)) : Int64).toUInt64 >>> ((4 : Int32).toInt64.toUInt64 &&& Int64.toUInt64 63)).toInt64) &&& 1085102592571150095) + (((((((p1 - (((p1 : Int64).toUInt64 >>> ((1 : Int32).toInt64.toUInt64 &&& Int64.toUInt64 63)).toInt64 &&& 6148914691236517205)) &&& 3689348814741910323) + ((((p1 - (((p1 : Int64).toUInt64 >>> ((1 : Int32).toInt64.toUInt64 &&& Int64.toUInt64 63)).toInt64 &&& 6148914691236517205)) : Int64).toUInt64 >>> ((2 : Int32).toInt64.toUInt64 &&& Int64.toUInt64 63)).toInt64 &&& 3689348814741910323)) + (((((p1 - (((p1 : Int64).toUInt64 >>> ((1 : Int32).toInt64.toUInt64 &&& Int64.toUInt64 63)).toInt64 &&& 6148914691236517205)) &&& 3689348814741910323) + ((((p1 - (((p1 : Int64).toUInt64 >>> ((1 : Int32).toInt64.toUInt64 &&& Int64.toUInt64 63)).toInt64 &&& 6148914691236517205)) : Int64).toUInt64 >>> ((2 : Int32).toInt64.toUInt64 &&& Int64.toUInt64 63)).toInt64 &&& 3689348814741910323)) : Int64).toUInt64 >>> ((4 : Int32).toInt64.toUInt64 &&& Int64.toUInt64 63)).toInt64) &&& 1085102592571150095) : Int64).toUInt64 >>> ((8 : Int32).toInt64.toUInt64 &&& Int64.toUInt64 63)).toInt64) : Int64).toUInt64 >>> ((16 : Int32).toInt64.toUInt64 &&& Int64.toUInt64 63)).toInt64) : Int64).toUInt64 >>> ((32 : Int32).toInt64.toUInt64 &&& Int64.toUInt64 63)).toInt64))]) F dJ13_bitCount_95d88_54 rfl (lt_L hNL (by decide)) rfl ?_
  refine V_lload_n F dJ13_bitCount_95d88_55 rfl 0 rfl ?_
  refine V_l2i F dJ13_bitCount_95d88_56 ?_
  refine V_bipush (v := 127) F dJ13_bitCount_95d88_57 (by decide) ?_
  refine V_iand F dJ13_bitCount_95d88_59 ?_
  exact V_iret F M dJ13_bitCount_95d88_60 rfl (by decide) (by decide)
/-! DroneLightShow$CueList.copyFrom(LDroneLightShow$CueList;)V -/
abbrev rmX1_copyFrom : Room := { frames := 1, cells := 0, slots := 0, locals := 24 }
def FX1_copyFrom_B10 (k10 : Nat → Nat → Int32 → Me → Rs Unit) (v0 : Nat) (v1 : Nat) (v2 : Int32) (μ : Me) : Rs Unit :=
  (if 12 ≤ v2 then (rt () μ) else (gR μ v1 2 0 (fun x5 => (aI μ x5 v2 (fun x6 => (gR μ v1 2 1 (fun x7 => (aI μ x7 v2 (fun x8 => (gR μ v1 2 2 (fun x9 => (aI μ x9 v2 (fun x10 => (bnd (vc μ v0 2 (FX1_put v0 v2 x6 x8 x10 μ)) (fun x12 μ11 => (k10 v0 v1 (v2 + 1) μ11))))))))))))))))
set_option maxHeartbeats 4000000 in
set_option maxRecDepth 100000 in
theorem VX1_copyFrom_B10 {κ : Cx} {ρ : (Unit ⊕ String) × Me} (F : Fx κ cX1_copyFrom RX1) (M : Mx κ (fun _ : Unit => none) ρ rmX1_copyFrom none [] "copyFrom") (hNL : κ.2.2.2.2.2.2.2.2.2.2.2.2.2.2 = 3) {k10 : Nat → Nat → Int32 → Me → Rs Unit} (hk10 : ∀ (v0 : Nat) (v1 : Nat) (v2 : Int32) (μ : Me), V κ ρ 0 0 μ (k10 v0 v1 v2 μ) 10 [(0, .ref v0), (1, .ref v1), (2, .int v2)] []) (v0 : Nat) (v1 : Nat) (v2 : Int32) (μ : Me) : V κ ρ 0 0 μ (FX1_copyFrom_B10 k10 v0 v1 v2 μ) 10 [(0, .ref v0), (1, .ref v1), (2, .int v2)] [] := by
  unfold FX1_copyFrom_B10
  refine V_iload_n F dX1_copyFrom_10 rfl 2 rfl ?_
  refine V_bipush (v := 12) F dX1_copyFrom_11 (by decide) ?_
  refine V_icmp_ge (tgt := 45) F dX1_copyFrom_13 (by decide) (fun c3 => ?_) (fun c4 => ?_)
  · exact V_vret F M dX1_copyFrom_45 rfl (by decide) (by decide)
  · refine V_aload_n F dX1_copyFrom_16 rfl 0 rfl ?_
    refine V_iload_n F dX1_copyFrom_17 rfl 2 rfl ?_
    refine V_aload_n F dX1_copyFrom_18 rfl 1 rfl ?_
    refine V_gR (ci := 2) (k9 := 0) (C := RX1) (T := TX1) (N := 4) F rfl hinX1 (by decide) q157 dX1_copyFrom_19 (fun x5 => ?_)
    refine V_iload_n F dX1_copyFrom_22 rfl 2 rfl ?_
    refine V_aI F dX1_copyFrom_23 (fun x6 => ?_)
    refine V_aload_n F dX1_copyFrom_24 rfl 1 rfl ?_
    refine V_gR (ci := 2) (k9 := 1) (C := RX1) (T := TX1) (N := 4) F rfl hinX1 (by decide) q158 dX1_copyFrom_25 (fun x7 => ?_)
    refine V_iload_n F dX1_copyFrom_28 rfl 2 rfl ?_
    refine V_aI F dX1_copyFrom_29 (fun x8 => ?_)
    refine V_aload_n F dX1_copyFrom_30 rfl 1 rfl ?_
    refine V_gR (ci := 2) (k9 := 2) (C := RX1) (T := TX1) (N := 4) F rfl hinX1 (by decide) q159 dX1_copyFrom_31 (fun x9 => ?_)
    refine V_iload_n F dX1_copyFrom_34 rfl 2 rfl ?_
    refine V_aI F dX1_copyFrom_35 (fun x10 => ?_)
    refine V_cV (As := [.int v2, .int x6, .int x8, .int x10]) (rest := []) (C := RX1) (N := 4) F M (metX1_put (Fx_G F) (Fx_l F) v0 v2 x6 x8 x10 μ) rfl q441 q69 q438 q439 q440 ⟨by decide +kernel, by decide +kernel, by decide +kernel⟩ rfl ⟨by decide, by decide⟩ (Nat.le_of_ble_eq_true rfl) dX1_copyFrom_36 (by decide) (by decide) (fun x12 μ11 => ?_)
    change V κ ρ 0 0 μ11 _ 39 [(0, .ref v0), (1, .ref v1), (2, .int v2)] []
    refine V_iinc (lv' := [(2, .int (v2 + 1)), (0, .ref v0), (1, .ref v1)]) F dX1_copyFrom_39 2 rfl rfl (lt_L hNL (by decide)) rfl ?_
    refine V_goto (tgt := 10) F dX1_copyFrom_42 (by decide) ?_
    refine V_sub [1, 2, 0] rfl ?_
    exact hk10 v0 v1 (v2 + 1) μ11
def FX1_copyFrom_L10  : Nat → Nat → Nat → Int32 → Me → Rs Unit
  | 0, _, _, _, _ => none
  | f + 1, v0, v1, v2, μ => FX1_copyFrom_B10 (FX1_copyFrom_L10  f) v0 v1 v2 μ
theorem VX1_copyFrom_L10 {κ : Cx} {ρ : (Unit ⊕ String) × Me} (F : Fx κ cX1_copyFrom RX1) (M : Mx κ (fun _ : Unit => none) ρ rmX1_copyFrom none [] "copyFrom") (hNL : κ.2.2.2.2.2.2.2.2.2.2.2.2.2.2 = 3)   : ∀ (f : Nat) (v0 : Nat) (v1 : Nat) (v2 : Int32) (μ : Me), V κ ρ 0 0 μ (FX1_copyFrom_L10  f v0 v1 v2 μ) 10 [(0, .ref v0), (1, .ref v1), (2, .int v2)] [] := by
  intro f
  induction f with
  | zero => intros; exact V_none
  | succ f ih => intro v0 v1 v2 μ; exact VX1_copyFrom_B10 F M hNL (fun v0 v1 v2 μ => ih v0 v1 v2 μ) v0 v1 v2 μ
def FX1_copyFrom (a0 : Nat) (p1 : Nat) (μ : Me) : Rs Unit :=
  (gI μ p1 2 3 (fun x1 => (pf μ a0 2 3 (.int x1) (fun μ2 => (FX1_copyFrom_L10  FU a0 p1 0 μ2)))))
set_option maxHeartbeats 4000000 in
set_option maxRecDepth 100000 in
theorem metX1_copyFrom {l : Launch} {s0 : State} {D : va_G} {aC : Nat → ClassId} (hG : Gl s0 D aC) (hl : l.stackTraces = false) (a0 : Nat) (p1 : Nat) (μ : Me) : Ct l yX1_copyFrom (ws_ yX1_copyFrom cX1_copyFrom 3 none) rmX1_copyFrom s0 D aC (fun _ : Unit => none) [.ref a0, .ref p1] μ (FX1_copyFrom a0 p1 μ) := by
  refine Ct_of hG hl (by decide +kernel) (Nat.le_of_ble_eq_true rfl) (fun κ ρ hNL F M hκ => ?_)
  have F : Fx κ cX1_copyFrom RX1 := F
  change V κ ρ 0 0 μ (FX1_copyFrom a0 p1 μ) 0 [(0, .ref a0), (1, .ref p1)] []
  unfold FX1_copyFrom
  refine V_aload_n F dX1_copyFrom_0 rfl 0 rfl ?_
  refine V_aload_n F dX1_copyFrom_1 rfl 1 rfl ?_
  refine V_gI (ci := 2) (k9 := 3) (C := RX1) (T := TX1) (N := 4) F rfl hinX1 (by decide) q160 dX1_copyFrom_2 (fun x1 => ?_)
  refine V_pf (ci := 2) (k9 := 3) (C := RX1) (T := TX1) (N := 4) (ty := tyX1) F rfl hinX1 tyX1_ok nmX1 (by decide) q160 rfl rfl rfl dX1_copyFrom_5 (fun μ2 => ?_)
  refine V_iconst (v := 0) F dX1_copyFrom_8 (by decide) ?_
  refine V_istore_n (lv' := [(2, .int 0), (0, .ref a0), (1, .ref p1)]) F dX1_copyFrom_9 rfl (lt_L hNL (by decide)) rfl ?_
  refine V_sub [1, 2, 0] rfl ?_
  exact VX1_copyFrom_L10 F M hNL  FU a0 p1 0 μ2
/-! DroneLightShow$Fleet.wish(I)I -/
abbrev rmX2_wish : Room := { frames := 1, cells := 0, slots := 0, locals := 21 }
def FX2_wish (a0 : Nat) (p1 : Int32) (μ : Me) : Rs Int32 :=
  (gR μ a0 3 4 (fun x1 => (aZ μ x1 p1 (fun x2 => (if x2 = 0 then (rt (-1) μ) else (gR μ a0 3 2 (fun x5 => (aI μ x5 p1 (fun x6 => (if x6 = (-1) then (rt (-1) μ) else (gR μ a0 3 0 (fun x9 => (aI μ x9 p1 (fun x10 => (gR μ a0 3 2 (fun x11 => (aI μ x11 p1 (fun x12 => (bnd (FX7_rowStep x10 x12 μ) (fun x14 μ13 => (if x14 = (-1) then (gR μ13 a0 3 0 (fun x17 => (aI μ13 x17 p1 (fun x18 => (gR μ13 a0 3 2 (fun x19 => (aI μ13 x19 p1 (fun x20 => (bnd (FX7_columnStep x18 x20 μ13) (fun x22 μ21 => (rt x22 μ21))))))))))) else (rt x14 μ13))))))))))))))))))))))
set_option maxHeartbeats 4000000 in
set_option maxRecDepth 100000 in
theorem metX2_wish {l : Launch} {s0 : State} {D : va_G} {aC : Nat → ClassId} (hG : Gl s0 D aC) (hl : l.stackTraces = false) (a0 : Nat) (p1 : Int32) (μ : Me) : Ct l yX2_wish (ws_ yX2_wish cX2_wish 3 (some .int)) rmX2_wish s0 D aC (fun r : Int32 => some (.int r)) [.ref a0, .int p1] μ (FX2_wish a0 p1 μ) := by
  refine Ct_of hG hl (by decide +kernel) (Nat.le_of_ble_eq_true rfl) (fun κ ρ hNL F M hκ => ?_)
  have F : Fx κ cX2_wish RX2 := F
  change V κ ρ 0 0 μ (FX2_wish a0 p1 μ) 0 [(0, .ref a0), (1, .int p1)] []
  unfold FX2_wish
  refine V_aload_n F dX2_wish_0 rfl 0 rfl ?_
  refine V_gR (ci := 3) (k9 := 4) (C := RX2) (T := TX2) (N := 7) F rfl hinX2 (by decide) q125 dX2_wish_1 (fun x1 => ?_)
  refine V_iload_n F dX2_wish_4 rfl 1 rfl ?_
  refine V_aZ F dX2_wish_5 (fun x2 => ?_)
  refine V_if_eq (tgt := 19) F dX2_wish_6 (by decide) (fun c3 => ?_) (fun c4 => ?_)
  · refine V_iconst (v := (-1)) F dX2_wish_19 (by decide) ?_
    exact V_iret F M dX2_wish_20 rfl (by decide) (by decide)
  · refine V_aload_n F dX2_wish_9 rfl 0 rfl ?_
    refine V_gR (ci := 3) (k9 := 2) (C := RX2) (T := TX2) (N := 7) F rfl hinX2 (by decide) q118 dX2_wish_10 (fun x5 => ?_)
    refine V_iload_n F dX2_wish_13 rfl 1 rfl ?_
    refine V_aI F dX2_wish_14 (fun x6 => ?_)
    refine V_iconst (v := (-1)) F dX2_wish_15 (by decide) ?_
    refine V_icmp_ne (tgt := 21) F dX2_wish_16 (by decide) (fun c7 => ?_) (fun c8 => ?_)
    · refine V_aload_n F dX2_wish_21 rfl 0 rfl ?_
      refine V_gR (ci := 3) (k9 := 0) (C := RX2) (T := TX2) (N := 7) F rfl hinX2 (by decide) q112 dX2_wish_22 (fun x9 => ?_)
      refine V_iload_n F dX2_wish_25 rfl 1 rfl ?_
      refine V_aI F dX2_wish_26 (fun x10 => ?_)
      refine V_aload_n F dX2_wish_27 rfl 0 rfl ?_
      refine V_gR (ci := 3) (k9 := 2) (C := RX2) (T := TX2) (N := 7) F rfl hinX2 (by decide) q118 dX2_wish_28 (fun x11 => ?_)
      refine V_iload_n F dX2_wish_31 rfl 1 rfl ?_
      refine V_aI F dX2_wish_32 (fun x12 => ?_)
      refine V_cSN (As := [.int x10, .int x12]) (rest := []) (N := 2) F M (metX7_rowStep (Fx_G F) (Fx_l F) x10 x12 μ) q332 q66 q330 q331 ⟨by decide +kernel, by decide +kernel, by decide +kernel⟩ rfl ⟨by decide, by decide⟩ (Nat.le_of_ble_eq_true rfl) dX2_wish_33 (by decide) (by decide) (fun x14 μ13 => ?_)
      change V κ ρ 0 0 μ13 _ 36 [(0, .ref a0), (1, .int p1)] [.int x14]
      refine V_istore_n (lv' := [(2, .int x14), (0, .ref a0), (1, .int p1)]) F dX2_wish_36 rfl (lt_L hNL (by decide)) rfl ?_
      refine V_iload_n F dX2_wish_37 rfl 0 rfl ?_
      refine V_iconst (v := (-1)) F dX2_wish_38 (by decide) ?_
      refine V_icmp_eq (tgt := 46) F dX2_wish_39 (by decide) (fun c15 => ?_) (fun c16 => ?_)
      · refine V_aload_n F dX2_wish_46 rfl 1 rfl ?_
        refine V_gR (ci := 3) (k9 := 0) (C := RX2) (T := TX2) (N := 7) F rfl hinX2 (by decide) q112 dX2_wish_47 (fun x17 => ?_)
        refine V_iload_n F dX2_wish_50 rfl 2 rfl ?_
        refine V_aI F dX2_wish_51 (fun x18 => ?_)
        refine V_aload_n F dX2_wish_52 rfl 1 rfl ?_
        refine V_gR (ci := 3) (k9 := 2) (C := RX2) (T := TX2) (N := 7) F rfl hinX2 (by decide) q118 dX2_wish_53 (fun x19 => ?_)
        refine V_iload_n F dX2_wish_56 rfl 2 rfl ?_
        refine V_aI F dX2_wish_57 (fun x20 => ?_)
        refine V_cSN (As := [.int x18, .int x20]) (rest := []) (N := 2) F M (metX7_columnStep (Fx_G F) (Fx_l F) x18 x20 μ13) q335 q66 q333 q334 ⟨by decide +kernel, by decide +kernel, by decide +kernel⟩ rfl ⟨by decide, by decide⟩ (Nat.le_of_ble_eq_true rfl) dX2_wish_58 (by decide) (by decide) (fun x22 μ21 => ?_)
        change V κ ρ 0 0 μ21 _ 61 [(2, .int x14), (0, .ref a0), (1, .int p1)] [.int x22]
        exact V_iret F M dX2_wish_61 rfl (by decide) (by decide)
      · refine V_iload_n F dX2_wish_42 rfl 0 rfl ?_
        refine V_goto (tgt := 61) F dX2_wish_43 (by decide) ?_
        exact V_iret F M dX2_wish_61 rfl (by decide) (by decide)
    · refine V_iconst (v := (-1)) F dX2_wish_19 (by decide) ?_
      exact V_iret F M dX2_wish_20 rfl (by decide) (by decide)
/-! DroneLightShow$Fleet.freeStep(I)I -/
abbrev rmX2_freeStep : Room := { frames := 1, cells := 0, slots := 0, locals := 22 }
def FX2_freeStep_B32  (v0 : Nat) (v1 : Int32) (μ : Me) : Rs Int32 :=
  (gR μ v0 3 0 (fun x9 => (aI μ x9 v1 (fun x10 => (gR μ v0 3 2 (fun x11 => (aI μ x11 v1 (fun x12 => (bnd (FX7_columnStep x10 x12 μ) (fun x14 μ13 => (if x14 = (-1) then (rt (-1) μ13) else (bnd (vc μ13 v0 3 (FX2_occupant v0 x14 μ13)) (fun x18 μ17 => (if x18 = (-1) then (rt x14 μ17) else (rt (-1) μ17)))))))))))))))
set_option maxHeartbeats 4000000 in
set_option maxRecDepth 100000 in
theorem VX2_freeStep_B32 {κ : Cx} {ρ : (Int32 ⊕ String) × Me} (F : Fx κ cX2_freeStep RX2) (M : Mx κ (fun r : Int32 => some (.int r)) ρ rmX2_freeStep (some .int) [] "freeStep") (hNL : κ.2.2.2.2.2.2.2.2.2.2.2.2.2.2 = 4)   (v0 : Nat) (v1 : Int32) (μ : Me) : V κ ρ 0 0 μ (FX2_freeStep_B32  v0 v1 μ) 32 [(0, .ref v0), (1, .int v1)] [] := by
  unfold FX2_freeStep_B32
  refine V_aload_n F dX2_freeStep_32 rfl 0 rfl ?_
  refine V_gR (ci := 3) (k9 := 0) (C := RX2) (T := TX2) (N := 7) F rfl hinX2 (by decide) q112 dX2_freeStep_33 (fun x9 => ?_)
  refine V_iload_n F dX2_freeStep_36 rfl 1 rfl ?_
  refine V_aI F dX2_freeStep_37 (fun x10 => ?_)
  refine V_aload_n F dX2_freeStep_38 rfl 0 rfl ?_
  refine V_gR (ci := 3) (k9 := 2) (C := RX2) (T := TX2) (N := 7) F rfl hinX2 (by decide) q118 dX2_freeStep_39 (fun x11 => ?_)
  refine V_iload_n F dX2_freeStep_42 rfl 1 rfl ?_
  refine V_aI F dX2_freeStep_43 (fun x12 => ?_)
  refine V_cSN (As := [.int x10, .int x12]) (rest := []) (N := 2) F M (metX7_columnStep (Fx_G F) (Fx_l F) x10 x12 μ) q335 q66 q333 q334 ⟨by decide +kernel, by decide +kernel, by decide +kernel⟩ rfl ⟨by decide, by decide⟩ (Nat.le_of_ble_eq_true rfl) dX2_freeStep_44 (by decide) (by decide) (fun x14 μ13 => ?_)
  change V κ ρ 0 0 μ13 _ 47 [(0, .ref v0), (1, .int v1)] [.int x14]
  refine V_istore_n (lv' := [(3, .int x14), (0, .ref v0), (1, .int v1)]) F dX2_freeStep_47 rfl (lt_L hNL (by decide)) rfl ?_
  refine V_iload_n F dX2_freeStep_48 rfl 0 rfl ?_
  refine V_iconst (v := (-1)) F dX2_freeStep_49 (by decide) ?_
  refine V_icmp_eq (tgt := 66) F dX2_freeStep_50 (by decide) (fun c15 => ?_) (fun c16 => ?_)
  · refine V_iconst (v := (-1)) F dX2_freeStep_66 (by decide) ?_
    exact V_iret F M dX2_freeStep_67 rfl (by decide) (by decide)
  · refine V_aload_n F dX2_freeStep_53 rfl 1 rfl ?_
    refine V_iload_n F dX2_freeStep_54 rfl 0 rfl ?_
    refine V_cV (As := [.int x14]) (rest := []) (C := RX2) (N := 1) F M (metX2_occupant (Fx_G F) (Fx_l F) v0 x14 μ13) rfl q395 q68 q909 q393 q394 ⟨by decide +kernel, by decide +kernel, by decide +kernel⟩ rfl ⟨by decide, by decide⟩ (Nat.le_of_ble_eq_true rfl) dX2_freeStep_55 (by decide) (by decide) (fun x18 μ17 => ?_)
    change V κ ρ 0 0 μ17 _ 58 [(3, .int x14), (0, .ref v0), (1, .int v1)] [.int x18]
    refine V_iconst (v := (-1)) F dX2_freeStep_58 (by decide) ?_
    refine V_icmp_ne (tgt := 66) F dX2_freeStep_59 (by decide) (fun c19 => ?_) (fun c20 => ?_)
    · refine V_iconst (v := (-1)) F dX2_freeStep_66 (by decide) ?_
      exact V_iret F M dX2_freeStep_67 rfl (by decide) (by decide)
    · refine V_iload_n F dX2_freeStep_62 rfl 0 rfl ?_
      refine V_goto (tgt := 67) F dX2_freeStep_63 (by decide) ?_
      exact V_iret F M dX2_freeStep_67 rfl (by decide) (by decide)
def FX2_freeStep (a0 : Nat) (p1 : Int32) (μ : Me) : Rs Int32 :=
  (gR μ a0 3 0 (fun x1 => (aI μ x1 p1 (fun x2 => (gR μ a0 3 2 (fun x3 => (aI μ x3 p1 (fun x4 => (bnd (FX7_rowStep x2 x4 μ) (fun x6 μ5 => (if x6 = (-1) then (FX2_freeStep_B32  a0 p1 μ5) else (bnd (vc μ5 a0 3 (FX2_occupant a0 x6 μ5)) (fun x22 μ21 => (if x22 = (-1) then (rt x6 μ21) else (FX2_freeStep_B32  a0 p1 μ21)))))))))))))))
set_option maxHeartbeats 4000000 in
set_option maxRecDepth 100000 in
theorem metX2_freeStep {l : Launch} {s0 : State} {D : va_G} {aC : Nat → ClassId} (hG : Gl s0 D aC) (hl : l.stackTraces = false) (a0 : Nat) (p1 : Int32) (μ : Me) : Ct l yX2_freeStep (ws_ yX2_freeStep cX2_freeStep 4 (some .int)) rmX2_freeStep s0 D aC (fun r : Int32 => some (.int r)) [.ref a0, .int p1] μ (FX2_freeStep a0 p1 μ) := by
  refine Ct_of hG hl (by decide +kernel) (Nat.le_of_ble_eq_true rfl) (fun κ ρ hNL F M hκ => ?_)
  have F : Fx κ cX2_freeStep RX2 := F
  change V κ ρ 0 0 μ (FX2_freeStep a0 p1 μ) 0 [(0, .ref a0), (1, .int p1)] []
  unfold FX2_freeStep
  refine V_aload_n F dX2_freeStep_0 rfl 0 rfl ?_
  refine V_gR (ci := 3) (k9 := 0) (C := RX2) (T := TX2) (N := 7) F rfl hinX2 (by decide) q112 dX2_freeStep_1 (fun x1 => ?_)
  refine V_iload_n F dX2_freeStep_4 rfl 1 rfl ?_
  refine V_aI F dX2_freeStep_5 (fun x2 => ?_)
  refine V_aload_n F dX2_freeStep_6 rfl 0 rfl ?_
  refine V_gR (ci := 3) (k9 := 2) (C := RX2) (T := TX2) (N := 7) F rfl hinX2 (by decide) q118 dX2_freeStep_7 (fun x3 => ?_)
  refine V_iload_n F dX2_freeStep_10 rfl 1 rfl ?_
  refine V_aI F dX2_freeStep_11 (fun x4 => ?_)
  refine V_cSN (As := [.int x2, .int x4]) (rest := []) (N := 2) F M (metX7_rowStep (Fx_G F) (Fx_l F) x2 x4 μ) q332 q66 q330 q331 ⟨by decide +kernel, by decide +kernel, by decide +kernel⟩ rfl ⟨by decide, by decide⟩ (Nat.le_of_ble_eq_true rfl) dX2_freeStep_12 (by decide) (by decide) (fun x6 μ5 => ?_)
  change V κ ρ 0 0 μ5 _ 15 [(0, .ref a0), (1, .int p1)] [.int x6]
  refine V_istore_n (lv' := [(2, .int x6), (0, .ref a0), (1, .int p1)]) F dX2_freeStep_15 rfl (lt_L hNL (by decide)) rfl ?_
  refine V_iload_n F dX2_freeStep_16 rfl 0 rfl ?_
  refine V_iconst (v := (-1)) F dX2_freeStep_17 (by decide) ?_
  refine V_icmp_eq (tgt := 32) F dX2_freeStep_18 (by decide) (fun c7 => ?_) (fun c8 => ?_)
  · refine V_sub [1, 2] rfl ?_
    exact VX2_freeStep_B32 F M hNL  a0 p1 μ5
  · refine V_aload_n F dX2_freeStep_21 rfl 1 rfl ?_
    refine V_iload_n F dX2_freeStep_22 rfl 0 rfl ?_
    refine V_cV (As := [.int x6]) (rest := []) (C := RX2) (N := 1) F M (metX2_occupant (Fx_G F) (Fx_l F) a0 x6 μ5) rfl q395 q68 q909 q393 q394 ⟨by decide +kernel, by decide +kernel, by decide +kernel⟩ rfl ⟨by decide, by decide⟩ (Nat.le_of_ble_eq_true rfl) dX2_freeStep_23 (by decide) (by decide) (fun x22 μ21 => ?_)
    change V κ ρ 0 0 μ21 _ 26 [(2, .int x6), (0, .ref a0), (1, .int p1)] [.int x22]
    refine V_iconst (v := (-1)) F dX2_freeStep_26 (by decide) ?_
    refine V_icmp_ne (tgt := 32) F dX2_freeStep_27 (by decide) (fun c23 => ?_) (fun c24 => ?_)
    · refine V_sub [1, 2] rfl ?_
      exact VX2_freeStep_B32 F M hNL  a0 p1 μ21
    · refine V_iload_n F dX2_freeStep_30 rfl 0 rfl ?_
      exact V_iret F M dX2_freeStep_31 rfl (by decide) (by decide)
/-! DroneLightShow$Fleet.conflictingPairs()I -/
abbrev rmX2_conflictingPairs : Room := { frames := 2, cells := 0, slots := 0, locals := 43 }
def FX2_conflictingPairs_B23 (k4 : Nat → Int32 → Int32 → Me → Rs Int32) (k23 : Nat → Int32 → Int32 → Int32 → Int32 → Me → Rs Int32) (v0 : Nat) (v1 : Int32) (v2 : Int32) (v3 : Int32) (v4 : Int32) (μ : Me) : Rs Int32 :=
  (gI μ v0 3 6 (fun x6 => (if x6 ≤ v4 then (k4 v0 v1 (v2 + 1) μ) else (if v3 = (-1) then (k23 v0 v1 v2 v3 (v4 + 1) μ) else (bnd (vc μ v0 3 (FX2_wish v0 v4 μ)) (fun x12 μ11 => (if v3 = x12 then (k23 v0 (v1 + 1) v2 v3 (v4 + 1) μ11) else (k23 v0 v1 v2 v3 (v4 + 1) μ11))))))))
set_option maxHeartbeats 4000000 in
set_option maxRecDepth 100000 in
theorem VX2_conflictingPairs_B23 {κ : Cx} {ρ : (Int32 ⊕ String) × Me} (F : Fx κ cX2_conflictingPairs RX2) (M : Mx κ (fun r : Int32 => some (.int r)) ρ rmX2_conflictingPairs (some .int) [] "conflictingPairs") (hNL : κ.2.2.2.2.2.2.2.2.2.2.2.2.2.2 = 5) {k4 : Nat → Int32 → Int32 → Me → Rs Int32} {k23 : Nat → Int32 → Int32 → Int32 → Int32 → Me → Rs Int32} (hk4 : ∀ (v0 : Nat) (v1 : Int32) (v2 : Int32) (μ : Me), V κ ρ 0 0 μ (k4 v0 v1 v2 μ) 4 [(0, .ref v0), (1, .int v1), (2, .int v2)] []) (hk23 : ∀ (v0 : Nat) (v1 : Int32) (v2 : Int32) (v3 : Int32) (v4 : Int32) (μ : Me), V κ ρ 0 0 μ (k23 v0 v1 v2 v3 v4 μ) 23 [(0, .ref v0), (1, .int v1), (2, .int v2), (3, .int v3), (4, .int v4)] []) (v0 : Nat) (v1 : Int32) (v2 : Int32) (v3 : Int32) (v4 : Int32) (μ : Me) : V κ ρ 0 0 μ (FX2_conflictingPairs_B23 k4 k23 v0 v1 v2 v3 v4 μ) 23 [(0, .ref v0), (1, .int v1), (2, .int v2), (3, .int v3), (4, .int v4)] [] := by
  unfold FX2_conflictingPairs_B23
  refine V_iload F dX2_conflictingPairs_23 4 rfl ?_
  refine V_aload_n F dX2_conflictingPairs_25 rfl 0 rfl ?_
  refine V_gI (ci := 3) (k9 := 6) (C := RX2) (T := TX2) (N := 7) F rfl hinX2 (by decide) q131 dX2_conflictingPairs_26 (fun x6 => ?_)
  refine V_icmp_ge (tgt := 56) F dX2_conflictingPairs_29 (by decide) (fun c7 => ?_) (fun c8 => ?_)
  · refine V_iinc (lv' := [(2, .int (v2 + 1)), (0, .ref v0), (1, .int v1), (3, .int v3), (4, .int v4)]) F dX2_conflictingPairs_56 2 rfl rfl (lt_L hNL (by decide)) rfl ?_
    refine V_goto (tgt := 4) F dX2_conflictingPairs_59 (by decide) ?_
    refine V_sub [1, 2, 0] rfl ?_
    exact hk4 v0 v1 (v2 + 1) μ
  · refine V_iload_n F dX2_conflictingPairs_32 rfl 3 rfl ?_
    refine V_iconst (v := (-1)) F dX2_conflictingPairs_33 (by decide) ?_
    refine V_icmp_eq (tgt := 50) F dX2_conflictingPairs_34 (by decide) (fun c9 => ?_) (fun c10 => ?_)
    · refine V_iinc (lv' := [(4, .int (v4 + 1)), (0, .ref v0), (1, .int v1), (2, .int v2), (3, .int v3)]) F dX2_conflictingPairs_50 4 rfl rfl (lt_L hNL (by decide)) rfl ?_
      refine V_goto (tgt := 23) F dX2_conflictingPairs_53 (by decide) ?_
      refine V_sub [1, 2, 3, 4, 0] rfl ?_
      exact hk23 v0 v1 v2 v3 (v4 + 1) μ
    · refine V_iload_n F dX2_conflictingPairs_37 rfl 3 rfl ?_
      refine V_aload_n F dX2_conflictingPairs_38 rfl 0 rfl ?_
      refine V_iload F dX2_conflictingPairs_39 4 rfl ?_
      refine V_cV (As := [.int v4]) (rest := [.int v3]) (C := RX2) (N := 1) F M (metX2_wish (Fx_G F) (Fx_l F) v0 v4 μ) rfl q329 q68 q326 q327 q328 ⟨by decide +kernel, by decide +kernel, by decide +kernel⟩ rfl ⟨by decide, by decide⟩ (Nat.le_of_ble_eq_true rfl) dX2_conflictingPairs_41 (by decide) (by decide) (fun x12 μ11 => ?_)
      change V κ ρ 0 0 μ11 _ 44 [(0, .ref v0), (1, .int v1), (2, .int v2), (3, .int v3), (4, .int v4)] [.int x12, .int v3]
      refine V_icmp_ne (tgt := 50) F dX2_conflictingPairs_44 (by decide) (fun c13 => ?_) (fun c14 => ?_)
      · refine V_iinc (lv' := [(4, .int (v4 + 1)), (0, .ref v0), (1, .int v1), (2, .int v2), (3, .int v3)]) F dX2_conflictingPairs_50 4 rfl rfl (lt_L hNL (by decide)) rfl ?_
        refine V_goto (tgt := 23) F dX2_conflictingPairs_53 (by decide) ?_
        refine V_sub [1, 2, 3, 4, 0] rfl ?_
        exact hk23 v0 v1 v2 v3 (v4 + 1) μ11
      · refine V_iinc (lv' := [(1, .int (v1 + 1)), (0, .ref v0), (2, .int v2), (3, .int v3), (4, .int v4)]) F dX2_conflictingPairs_47 1 rfl rfl (lt_L hNL (by decide)) rfl ?_
        refine V_iinc (lv' := [(4, .int (v4 + 1)), (1, .int (v1 + 1)), (0, .ref v0), (2, .int v2), (3, .int v3)]) F dX2_conflictingPairs_50 4 rfl rfl (lt_L hNL (by decide)) rfl ?_
        refine V_goto (tgt := 23) F dX2_conflictingPairs_53 (by decide) ?_
        refine V_sub [2, 1, 3, 4, 0] rfl ?_
        exact hk23 v0 (v1 + 1) v2 v3 (v4 + 1) μ11
def FX2_conflictingPairs_L23 (k4 : Nat → Int32 → Int32 → Me → Rs Int32) : Nat → Nat → Int32 → Int32 → Int32 → Int32 → Me → Rs Int32
  | 0, _, _, _, _, _, _ => none
  | f + 1, v0, v1, v2, v3, v4, μ => FX2_conflictingPairs_B23 k4 (FX2_conflictingPairs_L23 k4 f) v0 v1 v2 v3 v4 μ
theorem VX2_conflictingPairs_L23 {κ : Cx} {ρ : (Int32 ⊕ String) × Me} (F : Fx κ cX2_conflictingPairs RX2) (M : Mx κ (fun r : Int32 => some (.int r)) ρ rmX2_conflictingPairs (some .int) [] "conflictingPairs") (hNL : κ.2.2.2.2.2.2.2.2.2.2.2.2.2.2 = 5) {k4 : Nat → Int32 → Int32 → Me → Rs Int32} (hk4 : ∀ (v0 : Nat) (v1 : Int32) (v2 : Int32) (μ : Me), V κ ρ 0 0 μ (k4 v0 v1 v2 μ) 4 [(0, .ref v0), (1, .int v1), (2, .int v2)] []) : ∀ (f : Nat) (v0 : Nat) (v1 : Int32) (v2 : Int32) (v3 : Int32) (v4 : Int32) (μ : Me), V κ ρ 0 0 μ (FX2_conflictingPairs_L23 k4 f v0 v1 v2 v3 v4 μ) 23 [(0, .ref v0), (1, .int v1), (2, .int v2), (3, .int v3), (4, .int v4)] [] := by
  intro f
  induction f with
  | zero => intros; exact V_none
  | succ f ih => intro v0 v1 v2 v3 v4 μ; exact VX2_conflictingPairs_B23 F M hNL hk4 (fun v0 v1 v2 v3 v4 μ => ih v0 v1 v2 v3 v4 μ) v0 v1 v2 v3 v4 μ
def FX2_conflictingPairs_B4 (k4 : Nat → Int32 → Int32 → Me → Rs Int32) (v0 : Nat) (v1 : Int32) (v2 : Int32) (μ : Me) : Rs Int32 :=
  (gI μ v0 3 6 (fun x1 => (if x1 ≤ v2 then (rt v1 μ) else (bnd (vc μ v0 3 (FX2_wish v0 v2 μ)) (fun x5 μ4 => (FX2_conflictingPairs_L23 k4 FU v0 v1 v2 x5 (v2 + 1) μ4))))))
set_option maxHeartbeats 4000000 in
set_option maxRecDepth 100000 in
theorem VX2_conflictingPairs_B4 {κ : Cx} {ρ : (Int32 ⊕ String) × Me} (F : Fx κ cX2_conflictingPairs RX2) (M : Mx κ (fun r : Int32 => some (.int r)) ρ rmX2_conflictingPairs (some .int) [] "conflictingPairs") (hNL : κ.2.2.2.2.2.2.2.2.2.2.2.2.2.2 = 5) {k4 : Nat → Int32 → Int32 → Me → Rs Int32} (hk4 : ∀ (v0 : Nat) (v1 : Int32) (v2 : Int32) (μ : Me), V κ ρ 0 0 μ (k4 v0 v1 v2 μ) 4 [(0, .ref v0), (1, .int v1), (2, .int v2)] []) (v0 : Nat) (v1 : Int32) (v2 : Int32) (μ : Me) : V κ ρ 0 0 μ (FX2_conflictingPairs_B4 k4 v0 v1 v2 μ) 4 [(0, .ref v0), (1, .int v1), (2, .int v2)] [] := by
  unfold FX2_conflictingPairs_B4
  refine V_iload_n F dX2_conflictingPairs_4 rfl 2 rfl ?_
  refine V_aload_n F dX2_conflictingPairs_5 rfl 0 rfl ?_
  refine V_gI (ci := 3) (k9 := 6) (C := RX2) (T := TX2) (N := 7) F rfl hinX2 (by decide) q131 dX2_conflictingPairs_6 (fun x1 => ?_)
  refine V_icmp_ge (tgt := 62) F dX2_conflictingPairs_9 (by decide) (fun c2 => ?_) (fun c3 => ?_)
  · refine V_iload_n F dX2_conflictingPairs_62 rfl 1 rfl ?_
    exact V_iret F M dX2_conflictingPairs_63 rfl (by decide) (by decide)
  · refine V_aload_n F dX2_conflictingPairs_12 rfl 0 rfl ?_
    refine V_iload_n F dX2_conflictingPairs_13 rfl 2 rfl ?_
    refine V_cV (As := [.int v2]) (rest := []) (C := RX2) (N := 1) F M (metX2_wish (Fx_G F) (Fx_l F) v0 v2 μ) rfl q329 q68 q326 q327 q328 ⟨by decide +kernel, by decide +kernel, by decide +kernel⟩ rfl ⟨by decide, by decide⟩ (Nat.le_of_ble_eq_true rfl) dX2_conflictingPairs_14 (by decide) (by decide) (fun x5 μ4 => ?_)
    change V κ ρ 0 0 μ4 _ 17 [(0, .ref v0), (1, .int v1), (2, .int v2)] [.int x5]
    refine V_istore_n (lv' := [(3, .int x5), (0, .ref v0), (1, .int v1), (2, .int v2)]) F dX2_conflictingPairs_17 rfl (lt_L hNL (by decide)) rfl ?_
    refine V_iload_n F dX2_conflictingPairs_18 rfl 3 rfl ?_
    refine V_iconst (v := 1) F dX2_conflictingPairs_19 (by decide) ?_
    refine V_iadd F dX2_conflictingPairs_20 ?_
    refine V_istore (lv' := [(4, .int (v2 + 1)), (3, .int x5), (0, .ref v0), (1, .int v1), (2, .int v2)]) F dX2_conflictingPairs_21 (lt_L hNL (by decide)) rfl ?_
    refine V_sub [2, 3, 4, 1, 0] rfl ?_
    exact VX2_conflictingPairs_L23 F M hNL hk4 FU v0 v1 v2 x5 (v2 + 1) μ4
def FX2_conflictingPairs_L4  : Nat → Nat → Int32 → Int32 → Me → Rs Int32
  | 0, _, _, _, _ => none
  | f + 1, v0, v1, v2, μ => FX2_conflictingPairs_B4 (FX2_conflictingPairs_L4  f) v0 v1 v2 μ
theorem VX2_conflictingPairs_L4 {κ : Cx} {ρ : (Int32 ⊕ String) × Me} (F : Fx κ cX2_conflictingPairs RX2) (M : Mx κ (fun r : Int32 => some (.int r)) ρ rmX2_conflictingPairs (some .int) [] "conflictingPairs") (hNL : κ.2.2.2.2.2.2.2.2.2.2.2.2.2.2 = 5)   : ∀ (f : Nat) (v0 : Nat) (v1 : Int32) (v2 : Int32) (μ : Me), V κ ρ 0 0 μ (FX2_conflictingPairs_L4  f v0 v1 v2 μ) 4 [(0, .ref v0), (1, .int v1), (2, .int v2)] [] := by
  intro f
  induction f with
  | zero => intros; exact V_none
  | succ f ih => intro v0 v1 v2 μ; exact VX2_conflictingPairs_B4 F M hNL (fun v0 v1 v2 μ => ih v0 v1 v2 μ) v0 v1 v2 μ
def FX2_conflictingPairs (a0 : Nat) (μ : Me) : Rs Int32 :=
  (FX2_conflictingPairs_L4  FU a0 0 0 μ)
set_option maxHeartbeats 4000000 in
set_option maxRecDepth 100000 in
theorem metX2_conflictingPairs {l : Launch} {s0 : State} {D : va_G} {aC : Nat → ClassId} (hG : Gl s0 D aC) (hl : l.stackTraces = false) (a0 : Nat) (μ : Me) : Ct l yX2_conflictingPairs (ws_ yX2_conflictingPairs cX2_conflictingPairs 5 (some .int)) rmX2_conflictingPairs s0 D aC (fun r : Int32 => some (.int r)) [.ref a0] μ (FX2_conflictingPairs a0 μ) := by
  refine Ct_of hG hl (by decide +kernel) (Nat.le_of_ble_eq_true rfl) (fun κ ρ hNL F M hκ => ?_)
  have F : Fx κ cX2_conflictingPairs RX2 := F
  change V κ ρ 0 0 μ (FX2_conflictingPairs a0 μ) 0 [(0, .ref a0)] []
  unfold FX2_conflictingPairs
  refine V_iconst (v := 0) F dX2_conflictingPairs_0 (by decide) ?_
  refine V_istore_n (lv' := [(1, .int 0), (0, .ref a0)]) F dX2_conflictingPairs_1 rfl (lt_L hNL (by decide)) rfl ?_
  refine V_iconst (v := 0) F dX2_conflictingPairs_2 (by decide) ?_
  refine V_istore_n (lv' := [(2, .int 0), (1, .int 0), (0, .ref a0)]) F dX2_conflictingPairs_3 rfl (lt_L hNL (by decide)) rfl ?_
  refine V_sub [2, 1, 0] rfl ?_
  exact VX2_conflictingPairs_L4 F M hNL  FU a0 0 0 μ
/-! DroneLightShow$Fleet.rankOf(I)I -/
abbrev rmX2_rankOf : Room := { frames := 1, cells := 0, slots := 0, locals := 22 }
def FX2_rankOf_B4 (k4 : Nat → Int32 → Int32 → Int32 → Me → Rs Int32) (v0 : Nat) (v1 : Int32) (v2 : Int32) (v3 : Int32) (μ : Me) : Rs Int32 :=
  (gI μ v0 3 6 (fun x1 => (if x1 ≤ v3 then (rt v2 μ) else (bnd (vc μ v0 3 (FX2_precedes v0 v3 v1 μ)) (fun x5 μ4 => (if x5 = 0 then (k4 v0 v1 v2 (v3 + 1) μ4) else (k4 v0 v1 (v2 + 1) (v3 + 1) μ4)))))))
set_option maxHeartbeats 4000000 in
set_option maxRecDepth 100000 in
theorem VX2_rankOf_B4 {κ : Cx} {ρ : (Int32 ⊕ String) × Me} (F : Fx κ cX2_rankOf RX2) (M : Mx κ (fun r : Int32 => some (.int r)) ρ rmX2_rankOf (some .int) [] "rankOf") (hNL : κ.2.2.2.2.2.2.2.2.2.2.2.2.2.2 = 4) {k4 : Nat → Int32 → Int32 → Int32 → Me → Rs Int32} (hk4 : ∀ (v0 : Nat) (v1 : Int32) (v2 : Int32) (v3 : Int32) (μ : Me), V κ ρ 0 0 μ (k4 v0 v1 v2 v3 μ) 4 [(0, .ref v0), (1, .int v1), (2, .int v2), (3, .int v3)] []) (v0 : Nat) (v1 : Int32) (v2 : Int32) (v3 : Int32) (μ : Me) : V κ ρ 0 0 μ (FX2_rankOf_B4 k4 v0 v1 v2 v3 μ) 4 [(0, .ref v0), (1, .int v1), (2, .int v2), (3, .int v3)] [] := by
  unfold FX2_rankOf_B4
  refine V_iload_n F dX2_rankOf_4 rfl 3 rfl ?_
  refine V_aload_n F dX2_rankOf_5 rfl 0 rfl ?_
  refine V_gI (ci := 3) (k9 := 6) (C := RX2) (T := TX2) (N := 7) F rfl hinX2 (by decide) q131 dX2_rankOf_6 (fun x1 => ?_)
  refine V_icmp_ge (tgt := 30) F dX2_rankOf_9 (by decide) (fun c2 => ?_) (fun c3 => ?_)
  · refine V_iload_n F dX2_rankOf_30 rfl 2 rfl ?_
    exact V_iret F M dX2_rankOf_31 rfl (by decide) (by decide)
  · refine V_aload_n F dX2_rankOf_12 rfl 0 rfl ?_
    refine V_iload_n F dX2_rankOf_13 rfl 3 rfl ?_
    refine V_iload_n F dX2_rankOf_14 rfl 1 rfl ?_
    refine V_cV (As := [.int v3, .int v1]) (rest := []) (C := RX2) (N := 2) F M (metX2_precedes (Fx_G F) (Fx_l F) v0 v3 v1 μ) rfl q959 q68 q956 q958 q13 ⟨by decide +kernel, by decide +kernel, by decide +kernel⟩ rfl ⟨by decide, by decide⟩ (Nat.le_of_ble_eq_true rfl) dX2_rankOf_15 (by decide) (by decide) (fun x5 μ4 => ?_)
    change V κ ρ 0 0 μ4 _ 18 [(0, .ref v0), (1, .int v1), (2, .int v2), (3, .int v3)] [.int x5]
    refine V_if_eq (tgt := 24) F dX2_rankOf_18 (by decide) (fun c6 => ?_) (fun c7 => ?_)
    · refine V_iinc (lv' := [(3, .int (v3 + 1)), (0, .ref v0), (1, .int v1), (2, .int v2)]) F dX2_rankOf_24 3 rfl rfl (lt_L hNL (by decide)) rfl ?_
      refine V_goto (tgt := 4) F dX2_rankOf_27 (by decide) ?_
      refine V_sub [1, 2, 3, 0] rfl ?_
      exact hk4 v0 v1 v2 (v3 + 1) μ4
    · refine V_iinc (lv' := [(2, .int (v2 + 1)), (0, .ref v0), (1, .int v1), (3, .int v3)]) F dX2_rankOf_21 2 rfl rfl (lt_L hNL (by decide)) rfl ?_
      refine V_iinc (lv' := [(3, .int (v3 + 1)), (2, .int (v2 + 1)), (0, .ref v0), (1, .int v1)]) F dX2_rankOf_24 3 rfl rfl (lt_L hNL (by decide)) rfl ?_
      refine V_goto (tgt := 4) F dX2_rankOf_27 (by decide) ?_
      refine V_sub [2, 3, 1, 0] rfl ?_
      exact hk4 v0 v1 (v2 + 1) (v3 + 1) μ4
def FX2_rankOf_L4  : Nat → Nat → Int32 → Int32 → Int32 → Me → Rs Int32
  | 0, _, _, _, _, _ => none
  | f + 1, v0, v1, v2, v3, μ => FX2_rankOf_B4 (FX2_rankOf_L4  f) v0 v1 v2 v3 μ
theorem VX2_rankOf_L4 {κ : Cx} {ρ : (Int32 ⊕ String) × Me} (F : Fx κ cX2_rankOf RX2) (M : Mx κ (fun r : Int32 => some (.int r)) ρ rmX2_rankOf (some .int) [] "rankOf") (hNL : κ.2.2.2.2.2.2.2.2.2.2.2.2.2.2 = 4)   : ∀ (f : Nat) (v0 : Nat) (v1 : Int32) (v2 : Int32) (v3 : Int32) (μ : Me), V κ ρ 0 0 μ (FX2_rankOf_L4  f v0 v1 v2 v3 μ) 4 [(0, .ref v0), (1, .int v1), (2, .int v2), (3, .int v3)] [] := by
  intro f
  induction f with
  | zero => intros; exact V_none
  | succ f ih => intro v0 v1 v2 v3 μ; exact VX2_rankOf_B4 F M hNL (fun v0 v1 v2 v3 μ => ih v0 v1 v2 v3 μ) v0 v1 v2 v3 μ
def FX2_rankOf (a0 : Nat) (p1 : Int32) (μ : Me) : Rs Int32 :=
  (FX2_rankOf_L4  FU a0 p1 0 0 μ)
set_option maxHeartbeats 4000000 in
set_option maxRecDepth 100000 in
theorem metX2_rankOf {l : Launch} {s0 : State} {D : va_G} {aC : Nat → ClassId} (hG : Gl s0 D aC) (hl : l.stackTraces = false) (a0 : Nat) (p1 : Int32) (μ : Me) : Ct l yX2_rankOf (ws_ yX2_rankOf cX2_rankOf 4 (some .int)) rmX2_rankOf s0 D aC (fun r : Int32 => some (.int r)) [.ref a0, .int p1] μ (FX2_rankOf a0 p1 μ) := by
  refine Ct_of hG hl (by decide +kernel) (Nat.le_of_ble_eq_true rfl) (fun κ ρ hNL F M hκ => ?_)
  have F : Fx κ cX2_rankOf RX2 := F
  change V κ ρ 0 0 μ (FX2_rankOf a0 p1 μ) 0 [(0, .ref a0), (1, .int p1)] []
  unfold FX2_rankOf
  refine V_iconst (v := 0) F dX2_rankOf_0 (by decide) ?_
  refine V_istore_n (lv' := [(2, .int 0), (0, .ref a0), (1, .int p1)]) F dX2_rankOf_1 rfl (lt_L hNL (by decide)) rfl ?_
  refine V_iconst (v := 0) F dX2_rankOf_2 (by decide) ?_
  refine V_istore_n (lv' := [(3, .int 0), (2, .int 0), (0, .ref a0), (1, .int p1)]) F dX2_rankOf_3 rfl (lt_L hNL (by decide)) rfl ?_
  refine V_sub [2, 3, 1, 0] rfl ?_
  exact VX2_rankOf_L4 F M hNL  FU a0 p1 0 0 μ
/-! DroneLightShow$Fleet.nearestIdle(I)I -/
abbrev rmX2_nearestIdle : Room := { frames := 2, cells := 0, slots := 0, locals := 46 }
def FX2_nearestIdle_B4 (k4 : Nat → Int32 → Int32 → Int32 → Me → Rs Int32) (v0 : Nat) (v1 : Int32) (v2 : Int32) (v3 : Int32) (μ : Me) : Rs Int32 :=
  (gI μ v0 3 6 (fun x1 => (if x1 ≤ v3 then (rt v2 μ) else (bnd (vc μ v0 3 (FX2_isAssignable v0 v3 μ)) (fun x5 μ4 => (if x5 = 0 then (k4 v0 v1 v2 (v3 + 1) μ4) else (gR μ4 v0 3 2 (fun x8 => (aI μ4 x8 v3 (fun x9 => (if x9 = (-1) then (if v2 = (-1) then (k4 v0 v1 v3 (v3 + 1) μ4) else (gR μ4 v0 3 0 (fun x14 => (aI μ4 x14 v3 (fun x15 => (bnd (FX7_distance x15 v1 μ4) (fun x17 μ16 => (gR μ16 v0 3 0 (fun x18 => (aI μ16 x18 v2 (fun x19 => (bnd (FX7_distance x19 v1 μ16) (fun x21 μ20 => (if x21 ≤ x17 then (k4 v0 v1 v2 (v3 + 1) μ20) else (k4 v0 v1 v3 (v3 + 1) μ20))))))))))))))) else (k4 v0 v1 v2 (v3 + 1) μ4))))))))))))
set_option maxHeartbeats 4000000 in
set_option maxRecDepth 100000 in
theorem VX2_nearestIdle_B4 {κ : Cx} {ρ : (Int32 ⊕ String) × Me} (F : Fx κ cX2_nearestIdle RX2) (M : Mx κ (fun r : Int32 => some (.int r)) ρ rmX2_nearestIdle (some .int) [] "nearestIdle") (hNL : κ.2.2.2.2.2.2.2.2.2.2.2.2.2.2 = 4) {k4 : Nat → Int32 → Int32 → Int32 → Me → Rs Int32} (hk4 : ∀ (v0 : Nat) (v1 : Int32) (v2 : Int32) (v3 : Int32) (μ : Me), V κ ρ 0 0 μ (k4 v0 v1 v2 v3 μ) 4 [(0, .ref v0), (1, .int v1), (2, .int v2), (3, .int v3)] []) (v0 : Nat) (v1 : Int32) (v2 : Int32) (v3 : Int32) (μ : Me) : V κ ρ 0 0 μ (FX2_nearestIdle_B4 k4 v0 v1 v2 v3 μ) 4 [(0, .ref v0), (1, .int v1), (2, .int v2), (3, .int v3)] [] := by
  unfold FX2_nearestIdle_B4
  refine V_iload_n F dX2_nearestIdle_4 rfl 3 rfl ?_
  refine V_aload_n F dX2_nearestIdle_5 rfl 0 rfl ?_
  refine V_gI (ci := 3) (k9 := 6) (C := RX2) (T := TX2) (N := 7) F rfl hinX2 (by decide) q131 dX2_nearestIdle_6 (fun x1 => ?_)
  refine V_icmp_ge (tgt := 66) F dX2_nearestIdle_9 (by decide) (fun c2 => ?_) (fun c3 => ?_)
  · refine V_iload_n F dX2_nearestIdle_66 rfl 2 rfl ?_
    exact V_iret F M dX2_nearestIdle_67 rfl (by decide) (by decide)
  · refine V_aload_n F dX2_nearestIdle_12 rfl 0 rfl ?_
    refine V_iload_n F dX2_nearestIdle_13 rfl 3 rfl ?_
    refine V_cV (As := [.int v3]) (rest := []) (C := RX2) (N := 1) F M (metX2_isAssignable (Fx_G F) (Fx_l F) v0 v3 μ) rfl q825 q68 q822 q823 q824 ⟨by decide +kernel, by decide +kernel, by decide +kernel⟩ rfl ⟨by decide, by decide⟩ (Nat.le_of_ble_eq_true rfl) dX2_nearestIdle_14 (by decide) (by decide) (fun x5 μ4 => ?_)
    change V κ ρ 0 0 μ4 _ 17 [(0, .ref v0), (1, .int v1), (2, .int v2), (3, .int v3)] [.int x5]
    refine V_if_eq (tgt := 60) F dX2_nearestIdle_17 (by decide) (fun c6 => ?_) (fun c7 => ?_)
    · refine V_iinc (lv' := [(3, .int (v3 + 1)), (0, .ref v0), (1, .int v1), (2, .int v2)]) F dX2_nearestIdle_60 3 rfl rfl (lt_L hNL (by decide)) rfl ?_
      refine V_goto (tgt := 4) F dX2_nearestIdle_63 (by decide) ?_
      refine V_sub [1, 2, 3, 0] rfl ?_
      exact hk4 v0 v1 v2 (v3 + 1) μ4
    · refine V_aload_n F dX2_nearestIdle_20 rfl 0 rfl ?_
      refine V_gR (ci := 3) (k9 := 2) (C := RX2) (T := TX2) (N := 7) F rfl hinX2 (by decide) q118 dX2_nearestIdle_21 (fun x8 => ?_)
      refine V_iload_n F dX2_nearestIdle_24 rfl 3 rfl ?_
      refine V_aI F dX2_nearestIdle_25 (fun x9 => ?_)
      refine V_iconst (v := (-1)) F dX2_nearestIdle_26 (by decide) ?_
      refine V_icmp_ne (tgt := 60) F dX2_nearestIdle_27 (by decide) (fun c10 => ?_) (fun c11 => ?_)
      · refine V_iinc (lv' := [(3, .int (v3 + 1)), (0, .ref v0), (1, .int v1), (2, .int v2)]) F dX2_nearestIdle_60 3 rfl rfl (lt_L hNL (by decide)) rfl ?_
        refine V_goto (tgt := 4) F dX2_nearestIdle_63 (by decide) ?_
        refine V_sub [1, 2, 3, 0] rfl ?_
        exact hk4 v0 v1 v2 (v3 + 1) μ4
      · refine V_iload_n F dX2_nearestIdle_30 rfl 2 rfl ?_
        refine V_iconst (v := (-1)) F dX2_nearestIdle_31 (by decide) ?_
        refine V_icmp_eq (tgt := 58) F dX2_nearestIdle_32 (by decide) (fun c12 => ?_) (fun c13 => ?_)
        · refine V_iload_n F dX2_nearestIdle_58 rfl 3 rfl ?_
          refine V_istore_n (lv' := [(2, .int v3), (0, .ref v0), (1, .int v1), (3, .int v3)]) F dX2_nearestIdle_59 rfl (lt_L hNL (by decide)) rfl ?_
          refine V_iinc (lv' := [(3, .int (v3 + 1)), (2, .int v3), (0, .ref v0), (1, .int v1)]) F dX2_nearestIdle_60 3 rfl rfl (lt_L hNL (by decide)) rfl ?_
          refine V_goto (tgt := 4) F dX2_nearestIdle_63 (by decide) ?_
          refine V_sub [2, 3, 1, 0] rfl ?_
          exact hk4 v0 v1 v3 (v3 + 1) μ4
        · refine V_aload_n F dX2_nearestIdle_35 rfl 0 rfl ?_
          refine V_gR (ci := 3) (k9 := 0) (C := RX2) (T := TX2) (N := 7) F rfl hinX2 (by decide) q112 dX2_nearestIdle_36 (fun x14 => ?_)
          refine V_iload_n F dX2_nearestIdle_39 rfl 3 rfl ?_
          refine V_aI F dX2_nearestIdle_40 (fun x15 => ?_)
          refine V_iload_n F dX2_nearestIdle_41 rfl 1 rfl ?_
          refine V_cSN (As := [.int x15, .int v1]) (rest := []) (N := 2) F M (metX7_distance (Fx_G F) (Fx_l F) x15 v1 μ4) q409 q66 q830 q408 ⟨by decide +kernel, by decide +kernel, by decide +kernel⟩ rfl ⟨by decide, by decide⟩ (Nat.le_of_ble_eq_true rfl) dX2_nearestIdle_42 (by decide) (by decide) (fun x17 μ16 => ?_)
          change V κ ρ 0 0 μ16 _ 45 [(0, .ref v0), (1, .int v1), (2, .int v2), (3, .int v3)] [.int x17]
          refine V_aload_n F dX2_nearestIdle_45 rfl 0 rfl ?_
          refine V_gR (ci := 3) (k9 := 0) (C := RX2) (T := TX2) (N := 7) F rfl hinX2 (by decide) q112 dX2_nearestIdle_46 (fun x18 => ?_)
          refine V_iload_n F dX2_nearestIdle_49 rfl 2 rfl ?_
          refine V_aI F dX2_nearestIdle_50 (fun x19 => ?_)
          refine V_iload_n F dX2_nearestIdle_51 rfl 1 rfl ?_
          refine V_cSN (As := [.int x19, .int v1]) (rest := [.int x17]) (N := 2) F M (metX7_distance (Fx_G F) (Fx_l F) x19 v1 μ16) q409 q66 q830 q408 ⟨by decide +kernel, by decide +kernel, by decide +kernel⟩ rfl ⟨by decide, by decide⟩ (Nat.le_of_ble_eq_true rfl) dX2_nearestIdle_52 (by decide) (by decide) (fun x21 μ20 => ?_)
          change V κ ρ 0 0 μ20 _ 55 [(0, .ref v0), (1, .int v1), (2, .int v2), (3, .int v3)] [.int x21, .int x17]
          refine V_icmp_ge (tgt := 60) F dX2_nearestIdle_55 (by decide) (fun c22 => ?_) (fun c23 => ?_)
          · refine V_iinc (lv' := [(3, .int (v3 + 1)), (0, .ref v0), (1, .int v1), (2, .int v2)]) F dX2_nearestIdle_60 3 rfl rfl (lt_L hNL (by decide)) rfl ?_
            refine V_goto (tgt := 4) F dX2_nearestIdle_63 (by decide) ?_
            refine V_sub [1, 2, 3, 0] rfl ?_
            exact hk4 v0 v1 v2 (v3 + 1) μ20
          · refine V_iload_n F dX2_nearestIdle_58 rfl 3 rfl ?_
            refine V_istore_n (lv' := [(2, .int v3), (0, .ref v0), (1, .int v1), (3, .int v3)]) F dX2_nearestIdle_59 rfl (lt_L hNL (by decide)) rfl ?_
            refine V_iinc (lv' := [(3, .int (v3 + 1)), (2, .int v3), (0, .ref v0), (1, .int v1)]) F dX2_nearestIdle_60 3 rfl rfl (lt_L hNL (by decide)) rfl ?_
            refine V_goto (tgt := 4) F dX2_nearestIdle_63 (by decide) ?_
            refine V_sub [2, 3, 1, 0] rfl ?_
            exact hk4 v0 v1 v3 (v3 + 1) μ20
def FX2_nearestIdle_L4  : Nat → Nat → Int32 → Int32 → Int32 → Me → Rs Int32
  | 0, _, _, _, _, _ => none
  | f + 1, v0, v1, v2, v3, μ => FX2_nearestIdle_B4 (FX2_nearestIdle_L4  f) v0 v1 v2 v3 μ
theorem VX2_nearestIdle_L4 {κ : Cx} {ρ : (Int32 ⊕ String) × Me} (F : Fx κ cX2_nearestIdle RX2) (M : Mx κ (fun r : Int32 => some (.int r)) ρ rmX2_nearestIdle (some .int) [] "nearestIdle") (hNL : κ.2.2.2.2.2.2.2.2.2.2.2.2.2.2 = 4)   : ∀ (f : Nat) (v0 : Nat) (v1 : Int32) (v2 : Int32) (v3 : Int32) (μ : Me), V κ ρ 0 0 μ (FX2_nearestIdle_L4  f v0 v1 v2 v3 μ) 4 [(0, .ref v0), (1, .int v1), (2, .int v2), (3, .int v3)] [] := by
  intro f
  induction f with
  | zero => intros; exact V_none
  | succ f ih => intro v0 v1 v2 v3 μ; exact VX2_nearestIdle_B4 F M hNL (fun v0 v1 v2 v3 μ => ih v0 v1 v2 v3 μ) v0 v1 v2 v3 μ
def FX2_nearestIdle (a0 : Nat) (p1 : Int32) (μ : Me) : Rs Int32 :=
  (FX2_nearestIdle_L4  FU a0 p1 (-1) 0 μ)
set_option maxHeartbeats 4000000 in
set_option maxRecDepth 100000 in
theorem metX2_nearestIdle {l : Launch} {s0 : State} {D : va_G} {aC : Nat → ClassId} (hG : Gl s0 D aC) (hl : l.stackTraces = false) (a0 : Nat) (p1 : Int32) (μ : Me) : Ct l yX2_nearestIdle (ws_ yX2_nearestIdle cX2_nearestIdle 4 (some .int)) rmX2_nearestIdle s0 D aC (fun r : Int32 => some (.int r)) [.ref a0, .int p1] μ (FX2_nearestIdle a0 p1 μ) := by
  refine Ct_of hG hl (by decide +kernel) (Nat.le_of_ble_eq_true rfl) (fun κ ρ hNL F M hκ => ?_)
  have F : Fx κ cX2_nearestIdle RX2 := F
  change V κ ρ 0 0 μ (FX2_nearestIdle a0 p1 μ) 0 [(0, .ref a0), (1, .int p1)] []
  unfold FX2_nearestIdle
  refine V_iconst (v := (-1)) F dX2_nearestIdle_0 (by decide) ?_
  refine V_istore_n (lv' := [(2, .int (-1)), (0, .ref a0), (1, .int p1)]) F dX2_nearestIdle_1 rfl (lt_L hNL (by decide)) rfl ?_
  refine V_iconst (v := 0) F dX2_nearestIdle_2 (by decide) ?_
  refine V_istore_n (lv' := [(3, .int 0), (2, .int (-1)), (0, .ref a0), (1, .int p1)]) F dX2_nearestIdle_3 rfl (lt_L hNL (by decide)) rfl ?_
  refine V_sub [2, 3, 1, 0] rfl ?_
  exact VX2_nearestIdle_L4 F M hNL  FU a0 p1 (-1) 0 μ
/-! DroneLightShow$Fleet.targetDistanceSum()I -/
abbrev rmX2_targetDistanceSum : Room := { frames := 2, cells := 0, slots := 0, locals := 46 }
def FX2_targetDistanceSum_B4 (k4 : Nat → Int32 → Int32 → Me → Rs Int32) (v0 : Nat) (v1 : Int32) (v2 : Int32) (μ : Me) : Rs Int32 :=
  (gI μ v0 3 6 (fun x1 => (if x1 ≤ v2 then (rt v1 μ) else (gR μ v0 3 2 (fun x4 => (aI μ x4 v2 (fun x5 => (if x5 = (-1) then (k4 v0 v1 (v2 + 1) μ) else (gR μ v0 3 0 (fun x8 => (aI μ x8 v2 (fun x9 => (gR μ v0 3 2 (fun x10 => (aI μ x10 v2 (fun x11 => (bnd (FX7_distance x9 x11 μ) (fun x13 μ12 => (k4 v0 (v1 + x13) (v2 + 1) μ12)))))))))))))))))))
set_option maxHeartbeats 4000000 in
set_option maxRecDepth 100000 in
theorem VX2_targetDistanceSum_B4 {κ : Cx} {ρ : (Int32 ⊕ String) × Me} (F : Fx κ cX2_targetDistanceSum RX2) (M : Mx κ (fun r : Int32 => some (.int r)) ρ rmX2_targetDistanceSum (some .int) [] "targetDistanceSum") (hNL : κ.2.2.2.2.2.2.2.2.2.2.2.2.2.2 = 3) {k4 : Nat → Int32 → Int32 → Me → Rs Int32} (hk4 : ∀ (v0 : Nat) (v1 : Int32) (v2 : Int32) (μ : Me), V κ ρ 0 0 μ (k4 v0 v1 v2 μ) 4 [(0, .ref v0), (1, .int v1), (2, .int v2)] []) (v0 : Nat) (v1 : Int32) (v2 : Int32) (μ : Me) : V κ ρ 0 0 μ (FX2_targetDistanceSum_B4 k4 v0 v1 v2 μ) 4 [(0, .ref v0), (1, .int v1), (2, .int v2)] [] := by
  unfold FX2_targetDistanceSum_B4
  refine V_iload_n F dX2_targetDistanceSum_4 rfl 2 rfl ?_
  refine V_aload_n F dX2_targetDistanceSum_5 rfl 0 rfl ?_
  refine V_gI (ci := 3) (k9 := 6) (C := RX2) (T := TX2) (N := 7) F rfl hinX2 (by decide) q131 dX2_targetDistanceSum_6 (fun x1 => ?_)
  refine V_icmp_ge (tgt := 46) F dX2_targetDistanceSum_9 (by decide) (fun c2 => ?_) (fun c3 => ?_)
  · refine V_iload_n F dX2_targetDistanceSum_46 rfl 1 rfl ?_
    exact V_iret F M dX2_targetDistanceSum_47 rfl (by decide) (by decide)
  · refine V_aload_n F dX2_targetDistanceSum_12 rfl 0 rfl ?_
    refine V_gR (ci := 3) (k9 := 2) (C := RX2) (T := TX2) (N := 7) F rfl hinX2 (by decide) q118 dX2_targetDistanceSum_13 (fun x4 => ?_)
    refine V_iload_n F dX2_targetDistanceSum_16 rfl 2 rfl ?_
    refine V_aI F dX2_targetDistanceSum_17 (fun x5 => ?_)
    refine V_iconst (v := (-1)) F dX2_targetDistanceSum_18 (by decide) ?_
    refine V_icmp_eq (tgt := 40) F dX2_targetDistanceSum_19 (by decide) (fun c6 => ?_) (fun c7 => ?_)
    · refine V_iinc (lv' := [(2, .int (v2 + 1)), (0, .ref v0), (1, .int v1)]) F dX2_targetDistanceSum_40 2 rfl rfl (lt_L hNL (by decide)) rfl ?_
      refine V_goto (tgt := 4) F dX2_targetDistanceSum_43 (by decide) ?_
      refine V_sub [1, 2, 0] rfl ?_
      exact hk4 v0 v1 (v2 + 1) μ
    · refine V_iload_n F dX2_targetDistanceSum_22 rfl 1 rfl ?_
      refine V_aload_n F dX2_targetDistanceSum_23 rfl 0 rfl ?_
      refine V_gR (ci := 3) (k9 := 0) (C := RX2) (T := TX2) (N := 7) F rfl hinX2 (by decide) q112 dX2_targetDistanceSum_24 (fun x8 => ?_)
      refine V_iload_n F dX2_targetDistanceSum_27 rfl 2 rfl ?_
      refine V_aI F dX2_targetDistanceSum_28 (fun x9 => ?_)
      refine V_aload_n F dX2_targetDistanceSum_29 rfl 0 rfl ?_
      refine V_gR (ci := 3) (k9 := 2) (C := RX2) (T := TX2) (N := 7) F rfl hinX2 (by decide) q118 dX2_targetDistanceSum_30 (fun x10 => ?_)
      refine V_iload_n F dX2_targetDistanceSum_33 rfl 2 rfl ?_
      refine V_aI F dX2_targetDistanceSum_34 (fun x11 => ?_)
      refine V_cSN (As := [.int x9, .int x11]) (rest := [.int v1]) (N := 2) F M (metX7_distance (Fx_G F) (Fx_l F) x9 x11 μ) q409 q66 q830 q408 ⟨by decide +kernel, by decide +kernel, by decide +kernel⟩ rfl ⟨by decide, by decide⟩ (Nat.le_of_ble_eq_true rfl) dX2_targetDistanceSum_35 (by decide) (by decide) (fun x13 μ12 => ?_)
      change V κ ρ 0 0 μ12 _ 38 [(0, .ref v0), (1, .int v1), (2, .int v2)] [.int x13, .int v1]
      refine V_iadd F dX2_targetDistanceSum_38 ?_
      refine V_istore_n (lv' := [(1, .int (v1 + x13)), (0, .ref v0), (2, .int v2)]) F dX2_targetDistanceSum_39 rfl (lt_L hNL (by decide)) rfl ?_
      refine V_iinc (lv' := [(2, .int (v2 + 1)), (1, .int (v1 + x13)), (0, .ref v0)]) F dX2_targetDistanceSum_40 2 rfl rfl (lt_L hNL (by decide)) rfl ?_
      refine V_goto (tgt := 4) F dX2_targetDistanceSum_43 (by decide) ?_
      refine V_sub [2, 1, 0] rfl ?_
      exact hk4 v0 (v1 + x13) (v2 + 1) μ12
def FX2_targetDistanceSum_L4  : Nat → Nat → Int32 → Int32 → Me → Rs Int32
  | 0, _, _, _, _ => none
  | f + 1, v0, v1, v2, μ => FX2_targetDistanceSum_B4 (FX2_targetDistanceSum_L4  f) v0 v1 v2 μ
theorem VX2_targetDistanceSum_L4 {κ : Cx} {ρ : (Int32 ⊕ String) × Me} (F : Fx κ cX2_targetDistanceSum RX2) (M : Mx κ (fun r : Int32 => some (.int r)) ρ rmX2_targetDistanceSum (some .int) [] "targetDistanceSum") (hNL : κ.2.2.2.2.2.2.2.2.2.2.2.2.2.2 = 3)   : ∀ (f : Nat) (v0 : Nat) (v1 : Int32) (v2 : Int32) (μ : Me), V κ ρ 0 0 μ (FX2_targetDistanceSum_L4  f v0 v1 v2 μ) 4 [(0, .ref v0), (1, .int v1), (2, .int v2)] [] := by
  intro f
  induction f with
  | zero => intros; exact V_none
  | succ f ih => intro v0 v1 v2 μ; exact VX2_targetDistanceSum_B4 F M hNL (fun v0 v1 v2 μ => ih v0 v1 v2 μ) v0 v1 v2 μ
def FX2_targetDistanceSum (a0 : Nat) (μ : Me) : Rs Int32 :=
  (FX2_targetDistanceSum_L4  FU a0 0 0 μ)
set_option maxHeartbeats 4000000 in
set_option maxRecDepth 100000 in
theorem metX2_targetDistanceSum {l : Launch} {s0 : State} {D : va_G} {aC : Nat → ClassId} (hG : Gl s0 D aC) (hl : l.stackTraces = false) (a0 : Nat) (μ : Me) : Ct l yX2_targetDistanceSum (ws_ yX2_targetDistanceSum cX2_targetDistanceSum 3 (some .int)) rmX2_targetDistanceSum s0 D aC (fun r : Int32 => some (.int r)) [.ref a0] μ (FX2_targetDistanceSum a0 μ) := by
  refine Ct_of hG hl (by decide +kernel) (Nat.le_of_ble_eq_true rfl) (fun κ ρ hNL F M hκ => ?_)
  have F : Fx κ cX2_targetDistanceSum RX2 := F
  change V κ ρ 0 0 μ (FX2_targetDistanceSum a0 μ) 0 [(0, .ref a0)] []
  unfold FX2_targetDistanceSum
  refine V_iconst (v := 0) F dX2_targetDistanceSum_0 (by decide) ?_
  refine V_istore_n (lv' := [(1, .int 0), (0, .ref a0)]) F dX2_targetDistanceSum_1 rfl (lt_L hNL (by decide)) rfl ?_
  refine V_iconst (v := 0) F dX2_targetDistanceSum_2 (by decide) ?_
  refine V_istore_n (lv' := [(2, .int 0), (1, .int 0), (0, .ref a0)]) F dX2_targetDistanceSum_3 rfl (lt_L hNL (by decide)) rfl ?_
  refine V_sub [2, 1, 0] rfl ?_
  exact VX2_targetDistanceSum_L4 F M hNL  FU a0 0 0 μ
/-! DroneLightShow$History.<init>()V -/
abbrev rmX3_init : Room := { frames := 3, cells := 105, slots := 976, locals := 65 }
def FX3_init (a0 : Nat) (μ : Me) : Rs Unit :=
  (nw μ (.inl (5, (8, .inr (.inr (.inr (.inr (fun _ => none))))))) (fun a1 μ2 => (pf μ2 a0 4 0 (.ref a1) (fun μ3 => (if (8 : Int32) ≤ 0 then none else (gR μ3 a0 4 0 (fun x6 => (nw μ3 (.inr (5, [.null, .null, .null, .long 0, .int 0, .int 0, .int 0, .int 0, .int 0, .int 0])) (fun a7 μ8 => (bnd (FX4_init a7  μ8) (fun x10 μ9 => (sS μ9 x6 0 a7 (fun μ11 => (if (8 : Int32) ≤ 1 then none else (gR μ11 a0 4 0 (fun x14 => (nw μ11 (.inr (5, [.null, .null, .null, .long 0, .int 0, .int 0, .int 0, .int 0, .int 0, .int 0])) (fun a15 μ16 => (bnd (FX4_init a15  μ16) (fun x18 μ17 => (sS μ17 x14 1 a15 (fun μ19 => (if (8 : Int32) ≤ 2 then none else (gR μ19 a0 4 0 (fun x22 => (nw μ19 (.inr (5, [.null, .null, .null, .long 0, .int 0, .int 0, .int 0, .int 0, .int 0, .int 0])) (fun a23 μ24 => (bnd (FX4_init a23  μ24) (fun x26 μ25 => (sS μ25 x22 2 a23 (fun μ27 => (if (8 : Int32) ≤ 3 then none else (gR μ27 a0 4 0 (fun x30 => (nw μ27 (.inr (5, [.null, .null, .null, .long 0, .int 0, .int 0, .int 0, .int 0, .int 0, .int 0])) (fun a31 μ32 => (bnd (FX4_init a31  μ32) (fun x34 μ33 => (sS μ33 x30 3 a31 (fun μ35 => (if (8 : Int32) ≤ 4 then none else (gR μ35 a0 4 0 (fun x38 => (nw μ35 (.inr (5, [.null, .null, .null, .long 0, .int 0, .int 0, .int 0, .int 0, .int 0, .int 0])) (fun a39 μ40 => (bnd (FX4_init a39  μ40) (fun x42 μ41 => (sS μ41 x38 4 a39 (fun μ43 => (if (8 : Int32) ≤ 5 then none else (gR μ43 a0 4 0 (fun x46 => (nw μ43 (.inr (5, [.null, .null, .null, .long 0, .int 0, .int 0, .int 0, .int 0, .int 0, .int 0])) (fun a47 μ48 => (bnd (FX4_init a47  μ48) (fun x50 μ49 => (sS μ49 x46 5 a47 (fun μ51 => (if (8 : Int32) ≤ 6 then none else (gR μ51 a0 4 0 (fun x54 => (nw μ51 (.inr (5, [.null, .null, .null, .long 0, .int 0, .int 0, .int 0, .int 0, .int 0, .int 0])) (fun a55 μ56 => (bnd (FX4_init a55  μ56) (fun x58 μ57 => (sS μ57 x54 6 a55 (fun μ59 => (if (8 : Int32) ≤ 7 then none else (gR μ59 a0 4 0 (fun x62 => (nw μ59 (.inr (5, [.null, .null, .null, .long 0, .int 0, .int 0, .int 0, .int 0, .int 0, .int 0])) (fun a63 μ64 => (bnd (FX4_init a63  μ64) (fun x66 μ65 => (sS μ65 x62 7 a63 (fun μ67 => (if (8 : Int32) ≤ 8 then (rt () μ67) else none)))))))))))))))))))))))))))))))))))))))))))))))))))))))))))))))))))))))))))))
set_option maxHeartbeats 4000000 in
set_option maxRecDepth 100000 in
theorem metX3_init {l : Launch} {s0 : State} {D : va_G} {aC : Nat → ClassId} (hG : Gl s0 D aC) (hl : l.stackTraces = false) (a0 : Nat) (μ : Me) : Ct l yX3_init (ws_ yX3_init cX3_init 2 none) rmX3_init s0 D aC (fun _ : Unit => none) [.ref a0] μ (FX3_init a0 μ) := by
  refine Ct_of hG hl (by decide +kernel) (Nat.le_of_ble_eq_true rfl) (fun κ ρ hNL F M hκ => ?_)
  have F : Fx κ cX3_init RX3 := F
  change V κ ρ 0 0 μ (FX3_init a0 μ) 0 [(0, .ref a0)] []
  unfold FX3_init
  refine V_aload_n F dX3_init_0 rfl 0 rfl ?_
  refine V_oinit F M q218 q98 q99 dX3_init_1 (by decide) (Nat.le_of_ble_eq_true rfl) ?_
  refine V_aload_n F dX3_init_4 rfl 0 rfl ?_
  refine V_bipush (v := 8) F dX3_init_5 (by decide) ?_
  refine V_anew (c9 := 5) (N := 8) F (Mx_R M) q219 q220 (fun _ => rfl) (by decide) (by decide) (by decide) dX3_init_7 (by decide) (by decide) (fun a1 μ2 => ?_)
  change V κ ρ 1 8 μ2 _ 10 [(0, .ref a0)] [.ref a1, .ref a0]
  refine V_pfF (ci := 4) (k9 := 0) (C := RX3) (T := TX3) (N := 3) (ty := tyX3) F rfl hinX3 tyX3_ok nmX3 (by decide) q222 rfl (Mx_nm M) rfl rfl rfl dX3_init_10 (fun μ3 => ?_)
  refine V_iconst (v := 0) F dX3_init_13 (by decide) ?_
  refine V_istore_n (lv' := [(1, .int 0), (0, .ref a0)]) F dX3_init_14 rfl (lt_L hNL (by decide)) rfl ?_
  refine V_iload_n F dX3_init_15 rfl 0 rfl ?_
  refine V_bipush (v := 8) F dX3_init_16 (by decide) ?_
  refine V_icmp_ge (tgt := 40) F dX3_init_18 (by decide) (fun c4 => ?_) (fun c5 => ?_)
  · exact V_none
  · refine V_aload_n F dX3_init_21 rfl 1 rfl ?_
    refine V_gR (ci := 4) (k9 := 0) (C := RX3) (T := TX3) (N := 3) F rfl hinX3 (by decide) q222 dX3_init_22 (fun x6 => ?_)
    refine V_iload_n F dX3_init_25 rfl 0 rfl ?_
    refine V_new (ci := 5) (C := RX4) (T := TX4) (N := 10) (ty := tyX4) F (Mx_R M) rfl hinX4 tyX4_ok q219 q101 q67 dfX4 dX3_init_26 (by decide) (by decide) (fun a7 μ8 => ?_)
    change V κ ρ 2 18 μ8 _ 29 [(1, .int 0), (0, .ref a0)] [.ref a7, .int 0, .ref x6]
    refine V_dup F dX3_init_29 rfl ?_
    refine V_cIN (As := []) (rest := [.ref a7, .int 0, .ref x6]) (N := 0) F M (metX4_init (Fx_G F) (Fx_l F) a7  μ8) q104 q67 q221 q103 rfl ⟨by decide +kernel, by decide +kernel, by decide +kernel⟩ rfl ⟨by decide, by decide⟩ (Nat.le_of_ble_eq_true rfl) dX3_init_30 (by decide) (by decide) (fun x10 μ9 => ?_)
    change V κ ρ 14 129 μ9 _ 33 [(1, .int 0), (0, .ref a0)] [.ref a7, .int 0, .ref x6]
    refine V_sS F dX3_init_33 (fun μ11 => ?_)
    refine V_iinc (lv' := [(1, .int 1), (0, .ref a0)]) F dX3_init_34 0 rfl (by decide) (lt_L hNL (by decide)) rfl ?_
    refine V_goto (tgt := 15) F dX3_init_37 (by decide) ?_
    refine V_iload_n F dX3_init_15 rfl 0 rfl ?_
    refine V_bipush (v := 8) F dX3_init_16 (by decide) ?_
    refine V_icmp_ge (tgt := 40) F dX3_init_18 (by decide) (fun c12 => ?_) (fun c13 => ?_)
    · exact V_none
    · refine V_aload_n F dX3_init_21 rfl 1 rfl ?_
      refine V_gR (ci := 4) (k9 := 0) (C := RX3) (T := TX3) (N := 3) F rfl hinX3 (by decide) q222 dX3_init_22 (fun x14 => ?_)
      refine V_iload_n F dX3_init_25 rfl 0 rfl ?_
      refine V_new (ci := 5) (C := RX4) (T := TX4) (N := 10) (ty := tyX4) F (Mx_R M) rfl hinX4 tyX4_ok q219 q101 q67 dfX4 dX3_init_26 (by decide) (by decide) (fun a15 μ16 => ?_)
      change V κ ρ 15 139 μ16 _ 29 [(1, .int 1), (0, .ref a0)] [.ref a15, .int 1, .ref x14]
      refine V_dup F dX3_init_29 rfl ?_
      refine V_cIN (As := []) (rest := [.ref a15, .int 1, .ref x14]) (N := 0) F M (metX4_init (Fx_G F) (Fx_l F) a15  μ16) q104 q67 q221 q103 rfl ⟨by decide +kernel, by decide +kernel, by decide +kernel⟩ rfl ⟨by decide, by decide⟩ (Nat.le_of_ble_eq_true rfl) dX3_init_30 (by decide) (by decide) (fun x18 μ17 => ?_)
      change V κ ρ 27 250 μ17 _ 33 [(1, .int 1), (0, .ref a0)] [.ref a15, .int 1, .ref x14]
      refine V_sS F dX3_init_33 (fun μ19 => ?_)
      refine V_iinc (lv' := [(1, .int 2), (0, .ref a0)]) F dX3_init_34 0 rfl (by decide) (lt_L hNL (by decide)) rfl ?_
      refine V_goto (tgt := 15) F dX3_init_37 (by decide) ?_
      refine V_iload_n F dX3_init_15 rfl 0 rfl ?_
      refine V_bipush (v := 8) F dX3_init_16 (by decide) ?_
      refine V_icmp_ge (tgt := 40) F dX3_init_18 (by decide) (fun c20 => ?_) (fun c21 => ?_)
      · exact V_none
      · refine V_aload_n F dX3_init_21 rfl 1 rfl ?_
        refine V_gR (ci := 4) (k9 := 0) (C := RX3) (T := TX3) (N := 3) F rfl hinX3 (by decide) q222 dX3_init_22 (fun x22 => ?_)
        refine V_iload_n F dX3_init_25 rfl 0 rfl ?_
        refine V_new (ci := 5) (C := RX4) (T := TX4) (N := 10) (ty := tyX4) F (Mx_R M) rfl hinX4 tyX4_ok q219 q101 q67 dfX4 dX3_init_26 (by decide) (by decide) (fun a23 μ24 => ?_)
        change V κ ρ 28 260 μ24 _ 29 [(1, .int 2), (0, .ref a0)] [.ref a23, .int 2, .ref x22]
        refine V_dup F dX3_init_29 rfl ?_
        refine V_cIN (As := []) (rest := [.ref a23, .int 2, .ref x22]) (N := 0) F M (metX4_init (Fx_G F) (Fx_l F) a23  μ24) q104 q67 q221 q103 rfl ⟨by decide +kernel, by decide +kernel, by decide +kernel⟩ rfl ⟨by decide, by decide⟩ (Nat.le_of_ble_eq_true rfl) dX3_init_30 (by decide) (by decide) (fun x26 μ25 => ?_)
        change V κ ρ 40 371 μ25 _ 33 [(1, .int 2), (0, .ref a0)] [.ref a23, .int 2, .ref x22]
        refine V_sS F dX3_init_33 (fun μ27 => ?_)
        refine V_iinc (lv' := [(1, .int 3), (0, .ref a0)]) F dX3_init_34 0 rfl (by decide) (lt_L hNL (by decide)) rfl ?_
        refine V_goto (tgt := 15) F dX3_init_37 (by decide) ?_
        refine V_iload_n F dX3_init_15 rfl 0 rfl ?_
        refine V_bipush (v := 8) F dX3_init_16 (by decide) ?_
        refine V_icmp_ge (tgt := 40) F dX3_init_18 (by decide) (fun c28 => ?_) (fun c29 => ?_)
        · exact V_none
        · refine V_aload_n F dX3_init_21 rfl 1 rfl ?_
          refine V_gR (ci := 4) (k9 := 0) (C := RX3) (T := TX3) (N := 3) F rfl hinX3 (by decide) q222 dX3_init_22 (fun x30 => ?_)
          refine V_iload_n F dX3_init_25 rfl 0 rfl ?_
          refine V_new (ci := 5) (C := RX4) (T := TX4) (N := 10) (ty := tyX4) F (Mx_R M) rfl hinX4 tyX4_ok q219 q101 q67 dfX4 dX3_init_26 (by decide) (by decide) (fun a31 μ32 => ?_)
          change V κ ρ 41 381 μ32 _ 29 [(1, .int 3), (0, .ref a0)] [.ref a31, .int 3, .ref x30]
          refine V_dup F dX3_init_29 rfl ?_
          refine V_cIN (As := []) (rest := [.ref a31, .int 3, .ref x30]) (N := 0) F M (metX4_init (Fx_G F) (Fx_l F) a31  μ32) q104 q67 q221 q103 rfl ⟨by decide +kernel, by decide +kernel, by decide +kernel⟩ rfl ⟨by decide, by decide⟩ (Nat.le_of_ble_eq_true rfl) dX3_init_30 (by decide) (by decide) (fun x34 μ33 => ?_)
          change V κ ρ 53 492 μ33 _ 33 [(1, .int 3), (0, .ref a0)] [.ref a31, .int 3, .ref x30]
          refine V_sS F dX3_init_33 (fun μ35 => ?_)
          refine V_iinc (lv' := [(1, .int 4), (0, .ref a0)]) F dX3_init_34 0 rfl (by decide) (lt_L hNL (by decide)) rfl ?_
          refine V_goto (tgt := 15) F dX3_init_37 (by decide) ?_
          refine V_iload_n F dX3_init_15 rfl 0 rfl ?_
          refine V_bipush (v := 8) F dX3_init_16 (by decide) ?_
          refine V_icmp_ge (tgt := 40) F dX3_init_18 (by decide) (fun c36 => ?_) (fun c37 => ?_)
          · exact V_none
          · refine V_aload_n F dX3_init_21 rfl 1 rfl ?_
            refine V_gR (ci := 4) (k9 := 0) (C := RX3) (T := TX3) (N := 3) F rfl hinX3 (by decide) q222 dX3_init_22 (fun x38 => ?_)
            refine V_iload_n F dX3_init_25 rfl 0 rfl ?_
            refine V_new (ci := 5) (C := RX4) (T := TX4) (N := 10) (ty := tyX4) F (Mx_R M) rfl hinX4 tyX4_ok q219 q101 q67 dfX4 dX3_init_26 (by decide) (by decide) (fun a39 μ40 => ?_)
            change V κ ρ 54 502 μ40 _ 29 [(1, .int 4), (0, .ref a0)] [.ref a39, .int 4, .ref x38]
            refine V_dup F dX3_init_29 rfl ?_
            refine V_cIN (As := []) (rest := [.ref a39, .int 4, .ref x38]) (N := 0) F M (metX4_init (Fx_G F) (Fx_l F) a39  μ40) q104 q67 q221 q103 rfl ⟨by decide +kernel, by decide +kernel, by decide +kernel⟩ rfl ⟨by decide, by decide⟩ (Nat.le_of_ble_eq_true rfl) dX3_init_30 (by decide) (by decide) (fun x42 μ41 => ?_)
            change V κ ρ 66 613 μ41 _ 33 [(1, .int 4), (0, .ref a0)] [.ref a39, .int 4, .ref x38]
            refine V_sS F dX3_init_33 (fun μ43 => ?_)
            refine V_iinc (lv' := [(1, .int 5), (0, .ref a0)]) F dX3_init_34 0 rfl (by decide) (lt_L hNL (by decide)) rfl ?_
            refine V_goto (tgt := 15) F dX3_init_37 (by decide) ?_
            refine V_iload_n F dX3_init_15 rfl 0 rfl ?_
            refine V_bipush (v := 8) F dX3_init_16 (by decide) ?_
            refine V_icmp_ge (tgt := 40) F dX3_init_18 (by decide) (fun c44 => ?_) (fun c45 => ?_)
            · exact V_none
            · refine V_aload_n F dX3_init_21 rfl 1 rfl ?_
              refine V_gR (ci := 4) (k9 := 0) (C := RX3) (T := TX3) (N := 3) F rfl hinX3 (by decide) q222 dX3_init_22 (fun x46 => ?_)
              refine V_iload_n F dX3_init_25 rfl 0 rfl ?_
              refine V_new (ci := 5) (C := RX4) (T := TX4) (N := 10) (ty := tyX4) F (Mx_R M) rfl hinX4 tyX4_ok q219 q101 q67 dfX4 dX3_init_26 (by decide) (by decide) (fun a47 μ48 => ?_)
              change V κ ρ 67 623 μ48 _ 29 [(1, .int 5), (0, .ref a0)] [.ref a47, .int 5, .ref x46]
              refine V_dup F dX3_init_29 rfl ?_
              refine V_cIN (As := []) (rest := [.ref a47, .int 5, .ref x46]) (N := 0) F M (metX4_init (Fx_G F) (Fx_l F) a47  μ48) q104 q67 q221 q103 rfl ⟨by decide +kernel, by decide +kernel, by decide +kernel⟩ rfl ⟨by decide, by decide⟩ (Nat.le_of_ble_eq_true rfl) dX3_init_30 (by decide) (by decide) (fun x50 μ49 => ?_)
              change V κ ρ 79 734 μ49 _ 33 [(1, .int 5), (0, .ref a0)] [.ref a47, .int 5, .ref x46]
              refine V_sS F dX3_init_33 (fun μ51 => ?_)
              refine V_iinc (lv' := [(1, .int 6), (0, .ref a0)]) F dX3_init_34 0 rfl (by decide) (lt_L hNL (by decide)) rfl ?_
              refine V_goto (tgt := 15) F dX3_init_37 (by decide) ?_
              refine V_iload_n F dX3_init_15 rfl 0 rfl ?_
              refine V_bipush (v := 8) F dX3_init_16 (by decide) ?_
              refine V_icmp_ge (tgt := 40) F dX3_init_18 (by decide) (fun c52 => ?_) (fun c53 => ?_)
              · exact V_none
              · refine V_aload_n F dX3_init_21 rfl 1 rfl ?_
                refine V_gR (ci := 4) (k9 := 0) (C := RX3) (T := TX3) (N := 3) F rfl hinX3 (by decide) q222 dX3_init_22 (fun x54 => ?_)
                refine V_iload_n F dX3_init_25 rfl 0 rfl ?_
                refine V_new (ci := 5) (C := RX4) (T := TX4) (N := 10) (ty := tyX4) F (Mx_R M) rfl hinX4 tyX4_ok q219 q101 q67 dfX4 dX3_init_26 (by decide) (by decide) (fun a55 μ56 => ?_)
                change V κ ρ 80 744 μ56 _ 29 [(1, .int 6), (0, .ref a0)] [.ref a55, .int 6, .ref x54]
                refine V_dup F dX3_init_29 rfl ?_
                refine V_cIN (As := []) (rest := [.ref a55, .int 6, .ref x54]) (N := 0) F M (metX4_init (Fx_G F) (Fx_l F) a55  μ56) q104 q67 q221 q103 rfl ⟨by decide +kernel, by decide +kernel, by decide +kernel⟩ rfl ⟨by decide, by decide⟩ (Nat.le_of_ble_eq_true rfl) dX3_init_30 (by decide) (by decide) (fun x58 μ57 => ?_)
                change V κ ρ 92 855 μ57 _ 33 [(1, .int 6), (0, .ref a0)] [.ref a55, .int 6, .ref x54]
                refine V_sS F dX3_init_33 (fun μ59 => ?_)
                refine V_iinc (lv' := [(1, .int 7), (0, .ref a0)]) F dX3_init_34 0 rfl (by decide) (lt_L hNL (by decide)) rfl ?_
                refine V_goto (tgt := 15) F dX3_init_37 (by decide) ?_
                refine V_iload_n F dX3_init_15 rfl 0 rfl ?_
                refine V_bipush (v := 8) F dX3_init_16 (by decide) ?_
                refine V_icmp_ge (tgt := 40) F dX3_init_18 (by decide) (fun c60 => ?_) (fun c61 => ?_)
                · exact V_none
                · refine V_aload_n F dX3_init_21 rfl 1 rfl ?_
                  refine V_gR (ci := 4) (k9 := 0) (C := RX3) (T := TX3) (N := 3) F rfl hinX3 (by decide) q222 dX3_init_22 (fun x62 => ?_)
                  refine V_iload_n F dX3_init_25 rfl 0 rfl ?_
                  refine V_new (ci := 5) (C := RX4) (T := TX4) (N := 10) (ty := tyX4) F (Mx_R M) rfl hinX4 tyX4_ok q219 q101 q67 dfX4 dX3_init_26 (by decide) (by decide) (fun a63 μ64 => ?_)
                  change V κ ρ 93 865 μ64 _ 29 [(1, .int 7), (0, .ref a0)] [.ref a63, .int 7, .ref x62]
                  refine V_dup F dX3_init_29 rfl ?_
                  refine V_cIN (As := []) (rest := [.ref a63, .int 7, .ref x62]) (N := 0) F M (metX4_init (Fx_G F) (Fx_l F) a63  μ64) q104 q67 q221 q103 rfl ⟨by decide +kernel, by decide +kernel, by decide +kernel⟩ rfl ⟨by decide, by decide⟩ (Nat.le_of_ble_eq_true rfl) dX3_init_30 (by decide) (by decide) (fun x66 μ65 => ?_)
                  change V κ ρ 105 976 μ65 _ 33 [(1, .int 7), (0, .ref a0)] [.ref a63, .int 7, .ref x62]
                  refine V_sS F dX3_init_33 (fun μ67 => ?_)
                  refine V_iinc (lv' := [(1, .int 8), (0, .ref a0)]) F dX3_init_34 0 rfl (by decide) (lt_L hNL (by decide)) rfl ?_
                  refine V_goto (tgt := 15) F dX3_init_37 (by decide) ?_
                  refine V_iload_n F dX3_init_15 rfl 0 rfl ?_
                  refine V_bipush (v := 8) F dX3_init_16 (by decide) ?_
                  refine V_icmp_ge (tgt := 40) F dX3_init_18 (by decide) (fun c68 => ?_) (fun c69 => ?_)
                  · exact V_vret F M dX3_init_40 rfl (by decide) (by decide)
                  · exact V_none
/-! DroneLightShow$Scene.copyFrom(LDroneLightShow$Scene;)V -/
abbrev rmX4_copyFrom : Room := { frames := 2, cells := 0, slots := 0, locals := 46 }
def FX4_copyFrom_B24 (k24 : Nat → Nat → Int32 → Me → Rs Unit) (v0 : Nat) (v1 : Nat) (v2 : Int32) (μ : Me) : Rs Unit :=
  (if 4 ≤ v2 then (gJ μ v1 5 3 (fun x11 => (pf μ v0 5 3 (.long x11) (fun μ12 => (gI μ12 v1 5 4 (fun x13 => (pf μ12 v0 5 4 (.int x13) (fun μ14 => (gI μ14 v1 5 5 (fun x15 => (pf μ14 v0 5 5 (.int x15) (fun μ16 => (gI μ16 v1 5 6 (fun x17 => (pf μ16 v0 5 6 (.int x17) (fun μ18 => (gI μ18 v1 5 7 (fun x19 => (pf μ18 v0 5 7 (.int x19) (fun μ20 => (gI μ20 v1 5 8 (fun x21 => (pf μ20 v0 5 8 (.int x21) (fun μ22 => (gI μ22 v1 5 9 (fun x23 => (pf μ22 v0 5 9 (.int x23) (fun μ24 => (rt () μ24))))))))))))))))))))))))))))) else (gR μ v0 5 2 (fun x25 => (gR μ v1 5 2 (fun x26 => (aJ μ x26 v2 (fun x27 => (sJ μ x25 v2 x27 (fun μ28 => (k24 v0 v1 (v2 + 1) μ28))))))))))
set_option maxHeartbeats 4000000 in
set_option maxRecDepth 100000 in
theorem VX4_copyFrom_B24 {κ : Cx} {ρ : (Unit ⊕ String) × Me} (F : Fx κ cX4_copyFrom RX4) (M : Mx κ (fun _ : Unit => none) ρ rmX4_copyFrom none [] "copyFrom") (hNL : κ.2.2.2.2.2.2.2.2.2.2.2.2.2.2 = 3) {k24 : Nat → Nat → Int32 → Me → Rs Unit} (hk24 : ∀ (v0 : Nat) (v1 : Nat) (v2 : Int32) (μ : Me), V κ ρ 0 0 μ (k24 v0 v1 v2 μ) 24 [(0, .ref v0), (1, .ref v1), (2, .int v2)] []) (v0 : Nat) (v1 : Nat) (v2 : Int32) (μ : Me) : V κ ρ 0 0 μ (FX4_copyFrom_B24 k24 v0 v1 v2 μ) 24 [(0, .ref v0), (1, .ref v1), (2, .int v2)] [] := by
  unfold FX4_copyFrom_B24
  refine V_iload_n F dX4_copyFrom_24 rfl 2 rfl ?_
  refine V_iconst (v := 4) F dX4_copyFrom_25 (by decide) ?_
  refine V_icmp_ge (tgt := 47) F dX4_copyFrom_26 (by decide) (fun c9 => ?_) (fun c10 => ?_)
  · refine V_aload_n F dX4_copyFrom_47 rfl 0 rfl ?_
    refine V_aload_n F dX4_copyFrom_48 rfl 1 rfl ?_
    refine V_gJ (ci := 5) (k9 := 3) (C := RX4) (T := TX4) (N := 10) F rfl hinX4 (by decide) q178 dX4_copyFrom_49 (fun x11 => ?_)
    refine V_pf (ci := 5) (k9 := 3) (C := RX4) (T := TX4) (N := 10) (ty := tyX4) F rfl hinX4 tyX4_ok nmX4 (by decide) q178 rfl rfl rfl dX4_copyFrom_52 (fun μ12 => ?_)
    refine V_aload_n F dX4_copyFrom_55 rfl 0 rfl ?_
    refine V_aload_n F dX4_copyFrom_56 rfl 1 rfl ?_
    refine V_gI (ci := 5) (k9 := 4) (C := RX4) (T := TX4) (N := 10) F rfl hinX4 (by decide) q180 dX4_copyFrom_57 (fun x13 => ?_)
    refine V_pf (ci := 5) (k9 := 4) (C := RX4) (T := TX4) (N := 10) (ty := tyX4) F rfl hinX4 tyX4_ok nmX4 (by decide) q180 rfl rfl rfl dX4_copyFrom_60 (fun μ14 => ?_)
    refine V_aload_n F dX4_copyFrom_63 rfl 0 rfl ?_
    refine V_aload_n F dX4_copyFrom_64 rfl 1 rfl ?_
    refine V_gI (ci := 5) (k9 := 5) (C := RX4) (T := TX4) (N := 10) F rfl hinX4 (by decide) q181 dX4_copyFrom_65 (fun x15 => ?_)
    refine V_pf (ci := 5) (k9 := 5) (C := RX4) (T := TX4) (N := 10) (ty := tyX4) F rfl hinX4 tyX4_ok nmX4 (by decide) q181 rfl rfl rfl dX4_copyFrom_68 (fun μ16 => ?_)
    refine V_aload_n F dX4_copyFrom_71 rfl 0 rfl ?_
    refine V_aload_n F dX4_copyFrom_72 rfl 1 rfl ?_
    refine V_gI (ci := 5) (k9 := 6) (C := RX4) (T := TX4) (N := 10) F rfl hinX4 (by decide) q183 dX4_copyFrom_73 (fun x17 => ?_)
    refine V_pf (ci := 5) (k9 := 6) (C := RX4) (T := TX4) (N := 10) (ty := tyX4) F rfl hinX4 tyX4_ok nmX4 (by decide) q183 rfl rfl rfl dX4_copyFrom_76 (fun μ18 => ?_)
    refine V_aload_n F dX4_copyFrom_79 rfl 0 rfl ?_
    refine V_aload_n F dX4_copyFrom_80 rfl 1 rfl ?_
    refine V_gI (ci := 5) (k9 := 7) (C := RX4) (T := TX4) (N := 10) F rfl hinX4 (by decide) q185 dX4_copyFrom_81 (fun x19 => ?_)
    refine V_pf (ci := 5) (k9 := 7) (C := RX4) (T := TX4) (N := 10) (ty := tyX4) F rfl hinX4 tyX4_ok nmX4 (by decide) q185 rfl rfl rfl dX4_copyFrom_84 (fun μ20 => ?_)
    refine V_aload_n F dX4_copyFrom_87 rfl 0 rfl ?_
    refine V_aload_n F dX4_copyFrom_88 rfl 1 rfl ?_
    refine V_gI (ci := 5) (k9 := 8) (C := RX4) (T := TX4) (N := 10) F rfl hinX4 (by decide) q187 dX4_copyFrom_89 (fun x21 => ?_)
    refine V_pf (ci := 5) (k9 := 8) (C := RX4) (T := TX4) (N := 10) (ty := tyX4) F rfl hinX4 tyX4_ok nmX4 (by decide) q187 rfl rfl rfl dX4_copyFrom_92 (fun μ22 => ?_)
    refine V_aload_n F dX4_copyFrom_95 rfl 0 rfl ?_
    refine V_aload_n F dX4_copyFrom_96 rfl 1 rfl ?_
    refine V_gI (ci := 5) (k9 := 9) (C := RX4) (T := TX4) (N := 10) F rfl hinX4 (by decide) q189 dX4_copyFrom_97 (fun x23 => ?_)
    refine V_pf (ci := 5) (k9 := 9) (C := RX4) (T := TX4) (N := 10) (ty := tyX4) F rfl hinX4 tyX4_ok nmX4 (by decide) q189 rfl rfl rfl dX4_copyFrom_100 (fun μ24 => ?_)
    exact V_vret F M dX4_copyFrom_103 rfl (by decide) (by decide)
  · refine V_aload_n F dX4_copyFrom_29 rfl 0 rfl ?_
    refine V_gR (ci := 5) (k9 := 2) (C := RX4) (T := TX4) (N := 10) F rfl hinX4 (by decide) q176 dX4_copyFrom_30 (fun x25 => ?_)
    refine V_iload_n F dX4_copyFrom_33 rfl 2 rfl ?_
    refine V_aload_n F dX4_copyFrom_34 rfl 1 rfl ?_
    refine V_gR (ci := 5) (k9 := 2) (C := RX4) (T := TX4) (N := 10) F rfl hinX4 (by decide) q176 dX4_copyFrom_35 (fun x26 => ?_)
    refine V_iload_n F dX4_copyFrom_38 rfl 2 rfl ?_
    refine V_aJ F dX4_copyFrom_39 (fun x27 => ?_)
    refine V_sJ F dX4_copyFrom_40 (fun μ28 => ?_)
    refine V_iinc (lv' := [(2, .int (v2 + 1)), (0, .ref v0), (1, .ref v1)]) F dX4_copyFrom_41 2 rfl rfl (lt_L hNL (by decide)) rfl ?_
    refine V_goto (tgt := 24) F dX4_copyFrom_44 (by decide) ?_
    refine V_sub [1, 2, 0] rfl ?_
    exact hk24 v0 v1 (v2 + 1) μ28
def FX4_copyFrom_L24  : Nat → Nat → Nat → Int32 → Me → Rs Unit
  | 0, _, _, _, _ => none
  | f + 1, v0, v1, v2, μ => FX4_copyFrom_B24 (FX4_copyFrom_L24  f) v0 v1 v2 μ
theorem VX4_copyFrom_L24 {κ : Cx} {ρ : (Unit ⊕ String) × Me} (F : Fx κ cX4_copyFrom RX4) (M : Mx κ (fun _ : Unit => none) ρ rmX4_copyFrom none [] "copyFrom") (hNL : κ.2.2.2.2.2.2.2.2.2.2.2.2.2.2 = 3)   : ∀ (f : Nat) (v0 : Nat) (v1 : Nat) (v2 : Int32) (μ : Me), V κ ρ 0 0 μ (FX4_copyFrom_L24  f v0 v1 v2 μ) 24 [(0, .ref v0), (1, .ref v1), (2, .int v2)] [] := by
  intro f
  induction f with
  | zero => intros; exact V_none
  | succ f ih => intro v0 v1 v2 μ; exact VX4_copyFrom_B24 F M hNL (fun v0 v1 v2 μ => ih v0 v1 v2 μ) v0 v1 v2 μ
def FX4_copyFrom (a0 : Nat) (p1 : Nat) (μ : Me) : Rs Unit :=
  (gR μ a0 5 0 (fun x1 => (gR μ p1 5 0 (fun x2 => (bnd (vc μ x1 3 (FX2_copyFrom x1 x2 μ)) (fun x4 μ3 => (gR μ3 a0 5 1 (fun x5 => (gR μ3 p1 5 1 (fun x6 => (bnd (vc μ3 x5 2 (FX1_copyFrom x5 x6 μ3)) (fun x8 μ7 => (FX4_copyFrom_L24  FU a0 p1 0 μ7)))))))))))))
set_option maxHeartbeats 4000000 in
set_option maxRecDepth 100000 in
theorem metX4_copyFrom {l : Launch} {s0 : State} {D : va_G} {aC : Nat → ClassId} (hG : Gl s0 D aC) (hl : l.stackTraces = false) (a0 : Nat) (p1 : Nat) (μ : Me) : Ct l yX4_copyFrom (ws_ yX4_copyFrom cX4_copyFrom 3 none) rmX4_copyFrom s0 D aC (fun _ : Unit => none) [.ref a0, .ref p1] μ (FX4_copyFrom a0 p1 μ) := by
  refine Ct_of hG hl (by decide +kernel) (Nat.le_of_ble_eq_true rfl) (fun κ ρ hNL F M hκ => ?_)
  have F : Fx κ cX4_copyFrom RX4 := F
  change V κ ρ 0 0 μ (FX4_copyFrom a0 p1 μ) 0 [(0, .ref a0), (1, .ref p1)] []
  unfold FX4_copyFrom
  refine V_aload_n F dX4_copyFrom_0 rfl 0 rfl ?_
  refine V_gR (ci := 5) (k9 := 0) (C := RX4) (T := TX4) (N := 10) F rfl hinX4 (by decide) q172 dX4_copyFrom_1 (fun x1 => ?_)
  refine V_aload_n F dX4_copyFrom_4 rfl 1 rfl ?_
  refine V_gR (ci := 5) (k9 := 0) (C := RX4) (T := TX4) (N := 10) F rfl hinX4 (by decide) q172 dX4_copyFrom_5 (fun x2 => ?_)
  refine V_cV (As := [.ref x2]) (rest := []) (C := RX2) (N := 1) F M (metX2_copyFrom (Fx_G F) (Fx_l F) x1 x2 μ) rfl q433 q68 q430 q431 q432 ⟨by decide +kernel, by decide +kernel, by decide +kernel⟩ rfl ⟨by decide, by decide⟩ (Nat.le_of_ble_eq_true rfl) dX4_copyFrom_8 (by decide) (by decide) (fun x4 μ3 => ?_)
  change V κ ρ 0 0 μ3 _ 11 [(0, .ref a0), (1, .ref p1)] []
  refine V_aload_n F dX4_copyFrom_11 rfl 0 rfl ?_
  refine V_gR (ci := 5) (k9 := 1) (C := RX4) (T := TX4) (N := 10) F rfl hinX4 (by decide) q174 dX4_copyFrom_12 (fun x5 => ?_)
  refine V_aload_n F dX4_copyFrom_15 rfl 1 rfl ?_
  refine V_gR (ci := 5) (k9 := 1) (C := RX4) (T := TX4) (N := 10) F rfl hinX4 (by decide) q174 dX4_copyFrom_16 (fun x6 => ?_)
  refine V_cV (As := [.ref x6]) (rest := []) (C := RX1) (N := 1) F M (metX1_copyFrom (Fx_G F) (Fx_l F) x5 x6 μ3) rfl q437 q69 q434 q435 q436 ⟨by decide +kernel, by decide +kernel, by decide +kernel⟩ rfl ⟨by decide, by decide⟩ (Nat.le_of_ble_eq_true rfl) dX4_copyFrom_19 (by decide) (by decide) (fun x8 μ7 => ?_)
  change V κ ρ 0 0 μ7 _ 22 [(0, .ref a0), (1, .ref p1)] []
  refine V_iconst (v := 0) F dX4_copyFrom_22 (by decide) ?_
  refine V_istore_n (lv' := [(2, .int 0), (0, .ref a0), (1, .ref p1)]) F dX4_copyFrom_23 rfl (lt_L hNL (by decide)) rfl ?_
  refine V_sub [1, 2, 0] rfl ?_
  exact VX4_copyFrom_L24 F M hNL  FU a0 p1 0 μ7
/-! DroneLightShow$Scene.enlist(I)I -/
abbrev rmX4_enlist : Room := { frames := 1, cells := 0, slots := 0, locals := 22 }
def FX4_enlist (a0 : Nat) (p1 : Int32) (μ : Me) : Rs Int32 :=
  (bnd (FX7_isCell p1 μ) (fun x2 μ1 => (if x2 = 0 then (rt (-1) μ1) else (gR μ1 a0 5 0 (fun x5 => (gI μ1 x5 3 6 (fun x6 => (if x6 < 10 then (gR μ1 a0 5 0 (fun x9 => (bnd (vc μ1 x9 3 (FX2_occupant x9 p1 μ1)) (fun x11 μ10 => (if x11 = (-1) then (gR μ10 a0 5 0 (fun x14 => (gI μ10 x14 3 6 (fun x15 => (gR μ10 a0 5 0 (fun x16 => (gR μ10 x16 3 0 (fun x17 => (sI μ10 x17 x15 p1 (fun μ18 => (gR μ18 a0 5 0 (fun x19 => (gR μ18 x19 3 1 (fun x20 => (sI μ18 x20 x15 100 (fun μ21 => (gR μ21 a0 5 0 (fun x22 => (gR μ21 x22 3 3 (fun x23 => (sI μ21 x23 x15 0 (fun μ24 => (gR μ24 a0 5 0 (fun x25 => (bnd (vc μ24 x25 3 (FX2_ground x25 x15 μ24)) (fun x27 μ26 => (gR μ26 a0 5 0 (fun x28 => (gI μ26 x28 3 6 (fun x29 => (pf μ26 x28 3 6 (.int (x29 + 1)) (fun μ30 => (rt x15 μ30))))))))))))))))))))))))))))))))) else (rt (-4) μ10)))))) else (rt (-3) μ1)))))))))
set_option maxHeartbeats 4000000 in
set_option maxRecDepth 100000 in
theorem metX4_enlist {l : Launch} {s0 : State} {D : va_G} {aC : Nat → ClassId} (hG : Gl s0 D aC) (hl : l.stackTraces = false) (a0 : Nat) (p1 : Int32) (μ : Me) : Ct l yX4_enlist (ws_ yX4_enlist cX4_enlist 3 (some .int)) rmX4_enlist s0 D aC (fun r : Int32 => some (.int r)) [.ref a0, .int p1] μ (FX4_enlist a0 p1 μ) := by
  refine Ct_of hG hl (by decide +kernel) (Nat.le_of_ble_eq_true rfl) (fun κ ρ hNL F M hκ => ?_)
  have F : Fx κ cX4_enlist RX4 := F
  change V κ ρ 0 0 μ (FX4_enlist a0 p1 μ) 0 [(0, .ref a0), (1, .int p1)] []
  unfold FX4_enlist
  refine V_iload_n F dX4_enlist_0 rfl 1 rfl ?_
  refine V_cSN (As := [.int p1]) (rest := []) (N := 1) F M (metX7_isCell (Fx_G F) (Fx_l F) p1 μ) q537 q66 q535 q536 ⟨by decide +kernel, by decide +kernel, by decide +kernel⟩ rfl ⟨by decide, by decide⟩ (Nat.le_of_ble_eq_true rfl) dX4_enlist_1 (by decide) (by decide) (fun x2 μ1 => ?_)
  change V κ ρ 0 0 μ1 _ 4 [(0, .ref a0), (1, .int p1)] [.int x2]
  refine V_if_ne (tgt := 9) F dX4_enlist_4 (by decide) (fun c3 => ?_) (fun c4 => ?_)
  · refine V_aload_n F dX4_enlist_9 rfl 0 rfl ?_
    refine V_gR (ci := 5) (k9 := 0) (C := RX4) (T := TX4) (N := 10) F rfl hinX4 (by decide) q172 dX4_enlist_10 (fun x5 => ?_)
    refine V_gI (ci := 3) (k9 := 6) (C := RX2) (T := TX2) (N := 7) F rfl hinX2 (by decide) q132 dX4_enlist_13 (fun x6 => ?_)
    refine V_bipush (v := 10) F dX4_enlist_16 (by decide) ?_
    refine V_icmp_lt (tgt := 24) F dX4_enlist_18 (by decide) (fun c7 => ?_) (fun c8 => ?_)
    · refine V_aload_n F dX4_enlist_24 rfl 0 rfl ?_
      refine V_gR (ci := 5) (k9 := 0) (C := RX4) (T := TX4) (N := 10) F rfl hinX4 (by decide) q172 dX4_enlist_25 (fun x9 => ?_)
      refine V_iload_n F dX4_enlist_28 rfl 1 rfl ?_
      refine V_cV (As := [.int p1]) (rest := []) (C := RX2) (N := 1) F M (metX2_occupant (Fx_G F) (Fx_l F) x9 p1 μ1) rfl q395 q68 q392 q393 q394 ⟨by decide +kernel, by decide +kernel, by decide +kernel⟩ rfl ⟨by decide, by decide⟩ (Nat.le_of_ble_eq_true rfl) dX4_enlist_29 (by decide) (by decide) (fun x11 μ10 => ?_)
      change V κ ρ 0 0 μ10 _ 32 [(0, .ref a0), (1, .int p1)] [.int x11]
      refine V_iconst (v := (-1)) F dX4_enlist_32 (by decide) ?_
      refine V_icmp_eq (tgt := 39) F dX4_enlist_33 (by decide) (fun c12 => ?_) (fun c13 => ?_)
      · refine V_aload_n F dX4_enlist_39 rfl 0 rfl ?_
        refine V_gR (ci := 5) (k9 := 0) (C := RX4) (T := TX4) (N := 10) F rfl hinX4 (by decide) q172 dX4_enlist_40 (fun x14 => ?_)
        refine V_gI (ci := 3) (k9 := 6) (C := RX2) (T := TX2) (N := 7) F rfl hinX2 (by decide) q132 dX4_enlist_43 (fun x15 => ?_)
        refine V_istore_n (lv' := [(2, .int x15), (0, .ref a0), (1, .int p1)]) F dX4_enlist_46 rfl (lt_L hNL (by decide)) rfl ?_
        refine V_aload_n F dX4_enlist_47 rfl 1 rfl ?_
        refine V_gR (ci := 5) (k9 := 0) (C := RX4) (T := TX4) (N := 10) F rfl hinX4 (by decide) q172 dX4_enlist_48 (fun x16 => ?_)
        refine V_gR (ci := 3) (k9 := 0) (C := RX2) (T := TX2) (N := 7) F rfl hinX2 (by decide) q113 dX4_enlist_51 (fun x17 => ?_)
        refine V_iload_n F dX4_enlist_54 rfl 0 rfl ?_
        refine V_iload_n F dX4_enlist_55 rfl 2 rfl ?_
        refine V_sI F dX4_enlist_56 (fun μ18 => ?_)
        refine V_aload_n F dX4_enlist_57 rfl 1 rfl ?_
        refine V_gR (ci := 5) (k9 := 0) (C := RX4) (T := TX4) (N := 10) F rfl hinX4 (by decide) q172 dX4_enlist_58 (fun x19 => ?_)
        refine V_gR (ci := 3) (k9 := 1) (C := RX2) (T := TX2) (N := 7) F rfl hinX2 (by decide) q116 dX4_enlist_61 (fun x20 => ?_)
        refine V_iload_n F dX4_enlist_64 rfl 0 rfl ?_
        refine V_bipush (v := 100) F dX4_enlist_65 (by decide) ?_
        refine V_sI F dX4_enlist_67 (fun μ21 => ?_)
        refine V_aload_n F dX4_enlist_68 rfl 1 rfl ?_
        refine V_gR (ci := 5) (k9 := 0) (C := RX4) (T := TX4) (N := 10) F rfl hinX4 (by decide) q172 dX4_enlist_69 (fun x22 => ?_)
        refine V_gR (ci := 3) (k9 := 3) (C := RX2) (T := TX2) (N := 7) F rfl hinX2 (by decide) q122 dX4_enlist_72 (fun x23 => ?_)
        refine V_iload_n F dX4_enlist_75 rfl 0 rfl ?_
        refine V_iconst (v := 0) F dX4_enlist_76 (by decide) ?_
        refine V_sI F dX4_enlist_77 (fun μ24 => ?_)
        refine V_aload_n F dX4_enlist_78 rfl 1 rfl ?_
        refine V_gR (ci := 5) (k9 := 0) (C := RX4) (T := TX4) (N := 10) F rfl hinX4 (by decide) q172 dX4_enlist_79 (fun x25 => ?_)
        refine V_iload_n F dX4_enlist_82 rfl 0 rfl ?_
        refine V_cV (As := [.int x15]) (rest := []) (C := RX2) (N := 1) F M (metX2_ground (Fx_G F) (Fx_l F) x25 x15 μ24) rfl q541 q68 q538 q539 q540 ⟨by decide +kernel, by decide +kernel, by decide +kernel⟩ rfl ⟨by decide, by decide⟩ (Nat.le_of_ble_eq_true rfl) dX4_enlist_83 (by decide) (by decide) (fun x27 μ26 => ?_)
        change V κ ρ 0 0 μ26 _ 86 [(2, .int x15), (0, .ref a0), (1, .int p1)] []
        refine V_aload_n F dX4_enlist_86 rfl 1 rfl ?_
        refine V_gR (ci := 5) (k9 := 0) (C := RX4) (T := TX4) (N := 10) F rfl hinX4 (by decide) q172 dX4_enlist_87 (fun x28 => ?_)
        refine V_dup F dX4_enlist_90 rfl ?_
        refine V_gI (ci := 3) (k9 := 6) (C := RX2) (T := TX2) (N := 7) F rfl hinX2 (by decide) q132 dX4_enlist_91 (fun x29 => ?_)
        refine V_iconst (v := 1) F dX4_enlist_94 (by decide) ?_
        refine V_iadd F dX4_enlist_95 ?_
        refine V_pf (ci := 3) (k9 := 6) (C := RX2) (T := TX2) (N := 7) (ty := tyX2) F rfl hinX2 tyX2_ok nmX2 (by decide) q132 rfl rfl rfl dX4_enlist_96 (fun μ30 => ?_)
        refine V_iload_n F dX4_enlist_99 rfl 0 rfl ?_
        exact V_iret F M dX4_enlist_100 rfl (by decide) (by decide)
      · refine V_bipush (v := (-4)) F dX4_enlist_36 (by decide) ?_
        exact V_iret F M dX4_enlist_38 rfl (by decide) (by decide)
    · refine V_bipush (v := (-3)) F dX4_enlist_21 (by decide) ?_
      exact V_iret F M dX4_enlist_23 rfl (by decide) (by decide)
  · refine V_iconst (v := (-1)) F dX4_enlist_7 (by decide) ?_
    exact V_iret F M dX4_enlist_8 rfl (by decide) (by decide)
/-! DroneLightShow$Scene.markPad(I)I -/
abbrev rmX4_markPad : Room := { frames := 1, cells := 0, slots := 0, locals := 22 }
def FX4_markPad (a0 : Nat) (p1 : Int32) (μ : Me) : Rs Int32 :=
  (bnd (FX7_isCell p1 μ) (fun x2 μ1 => (if x2 = 0 then (rt (-1) μ1) else (gJ μ1 a0 5 3 (fun x5 => (bnd (FX7_contains x5 p1 μ1) (fun x7 μ6 => (if x7 = 0 then (gJ μ6 a0 5 3 (fun x10 => (bnd (FJ13_bitCount_95d88 x10 μ6) (fun x12 μ11 => (if x12 < 4 then (gJ μ11 a0 5 3 (fun x15 => (pf μ11 a0 5 3 (.long (x15 ||| (1 <<< ((p1 : Int32).toInt64 &&& 63)))) (fun μ16 => (gJ μ16 a0 5 3 (fun x17 => (bnd (FJ13_bitCount_95d88 x17 μ16) (fun x19 μ18 => (rt x19 μ18))))))))) else (rt (-3) μ11)))))) else (rt (-2) μ6)))))))))
set_option maxHeartbeats 4000000 in
set_option maxRecDepth 100000 in
theorem metX4_markPad {l : Launch} {s0 : State} {D : va_G} {aC : Nat → ClassId} (hG : Gl s0 D aC) (hl : l.stackTraces = false) (a0 : Nat) (p1 : Int32) (μ : Me) : Ct l yX4_markPad (ws_ yX4_markPad cX4_markPad 2 (some .int)) rmX4_markPad s0 D aC (fun r : Int32 => some (.int r)) [.ref a0, .int p1] μ (FX4_markPad a0 p1 μ) := by
  refine Ct_of hG hl (by decide +kernel) (Nat.le_of_ble_eq_true rfl) (fun κ ρ hNL F M hκ => ?_)
  have F : Fx κ cX4_markPad RX4 := F
  change V κ ρ 0 0 μ (FX4_markPad a0 p1 μ) 0 [(0, .ref a0), (1, .int p1)] []
  unfold FX4_markPad
  refine V_iload_n F dX4_markPad_0 rfl 1 rfl ?_
  refine V_cSN (As := [.int p1]) (rest := []) (N := 1) F M (metX7_isCell (Fx_G F) (Fx_l F) p1 μ) q537 q66 q535 q536 ⟨by decide +kernel, by decide +kernel, by decide +kernel⟩ rfl ⟨by decide, by decide⟩ (Nat.le_of_ble_eq_true rfl) dX4_markPad_1 (by decide) (by decide) (fun x2 μ1 => ?_)
  change V κ ρ 0 0 μ1 _ 4 [(0, .ref a0), (1, .int p1)] [.int x2]
  refine V_if_ne (tgt := 9) F dX4_markPad_4 (by decide) (fun c3 => ?_) (fun c4 => ?_)
  · refine V_aload_n F dX4_markPad_9 rfl 0 rfl ?_
    refine V_gJ (ci := 5) (k9 := 3) (C := RX4) (T := TX4) (N := 10) F rfl hinX4 (by decide) q178 dX4_markPad_10 (fun x5 => ?_)
    refine V_iload_n F dX4_markPad_13 rfl 1 rfl ?_
    refine V_cSN (As := [.long x5, .int p1]) (rest := []) (N := 2) F M (metX7_contains (Fx_G F) (Fx_l F) x5 p1 μ1) q398 q66 q396 q397 ⟨by decide +kernel, by decide +kernel, by decide +kernel⟩ rfl ⟨by decide, by decide⟩ (Nat.le_of_ble_eq_true rfl) dX4_markPad_14 (by decide) (by decide) (fun x7 μ6 => ?_)
    change V κ ρ 0 0 μ6 _ 17 [(0, .ref a0), (1, .int p1)] [.int x7]
    refine V_if_eq (tgt := 23) F dX4_markPad_17 (by decide) (fun c8 => ?_) (fun c9 => ?_)
    · refine V_aload_n F dX4_markPad_23 rfl 0 rfl ?_
      refine V_gJ (ci := 5) (k9 := 3) (C := RX4) (T := TX4) (N := 10) F rfl hinX4 (by decide) q178 dX4_markPad_24 (fun x10 => ?_)
      refine V_cS (As := [.long x10]) (rest := []) (N := 1) F M (metJ13_bitCount_95d88 (Fx_G F) (Fx_l F) x10 μ6) q371 q83 q387 q370 ⟨by decide +kernel, by decide +kernel, by decide +kernel⟩ rfl ⟨by decide, by decide⟩ (Nat.le_of_ble_eq_true rfl) dX4_markPad_27 (by decide) (by decide) (fun x12 μ11 => ?_)
      change V κ ρ 0 0 μ11 _ 30 [(0, .ref a0), (1, .int p1)] [.int x12]
      refine V_iconst (v := 4) F dX4_markPad_30 (by decide) ?_
      refine V_icmp_lt (tgt := 37) F dX4_markPad_31 (by decide) (fun c13 => ?_) (fun c14 => ?_)
      · refine V_aload_n F dX4_markPad_37 rfl 0 rfl ?_
        refine V_dup F dX4_markPad_38 rfl ?_
        refine V_gJ (ci := 5) (k9 := 3) (C := RX4) (T := TX4) (N := 10) F rfl hinX4 (by decide) q178 dX4_markPad_39 (fun x15 => ?_)
        refine V_lconst (v := 1) F dX4_markPad_42 (by decide) ?_
        refine V_iload_n F dX4_markPad_43 rfl 1 rfl ?_
        refine V_lshl F dX4_markPad_44 ?_
        refine V_lor F dX4_markPad_45 ?_
        refine V_pf (ci := 5) (k9 := 3) (C := RX4) (T := TX4) (N := 10) (ty := tyX4) F rfl hinX4 tyX4_ok nmX4 (by decide) q178 rfl rfl rfl dX4_markPad_46 (fun μ16 => ?_)
        refine V_aload_n F dX4_markPad_49 rfl 0 rfl ?_
        refine V_gJ (ci := 5) (k9 := 3) (C := RX4) (T := TX4) (N := 10) F rfl hinX4 (by decide) q178 dX4_markPad_50 (fun x17 => ?_)
        refine V_cS (As := [.long x17]) (rest := []) (N := 1) F M (metJ13_bitCount_95d88 (Fx_G F) (Fx_l F) x17 μ16) q371 q83 q387 q370 ⟨by decide +kernel, by decide +kernel, by decide +kernel⟩ rfl ⟨by decide, by decide⟩ (Nat.le_of_ble_eq_true rfl) dX4_markPad_53 (by decide) (by decide) (fun x19 μ18 => ?_)
        change V κ ρ 0 0 μ18 _ 56 [(0, .ref a0), (1, .int p1)] [.int x19]
        exact V_iret F M dX4_markPad_56 rfl (by decide) (by decide)
      · refine V_bipush (v := (-3)) F dX4_markPad_34 (by decide) ?_
        exact V_iret F M dX4_markPad_36 rfl (by decide) (by decide)
    · refine V_bipush (v := (-2)) F dX4_markPad_20 (by decide) ?_
      exact V_iret F M dX4_markPad_22 rfl (by decide) (by decide)
  · refine V_iconst (v := (-1)) F dX4_markPad_7 (by decide) ?_
    exact V_iret F M dX4_markPad_8 rfl (by decide) (by decide)
/-! DroneLightShow$Scene.setDown(I)I -/
abbrev rmX4_setDown : Room := { frames := 1, cells := 0, slots := 0, locals := 22 }
def FX4_setDown (a0 : Nat) (p1 : Int32) (μ : Me) : Rs Int32 :=
  (gR μ a0 5 0 (fun x1 => (bnd (vc μ x1 3 (FX2_has x1 p1 μ)) (fun x3 μ2 => (if x3 = 0 then (rt (-1) μ2) else (gR μ2 a0 5 0 (fun x6 => (gR μ2 x6 3 4 (fun x7 => (aZ μ2 x7 p1 (fun x8 => (if x8 = 0 then (rt (-3) μ2) else (gJ μ2 a0 5 3 (fun x11 => (gR μ2 a0 5 0 (fun x12 => (gR μ2 x12 3 0 (fun x13 => (aI μ2 x13 p1 (fun x14 => (bnd (FX7_contains x11 x14 μ2) (fun x16 μ15 => (if x16 = 0 then (rt (-4) μ15) else (gR μ15 a0 5 0 (fun x19 => (bnd (vc μ15 x19 3 (FX2_ground x19 p1 μ15)) (fun x21 μ20 => (gR μ20 a0 5 0 (fun x22 => (bnd (vc μ20 x22 3 (FX2_flyingCount x22  μ20)) (fun x24 μ23 => (rt x24 μ23))))))))))))))))))))))))))))))))
set_option maxHeartbeats 4000000 in
set_option maxRecDepth 100000 in
theorem metX4_setDown {l : Launch} {s0 : State} {D : va_G} {aC : Nat → ClassId} (hG : Gl s0 D aC) (hl : l.stackTraces = false) (a0 : Nat) (p1 : Int32) (μ : Me) : Ct l yX4_setDown (ws_ yX4_setDown cX4_setDown 2 (some .int)) rmX4_setDown s0 D aC (fun r : Int32 => some (.int r)) [.ref a0, .int p1] μ (FX4_setDown a0 p1 μ) := by
  refine Ct_of hG hl (by decide +kernel) (Nat.le_of_ble_eq_true rfl) (fun κ ρ hNL F M hκ => ?_)
  have F : Fx κ cX4_setDown RX4 := F
  change V κ ρ 0 0 μ (FX4_setDown a0 p1 μ) 0 [(0, .ref a0), (1, .int p1)] []
  unfold FX4_setDown
  refine V_aload_n F dX4_setDown_0 rfl 0 rfl ?_
  refine V_gR (ci := 5) (k9 := 0) (C := RX4) (T := TX4) (N := 10) F rfl hinX4 (by decide) q172 dX4_setDown_1 (fun x1 => ?_)
  refine V_iload_n F dX4_setDown_4 rfl 1 rfl ?_
  refine V_cV (As := [.int p1]) (rest := []) (C := RX2) (N := 1) F M (metX2_has (Fx_G F) (Fx_l F) x1 p1 μ) rfl q641 q68 q638 q639 q640 ⟨by decide +kernel, by decide +kernel, by decide +kernel⟩ rfl ⟨by decide, by decide⟩ (Nat.le_of_ble_eq_true rfl) dX4_setDown_5 (by decide) (by decide) (fun x3 μ2 => ?_)
  change V κ ρ 0 0 μ2 _ 8 [(0, .ref a0), (1, .int p1)] [.int x3]
  refine V_if_ne (tgt := 13) F dX4_setDown_8 (by decide) (fun c4 => ?_) (fun c5 => ?_)
  · refine V_aload_n F dX4_setDown_13 rfl 0 rfl ?_
    refine V_gR (ci := 5) (k9 := 0) (C := RX4) (T := TX4) (N := 10) F rfl hinX4 (by decide) q172 dX4_setDown_14 (fun x6 => ?_)
    refine V_gR (ci := 3) (k9 := 4) (C := RX2) (T := TX2) (N := 7) F rfl hinX2 (by decide) q126 dX4_setDown_17 (fun x7 => ?_)
    refine V_iload_n F dX4_setDown_20 rfl 1 rfl ?_
    refine V_aZ F dX4_setDown_21 (fun x8 => ?_)
    refine V_if_ne (tgt := 28) F dX4_setDown_22 (by decide) (fun c9 => ?_) (fun c10 => ?_)
    · refine V_aload_n F dX4_setDown_28 rfl 0 rfl ?_
      refine V_gJ (ci := 5) (k9 := 3) (C := RX4) (T := TX4) (N := 10) F rfl hinX4 (by decide) q178 dX4_setDown_29 (fun x11 => ?_)
      refine V_aload_n F dX4_setDown_32 rfl 0 rfl ?_
      refine V_gR (ci := 5) (k9 := 0) (C := RX4) (T := TX4) (N := 10) F rfl hinX4 (by decide) q172 dX4_setDown_33 (fun x12 => ?_)
      refine V_gR (ci := 3) (k9 := 0) (C := RX2) (T := TX2) (N := 7) F rfl hinX2 (by decide) q113 dX4_setDown_36 (fun x13 => ?_)
      refine V_iload_n F dX4_setDown_39 rfl 1 rfl ?_
      refine V_aI F dX4_setDown_40 (fun x14 => ?_)
      refine V_cSN (As := [.long x11, .int x14]) (rest := []) (N := 2) F M (metX7_contains (Fx_G F) (Fx_l F) x11 x14 μ2) q398 q66 q396 q397 ⟨by decide +kernel, by decide +kernel, by decide +kernel⟩ rfl ⟨by decide, by decide⟩ (Nat.le_of_ble_eq_true rfl) dX4_setDown_41 (by decide) (by decide) (fun x16 μ15 => ?_)
      change V κ ρ 0 0 μ15 _ 44 [(0, .ref a0), (1, .int p1)] [.int x16]
      refine V_if_ne (tgt := 50) F dX4_setDown_44 (by decide) (fun c17 => ?_) (fun c18 => ?_)
      · refine V_aload_n F dX4_setDown_50 rfl 0 rfl ?_
        refine V_gR (ci := 5) (k9 := 0) (C := RX4) (T := TX4) (N := 10) F rfl hinX4 (by decide) q172 dX4_setDown_51 (fun x19 => ?_)
        refine V_iload_n F dX4_setDown_54 rfl 1 rfl ?_
        refine V_cV (As := [.int p1]) (rest := []) (C := RX2) (N := 1) F M (metX2_ground (Fx_G F) (Fx_l F) x19 p1 μ15) rfl q541 q68 q538 q539 q540 ⟨by decide +kernel, by decide +kernel, by decide +kernel⟩ rfl ⟨by decide, by decide⟩ (Nat.le_of_ble_eq_true rfl) dX4_setDown_55 (by decide) (by decide) (fun x21 μ20 => ?_)
        change V κ ρ 0 0 μ20 _ 58 [(0, .ref a0), (1, .int p1)] []
        refine V_aload_n F dX4_setDown_58 rfl 0 rfl ?_
        refine V_gR (ci := 5) (k9 := 0) (C := RX4) (T := TX4) (N := 10) F rfl hinX4 (by decide) q172 dX4_setDown_59 (fun x22 => ?_)
        refine V_cV (As := []) (rest := []) (C := RX2) (N := 0) F M (metX2_flyingCount (Fx_G F) (Fx_l F) x22  μ20) rfl q645 q68 q642 q643 q644 ⟨by decide +kernel, by decide +kernel, by decide +kernel⟩ rfl ⟨by decide, by decide⟩ (Nat.le_of_ble_eq_true rfl) dX4_setDown_62 (by decide) (by decide) (fun x24 μ23 => ?_)
        change V κ ρ 0 0 μ23 _ 65 [(0, .ref a0), (1, .int p1)] [.int x24]
        exact V_iret F M dX4_setDown_65 rfl (by decide) (by decide)
      · refine V_bipush (v := (-4)) F dX4_setDown_47 (by decide) ?_
        exact V_iret F M dX4_setDown_49 rfl (by decide) (by decide)
    · refine V_bipush (v := (-3)) F dX4_setDown_25 (by decide) ?_
      exact V_iret F M dX4_setDown_27 rfl (by decide) (by decide)
  · refine V_iconst (v := (-1)) F dX4_setDown_11 (by decide) ?_
    exact V_iret F M dX4_setDown_12 rfl (by decide) (by decide)
/-! DroneLightShow$Scene.aim(II)I -/
abbrev rmX4_aim : Room := { frames := 2, cells := 0, slots := 0, locals := 46 }
def FX4_aim (a0 : Nat) (p1 : Int32) (p2 : Int32) (μ : Me) : Rs Int32 :=
  (gR μ a0 5 0 (fun x1 => (bnd (vc μ x1 3 (FX2_has x1 p1 μ)) (fun x3 μ2 => (if x3 = 0 then (rt (-1) μ2) else (bnd (FX7_isCell p2 μ2) (fun x7 μ6 => (if x7 = 0 then (rt (-1) μ6) else (gR μ6 a0 5 0 (fun x10 => (gR μ6 x10 3 4 (fun x11 => (aZ μ6 x11 p1 (fun x12 => (if x12 = 0 then (rt (-3) μ6) else (gR μ6 a0 5 0 (fun x15 => (gR μ6 x15 3 5 (fun x16 => (aZ μ6 x16 p1 (fun x17 => (if x17 = 0 then (gR μ6 a0 5 0 (fun x20 => (gR μ6 x20 3 2 (fun x21 => (sI μ6 x21 p1 p2 (fun μ22 => (gR μ22 a0 5 0 (fun x23 => (gR μ22 x23 3 0 (fun x24 => (aI μ22 x24 p1 (fun x25 => (bnd (FX7_distance x25 p2 μ22) (fun x27 μ26 => (rt x27 μ26))))))))))))))) else (rt (-3) μ6)))))))))))))))))))))))
set_option maxHeartbeats 4000000 in
set_option maxRecDepth 100000 in
theorem metX4_aim {l : Launch} {s0 : State} {D : va_G} {aC : Nat → ClassId} (hG : Gl s0 D aC) (hl : l.stackTraces = false) (a0 : Nat) (p1 : Int32) (p2 : Int32) (μ : Me) : Ct l yX4_aim (ws_ yX4_aim cX4_aim 3 (some .int)) rmX4_aim s0 D aC (fun r : Int32 => some (.int r)) [.ref a0, .int p1, .int p2] μ (FX4_aim a0 p1 p2 μ) := by
  refine Ct_of hG hl (by decide +kernel) (Nat.le_of_ble_eq_true rfl) (fun κ ρ hNL F M hκ => ?_)
  have F : Fx κ cX4_aim RX4 := F
  change V κ ρ 0 0 μ (FX4_aim a0 p1 p2 μ) 0 [(0, .ref a0), (1, .int p1), (2, .int p2)] []
  unfold FX4_aim
  refine V_aload_n F dX4_aim_0 rfl 0 rfl ?_
  refine V_gR (ci := 5) (k9 := 0) (C := RX4) (T := TX4) (N := 10) F rfl hinX4 (by decide) q172 dX4_aim_1 (fun x1 => ?_)
  refine V_iload_n F dX4_aim_4 rfl 1 rfl ?_
  refine V_cV (As := [.int p1]) (rest := []) (C := RX2) (N := 1) F M (metX2_has (Fx_G F) (Fx_l F) x1 p1 μ) rfl q641 q68 q638 q639 q640 ⟨by decide +kernel, by decide +kernel, by decide +kernel⟩ rfl ⟨by decide, by decide⟩ (Nat.le_of_ble_eq_true rfl) dX4_aim_5 (by decide) (by decide) (fun x3 μ2 => ?_)
  change V κ ρ 0 0 μ2 _ 8 [(0, .ref a0), (1, .int p1), (2, .int p2)] [.int x3]
  refine V_if_eq (tgt := 18) F dX4_aim_8 (by decide) (fun c4 => ?_) (fun c5 => ?_)
  · refine V_iconst (v := (-1)) F dX4_aim_18 (by decide) ?_
    exact V_iret F M dX4_aim_19 rfl (by decide) (by decide)
  · refine V_iload_n F dX4_aim_11 rfl 2 rfl ?_
    refine V_cSN (As := [.int p2]) (rest := []) (N := 1) F M (metX7_isCell (Fx_G F) (Fx_l F) p2 μ2) q537 q66 q535 q536 ⟨by decide +kernel, by decide +kernel, by decide +kernel⟩ rfl ⟨by decide, by decide⟩ (Nat.le_of_ble_eq_true rfl) dX4_aim_12 (by decide) (by decide) (fun x7 μ6 => ?_)
    change V κ ρ 0 0 μ6 _ 15 [(0, .ref a0), (1, .int p1), (2, .int p2)] [.int x7]
    refine V_if_ne (tgt := 20) F dX4_aim_15 (by decide) (fun c8 => ?_) (fun c9 => ?_)
    · refine V_aload_n F dX4_aim_20 rfl 0 rfl ?_
      refine V_gR (ci := 5) (k9 := 0) (C := RX4) (T := TX4) (N := 10) F rfl hinX4 (by decide) q172 dX4_aim_21 (fun x10 => ?_)
      refine V_gR (ci := 3) (k9 := 4) (C := RX2) (T := TX2) (N := 7) F rfl hinX2 (by decide) q126 dX4_aim_24 (fun x11 => ?_)
      refine V_iload_n F dX4_aim_27 rfl 1 rfl ?_
      refine V_aZ F dX4_aim_28 (fun x12 => ?_)
      refine V_if_eq (tgt := 44) F dX4_aim_29 (by decide) (fun c13 => ?_) (fun c14 => ?_)
      · refine V_bipush (v := (-3)) F dX4_aim_44 (by decide) ?_
        exact V_iret F M dX4_aim_46 rfl (by decide) (by decide)
      · refine V_aload_n F dX4_aim_32 rfl 0 rfl ?_
        refine V_gR (ci := 5) (k9 := 0) (C := RX4) (T := TX4) (N := 10) F rfl hinX4 (by decide) q172 dX4_aim_33 (fun x15 => ?_)
        refine V_gR (ci := 3) (k9 := 5) (C := RX2) (T := TX2) (N := 7) F rfl hinX2 (by decide) q129 dX4_aim_36 (fun x16 => ?_)
        refine V_iload_n F dX4_aim_39 rfl 1 rfl ?_
        refine V_aZ F dX4_aim_40 (fun x17 => ?_)
        refine V_if_eq (tgt := 47) F dX4_aim_41 (by decide) (fun c18 => ?_) (fun c19 => ?_)
        · refine V_aload_n F dX4_aim_47 rfl 0 rfl ?_
          refine V_gR (ci := 5) (k9 := 0) (C := RX4) (T := TX4) (N := 10) F rfl hinX4 (by decide) q172 dX4_aim_48 (fun x20 => ?_)
          refine V_gR (ci := 3) (k9 := 2) (C := RX2) (T := TX2) (N := 7) F rfl hinX2 (by decide) q119 dX4_aim_51 (fun x21 => ?_)
          refine V_iload_n F dX4_aim_54 rfl 1 rfl ?_
          refine V_iload_n F dX4_aim_55 rfl 2 rfl ?_
          refine V_sI F dX4_aim_56 (fun μ22 => ?_)
          refine V_aload_n F dX4_aim_57 rfl 0 rfl ?_
          refine V_gR (ci := 5) (k9 := 0) (C := RX4) (T := TX4) (N := 10) F rfl hinX4 (by decide) q172 dX4_aim_58 (fun x23 => ?_)
          refine V_gR (ci := 3) (k9 := 0) (C := RX2) (T := TX2) (N := 7) F rfl hinX2 (by decide) q113 dX4_aim_61 (fun x24 => ?_)
          refine V_iload_n F dX4_aim_64 rfl 1 rfl ?_
          refine V_aI F dX4_aim_65 (fun x25 => ?_)
          refine V_iload_n F dX4_aim_66 rfl 2 rfl ?_
          refine V_cSN (As := [.int x25, .int p2]) (rest := []) (N := 2) F M (metX7_distance (Fx_G F) (Fx_l F) x25 p2 μ22) q409 q66 q407 q408 ⟨by decide +kernel, by decide +kernel, by decide +kernel⟩ rfl ⟨by decide, by decide⟩ (Nat.le_of_ble_eq_true rfl) dX4_aim_67 (by decide) (by decide) (fun x27 μ26 => ?_)
          change V κ ρ 0 0 μ26 _ 70 [(0, .ref a0), (1, .int p1), (2, .int p2)] [.int x27]
          exact V_iret F M dX4_aim_70 rfl (by decide) (by decide)
        · refine V_bipush (v := (-3)) F dX4_aim_44 (by decide) ?_
          exact V_iret F M dX4_aim_46 rfl (by decide) (by decide)
    · refine V_iconst (v := (-1)) F dX4_aim_18 (by decide) ?_
      exact V_iret F M dX4_aim_19 rfl (by decide) (by decide)
/-! DroneLightShow$Scene.extend(II)I -/
abbrev rmX4_extend : Room := { frames := 1, cells := 0, slots := 0, locals := 22 }
def FX4_extend (a0 : Nat) (p1 : Int32) (p2 : Int32) (μ : Me) : Rs Int32 :=
  (bnd (FX7_isFormation p1 μ) (fun x2 μ1 => (if x2 = 0 then (rt (-1) μ1) else (bnd (FX7_isCell p2 μ1) (fun x6 μ5 => (if x6 = 0 then (rt (-1) μ5) else (gR μ5 a0 5 2 (fun x9 => (aJ μ5 x9 p1 (fun x10 => (bnd (FX7_contains x10 p2 μ5) (fun x12 μ11 => (if x12 = 0 then (gR μ11 a0 5 2 (fun x15 => (aJ μ11 x15 p1 (fun x16 => (bnd (FJ13_bitCount_95d88 x16 μ11) (fun x18 μ17 => (if x18 < 10 then (gR μ17 a0 5 2 (fun x21 => (aJ μ17 x21 p1 (fun x22 => (sJ μ17 x21 p1 (x22 ||| (1 <<< ((p2 : Int32).toInt64 &&& 63))) (fun μ23 => (gR μ23 a0 5 2 (fun x24 => (aJ μ23 x24 p1 (fun x25 => (bnd (FJ13_bitCount_95d88 x25 μ23) (fun x27 μ26 => (rt x27 μ26))))))))))))) else (rt (-3) μ17)))))))) else (rt (-2) μ11))))))))))))))
set_option maxHeartbeats 4000000 in
set_option maxRecDepth 100000 in
theorem metX4_extend {l : Launch} {s0 : State} {D : va_G} {aC : Nat → ClassId} (hG : Gl s0 D aC) (hl : l.stackTraces = false) (a0 : Nat) (p1 : Int32) (p2 : Int32) (μ : Me) : Ct l yX4_extend (ws_ yX4_extend cX4_extend 3 (some .int)) rmX4_extend s0 D aC (fun r : Int32 => some (.int r)) [.ref a0, .int p1, .int p2] μ (FX4_extend a0 p1 p2 μ) := by
  refine Ct_of hG hl (by decide +kernel) (Nat.le_of_ble_eq_true rfl) (fun κ ρ hNL F M hκ => ?_)
  have F : Fx κ cX4_extend RX4 := F
  change V κ ρ 0 0 μ (FX4_extend a0 p1 p2 μ) 0 [(0, .ref a0), (1, .int p1), (2, .int p2)] []
  unfold FX4_extend
  refine V_iload_n F dX4_extend_0 rfl 1 rfl ?_
  refine V_cSN (As := [.int p1]) (rest := []) (N := 1) F M (metX7_isFormation (Fx_G F) (Fx_l F) p1 μ) q795 q66 q793 q794 ⟨by decide +kernel, by decide +kernel, by decide +kernel⟩ rfl ⟨by decide, by decide⟩ (Nat.le_of_ble_eq_true rfl) dX4_extend_1 (by decide) (by decide) (fun x2 μ1 => ?_)
  change V κ ρ 0 0 μ1 _ 4 [(0, .ref a0), (1, .int p1), (2, .int p2)] [.int x2]
  refine V_if_eq (tgt := 14) F dX4_extend_4 (by decide) (fun c3 => ?_) (fun c4 => ?_)
  · refine V_iconst (v := (-1)) F dX4_extend_14 (by decide) ?_
    exact V_iret F M dX4_extend_15 rfl (by decide) (by decide)
  · refine V_iload_n F dX4_extend_7 rfl 2 rfl ?_
    refine V_cSN (As := [.int p2]) (rest := []) (N := 1) F M (metX7_isCell (Fx_G F) (Fx_l F) p2 μ1) q537 q66 q535 q536 ⟨by decide +kernel, by decide +kernel, by decide +kernel⟩ rfl ⟨by decide, by decide⟩ (Nat.le_of_ble_eq_true rfl) dX4_extend_8 (by decide) (by decide) (fun x6 μ5 => ?_)
    change V κ ρ 0 0 μ5 _ 11 [(0, .ref a0), (1, .int p1), (2, .int p2)] [.int x6]
    refine V_if_ne (tgt := 16) F dX4_extend_11 (by decide) (fun c7 => ?_) (fun c8 => ?_)
    · refine V_aload_n F dX4_extend_16 rfl 0 rfl ?_
      refine V_gR (ci := 5) (k9 := 2) (C := RX4) (T := TX4) (N := 10) F rfl hinX4 (by decide) q176 dX4_extend_17 (fun x9 => ?_)
      refine V_iload_n F dX4_extend_20 rfl 1 rfl ?_
      refine V_aJ F dX4_extend_21 (fun x10 => ?_)
      refine V_iload_n F dX4_extend_22 rfl 2 rfl ?_
      refine V_cSN (As := [.long x10, .int p2]) (rest := []) (N := 2) F M (metX7_contains (Fx_G F) (Fx_l F) x10 p2 μ5) q398 q66 q396 q397 ⟨by decide +kernel, by decide +kernel, by decide +kernel⟩ rfl ⟨by decide, by decide⟩ (Nat.le_of_ble_eq_true rfl) dX4_extend_23 (by decide) (by decide) (fun x12 μ11 => ?_)
      change V κ ρ 0 0 μ11 _ 26 [(0, .ref a0), (1, .int p1), (2, .int p2)] [.int x12]
      refine V_if_eq (tgt := 32) F dX4_extend_26 (by decide) (fun c13 => ?_) (fun c14 => ?_)
      · refine V_aload_n F dX4_extend_32 rfl 0 rfl ?_
        refine V_gR (ci := 5) (k9 := 2) (C := RX4) (T := TX4) (N := 10) F rfl hinX4 (by decide) q176 dX4_extend_33 (fun x15 => ?_)
        refine V_iload_n F dX4_extend_36 rfl 1 rfl ?_
        refine V_aJ F dX4_extend_37 (fun x16 => ?_)
        refine V_cS (As := [.long x16]) (rest := []) (N := 1) F M (metJ13_bitCount_95d88 (Fx_G F) (Fx_l F) x16 μ11) q371 q83 q387 q370 ⟨by decide +kernel, by decide +kernel, by decide +kernel⟩ rfl ⟨by decide, by decide⟩ (Nat.le_of_ble_eq_true rfl) dX4_extend_38 (by decide) (by decide) (fun x18 μ17 => ?_)
        change V κ ρ 0 0 μ17 _ 41 [(0, .ref a0), (1, .int p1), (2, .int p2)] [.int x18]
        refine V_bipush (v := 10) F dX4_extend_41 (by decide) ?_
        refine V_icmp_lt (tgt := 49) F dX4_extend_43 (by decide) (fun c19 => ?_) (fun c20 => ?_)
        · refine V_aload_n F dX4_extend_49 rfl 0 rfl ?_
          refine V_gR (ci := 5) (k9 := 2) (C := RX4) (T := TX4) (N := 10) F rfl hinX4 (by decide) q176 dX4_extend_50 (fun x21 => ?_)
          refine V_iload_n F dX4_extend_53 rfl 1 rfl ?_
          refine V_dup2 F dX4_extend_54 rfl rfl ?_
          refine V_aJ F dX4_extend_55 (fun x22 => ?_)
          refine V_lconst (v := 1) F dX4_extend_56 (by decide) ?_
          refine V_iload_n F dX4_extend_57 rfl 2 rfl ?_
          refine V_lshl F dX4_extend_58 ?_
          refine V_lor F dX4_extend_59 ?_
          refine V_sJ F dX4_extend_60 (fun μ23 => ?_)
          refine V_aload_n F dX4_extend_61 rfl 0 rfl ?_
          refine V_gR (ci := 5) (k9 := 2) (C := RX4) (T := TX4) (N := 10) F rfl hinX4 (by decide) q176 dX4_extend_62 (fun x24 => ?_)
          refine V_iload_n F dX4_extend_65 rfl 1 rfl ?_
          refine V_aJ F dX4_extend_66 (fun x25 => ?_)
          refine V_cS (As := [.long x25]) (rest := []) (N := 1) F M (metJ13_bitCount_95d88 (Fx_G F) (Fx_l F) x25 μ23) q371 q83 q387 q370 ⟨by decide +kernel, by decide +kernel, by decide +kernel⟩ rfl ⟨by decide, by decide⟩ (Nat.le_of_ble_eq_true rfl) dX4_extend_67 (by decide) (by decide) (fun x27 μ26 => ?_)
          change V κ ρ 0 0 μ26 _ 70 [(0, .ref a0), (1, .int p1), (2, .int p2)] [.int x27]
          exact V_iret F M dX4_extend_70 rfl (by decide) (by decide)
        · refine V_bipush (v := (-3)) F dX4_extend_46 (by decide) ?_
          exact V_iret F M dX4_extend_48 rfl (by decide) (by decide)
      · refine V_bipush (v := (-2)) F dX4_extend_29 (by decide) ?_
        exact V_iret F M dX4_extend_31 rfl (by decide) (by decide)
    · refine V_iconst (v := (-1)) F dX4_extend_14 (by decide) ?_
      exact V_iret F M dX4_extend_15 rfl (by decide) (by decide)
/-! DroneLightShow$Scene.empty(I)I -/
abbrev rmX4_empty : Room := { frames := 1, cells := 0, slots := 0, locals := 21 }
def FX4_empty (a0 : Nat) (p1 : Int32) (μ : Me) : Rs Int32 :=
  (bnd (FX7_isFormation p1 μ) (fun x2 μ1 => (if x2 = 0 then (rt (-1) μ1) else (gR μ1 a0 5 2 (fun x5 => (aJ μ1 x5 p1 (fun x6 => (bnd (FJ13_bitCount_95d88 x6 μ1) (fun x8 μ7 => (gR μ7 a0 5 2 (fun x9 => (sJ μ7 x9 p1 0 (fun μ10 => (rt x8 μ10))))))))))))))
set_option maxHeartbeats 4000000 in
set_option maxRecDepth 100000 in
theorem metX4_empty {l : Launch} {s0 : State} {D : va_G} {aC : Nat → ClassId} (hG : Gl s0 D aC) (hl : l.stackTraces = false) (a0 : Nat) (p1 : Int32) (μ : Me) : Ct l yX4_empty (ws_ yX4_empty cX4_empty 3 (some .int)) rmX4_empty s0 D aC (fun r : Int32 => some (.int r)) [.ref a0, .int p1] μ (FX4_empty a0 p1 μ) := by
  refine Ct_of hG hl (by decide +kernel) (Nat.le_of_ble_eq_true rfl) (fun κ ρ hNL F M hκ => ?_)
  have F : Fx κ cX4_empty RX4 := F
  change V κ ρ 0 0 μ (FX4_empty a0 p1 μ) 0 [(0, .ref a0), (1, .int p1)] []
  unfold FX4_empty
  refine V_iload_n F dX4_empty_0 rfl 1 rfl ?_
  refine V_cSN (As := [.int p1]) (rest := []) (N := 1) F M (metX7_isFormation (Fx_G F) (Fx_l F) p1 μ) q795 q66 q793 q794 ⟨by decide +kernel, by decide +kernel, by decide +kernel⟩ rfl ⟨by decide, by decide⟩ (Nat.le_of_ble_eq_true rfl) dX4_empty_1 (by decide) (by decide) (fun x2 μ1 => ?_)
  change V κ ρ 0 0 μ1 _ 4 [(0, .ref a0), (1, .int p1)] [.int x2]
  refine V_if_ne (tgt := 9) F dX4_empty_4 (by decide) (fun c3 => ?_) (fun c4 => ?_)
  · refine V_aload_n F dX4_empty_9 rfl 0 rfl ?_
    refine V_gR (ci := 5) (k9 := 2) (C := RX4) (T := TX4) (N := 10) F rfl hinX4 (by decide) q176 dX4_empty_10 (fun x5 => ?_)
    refine V_iload_n F dX4_empty_13 rfl 1 rfl ?_
    refine V_aJ F dX4_empty_14 (fun x6 => ?_)
    refine V_cS (As := [.long x6]) (rest := []) (N := 1) F M (metJ13_bitCount_95d88 (Fx_G F) (Fx_l F) x6 μ1) q371 q83 q387 q370 ⟨by decide +kernel, by decide +kernel, by decide +kernel⟩ rfl ⟨by decide, by decide⟩ (Nat.le_of_ble_eq_true rfl) dX4_empty_15 (by decide) (by decide) (fun x8 μ7 => ?_)
    change V κ ρ 0 0 μ7 _ 18 [(0, .ref a0), (1, .int p1)] [.int x8]
    refine V_istore_n (lv' := [(2, .int x8), (0, .ref a0), (1, .int p1)]) F dX4_empty_18 rfl (lt_L hNL (by decide)) rfl ?_
    refine V_aload_n F dX4_empty_19 rfl 1 rfl ?_
    refine V_gR (ci := 5) (k9 := 2) (C := RX4) (T := TX4) (N := 10) F rfl hinX4 (by decide) q176 dX4_empty_20 (fun x9 => ?_)
    refine V_iload_n F dX4_empty_23 rfl 2 rfl ?_
    refine V_lconst (v := 0) F dX4_empty_24 (by decide) ?_
    refine V_sJ F dX4_empty_25 (fun μ10 => ?_)
    refine V_iload_n F dX4_empty_26 rfl 0 rfl ?_
    exact V_iret F M dX4_empty_27 rfl (by decide) (by decide)
  · refine V_iconst (v := (-1)) F dX4_empty_7 (by decide) ?_
    exact V_iret F M dX4_empty_8 rfl (by decide) (by decide)
/-! DroneLightShow$Scene.distribute(I)I -/
abbrev rmX4_distribute : Room := { frames := 3, cells := 0, slots := 0, locals := 69 }
def FX4_distribute_B65 (k34 : Nat → Int32 → Int32 → Int32 → Me → Rs Int32) (v0 : Nat) (v1 : Int32) (v2 : Int32) (v3 : Int32) (t0 : Int32) (μ : Me) : Rs Int32 :=
  (if t0 = (-1) then (k34 v0 v1 v2 (v3 + 1) μ) else (gR μ v0 5 0 (fun x22 => (gR μ x22 3 2 (fun x23 => (sI μ x23 t0 v3 (fun μ24 => (k34 v0 v1 (v2 + 1) (v3 + 1) μ24))))))))
set_option maxHeartbeats 4000000 in
set_option maxRecDepth 100000 in
theorem VX4_distribute_B65 {κ : Cx} {ρ : (Int32 ⊕ String) × Me} (F : Fx κ cX4_distribute RX4) (M : Mx κ (fun r : Int32 => some (.int r)) ρ rmX4_distribute (some .int) [] "distribute") (hNL : κ.2.2.2.2.2.2.2.2.2.2.2.2.2.2 = 5) {k34 : Nat → Int32 → Int32 → Int32 → Me → Rs Int32} (hk34 : ∀ (v0 : Nat) (v1 : Int32) (v2 : Int32) (v3 : Int32) (μ : Me), V κ ρ 0 0 μ (k34 v0 v1 v2 v3 μ) 34 [(0, .ref v0), (1, .int v1), (2, .int v2), (3, .int v3)] []) (v0 : Nat) (v1 : Int32) (v2 : Int32) (v3 : Int32) (t0 : Int32) (μ : Me) : V κ ρ 0 0 μ (FX4_distribute_B65 k34 v0 v1 v2 v3 t0 μ) 65 [(0, .ref v0), (1, .int v1), (2, .int v2), (3, .int v3)] [.int t0] := by
  unfold FX4_distribute_B65
  refine V_istore (lv' := [(4, .int t0), (0, .ref v0), (1, .int v1), (2, .int v2), (3, .int v3)]) F dX4_distribute_65 (lt_L hNL (by decide)) rfl ?_
  refine V_iload F dX4_distribute_67 0 rfl ?_
  refine V_iconst (v := (-1)) F dX4_distribute_69 (by decide) ?_
  refine V_icmp_eq (tgt := 87) F dX4_distribute_70 (by decide) (fun c20 => ?_) (fun c21 => ?_)
  · refine V_iinc (lv' := [(3, .int (v3 + 1)), (4, .int t0), (0, .ref v0), (1, .int v1), (2, .int v2)]) F dX4_distribute_87 4 rfl rfl (lt_L hNL (by decide)) rfl ?_
    refine V_goto (tgt := 34) F dX4_distribute_90 (by decide) ?_
    refine V_sub [2, 3, 4, 0] rfl ?_
    exact hk34 v0 v1 v2 (v3 + 1) μ
  · refine V_aload_n F dX4_distribute_73 rfl 1 rfl ?_
    refine V_gR (ci := 5) (k9 := 0) (C := RX4) (T := TX4) (N := 10) F rfl hinX4 (by decide) q172 dX4_distribute_74 (fun x22 => ?_)
    refine V_gR (ci := 3) (k9 := 2) (C := RX2) (T := TX2) (N := 7) F rfl hinX2 (by decide) q119 dX4_distribute_77 (fun x23 => ?_)
    refine V_iload F dX4_distribute_80 0 rfl ?_
    refine V_iload_n F dX4_distribute_82 rfl 4 rfl ?_
    refine V_sI F dX4_distribute_83 (fun μ24 => ?_)
    refine V_iinc (lv' := [(2, .int (v2 + 1)), (4, .int t0), (0, .ref v0), (1, .int v1), (3, .int v3)]) F dX4_distribute_84 3 rfl rfl (lt_L hNL (by decide)) rfl ?_
    refine V_iinc (lv' := [(3, .int (v3 + 1)), (2, .int (v2 + 1)), (4, .int t0), (0, .ref v0), (1, .int v1)]) F dX4_distribute_87 4 rfl rfl (lt_L hNL (by decide)) rfl ?_
    refine V_goto (tgt := 34) F dX4_distribute_90 (by decide) ?_
    refine V_sub [3, 4, 1, 0] rfl ?_
    exact hk34 v0 v1 (v2 + 1) (v3 + 1) μ24
def FX4_distribute_B34 (k34 : Nat → Int32 → Int32 → Int32 → Me → Rs Int32) (v0 : Nat) (v1 : Int32) (v2 : Int32) (v3 : Int32) (μ : Me) : Rs Int32 :=
  (if 64 ≤ v3 then (rt v2 μ) else (gR μ v0 5 2 (fun x14 => (aJ μ x14 v1 (fun x15 => (bnd (FX7_contains x15 v3 μ) (fun x17 μ16 => (if x17 = 0 then (FX4_distribute_B65 k34 v0 v1 v2 v3 (-1) μ16) else (gR μ16 v0 5 0 (fun x25 => (bnd (vc μ16 x25 3 (FX2_nearestIdle x25 v3 μ16)) (fun x27 μ26 => (FX4_distribute_B65 k34 v0 v1 v2 v3 x27 μ26)))))))))))))
set_option maxHeartbeats 4000000 in
set_option maxRecDepth 100000 in
theorem VX4_distribute_B34 {κ : Cx} {ρ : (Int32 ⊕ String) × Me} (F : Fx κ cX4_distribute RX4) (M : Mx κ (fun r : Int32 => some (.int r)) ρ rmX4_distribute (some .int) [] "distribute") (hNL : κ.2.2.2.2.2.2.2.2.2.2.2.2.2.2 = 5) {k34 : Nat → Int32 → Int32 → Int32 → Me → Rs Int32} (hk34 : ∀ (v0 : Nat) (v1 : Int32) (v2 : Int32) (v3 : Int32) (μ : Me), V κ ρ 0 0 μ (k34 v0 v1 v2 v3 μ) 34 [(0, .ref v0), (1, .int v1), (2, .int v2), (3, .int v3)] []) (v0 : Nat) (v1 : Int32) (v2 : Int32) (v3 : Int32) (μ : Me) : V κ ρ 0 0 μ (FX4_distribute_B34 k34 v0 v1 v2 v3 μ) 34 [(0, .ref v0), (1, .int v1), (2, .int v2), (3, .int v3)] [] := by
  unfold FX4_distribute_B34
  refine V_iload_n F dX4_distribute_34 rfl 3 rfl ?_
  refine V_bipush (v := 64) F dX4_distribute_35 (by decide) ?_
  refine V_icmp_ge (tgt := 93) F dX4_distribute_37 (by decide) (fun c12 => ?_) (fun c13 => ?_)
  · refine V_iload_n F dX4_distribute_93 rfl 2 rfl ?_
    exact V_iret F M dX4_distribute_94 rfl (by decide) (by decide)
  · refine V_aload_n F dX4_distribute_40 rfl 0 rfl ?_
    refine V_gR (ci := 5) (k9 := 2) (C := RX4) (T := TX4) (N := 10) F rfl hinX4 (by decide) q176 dX4_distribute_41 (fun x14 => ?_)
    refine V_iload_n F dX4_distribute_44 rfl 1 rfl ?_
    refine V_aJ F dX4_distribute_45 (fun x15 => ?_)
    refine V_iload_n F dX4_distribute_46 rfl 3 rfl ?_
    refine V_cSN (As := [.long x15, .int v3]) (rest := []) (N := 2) F M (metX7_contains (Fx_G F) (Fx_l F) x15 v3 μ) q398 q66 q396 q397 ⟨by decide +kernel, by decide +kernel, by decide +kernel⟩ rfl ⟨by decide, by decide⟩ (Nat.le_of_ble_eq_true rfl) dX4_distribute_47 (by decide) (by decide) (fun x17 μ16 => ?_)
    change V κ ρ 0 0 μ16 _ 50 [(0, .ref v0), (1, .int v1), (2, .int v2), (3, .int v3)] [.int x17]
    refine V_if_eq (tgt := 64) F dX4_distribute_50 (by decide) (fun c18 => ?_) (fun c19 => ?_)
    · refine V_iconst (v := (-1)) F dX4_distribute_64 (by decide) ?_
      refine V_sub [0, 1, 2, 3] rfl ?_
      exact VX4_distribute_B65 F M hNL hk34 v0 v1 v2 v3 (-1) μ16
    · refine V_aload_n F dX4_distribute_53 rfl 0 rfl ?_
      refine V_gR (ci := 5) (k9 := 0) (C := RX4) (T := TX4) (N := 10) F rfl hinX4 (by decide) q172 dX4_distribute_54 (fun x25 => ?_)
      refine V_iload_n F dX4_distribute_57 rfl 3 rfl ?_
      refine V_cV (As := [.int v3]) (rest := []) (C := RX2) (N := 1) F M (metX2_nearestIdle (Fx_G F) (Fx_l F) x25 v3 μ16) rfl q829 q68 q826 q827 q828 ⟨by decide +kernel, by decide +kernel, by decide +kernel⟩ rfl ⟨by decide, by decide⟩ (Nat.le_of_ble_eq_true rfl) dX4_distribute_58 (by decide) (by decide) (fun x27 μ26 => ?_)
      change V κ ρ 0 0 μ26 _ 61 [(0, .ref v0), (1, .int v1), (2, .int v2), (3, .int v3)] [.int x27]
      refine V_goto (tgt := 65) F dX4_distribute_61 (by decide) ?_
      refine V_sub [0, 1, 2, 3] rfl ?_
      exact VX4_distribute_B65 F M hNL hk34 v0 v1 v2 v3 x27 μ26
def FX4_distribute_L34  : Nat → Nat → Int32 → Int32 → Int32 → Me → Rs Int32
  | 0, _, _, _, _, _ => none
  | f + 1, v0, v1, v2, v3, μ => FX4_distribute_B34 (FX4_distribute_L34  f) v0 v1 v2 v3 μ
theorem VX4_distribute_L34 {κ : Cx} {ρ : (Int32 ⊕ String) × Me} (F : Fx κ cX4_distribute RX4) (M : Mx κ (fun r : Int32 => some (.int r)) ρ rmX4_distribute (some .int) [] "distribute") (hNL : κ.2.2.2.2.2.2.2.2.2.2.2.2.2.2 = 5)   : ∀ (f : Nat) (v0 : Nat) (v1 : Int32) (v2 : Int32) (v3 : Int32) (μ : Me), V κ ρ 0 0 μ (FX4_distribute_L34  f v0 v1 v2 v3 μ) 34 [(0, .ref v0), (1, .int v1), (2, .int v2), (3, .int v3)] [] := by
  intro f
  induction f with
  | zero => intros; exact V_none
  | succ f ih => intro v0 v1 v2 v3 μ; exact VX4_distribute_B34 F M hNL (fun v0 v1 v2 v3 μ => ih v0 v1 v2 v3 μ) v0 v1 v2 v3 μ
def FX4_distribute (a0 : Nat) (p1 : Int32) (μ : Me) : Rs Int32 :=
  (bnd (FX7_isFormation p1 μ) (fun x2 μ1 => (if x2 = 0 then (rt (-1) μ1) else (gR μ1 a0 5 2 (fun x5 => (aJ μ1 x5 p1 (fun x6 => (if (lg_cmp x6 0) = 0 then (rt (-3) μ1) else (gR μ1 a0 5 0 (fun x9 => (bnd (vc μ1 x9 3 (FX2_dropTargets x9  μ1)) (fun x11 μ10 => (FX4_distribute_L34  FU a0 p1 0 0 μ10)))))))))))))
set_option maxHeartbeats 4000000 in
set_option maxRecDepth 100000 in
theorem metX4_distribute {l : Launch} {s0 : State} {D : va_G} {aC : Nat → ClassId} (hG : Gl s0 D aC) (hl : l.stackTraces = false) (a0 : Nat) (p1 : Int32) (μ : Me) : Ct l yX4_distribute (ws_ yX4_distribute cX4_distribute 5 (some .int)) rmX4_distribute s0 D aC (fun r : Int32 => some (.int r)) [.ref a0, .int p1] μ (FX4_distribute a0 p1 μ) := by
  refine Ct_of hG hl (by decide +kernel) (Nat.le_of_ble_eq_true rfl) (fun κ ρ hNL F M hκ => ?_)
  have F : Fx κ cX4_distribute RX4 := F
  change V κ ρ 0 0 μ (FX4_distribute a0 p1 μ) 0 [(0, .ref a0), (1, .int p1)] []
  unfold FX4_distribute
  refine V_iload_n F dX4_distribute_0 rfl 1 rfl ?_
  refine V_cSN (As := [.int p1]) (rest := []) (N := 1) F M (metX7_isFormation (Fx_G F) (Fx_l F) p1 μ) q795 q66 q793 q794 ⟨by decide +kernel, by decide +kernel, by decide +kernel⟩ rfl ⟨by decide, by decide⟩ (Nat.le_of_ble_eq_true rfl) dX4_distribute_1 (by decide) (by decide) (fun x2 μ1 => ?_)
  change V κ ρ 0 0 μ1 _ 4 [(0, .ref a0), (1, .int p1)] [.int x2]
  refine V_if_ne (tgt := 9) F dX4_distribute_4 (by decide) (fun c3 => ?_) (fun c4 => ?_)
  · refine V_aload_n F dX4_distribute_9 rfl 0 rfl ?_
    refine V_gR (ci := 5) (k9 := 2) (C := RX4) (T := TX4) (N := 10) F rfl hinX4 (by decide) q176 dX4_distribute_10 (fun x5 => ?_)
    refine V_iload_n F dX4_distribute_13 rfl 1 rfl ?_
    refine V_aJ F dX4_distribute_14 (fun x6 => ?_)
    refine V_lconst (v := 0) F dX4_distribute_15 (by decide) ?_
    refine V_lcmp F dX4_distribute_16 ?_
    refine V_if_ne (tgt := 23) F dX4_distribute_17 (by decide) (fun c7 => ?_) (fun c8 => ?_)
    · refine V_aload_n F dX4_distribute_23 rfl 0 rfl ?_
      refine V_gR (ci := 5) (k9 := 0) (C := RX4) (T := TX4) (N := 10) F rfl hinX4 (by decide) q172 dX4_distribute_24 (fun x9 => ?_)
      refine V_cV (As := []) (rest := []) (C := RX2) (N := 0) F M (metX2_dropTargets (Fx_G F) (Fx_l F) x9  μ1) rfl q821 q68 q818 q819 q820 ⟨by decide +kernel, by decide +kernel, by decide +kernel⟩ rfl ⟨by decide, by decide⟩ (Nat.le_of_ble_eq_true rfl) dX4_distribute_27 (by decide) (by decide) (fun x11 μ10 => ?_)
      change V κ ρ 0 0 μ10 _ 30 [(0, .ref a0), (1, .int p1)] []
      refine V_iconst (v := 0) F dX4_distribute_30 (by decide) ?_
      refine V_istore_n (lv' := [(2, .int 0), (0, .ref a0), (1, .int p1)]) F dX4_distribute_31 rfl (lt_L hNL (by decide)) rfl ?_
      refine V_iconst (v := 0) F dX4_distribute_32 (by decide) ?_
      refine V_istore_n (lv' := [(3, .int 0), (2, .int 0), (0, .ref a0), (1, .int p1)]) F dX4_distribute_33 rfl (lt_L hNL (by decide)) rfl ?_
      refine V_sub [2, 3, 1, 0] rfl ?_
      exact VX4_distribute_L34 F M hNL  FU a0 p1 0 0 μ10
    · refine V_bipush (v := (-3)) F dX4_distribute_20 (by decide) ?_
      exact V_iret F M dX4_distribute_22 rfl (by decide) (by decide)
  · refine V_iconst (v := (-1)) F dX4_distribute_7 (by decide) ?_
    exact V_iret F M dX4_distribute_8 rfl (by decide) (by decide)
/-! DroneLightShow$Scene.moveDrones()V -/
abbrev rmX4_moveDrones : Room := { frames := 2, cells := 0, slots := 0, locals := 45 }
def FX4_moveDrones_B76 (k2 : Nat → Int32 → Me → Rs Unit) (v0 : Nat) (v1 : Int32) (v2 : Int32) (μ : Me) : Rs Unit :=
  (gR μ v0 5 0 (fun x10 => (gR μ x10 3 4 (fun x11 => (aZ μ x11 v1 (fun x12 => (if x12 = 0 then (k2 v0 (v1 + 1) μ) else (gR μ v0 5 0 (fun x15 => (gR μ x15 3 1 (fun x16 => (gR μ v0 5 0 (fun x17 => (gR μ x17 3 1 (fun x18 => (aI μ x18 v1 (fun x19 => (sI μ x16 v1 (if 0 < (x19 - v2) then (x19 - v2) else 0) (fun μ20 => (k2 v0 (v1 + 1) μ20))))))))))))))))))))
set_option maxHeartbeats 4000000 in
set_option maxRecDepth 100000 in
theorem VX4_moveDrones_B76 {κ : Cx} {ρ : (Unit ⊕ String) × Me} (F : Fx κ cX4_moveDrones RX4) (M : Mx κ (fun _ : Unit => none) ρ rmX4_moveDrones none [] "moveDrones") (hNL : κ.2.2.2.2.2.2.2.2.2.2.2.2.2.2 = 4) {k2 : Nat → Int32 → Me → Rs Unit} (hk2 : ∀ (v0 : Nat) (v1 : Int32) (μ : Me), V κ ρ 0 0 μ (k2 v0 v1 μ) 2 [(0, .ref v0), (1, .int v1)] []) (v0 : Nat) (v1 : Int32) (v2 : Int32) (μ : Me) : V κ ρ 0 0 μ (FX4_moveDrones_B76 k2 v0 v1 v2 μ) 76 [(0, .ref v0), (1, .int v1), (2, .int v2)] [] := by
  unfold FX4_moveDrones_B76
  refine V_aload_n F dX4_moveDrones_76 rfl 0 rfl ?_
  refine V_gR (ci := 5) (k9 := 0) (C := RX4) (T := TX4) (N := 10) F rfl hinX4 (by decide) q172 dX4_moveDrones_77 (fun x10 => ?_)
  refine V_gR (ci := 3) (k9 := 4) (C := RX2) (T := TX2) (N := 7) F rfl hinX2 (by decide) q126 dX4_moveDrones_80 (fun x11 => ?_)
  refine V_iload_n F dX4_moveDrones_83 rfl 1 rfl ?_
  refine V_aZ F dX4_moveDrones_84 (fun x12 => ?_)
  refine V_if_eq (tgt := 112) F dX4_moveDrones_85 (by decide) (fun c13 => ?_) (fun c14 => ?_)
  · refine V_iinc (lv' := [(1, .int (v1 + 1)), (0, .ref v0), (2, .int v2)]) F dX4_moveDrones_112 1 rfl rfl (lt_L hNL (by decide)) rfl ?_
    refine V_goto (tgt := 2) F dX4_moveDrones_115 (by decide) ?_
    refine V_sub [1, 0] rfl ?_
    exact hk2 v0 (v1 + 1) μ
  · refine V_aload_n F dX4_moveDrones_88 rfl 0 rfl ?_
    refine V_gR (ci := 5) (k9 := 0) (C := RX4) (T := TX4) (N := 10) F rfl hinX4 (by decide) q172 dX4_moveDrones_89 (fun x15 => ?_)
    refine V_gR (ci := 3) (k9 := 1) (C := RX2) (T := TX2) (N := 7) F rfl hinX2 (by decide) q116 dX4_moveDrones_92 (fun x16 => ?_)
    refine V_iload_n F dX4_moveDrones_95 rfl 1 rfl ?_
    refine V_iconst (v := 0) F dX4_moveDrones_96 (by decide) ?_
    refine V_aload_n F dX4_moveDrones_97 rfl 0 rfl ?_
    refine V_gR (ci := 5) (k9 := 0) (C := RX4) (T := TX4) (N := 10) F rfl hinX4 (by decide) q172 dX4_moveDrones_98 (fun x17 => ?_)
    refine V_gR (ci := 3) (k9 := 1) (C := RX2) (T := TX2) (N := 7) F rfl hinX2 (by decide) q116 dX4_moveDrones_101 (fun x18 => ?_)
    refine V_iload_n F dX4_moveDrones_104 rfl 1 rfl ?_
    refine V_aI F dX4_moveDrones_105 (fun x19 => ?_)
    refine V_iload_n F dX4_moveDrones_106 rfl 2 rfl ?_
    refine V_isub F dX4_moveDrones_107 ?_
    refine V_max F M q910 q911 q84 q912 dX4_moveDrones_108 (by decide) (Nat.le_of_ble_eq_true rfl) (by decide) (by decide) ?_
    refine V_sI F dX4_moveDrones_111 (fun μ20 => ?_)
    refine V_iinc (lv' := [(1, .int (v1 + 1)), (0, .ref v0), (2, .int v2)]) F dX4_moveDrones_112 1 rfl rfl (lt_L hNL (by decide)) rfl ?_
    refine V_goto (tgt := 2) F dX4_moveDrones_115 (by decide) ?_
    refine V_sub [1, 0] rfl ?_
    exact hk2 v0 (v1 + 1) μ20
def FX4_moveDrones_B2 (k2 : Nat → Int32 → Me → Rs Unit) (v0 : Nat) (v1 : Int32) (μ : Me) : Rs Unit :=
  (gR μ v0 5 0 (fun x1 => (gI μ x1 3 6 (fun x2 => (if x2 ≤ v1 then (rt () μ) else (gR μ v0 5 0 (fun x5 => (bnd (vc μ x5 3 (FX2_wish x5 v1 μ)) (fun x7 μ6 => (if x7 = (-1) then (FX4_moveDrones_B76 k2 v0 v1 1 μ6) else (gR μ6 v0 5 0 (fun x21 => (bnd (vc μ6 x21 3 (FX2_freeStep x21 v1 μ6)) (fun x23 μ22 => (if x23 = (-1) then (gI μ22 v0 5 7 (fun x31 => (pf μ22 v0 5 7 (.int (x31 + 1)) (fun μ32 => (FX4_moveDrones_B76 k2 v0 v1 1 μ32))))) else (gR μ22 v0 5 0 (fun x26 => (gR μ22 x26 3 0 (fun x27 => (sI μ22 x27 v1 x23 (fun μ28 => (gI μ28 v0 5 6 (fun x29 => (pf μ28 v0 5 6 (.int (x29 + 1)) (fun μ30 => (FX4_moveDrones_B76 k2 v0 v1 2 μ30))))))))))))))))))))))))))
set_option maxHeartbeats 4000000 in
set_option maxRecDepth 100000 in
theorem VX4_moveDrones_B2 {κ : Cx} {ρ : (Unit ⊕ String) × Me} (F : Fx κ cX4_moveDrones RX4) (M : Mx κ (fun _ : Unit => none) ρ rmX4_moveDrones none [] "moveDrones") (hNL : κ.2.2.2.2.2.2.2.2.2.2.2.2.2.2 = 4) {k2 : Nat → Int32 → Me → Rs Unit} (hk2 : ∀ (v0 : Nat) (v1 : Int32) (μ : Me), V κ ρ 0 0 μ (k2 v0 v1 μ) 2 [(0, .ref v0), (1, .int v1)] []) (v0 : Nat) (v1 : Int32) (μ : Me) : V κ ρ 0 0 μ (FX4_moveDrones_B2 k2 v0 v1 μ) 2 [(0, .ref v0), (1, .int v1)] [] := by
  unfold FX4_moveDrones_B2
  refine V_iload_n F dX4_moveDrones_2 rfl 1 rfl ?_
  refine V_aload_n F dX4_moveDrones_3 rfl 0 rfl ?_
  refine V_gR (ci := 5) (k9 := 0) (C := RX4) (T := TX4) (N := 10) F rfl hinX4 (by decide) q172 dX4_moveDrones_4 (fun x1 => ?_)
  refine V_gI (ci := 3) (k9 := 6) (C := RX2) (T := TX2) (N := 7) F rfl hinX2 (by decide) q132 dX4_moveDrones_7 (fun x2 => ?_)
  refine V_icmp_ge (tgt := 118) F dX4_moveDrones_10 (by decide) (fun c3 => ?_) (fun c4 => ?_)
  · exact V_vret F M dX4_moveDrones_118 rfl (by decide) (by decide)
  · refine V_iconst (v := 1) F dX4_moveDrones_13 (by decide) ?_
    refine V_istore_n (lv' := [(2, .int 1), (0, .ref v0), (1, .int v1)]) F dX4_moveDrones_14 rfl (lt_L hNL (by decide)) rfl ?_
    refine V_aload_n F dX4_moveDrones_15 rfl 1 rfl ?_
    refine V_gR (ci := 5) (k9 := 0) (C := RX4) (T := TX4) (N := 10) F rfl hinX4 (by decide) q172 dX4_moveDrones_16 (fun x5 => ?_)
    refine V_iload_n F dX4_moveDrones_19 rfl 2 rfl ?_
    refine V_cV (As := [.int v1]) (rest := []) (C := RX2) (N := 1) F M (metX2_wish (Fx_G F) (Fx_l F) x5 v1 μ) rfl q329 q68 q904 q327 q328 ⟨by decide +kernel, by decide +kernel, by decide +kernel⟩ rfl ⟨by decide, by decide⟩ (Nat.le_of_ble_eq_true rfl) dX4_moveDrones_20 (by decide) (by decide) (fun x7 μ6 => ?_)
    change V κ ρ 0 0 μ6 _ 23 [(2, .int 1), (0, .ref v0), (1, .int v1)] [.int x7]
    refine V_iconst (v := (-1)) F dX4_moveDrones_23 (by decide) ?_
    refine V_icmp_eq (tgt := 76) F dX4_moveDrones_24 (by decide) (fun c8 => ?_) (fun c9 => ?_)
    · refine V_sub [1, 2, 0] rfl ?_
      exact VX4_moveDrones_B76 F M hNL hk2 v0 v1 1 μ6
    · refine V_aload_n F dX4_moveDrones_27 rfl 1 rfl ?_
      refine V_gR (ci := 5) (k9 := 0) (C := RX4) (T := TX4) (N := 10) F rfl hinX4 (by decide) q172 dX4_moveDrones_28 (fun x21 => ?_)
      refine V_iload_n F dX4_moveDrones_31 rfl 2 rfl ?_
      refine V_cV (As := [.int v1]) (rest := []) (C := RX2) (N := 1) F M (metX2_freeStep (Fx_G F) (Fx_l F) x21 v1 μ6) rfl q908 q68 q905 q906 q907 ⟨by decide +kernel, by decide +kernel, by decide +kernel⟩ rfl ⟨by decide, by decide⟩ (Nat.le_of_ble_eq_true rfl) dX4_moveDrones_32 (by decide) (by decide) (fun x23 μ22 => ?_)
      change V κ ρ 0 0 μ22 _ 35 [(2, .int 1), (0, .ref v0), (1, .int v1)] [.int x23]
      refine V_istore_n (lv' := [(3, .int x23), (2, .int 1), (0, .ref v0), (1, .int v1)]) F dX4_moveDrones_35 rfl (lt_L hNL (by decide)) rfl ?_
      refine V_iload_n F dX4_moveDrones_36 rfl 0 rfl ?_
      refine V_iconst (v := (-1)) F dX4_moveDrones_37 (by decide) ?_
      refine V_icmp_ne (tgt := 54) F dX4_moveDrones_38 (by decide) (fun c24 => ?_) (fun c25 => ?_)
      · refine V_aload_n F dX4_moveDrones_54 rfl 2 rfl ?_
        refine V_gR (ci := 5) (k9 := 0) (C := RX4) (T := TX4) (N := 10) F rfl hinX4 (by decide) q172 dX4_moveDrones_55 (fun x26 => ?_)
        refine V_gR (ci := 3) (k9 := 0) (C := RX2) (T := TX2) (N := 7) F rfl hinX2 (by decide) q113 dX4_moveDrones_58 (fun x27 => ?_)
        refine V_iload_n F dX4_moveDrones_61 rfl 3 rfl ?_
        refine V_iload_n F dX4_moveDrones_62 rfl 0 rfl ?_
        refine V_sI F dX4_moveDrones_63 (fun μ28 => ?_)
        refine V_aload_n F dX4_moveDrones_64 rfl 2 rfl ?_
        refine V_dup F dX4_moveDrones_65 rfl ?_
        refine V_gI (ci := 5) (k9 := 6) (C := RX4) (T := TX4) (N := 10) F rfl hinX4 (by decide) q183 dX4_moveDrones_66 (fun x29 => ?_)
        refine V_iconst (v := 1) F dX4_moveDrones_69 (by decide) ?_
        refine V_iadd F dX4_moveDrones_70 ?_
        refine V_pf (ci := 5) (k9 := 6) (C := RX4) (T := TX4) (N := 10) (ty := tyX4) F rfl hinX4 tyX4_ok nmX4 (by decide) q183 rfl rfl rfl dX4_moveDrones_71 (fun μ30 => ?_)
        refine V_iconst (v := 2) F dX4_moveDrones_74 (by decide) ?_
        refine V_istore_n (lv' := [(2, .int 2), (3, .int x23), (0, .ref v0), (1, .int v1)]) F dX4_moveDrones_75 rfl (lt_L hNL (by decide)) rfl ?_
        refine V_sub [2, 3, 0] rfl ?_
        exact VX4_moveDrones_B76 F M hNL hk2 v0 v1 2 μ30
      · refine V_aload_n F dX4_moveDrones_41 rfl 2 rfl ?_
        refine V_dup F dX4_moveDrones_42 rfl ?_
        refine V_gI (ci := 5) (k9 := 7) (C := RX4) (T := TX4) (N := 10) F rfl hinX4 (by decide) q185 dX4_moveDrones_43 (fun x31 => ?_)
        refine V_iconst (v := 1) F dX4_moveDrones_46 (by decide) ?_
        refine V_iadd F dX4_moveDrones_47 ?_
        refine V_pf (ci := 5) (k9 := 7) (C := RX4) (T := TX4) (N := 10) (ty := tyX4) F rfl hinX4 tyX4_ok nmX4 (by decide) q185 rfl rfl rfl dX4_moveDrones_48 (fun μ32 => ?_)
        refine V_goto (tgt := 76) F dX4_moveDrones_51 (by decide) ?_
        refine V_sub [2, 3, 1] rfl ?_
        exact VX4_moveDrones_B76 F M hNL hk2 v0 v1 1 μ32
def FX4_moveDrones_L2  : Nat → Nat → Int32 → Me → Rs Unit
  | 0, _, _, _ => none
  | f + 1, v0, v1, μ => FX4_moveDrones_B2 (FX4_moveDrones_L2  f) v0 v1 μ
theorem VX4_moveDrones_L2 {κ : Cx} {ρ : (Unit ⊕ String) × Me} (F : Fx κ cX4_moveDrones RX4) (M : Mx κ (fun _ : Unit => none) ρ rmX4_moveDrones none [] "moveDrones") (hNL : κ.2.2.2.2.2.2.2.2.2.2.2.2.2.2 = 4)   : ∀ (f : Nat) (v0 : Nat) (v1 : Int32) (μ : Me), V κ ρ 0 0 μ (FX4_moveDrones_L2  f v0 v1 μ) 2 [(0, .ref v0), (1, .int v1)] [] := by
  intro f
  induction f with
  | zero => intros; exact V_none
  | succ f ih => intro v0 v1 μ; exact VX4_moveDrones_B2 F M hNL (fun v0 v1 μ => ih v0 v1 μ) v0 v1 μ
def FX4_moveDrones (a0 : Nat) (μ : Me) : Rs Unit :=
  (FX4_moveDrones_L2  FU a0 0 μ)
set_option maxHeartbeats 4000000 in
set_option maxRecDepth 100000 in
theorem metX4_moveDrones {l : Launch} {s0 : State} {D : va_G} {aC : Nat → ClassId} (hG : Gl s0 D aC) (hl : l.stackTraces = false) (a0 : Nat) (μ : Me) : Ct l yX4_moveDrones (ws_ yX4_moveDrones cX4_moveDrones 4 none) rmX4_moveDrones s0 D aC (fun _ : Unit => none) [.ref a0] μ (FX4_moveDrones a0 μ) := by
  refine Ct_of hG hl (by decide +kernel) (Nat.le_of_ble_eq_true rfl) (fun κ ρ hNL F M hκ => ?_)
  have F : Fx κ cX4_moveDrones RX4 := F
  change V κ ρ 0 0 μ (FX4_moveDrones a0 μ) 0 [(0, .ref a0)] []
  unfold FX4_moveDrones
  refine V_iconst (v := 0) F dX4_moveDrones_0 (by decide) ?_
  refine V_istore_n (lv' := [(1, .int 0), (0, .ref a0)]) F dX4_moveDrones_1 rfl (lt_L hNL (by decide)) rfl ?_
  refine V_sub [1, 0] rfl ?_
  exact VX4_moveDrones_L2 F M hNL  FU a0 0 μ
/-! DroneLightShow$Scene.endFlights()V -/
abbrev rmX4_endFlights : Room := { frames := 2, cells := 0, slots := 0, locals := 42 }
def FX4_endFlights_B57 (k2 : Nat → Int32 → Me → Rs Unit) (v0 : Nat) (v1 : Int32) (μ : Me) : Rs Unit :=
  (gR μ v0 5 0 (fun x10 => (gR μ x10 3 4 (fun x11 => (aZ μ x11 v1 (fun x12 => (if x12 = 0 then (k2 v0 (v1 + 1) μ) else (gR μ v0 5 0 (fun x15 => (gR μ x15 3 1 (fun x16 => (aI μ x16 v1 (fun x17 => (if x17 = 0 then (bnd (vc μ v0 5 (FX4_forceDown v0 v1 μ)) (fun x21 μ20 => (k2 v0 (v1 + 1) μ20))) else (k2 v0 (v1 + 1) μ)))))))))))))))
set_option maxHeartbeats 4000000 in
set_option maxRecDepth 100000 in
theorem VX4_endFlights_B57 {κ : Cx} {ρ : (Unit ⊕ String) × Me} (F : Fx κ cX4_endFlights RX4) (M : Mx κ (fun _ : Unit => none) ρ rmX4_endFlights none [] "endFlights") (hNL : κ.2.2.2.2.2.2.2.2.2.2.2.2.2.2 = 2) {k2 : Nat → Int32 → Me → Rs Unit} (hk2 : ∀ (v0 : Nat) (v1 : Int32) (μ : Me), V κ ρ 0 0 μ (k2 v0 v1 μ) 2 [(0, .ref v0), (1, .int v1)] []) (v0 : Nat) (v1 : Int32) (μ : Me) : V κ ρ 0 0 μ (FX4_endFlights_B57 k2 v0 v1 μ) 57 [(0, .ref v0), (1, .int v1)] [] := by
  unfold FX4_endFlights_B57
  refine V_aload_n F dX4_endFlights_57 rfl 0 rfl ?_
  refine V_gR (ci := 5) (k9 := 0) (C := RX4) (T := TX4) (N := 10) F rfl hinX4 (by decide) q172 dX4_endFlights_58 (fun x10 => ?_)
  refine V_gR (ci := 3) (k9 := 4) (C := RX2) (T := TX2) (N := 7) F rfl hinX2 (by decide) q126 dX4_endFlights_61 (fun x11 => ?_)
  refine V_iload_n F dX4_endFlights_64 rfl 1 rfl ?_
  refine V_aZ F dX4_endFlights_65 (fun x12 => ?_)
  refine V_if_eq (tgt := 86) F dX4_endFlights_66 (by decide) (fun c13 => ?_) (fun c14 => ?_)
  · refine V_iinc (lv' := [(1, .int (v1 + 1)), (0, .ref v0)]) F dX4_endFlights_86 1 rfl rfl (lt_L hNL (by decide)) rfl ?_
    refine V_goto (tgt := 2) F dX4_endFlights_89 (by decide) ?_
    refine V_sub [1, 0] rfl ?_
    exact hk2 v0 (v1 + 1) μ
  · refine V_aload_n F dX4_endFlights_69 rfl 0 rfl ?_
    refine V_gR (ci := 5) (k9 := 0) (C := RX4) (T := TX4) (N := 10) F rfl hinX4 (by decide) q172 dX4_endFlights_70 (fun x15 => ?_)
    refine V_gR (ci := 3) (k9 := 1) (C := RX2) (T := TX2) (N := 7) F rfl hinX2 (by decide) q116 dX4_endFlights_73 (fun x16 => ?_)
    refine V_iload_n F dX4_endFlights_76 rfl 1 rfl ?_
    refine V_aI F dX4_endFlights_77 (fun x17 => ?_)
    refine V_if_ne (tgt := 86) F dX4_endFlights_78 (by decide) (fun c18 => ?_) (fun c19 => ?_)
    · refine V_iinc (lv' := [(1, .int (v1 + 1)), (0, .ref v0)]) F dX4_endFlights_86 1 rfl rfl (lt_L hNL (by decide)) rfl ?_
      refine V_goto (tgt := 2) F dX4_endFlights_89 (by decide) ?_
      refine V_sub [1, 0] rfl ?_
      exact hk2 v0 (v1 + 1) μ
    · refine V_aload_n F dX4_endFlights_81 rfl 0 rfl ?_
      refine V_iload_n F dX4_endFlights_82 rfl 1 rfl ?_
      refine V_cV (As := [.int v1]) (rest := []) (C := RX4) (N := 1) F M (metX4_forceDown (Fx_G F) (Fx_l F) v0 v1 μ) rfl q922 q67 q919 q921 q9 ⟨by decide +kernel, by decide +kernel, by decide +kernel⟩ rfl ⟨by decide, by decide⟩ (Nat.le_of_ble_eq_true rfl) dX4_endFlights_83 (by decide) (by decide) (fun x21 μ20 => ?_)
      change V κ ρ 0 0 μ20 _ 86 [(0, .ref v0), (1, .int v1)] []
      refine V_iinc (lv' := [(1, .int (v1 + 1)), (0, .ref v0)]) F dX4_endFlights_86 1 rfl rfl (lt_L hNL (by decide)) rfl ?_
      refine V_goto (tgt := 2) F dX4_endFlights_89 (by decide) ?_
      refine V_sub [1, 0] rfl ?_
      exact hk2 v0 (v1 + 1) μ20
def FX4_endFlights_B2 (k2 : Nat → Int32 → Me → Rs Unit) (v0 : Nat) (v1 : Int32) (μ : Me) : Rs Unit :=
  (gR μ v0 5 0 (fun x1 => (gI μ x1 3 6 (fun x2 => (if x2 ≤ v1 then (rt () μ) else (gR μ v0 5 0 (fun x5 => (gR μ x5 3 5 (fun x6 => (aZ μ x6 v1 (fun x7 => (if x7 = 0 then (FX4_endFlights_B57 k2 v0 v1 μ) else (gR μ v0 5 0 (fun x22 => (gR μ x22 3 0 (fun x23 => (aI μ x23 v1 (fun x24 => (gR μ v0 5 0 (fun x25 => (gR μ x25 3 2 (fun x26 => (aI μ x26 v1 (fun x27 => (if x24 = x27 then (gR μ v0 5 0 (fun x30 => (bnd (vc μ x30 3 (FX2_ground x30 v1 μ)) (fun x32 μ31 => (k2 v0 (v1 + 1) μ31))))) else (FX4_endFlights_B57 k2 v0 v1 μ))))))))))))))))))))))))))
set_option maxHeartbeats 4000000 in
set_option maxRecDepth 100000 in
theorem VX4_endFlights_B2 {κ : Cx} {ρ : (Unit ⊕ String) × Me} (F : Fx κ cX4_endFlights RX4) (M : Mx κ (fun _ : Unit => none) ρ rmX4_endFlights none [] "endFlights") (hNL : κ.2.2.2.2.2.2.2.2.2.2.2.2.2.2 = 2) {k2 : Nat → Int32 → Me → Rs Unit} (hk2 : ∀ (v0 : Nat) (v1 : Int32) (μ : Me), V κ ρ 0 0 μ (k2 v0 v1 μ) 2 [(0, .ref v0), (1, .int v1)] []) (v0 : Nat) (v1 : Int32) (μ : Me) : V κ ρ 0 0 μ (FX4_endFlights_B2 k2 v0 v1 μ) 2 [(0, .ref v0), (1, .int v1)] [] := by
  unfold FX4_endFlights_B2
  refine V_iload_n F dX4_endFlights_2 rfl 1 rfl ?_
  refine V_aload_n F dX4_endFlights_3 rfl 0 rfl ?_
  refine V_gR (ci := 5) (k9 := 0) (C := RX4) (T := TX4) (N := 10) F rfl hinX4 (by decide) q172 dX4_endFlights_4 (fun x1 => ?_)
  refine V_gI (ci := 3) (k9 := 6) (C := RX2) (T := TX2) (N := 7) F rfl hinX2 (by decide) q132 dX4_endFlights_7 (fun x2 => ?_)
  refine V_icmp_ge (tgt := 92) F dX4_endFlights_10 (by decide) (fun c3 => ?_) (fun c4 => ?_)
  · exact V_vret F M dX4_endFlights_92 rfl (by decide) (by decide)
  · refine V_aload_n F dX4_endFlights_13 rfl 0 rfl ?_
    refine V_gR (ci := 5) (k9 := 0) (C := RX4) (T := TX4) (N := 10) F rfl hinX4 (by decide) q172 dX4_endFlights_14 (fun x5 => ?_)
    refine V_gR (ci := 3) (k9 := 5) (C := RX2) (T := TX2) (N := 7) F rfl hinX2 (by decide) q129 dX4_endFlights_17 (fun x6 => ?_)
    refine V_iload_n F dX4_endFlights_20 rfl 1 rfl ?_
    refine V_aZ F dX4_endFlights_21 (fun x7 => ?_)
    refine V_if_eq (tgt := 57) F dX4_endFlights_22 (by decide) (fun c8 => ?_) (fun c9 => ?_)
    · refine V_sub [0, 1] rfl ?_
      exact VX4_endFlights_B57 F M hNL hk2 v0 v1 μ
    · refine V_aload_n F dX4_endFlights_25 rfl 0 rfl ?_
      refine V_gR (ci := 5) (k9 := 0) (C := RX4) (T := TX4) (N := 10) F rfl hinX4 (by decide) q172 dX4_endFlights_26 (fun x22 => ?_)
      refine V_gR (ci := 3) (k9 := 0) (C := RX2) (T := TX2) (N := 7) F rfl hinX2 (by decide) q113 dX4_endFlights_29 (fun x23 => ?_)
      refine V_iload_n F dX4_endFlights_32 rfl 1 rfl ?_
      refine V_aI F dX4_endFlights_33 (fun x24 => ?_)
      refine V_aload_n F dX4_endFlights_34 rfl 0 rfl ?_
      refine V_gR (ci := 5) (k9 := 0) (C := RX4) (T := TX4) (N := 10) F rfl hinX4 (by decide) q172 dX4_endFlights_35 (fun x25 => ?_)
      refine V_gR (ci := 3) (k9 := 2) (C := RX2) (T := TX2) (N := 7) F rfl hinX2 (by decide) q119 dX4_endFlights_38 (fun x26 => ?_)
      refine V_iload_n F dX4_endFlights_41 rfl 1 rfl ?_
      refine V_aI F dX4_endFlights_42 (fun x27 => ?_)
      refine V_icmp_ne (tgt := 57) F dX4_endFlights_43 (by decide) (fun c28 => ?_) (fun c29 => ?_)
      · refine V_sub [0, 1] rfl ?_
        exact VX4_endFlights_B57 F M hNL hk2 v0 v1 μ
      · refine V_aload_n F dX4_endFlights_46 rfl 0 rfl ?_
        refine V_gR (ci := 5) (k9 := 0) (C := RX4) (T := TX4) (N := 10) F rfl hinX4 (by decide) q172 dX4_endFlights_47 (fun x30 => ?_)
        refine V_iload_n F dX4_endFlights_50 rfl 1 rfl ?_
        refine V_cV (As := [.int v1]) (rest := []) (C := RX2) (N := 1) F M (metX2_ground (Fx_G F) (Fx_l F) x30 v1 μ) rfl q541 q68 q538 q539 q540 ⟨by decide +kernel, by decide +kernel, by decide +kernel⟩ rfl ⟨by decide, by decide⟩ (Nat.le_of_ble_eq_true rfl) dX4_endFlights_51 (by decide) (by decide) (fun x32 μ31 => ?_)
        change V κ ρ 0 0 μ31 _ 54 [(0, .ref v0), (1, .int v1)] []
        refine V_goto (tgt := 86) F dX4_endFlights_54 (by decide) ?_
        refine V_iinc (lv' := [(1, .int (v1 + 1)), (0, .ref v0)]) F dX4_endFlights_86 1 rfl rfl (lt_L hNL (by decide)) rfl ?_
        refine V_goto (tgt := 2) F dX4_endFlights_89 (by decide) ?_
        refine V_sub [1, 0] rfl ?_
        exact hk2 v0 (v1 + 1) μ31
def FX4_endFlights_L2  : Nat → Nat → Int32 → Me → Rs Unit
  | 0, _, _, _ => none
  | f + 1, v0, v1, μ => FX4_endFlights_B2 (FX4_endFlights_L2  f) v0 v1 μ
theorem VX4_endFlights_L2 {κ : Cx} {ρ : (Unit ⊕ String) × Me} (F : Fx κ cX4_endFlights RX4) (M : Mx κ (fun _ : Unit => none) ρ rmX4_endFlights none [] "endFlights") (hNL : κ.2.2.2.2.2.2.2.2.2.2.2.2.2.2 = 2)   : ∀ (f : Nat) (v0 : Nat) (v1 : Int32) (μ : Me), V κ ρ 0 0 μ (FX4_endFlights_L2  f v0 v1 μ) 2 [(0, .ref v0), (1, .int v1)] [] := by
  intro f
  induction f with
  | zero => intros; exact V_none
  | succ f ih => intro v0 v1 μ; exact VX4_endFlights_B2 F M hNL (fun v0 v1 μ => ih v0 v1 μ) v0 v1 μ
def FX4_endFlights (a0 : Nat) (μ : Me) : Rs Unit :=
  (FX4_endFlights_L2  FU a0 0 μ)
set_option maxHeartbeats 4000000 in
set_option maxRecDepth 100000 in
theorem metX4_endFlights {l : Launch} {s0 : State} {D : va_G} {aC : Nat → ClassId} (hG : Gl s0 D aC) (hl : l.stackTraces = false) (a0 : Nat) (μ : Me) : Ct l yX4_endFlights (ws_ yX4_endFlights cX4_endFlights 2 none) rmX4_endFlights s0 D aC (fun _ : Unit => none) [.ref a0] μ (FX4_endFlights a0 μ) := by
  refine Ct_of hG hl (by decide +kernel) (Nat.le_of_ble_eq_true rfl) (fun κ ρ hNL F M hκ => ?_)
  have F : Fx κ cX4_endFlights RX4 := F
  change V κ ρ 0 0 μ (FX4_endFlights a0 μ) 0 [(0, .ref a0)] []
  unfold FX4_endFlights
  refine V_iconst (v := 0) F dX4_endFlights_0 (by decide) ?_
  refine V_istore_n (lv' := [(1, .int 0), (0, .ref a0)]) F dX4_endFlights_1 rfl (lt_L hNL (by decide)) rfl ?_
  refine V_sub [1, 0] rfl ?_
  exact VX4_endFlights_L2 F M hNL  FU a0 0 μ
/-! DroneLightShow$Scene.chargeDrones()V -/
abbrev rmX4_chargeDrones : Room := { frames := 1, cells := 0, slots := 0, locals := 25 }
def FX4_chargeDrones_B2 (k2 : Nat → Int32 → Me → Rs Unit) (v0 : Nat) (v1 : Int32) (μ : Me) : Rs Unit :=
  (gR μ v0 5 0 (fun x1 => (gI μ x1 3 6 (fun x2 => (if x2 ≤ v1 then (rt () μ) else (gR μ v0 5 0 (fun x5 => (gR μ x5 3 4 (fun x6 => (aZ μ x6 v1 (fun x7 => (if x7 = 0 then (gJ μ v0 5 3 (fun x10 => (gR μ v0 5 0 (fun x11 => (gR μ x11 3 0 (fun x12 => (aI μ x12 v1 (fun x13 => (bnd (FX7_contains x10 x13 μ) (fun x15 μ14 => (if x15 = 0 then (k2 v0 (v1 + 1) μ14) else (gR μ14 v0 5 0 (fun x18 => (gR μ14 x18 3 1 (fun x19 => (gR μ14 v0 5 0 (fun x20 => (gR μ14 x20 3 1 (fun x21 => (aI μ14 x21 v1 (fun x22 => (sI μ14 x19 v1 (if (x22 + 5) < 100 then (x22 + 5) else 100) (fun μ23 => (k2 v0 (v1 + 1) μ23)))))))))))))))))))))))) else (k2 v0 (v1 + 1) μ)))))))))))))
set_option maxHeartbeats 4000000 in
set_option maxRecDepth 100000 in
theorem VX4_chargeDrones_B2 {κ : Cx} {ρ : (Unit ⊕ String) × Me} (F : Fx κ cX4_chargeDrones RX4) (M : Mx κ (fun _ : Unit => none) ρ rmX4_chargeDrones none [] "chargeDrones") (hNL : κ.2.2.2.2.2.2.2.2.2.2.2.2.2.2 = 2) {k2 : Nat → Int32 → Me → Rs Unit} (hk2 : ∀ (v0 : Nat) (v1 : Int32) (μ : Me), V κ ρ 0 0 μ (k2 v0 v1 μ) 2 [(0, .ref v0), (1, .int v1)] []) (v0 : Nat) (v1 : Int32) (μ : Me) : V κ ρ 0 0 μ (FX4_chargeDrones_B2 k2 v0 v1 μ) 2 [(0, .ref v0), (1, .int v1)] [] := by
  unfold FX4_chargeDrones_B2
  refine V_iload_n F dX4_chargeDrones_2 rfl 1 rfl ?_
  refine V_aload_n F dX4_chargeDrones_3 rfl 0 rfl ?_
  refine V_gR (ci := 5) (k9 := 0) (C := RX4) (T := TX4) (N := 10) F rfl hinX4 (by decide) q172 dX4_chargeDrones_4 (fun x1 => ?_)
  refine V_gI (ci := 3) (k9 := 6) (C := RX2) (T := TX2) (N := 7) F rfl hinX2 (by decide) q132 dX4_chargeDrones_7 (fun x2 => ?_)
  refine V_icmp_ge (tgt := 75) F dX4_chargeDrones_10 (by decide) (fun c3 => ?_) (fun c4 => ?_)
  · exact V_vret F M dX4_chargeDrones_75 rfl (by decide) (by decide)
  · refine V_aload_n F dX4_chargeDrones_13 rfl 0 rfl ?_
    refine V_gR (ci := 5) (k9 := 0) (C := RX4) (T := TX4) (N := 10) F rfl hinX4 (by decide) q172 dX4_chargeDrones_14 (fun x5 => ?_)
    refine V_gR (ci := 3) (k9 := 4) (C := RX2) (T := TX2) (N := 7) F rfl hinX2 (by decide) q126 dX4_chargeDrones_17 (fun x6 => ?_)
    refine V_iload_n F dX4_chargeDrones_20 rfl 1 rfl ?_
    refine V_aZ F dX4_chargeDrones_21 (fun x7 => ?_)
    refine V_if_ne (tgt := 69) F dX4_chargeDrones_22 (by decide) (fun c8 => ?_) (fun c9 => ?_)
    · refine V_iinc (lv' := [(1, .int (v1 + 1)), (0, .ref v0)]) F dX4_chargeDrones_69 1 rfl rfl (lt_L hNL (by decide)) rfl ?_
      refine V_goto (tgt := 2) F dX4_chargeDrones_72 (by decide) ?_
      refine V_sub [1, 0] rfl ?_
      exact hk2 v0 (v1 + 1) μ
    · refine V_aload_n F dX4_chargeDrones_25 rfl 0 rfl ?_
      refine V_gJ (ci := 5) (k9 := 3) (C := RX4) (T := TX4) (N := 10) F rfl hinX4 (by decide) q178 dX4_chargeDrones_26 (fun x10 => ?_)
      refine V_aload_n F dX4_chargeDrones_29 rfl 0 rfl ?_
      refine V_gR (ci := 5) (k9 := 0) (C := RX4) (T := TX4) (N := 10) F rfl hinX4 (by decide) q172 dX4_chargeDrones_30 (fun x11 => ?_)
      refine V_gR (ci := 3) (k9 := 0) (C := RX2) (T := TX2) (N := 7) F rfl hinX2 (by decide) q113 dX4_chargeDrones_33 (fun x12 => ?_)
      refine V_iload_n F dX4_chargeDrones_36 rfl 1 rfl ?_
      refine V_aI F dX4_chargeDrones_37 (fun x13 => ?_)
      refine V_cSN (As := [.long x10, .int x13]) (rest := []) (N := 2) F M (metX7_contains (Fx_G F) (Fx_l F) x10 x13 μ) q398 q66 q396 q397 ⟨by decide +kernel, by decide +kernel, by decide +kernel⟩ rfl ⟨by decide, by decide⟩ (Nat.le_of_ble_eq_true rfl) dX4_chargeDrones_38 (by decide) (by decide) (fun x15 μ14 => ?_)
      change V κ ρ 0 0 μ14 _ 41 [(0, .ref v0), (1, .int v1)] [.int x15]
      refine V_if_eq (tgt := 69) F dX4_chargeDrones_41 (by decide) (fun c16 => ?_) (fun c17 => ?_)
      · refine V_iinc (lv' := [(1, .int (v1 + 1)), (0, .ref v0)]) F dX4_chargeDrones_69 1 rfl rfl (lt_L hNL (by decide)) rfl ?_
        refine V_goto (tgt := 2) F dX4_chargeDrones_72 (by decide) ?_
        refine V_sub [1, 0] rfl ?_
        exact hk2 v0 (v1 + 1) μ14
      · refine V_aload_n F dX4_chargeDrones_44 rfl 0 rfl ?_
        refine V_gR (ci := 5) (k9 := 0) (C := RX4) (T := TX4) (N := 10) F rfl hinX4 (by decide) q172 dX4_chargeDrones_45 (fun x18 => ?_)
        refine V_gR (ci := 3) (k9 := 1) (C := RX2) (T := TX2) (N := 7) F rfl hinX2 (by decide) q116 dX4_chargeDrones_48 (fun x19 => ?_)
        refine V_iload_n F dX4_chargeDrones_51 rfl 1 rfl ?_
        refine V_bipush (v := 100) F dX4_chargeDrones_52 (by decide) ?_
        refine V_aload_n F dX4_chargeDrones_54 rfl 0 rfl ?_
        refine V_gR (ci := 5) (k9 := 0) (C := RX4) (T := TX4) (N := 10) F rfl hinX4 (by decide) q172 dX4_chargeDrones_55 (fun x20 => ?_)
        refine V_gR (ci := 3) (k9 := 1) (C := RX2) (T := TX2) (N := 7) F rfl hinX2 (by decide) q116 dX4_chargeDrones_58 (fun x21 => ?_)
        refine V_iload_n F dX4_chargeDrones_61 rfl 1 rfl ?_
        refine V_aI F dX4_chargeDrones_62 (fun x22 => ?_)
        refine V_iconst (v := 5) F dX4_chargeDrones_63 (by decide) ?_
        refine V_iadd F dX4_chargeDrones_64 ?_
        refine V_min F M q931 q932 q84 q933 dX4_chargeDrones_65 (by decide) (Nat.le_of_ble_eq_true rfl) (by decide) (by decide) ?_
        refine V_sI F dX4_chargeDrones_68 (fun μ23 => ?_)
        refine V_iinc (lv' := [(1, .int (v1 + 1)), (0, .ref v0)]) F dX4_chargeDrones_69 1 rfl rfl (lt_L hNL (by decide)) rfl ?_
        refine V_goto (tgt := 2) F dX4_chargeDrones_72 (by decide) ?_
        refine V_sub [1, 0] rfl ?_
        exact hk2 v0 (v1 + 1) μ23
def FX4_chargeDrones_L2  : Nat → Nat → Int32 → Me → Rs Unit
  | 0, _, _, _ => none
  | f + 1, v0, v1, μ => FX4_chargeDrones_B2 (FX4_chargeDrones_L2  f) v0 v1 μ
theorem VX4_chargeDrones_L2 {κ : Cx} {ρ : (Unit ⊕ String) × Me} (F : Fx κ cX4_chargeDrones RX4) (M : Mx κ (fun _ : Unit => none) ρ rmX4_chargeDrones none [] "chargeDrones") (hNL : κ.2.2.2.2.2.2.2.2.2.2.2.2.2.2 = 2)   : ∀ (f : Nat) (v0 : Nat) (v1 : Int32) (μ : Me), V κ ρ 0 0 μ (FX4_chargeDrones_L2  f v0 v1 μ) 2 [(0, .ref v0), (1, .int v1)] [] := by
  intro f
  induction f with
  | zero => intros; exact V_none
  | succ f ih => intro v0 v1 μ; exact VX4_chargeDrones_B2 F M hNL (fun v0 v1 μ => ih v0 v1 μ) v0 v1 μ
def FX4_chargeDrones (a0 : Nat) (μ : Me) : Rs Unit :=
  (FX4_chargeDrones_L2  FU a0 0 μ)
set_option maxHeartbeats 4000000 in
set_option maxRecDepth 100000 in
theorem metX4_chargeDrones {l : Launch} {s0 : State} {D : va_G} {aC : Nat → ClassId} (hG : Gl s0 D aC) (hl : l.stackTraces = false) (a0 : Nat) (μ : Me) : Ct l yX4_chargeDrones (ws_ yX4_chargeDrones cX4_chargeDrones 2 none) rmX4_chargeDrones s0 D aC (fun _ : Unit => none) [.ref a0] μ (FX4_chargeDrones a0 μ) := by
  refine Ct_of hG hl (by decide +kernel) (Nat.le_of_ble_eq_true rfl) (fun κ ρ hNL F M hκ => ?_)
  have F : Fx κ cX4_chargeDrones RX4 := F
  change V κ ρ 0 0 μ (FX4_chargeDrones a0 μ) 0 [(0, .ref a0)] []
  unfold FX4_chargeDrones
  refine V_iconst (v := 0) F dX4_chargeDrones_0 (by decide) ?_
  refine V_istore_n (lv' := [(1, .int 0), (0, .ref a0)]) F dX4_chargeDrones_1 rfl (lt_L hNL (by decide)) rfl ?_
  refine V_sub [1, 0] rfl ?_
  exact VX4_chargeDrones_L2 F M hNL  FU a0 0 μ
/-! DroneLightShow$Scene.padByDistance(I)I -/
abbrev rmX4_padByDistance : Room := { frames := 2, cells := 0, slots := 0, locals := 46 }
def FX4_padByDistance_B4 (k4 : Nat → Int32 → Int32 → Int32 → Me → Rs Int32) (v0 : Nat) (v1 : Int32) (v2 : Int32) (v3 : Int32) (μ : Me) : Rs Int32 :=
  (if 64 ≤ v3 then (rt v2 μ) else (gJ μ v0 5 3 (fun x3 => (bnd (FX7_contains x3 v3 μ) (fun x5 μ4 => (if x5 = 0 then (k4 v0 v1 v2 (v3 + 1) μ4) else (if v2 = (-1) then (k4 v0 v1 v3 (v3 + 1) μ4) else (bnd (FX7_distance v1 v3 μ4) (fun x11 μ10 => (bnd (FX7_distance v1 v2 μ10) (fun x13 μ12 => (if x13 ≤ x11 then (k4 v0 v1 v2 (v3 + 1) μ12) else (k4 v0 v1 v3 (v3 + 1) μ12)))))))))))))
set_option maxHeartbeats 4000000 in
set_option maxRecDepth 100000 in
theorem VX4_padByDistance_B4 {κ : Cx} {ρ : (Int32 ⊕ String) × Me} (F : Fx κ cX4_padByDistance RX4) (M : Mx κ (fun r : Int32 => some (.int r)) ρ rmX4_padByDistance (some .int) [] "padByDistance") (hNL : κ.2.2.2.2.2.2.2.2.2.2.2.2.2.2 = 4) {k4 : Nat → Int32 → Int32 → Int32 → Me → Rs Int32} (hk4 : ∀ (v0 : Nat) (v1 : Int32) (v2 : Int32) (v3 : Int32) (μ : Me), V κ ρ 0 0 μ (k4 v0 v1 v2 v3 μ) 4 [(0, .ref v0), (1, .int v1), (2, .int v2), (3, .int v3)] []) (v0 : Nat) (v1 : Int32) (v2 : Int32) (v3 : Int32) (μ : Me) : V κ ρ 0 0 μ (FX4_padByDistance_B4 k4 v0 v1 v2 v3 μ) 4 [(0, .ref v0), (1, .int v1), (2, .int v2), (3, .int v3)] [] := by
  unfold FX4_padByDistance_B4
  refine V_iload_n F dX4_padByDistance_4 rfl 3 rfl ?_
  refine V_bipush (v := 64) F dX4_padByDistance_5 (by decide) ?_
  refine V_icmp_ge (tgt := 47) F dX4_padByDistance_7 (by decide) (fun c1 => ?_) (fun c2 => ?_)
  · refine V_iload_n F dX4_padByDistance_47 rfl 2 rfl ?_
    exact V_iret F M dX4_padByDistance_48 rfl (by decide) (by decide)
  · refine V_aload_n F dX4_padByDistance_10 rfl 0 rfl ?_
    refine V_gJ (ci := 5) (k9 := 3) (C := RX4) (T := TX4) (N := 10) F rfl hinX4 (by decide) q178 dX4_padByDistance_11 (fun x3 => ?_)
    refine V_iload_n F dX4_padByDistance_14 rfl 3 rfl ?_
    refine V_cSN (As := [.long x3, .int v3]) (rest := []) (N := 2) F M (metX7_contains (Fx_G F) (Fx_l F) x3 v3 μ) q398 q66 q396 q397 ⟨by decide +kernel, by decide +kernel, by decide +kernel⟩ rfl ⟨by decide, by decide⟩ (Nat.le_of_ble_eq_true rfl) dX4_padByDistance_15 (by decide) (by decide) (fun x5 μ4 => ?_)
    change V κ ρ 0 0 μ4 _ 18 [(0, .ref v0), (1, .int v1), (2, .int v2), (3, .int v3)] [.int x5]
    refine V_if_eq (tgt := 41) F dX4_padByDistance_18 (by decide) (fun c6 => ?_) (fun c7 => ?_)
    · refine V_iinc (lv' := [(3, .int (v3 + 1)), (0, .ref v0), (1, .int v1), (2, .int v2)]) F dX4_padByDistance_41 3 rfl rfl (lt_L hNL (by decide)) rfl ?_
      refine V_goto (tgt := 4) F dX4_padByDistance_44 (by decide) ?_
      refine V_sub [1, 2, 3, 0] rfl ?_
      exact hk4 v0 v1 v2 (v3 + 1) μ4
    · refine V_iload_n F dX4_padByDistance_21 rfl 2 rfl ?_
      refine V_iconst (v := (-1)) F dX4_padByDistance_22 (by decide) ?_
      refine V_icmp_eq (tgt := 39) F dX4_padByDistance_23 (by decide) (fun c8 => ?_) (fun c9 => ?_)
      · refine V_iload_n F dX4_padByDistance_39 rfl 3 rfl ?_
        refine V_istore_n (lv' := [(2, .int v3), (0, .ref v0), (1, .int v1), (3, .int v3)]) F dX4_padByDistance_40 rfl (lt_L hNL (by decide)) rfl ?_
        refine V_iinc (lv' := [(3, .int (v3 + 1)), (2, .int v3), (0, .ref v0), (1, .int v1)]) F dX4_padByDistance_41 3 rfl rfl (lt_L hNL (by decide)) rfl ?_
        refine V_goto (tgt := 4) F dX4_padByDistance_44 (by decide) ?_
        refine V_sub [2, 3, 1, 0] rfl ?_
        exact hk4 v0 v1 v3 (v3 + 1) μ4
      · refine V_iload_n F dX4_padByDistance_26 rfl 1 rfl ?_
        refine V_iload_n F dX4_padByDistance_27 rfl 3 rfl ?_
        refine V_cSN (As := [.int v1, .int v3]) (rest := []) (N := 2) F M (metX7_distance (Fx_G F) (Fx_l F) v1 v3 μ4) q409 q66 q407 q408 ⟨by decide +kernel, by decide +kernel, by decide +kernel⟩ rfl ⟨by decide, by decide⟩ (Nat.le_of_ble_eq_true rfl) dX4_padByDistance_28 (by decide) (by decide) (fun x11 μ10 => ?_)
        change V κ ρ 0 0 μ10 _ 31 [(0, .ref v0), (1, .int v1), (2, .int v2), (3, .int v3)] [.int x11]
        refine V_iload_n F dX4_padByDistance_31 rfl 1 rfl ?_
        refine V_iload_n F dX4_padByDistance_32 rfl 2 rfl ?_
        refine V_cSN (As := [.int v1, .int v2]) (rest := [.int x11]) (N := 2) F M (metX7_distance (Fx_G F) (Fx_l F) v1 v2 μ10) q409 q66 q407 q408 ⟨by decide +kernel, by decide +kernel, by decide +kernel⟩ rfl ⟨by decide, by decide⟩ (Nat.le_of_ble_eq_true rfl) dX4_padByDistance_33 (by decide) (by decide) (fun x13 μ12 => ?_)
        change V κ ρ 0 0 μ12 _ 36 [(0, .ref v0), (1, .int v1), (2, .int v2), (3, .int v3)] [.int x13, .int x11]
        refine V_icmp_ge (tgt := 41) F dX4_padByDistance_36 (by decide) (fun c14 => ?_) (fun c15 => ?_)
        · refine V_iinc (lv' := [(3, .int (v3 + 1)), (0, .ref v0), (1, .int v1), (2, .int v2)]) F dX4_padByDistance_41 3 rfl rfl (lt_L hNL (by decide)) rfl ?_
          refine V_goto (tgt := 4) F dX4_padByDistance_44 (by decide) ?_
          refine V_sub [1, 2, 3, 0] rfl ?_
          exact hk4 v0 v1 v2 (v3 + 1) μ12
        · refine V_iload_n F dX4_padByDistance_39 rfl 3 rfl ?_
          refine V_istore_n (lv' := [(2, .int v3), (0, .ref v0), (1, .int v1), (3, .int v3)]) F dX4_padByDistance_40 rfl (lt_L hNL (by decide)) rfl ?_
          refine V_iinc (lv' := [(3, .int (v3 + 1)), (2, .int v3), (0, .ref v0), (1, .int v1)]) F dX4_padByDistance_41 3 rfl rfl (lt_L hNL (by decide)) rfl ?_
          refine V_goto (tgt := 4) F dX4_padByDistance_44 (by decide) ?_
          refine V_sub [2, 3, 1, 0] rfl ?_
          exact hk4 v0 v1 v3 (v3 + 1) μ12
def FX4_padByDistance_L4  : Nat → Nat → Int32 → Int32 → Int32 → Me → Rs Int32
  | 0, _, _, _, _, _ => none
  | f + 1, v0, v1, v2, v3, μ => FX4_padByDistance_B4 (FX4_padByDistance_L4  f) v0 v1 v2 v3 μ
theorem VX4_padByDistance_L4 {κ : Cx} {ρ : (Int32 ⊕ String) × Me} (F : Fx κ cX4_padByDistance RX4) (M : Mx κ (fun r : Int32 => some (.int r)) ρ rmX4_padByDistance (some .int) [] "padByDistance") (hNL : κ.2.2.2.2.2.2.2.2.2.2.2.2.2.2 = 4)   : ∀ (f : Nat) (v0 : Nat) (v1 : Int32) (v2 : Int32) (v3 : Int32) (μ : Me), V κ ρ 0 0 μ (FX4_padByDistance_L4  f v0 v1 v2 v3 μ) 4 [(0, .ref v0), (1, .int v1), (2, .int v2), (3, .int v3)] [] := by
  intro f
  induction f with
  | zero => intros; exact V_none
  | succ f ih => intro v0 v1 v2 v3 μ; exact VX4_padByDistance_B4 F M hNL (fun v0 v1 v2 v3 μ => ih v0 v1 v2 v3 μ) v0 v1 v2 v3 μ
def FX4_padByDistance (a0 : Nat) (p1 : Int32) (μ : Me) : Rs Int32 :=
  (FX4_padByDistance_L4  FU a0 p1 (-1) 0 μ)
set_option maxHeartbeats 4000000 in
set_option maxRecDepth 100000 in
theorem metX4_padByDistance {l : Launch} {s0 : State} {D : va_G} {aC : Nat → ClassId} (hG : Gl s0 D aC) (hl : l.stackTraces = false) (a0 : Nat) (p1 : Int32) (μ : Me) : Ct l yX4_padByDistance (ws_ yX4_padByDistance cX4_padByDistance 4 (some .int)) rmX4_padByDistance s0 D aC (fun r : Int32 => some (.int r)) [.ref a0, .int p1] μ (FX4_padByDistance a0 p1 μ) := by
  refine Ct_of hG hl (by decide +kernel) (Nat.le_of_ble_eq_true rfl) (fun κ ρ hNL F M hκ => ?_)
  have F : Fx κ cX4_padByDistance RX4 := F
  change V κ ρ 0 0 μ (FX4_padByDistance a0 p1 μ) 0 [(0, .ref a0), (1, .int p1)] []
  unfold FX4_padByDistance
  refine V_iconst (v := (-1)) F dX4_padByDistance_0 (by decide) ?_
  refine V_istore_n (lv' := [(2, .int (-1)), (0, .ref a0), (1, .int p1)]) F dX4_padByDistance_1 rfl (lt_L hNL (by decide)) rfl ?_
  refine V_iconst (v := 0) F dX4_padByDistance_2 (by decide) ?_
  refine V_istore_n (lv' := [(3, .int 0), (2, .int (-1)), (0, .ref a0), (1, .int p1)]) F dX4_padByDistance_3 rfl (lt_L hNL (by decide)) rfl ?_
  refine V_sub [2, 3, 1, 0] rfl ?_
  exact VX4_padByDistance_L4 F M hNL  FU a0 p1 (-1) 0 μ
/-! DroneLightShow$Scene.padOnRing(II)I -/
abbrev rmX4_padOnRing : Room := { frames := 1, cells := 0, slots := 0, locals := 25 }
def FX4_padOnRing_B74 (k2 : Nat → Int32 → Int32 → Int32 → Me → Rs Int32) (v0 : Nat) (v1 : Int32) (v2 : Int32) (v3 : Int32) (v4 : Int32) (v6 : Int32) (μ : Me) : Rs Int32 :=
  (if v4 < 0 then (k2 v0 v1 v2 (v3 + 1) μ) else (if 8 ≤ v6 then (k2 v0 v1 v2 (v3 + 1) μ) else (gJ μ v0 5 3 (fun x9 => (bnd (FX7_contains x9 ((8 * v3) + v6) μ) (fun x11 μ10 => (if x11 = 0 then (k2 v0 v1 v2 (v3 + 1) μ10) else (rt ((8 * v3) + v6) μ10))))))))
set_option maxHeartbeats 4000000 in
set_option maxRecDepth 100000 in
theorem VX4_padOnRing_B74 {κ : Cx} {ρ : (Int32 ⊕ String) × Me} (F : Fx κ cX4_padOnRing RX4) (M : Mx κ (fun r : Int32 => some (.int r)) ρ rmX4_padOnRing (some .int) [] "padOnRing") (hNL : κ.2.2.2.2.2.2.2.2.2.2.2.2.2.2 = 7) {k2 : Nat → Int32 → Int32 → Int32 → Me → Rs Int32} (hk2 : ∀ (v0 : Nat) (v1 : Int32) (v2 : Int32) (v3 : Int32) (μ : Me), V κ ρ 0 0 μ (k2 v0 v1 v2 v3 μ) 2 [(0, .ref v0), (1, .int v1), (2, .int v2), (3, .int v3)] []) (v0 : Nat) (v1 : Int32) (v2 : Int32) (v3 : Int32) (v4 : Int32) (v6 : Int32) (μ : Me) : V κ ρ 0 0 μ (FX4_padOnRing_B74 k2 v0 v1 v2 v3 v4 v6 μ) 74 [(0, .ref v0), (1, .int v1), (2, .int v2), (3, .int v3), (4, .int v4), (6, .int v6)] [] := by
  unfold FX4_padOnRing_B74
  refine V_iload F dX4_padOnRing_74 4 rfl ?_
  refine V_if_lt (tgt := 111) F dX4_padOnRing_76 (by decide) (fun c5 => ?_) (fun c6 => ?_)
  · refine V_iinc (lv' := [(3, .int (v3 + 1)), (0, .ref v0), (1, .int v1), (2, .int v2), (4, .int v4), (6, .int v6)]) F dX4_padOnRing_111 3 rfl rfl (lt_L hNL (by decide)) rfl ?_
    refine V_goto (tgt := 2) F dX4_padOnRing_114 (by decide) ?_
    refine V_sub [1, 2, 3, 0] rfl ?_
    exact hk2 v0 v1 v2 (v3 + 1) μ
  · refine V_iload F dX4_padOnRing_79 5 rfl ?_
    refine V_bipush (v := 8) F dX4_padOnRing_81 (by decide) ?_
    refine V_icmp_ge (tgt := 111) F dX4_padOnRing_83 (by decide) (fun c7 => ?_) (fun c8 => ?_)
    · refine V_iinc (lv' := [(3, .int (v3 + 1)), (0, .ref v0), (1, .int v1), (2, .int v2), (4, .int v4), (6, .int v6)]) F dX4_padOnRing_111 3 rfl rfl (lt_L hNL (by decide)) rfl ?_
      refine V_goto (tgt := 2) F dX4_padOnRing_114 (by decide) ?_
      refine V_sub [1, 2, 3, 0] rfl ?_
      exact hk2 v0 v1 v2 (v3 + 1) μ
    · refine V_aload_n F dX4_padOnRing_86 rfl 0 rfl ?_
      refine V_gJ (ci := 5) (k9 := 3) (C := RX4) (T := TX4) (N := 10) F rfl hinX4 (by decide) q178 dX4_padOnRing_87 (fun x9 => ?_)
      refine V_bipush (v := 8) F dX4_padOnRing_90 (by decide) ?_
      refine V_iload_n F dX4_padOnRing_92 rfl 3 rfl ?_
      refine V_imul F dX4_padOnRing_93 ?_
      refine V_iload F dX4_padOnRing_94 5 rfl ?_
      refine V_iadd F dX4_padOnRing_96 ?_
      refine V_cSN (As := [.long x9, .int ((8 * v3) + v6)]) (rest := []) (N := 2) F M (metX7_contains (Fx_G F) (Fx_l F) x9 ((8 * v3) + v6) μ) q398 q66 q396 q397 ⟨by decide +kernel, by decide +kernel, by decide +kernel⟩ rfl ⟨by decide, by decide⟩ (Nat.le_of_ble_eq_true rfl) dX4_padOnRing_97 (by decide) (by decide) (fun x11 μ10 => ?_)
      change V κ ρ 0 0 μ10 _ 100 [(0, .ref v0), (1, .int v1), (2, .int v2), (3, .int v3), (4, .int v4), (6, .int v6)] [.int x11]
      refine V_if_eq (tgt := 111) F dX4_padOnRing_100 (by decide) (fun c12 => ?_) (fun c13 => ?_)
      · refine V_iinc (lv' := [(3, .int (v3 + 1)), (0, .ref v0), (1, .int v1), (2, .int v2), (4, .int v4), (6, .int v6)]) F dX4_padOnRing_111 3 rfl rfl (lt_L hNL (by decide)) rfl ?_
        refine V_goto (tgt := 2) F dX4_padOnRing_114 (by decide) ?_
        refine V_sub [1, 2, 3, 0] rfl ?_
        exact hk2 v0 v1 v2 (v3 + 1) μ10
      · refine V_bipush (v := 8) F dX4_padOnRing_103 (by decide) ?_
        refine V_iload_n F dX4_padOnRing_105 rfl 3 rfl ?_
        refine V_imul F dX4_padOnRing_106 ?_
        refine V_iload F dX4_padOnRing_107 5 rfl ?_
        refine V_iadd F dX4_padOnRing_109 ?_
        exact V_iret F M dX4_padOnRing_110 rfl (by decide) (by decide)
def FX4_padOnRing_B2 (k2 : Nat → Int32 → Int32 → Int32 → Me → Rs Int32) (v0 : Nat) (v1 : Int32) (v2 : Int32) (v3 : Int32) (μ : Me) : Rs Int32 :=
  (if 8 ≤ v3 then (rt (-1) μ) else (if (v2 - (if 0 ≤ (v3 - (v1 / 8)) then (v3 - (v1 / 8)) else 0 - (v3 - (v1 / 8)))) < 0 then (FX4_padOnRing_B74 k2 v0 v1 v2 v3 (v2 - (if 0 ≤ (v3 - (v1 / 8)) then (v3 - (v1 / 8)) else 0 - (v3 - (v1 / 8)))) ((v1 - v1 / 8 * 8) + (v2 - (if 0 ≤ (v3 - (v1 / 8)) then (v3 - (v1 / 8)) else 0 - (v3 - (v1 / 8))))) μ) else (if ((v1 - v1 / 8 * 8) - (v2 - (if 0 ≤ (v3 - (v1 / 8)) then (v3 - (v1 / 8)) else 0 - (v3 - (v1 / 8))))) < 0 then (FX4_padOnRing_B74 k2 v0 v1 v2 v3 (v2 - (if 0 ≤ (v3 - (v1 / 8)) then (v3 - (v1 / 8)) else 0 - (v3 - (v1 / 8)))) ((v1 - v1 / 8 * 8) + (v2 - (if 0 ≤ (v3 - (v1 / 8)) then (v3 - (v1 / 8)) else 0 - (v3 - (v1 / 8))))) μ) else (gJ μ v0 5 3 (fun x16 => (bnd (FX7_contains x16 ((8 * v3) + ((v1 - v1 / 8 * 8) - (v2 - (if 0 ≤ (v3 - (v1 / 8)) then (v3 - (v1 / 8)) else 0 - (v3 - (v1 / 8)))))) μ) (fun x18 μ17 => (if x18 = 0 then (FX4_padOnRing_B74 k2 v0 v1 v2 v3 (v2 - (if 0 ≤ (v3 - (v1 / 8)) then (v3 - (v1 / 8)) else 0 - (v3 - (v1 / 8)))) ((v1 - v1 / 8 * 8) + (v2 - (if 0 ≤ (v3 - (v1 / 8)) then (v3 - (v1 / 8)) else 0 - (v3 - (v1 / 8))))) μ17) else (rt ((8 * v3) + ((v1 - v1 / 8 * 8) - (v2 - (if 0 ≤ (v3 - (v1 / 8)) then (v3 - (v1 / 8)) else 0 - (v3 - (v1 / 8)))))) μ17)))))))))
set_option maxHeartbeats 4000000 in
set_option maxRecDepth 100000 in
theorem VX4_padOnRing_B2 {κ : Cx} {ρ : (Int32 ⊕ String) × Me} (F : Fx κ cX4_padOnRing RX4) (M : Mx κ (fun r : Int32 => some (.int r)) ρ rmX4_padOnRing (some .int) [] "padOnRing") (hNL : κ.2.2.2.2.2.2.2.2.2.2.2.2.2.2 = 7) {k2 : Nat → Int32 → Int32 → Int32 → Me → Rs Int32} (hk2 : ∀ (v0 : Nat) (v1 : Int32) (v2 : Int32) (v3 : Int32) (μ : Me), V κ ρ 0 0 μ (k2 v0 v1 v2 v3 μ) 2 [(0, .ref v0), (1, .int v1), (2, .int v2), (3, .int v3)] []) (v0 : Nat) (v1 : Int32) (v2 : Int32) (v3 : Int32) (μ : Me) : V κ ρ 0 0 μ (FX4_padOnRing_B2 k2 v0 v1 v2 v3 μ) 2 [(0, .ref v0), (1, .int v1), (2, .int v2), (3, .int v3)] [] := by
  unfold FX4_padOnRing_B2
  refine V_iload_n F dX4_padOnRing_2 rfl 3 rfl ?_
  refine V_bipush (v := 8) F dX4_padOnRing_3 (by decide) ?_
  refine V_icmp_ge (tgt := 117) F dX4_padOnRing_5 (by decide) (fun c1 => ?_) (fun c2 => ?_)
  · refine V_iconst (v := (-1)) F dX4_padOnRing_117 (by decide) ?_
    exact V_iret F M dX4_padOnRing_118 rfl (by decide) (by decide)
  · refine V_iload_n F dX4_padOnRing_8 rfl 2 rfl ?_
    refine V_iload_n F dX4_padOnRing_9 rfl 3 rfl ?_
    refine V_iload_n F dX4_padOnRing_10 rfl 1 rfl ?_
    refine V_bipush (v := 8) F dX4_padOnRing_11 (by decide) ?_
    refine V_idiv F dX4_padOnRing_13 (by decide) ?_
    refine V_isub F dX4_padOnRing_14 ?_
    refine V_abs F M q421 q411 q84 q412 dX4_padOnRing_15 (by decide) (Nat.le_of_ble_eq_true rfl) (by decide) (by decide) ?_
    refine V_isub F dX4_padOnRing_18 ?_
    refine V_istore (lv' := [(4, .int (v2 - (if 0 ≤ (v3 - (v1 / 8)) then (v3 - (v1 / 8)) else 0 - (v3 - (v1 / 8))))), (0, .ref v0), (1, .int v1), (2, .int v2), (3, .int v3)]) F dX4_padOnRing_19 (lt_L hNL (by decide)) rfl ?_
    refine V_iload_n F dX4_padOnRing_21 rfl 2 rfl ?_
    refine V_bipush (v := 8) F dX4_padOnRing_22 (by decide) ?_
    refine V_irem F dX4_padOnRing_24 (by decide) ?_
    refine V_iload F dX4_padOnRing_25 0 rfl ?_
    refine V_isub F dX4_padOnRing_27 ?_
    refine V_istore (lv' := [(5, .int ((v1 - v1 / 8 * 8) - (v2 - (if 0 ≤ (v3 - (v1 / 8)) then (v3 - (v1 / 8)) else 0 - (v3 - (v1 / 8)))))), (4, .int (v2 - (if 0 ≤ (v3 - (v1 / 8)) then (v3 - (v1 / 8)) else 0 - (v3 - (v1 / 8))))), (0, .ref v0), (1, .int v1), (2, .int v2), (3, .int v3)]) F dX4_padOnRing_28 (lt_L hNL (by decide)) rfl ?_
    refine V_iload_n F dX4_padOnRing_30 rfl 3 rfl ?_
    refine V_bipush (v := 8) F dX4_padOnRing_31 (by decide) ?_
    refine V_irem F dX4_padOnRing_33 (by decide) ?_
    refine V_iload F dX4_padOnRing_34 1 rfl ?_
    refine V_iadd F dX4_padOnRing_36 ?_
    refine V_istore (lv' := [(6, .int ((v1 - v1 / 8 * 8) + (v2 - (if 0 ≤ (v3 - (v1 / 8)) then (v3 - (v1 / 8)) else 0 - (v3 - (v1 / 8)))))), (5, .int ((v1 - v1 / 8 * 8) - (v2 - (if 0 ≤ (v3 - (v1 / 8)) then (v3 - (v1 / 8)) else 0 - (v3 - (v1 / 8)))))), (4, .int (v2 - (if 0 ≤ (v3 - (v1 / 8)) then (v3 - (v1 / 8)) else 0 - (v3 - (v1 / 8))))), (0, .ref v0), (1, .int v1), (2, .int v2), (3, .int v3)]) F dX4_padOnRing_37 (lt_L hNL (by decide)) rfl ?_
    refine V_iload F dX4_padOnRing_39 2 rfl ?_
    refine V_if_lt (tgt := 74) F dX4_padOnRing_41 (by decide) (fun c3 => ?_) (fun c4 => ?_)
    · refine V_sub [3, 4, 5, 6, 2, 0] rfl ?_
      exact VX4_padOnRing_B74 F M hNL hk2 v0 v1 v2 v3 (v2 - (if 0 ≤ (v3 - (v1 / 8)) then (v3 - (v1 / 8)) else 0 - (v3 - (v1 / 8)))) ((v1 - v1 / 8 * 8) + (v2 - (if 0 ≤ (v3 - (v1 / 8)) then (v3 - (v1 / 8)) else 0 - (v3 - (v1 / 8))))) μ
    · refine V_iload F dX4_padOnRing_44 1 rfl ?_
      refine V_if_lt (tgt := 74) F dX4_padOnRing_46 (by decide) (fun c14 => ?_) (fun c15 => ?_)
      · refine V_sub [3, 4, 5, 6, 2, 0] rfl ?_
        exact VX4_padOnRing_B74 F M hNL hk2 v0 v1 v2 v3 (v2 - (if 0 ≤ (v3 - (v1 / 8)) then (v3 - (v1 / 8)) else 0 - (v3 - (v1 / 8)))) ((v1 - v1 / 8 * 8) + (v2 - (if 0 ≤ (v3 - (v1 / 8)) then (v3 - (v1 / 8)) else 0 - (v3 - (v1 / 8))))) μ
      · refine V_aload_n F dX4_padOnRing_49 rfl 3 rfl ?_
        refine V_gJ (ci := 5) (k9 := 3) (C := RX4) (T := TX4) (N := 10) F rfl hinX4 (by decide) q178 dX4_padOnRing_50 (fun x16 => ?_)
        refine V_bipush (v := 8) F dX4_padOnRing_53 (by decide) ?_
        refine V_iload_n F dX4_padOnRing_55 rfl 6 rfl ?_
        refine V_imul F dX4_padOnRing_56 ?_
        refine V_iload F dX4_padOnRing_57 1 rfl ?_
        refine V_iadd F dX4_padOnRing_59 ?_
        refine V_cSN (As := [.long x16, .int ((8 * v3) + ((v1 - v1 / 8 * 8) - (v2 - (if 0 ≤ (v3 - (v1 / 8)) then (v3 - (v1 / 8)) else 0 - (v3 - (v1 / 8))))))]) (rest := []) (N := 2) F M (metX7_contains (Fx_G F) (Fx_l F) x16 ((8 * v3) + ((v1 - v1 / 8 * 8) - (v2 - (if 0 ≤ (v3 - (v1 / 8)) then (v3 - (v1 / 8)) else 0 - (v3 - (v1 / 8)))))) μ) q398 q66 q396 q397 ⟨by decide +kernel, by decide +kernel, by decide +kernel⟩ rfl ⟨by decide, by decide⟩ (Nat.le_of_ble_eq_true rfl) dX4_padOnRing_60 (by decide) (by decide) (fun x18 μ17 => ?_)
        change V κ ρ 0 0 μ17 _ 63 [(6, .int ((v1 - v1 / 8 * 8) + (v2 - (if 0 ≤ (v3 - (v1 / 8)) then (v3 - (v1 / 8)) else 0 - (v3 - (v1 / 8)))))), (5, .int ((v1 - v1 / 8 * 8) - (v2 - (if 0 ≤ (v3 - (v1 / 8)) then (v3 - (v1 / 8)) else 0 - (v3 - (v1 / 8)))))), (4, .int (v2 - (if 0 ≤ (v3 - (v1 / 8)) then (v3 - (v1 / 8)) else 0 - (v3 - (v1 / 8))))), (0, .ref v0), (1, .int v1), (2, .int v2), (3, .int v3)] [.int x18]
        refine V_if_eq (tgt := 74) F dX4_padOnRing_63 (by decide) (fun c19 => ?_) (fun c20 => ?_)
        · refine V_sub [3, 4, 5, 6, 2, 0] rfl ?_
          exact VX4_padOnRing_B74 F M hNL hk2 v0 v1 v2 v3 (v2 - (if 0 ≤ (v3 - (v1 / 8)) then (v3 - (v1 / 8)) else 0 - (v3 - (v1 / 8)))) ((v1 - v1 / 8 * 8) + (v2 - (if 0 ≤ (v3 - (v1 / 8)) then (v3 - (v1 / 8)) else 0 - (v3 - (v1 / 8))))) μ17
        · refine V_bipush (v := 8) F dX4_padOnRing_66 (by decide) ?_
          refine V_iload_n F dX4_padOnRing_68 rfl 6 rfl ?_
          refine V_imul F dX4_padOnRing_69 ?_
          refine V_iload F dX4_padOnRing_70 1 rfl ?_
          refine V_iadd F dX4_padOnRing_72 ?_
          exact V_iret F M dX4_padOnRing_73 rfl (by decide) (by decide)
def FX4_padOnRing_L2  : Nat → Nat → Int32 → Int32 → Int32 → Me → Rs Int32
  | 0, _, _, _, _, _ => none
  | f + 1, v0, v1, v2, v3, μ => FX4_padOnRing_B2 (FX4_padOnRing_L2  f) v0 v1 v2 v3 μ
theorem VX4_padOnRing_L2 {κ : Cx} {ρ : (Int32 ⊕ String) × Me} (F : Fx κ cX4_padOnRing RX4) (M : Mx κ (fun r : Int32 => some (.int r)) ρ rmX4_padOnRing (some .int) [] "padOnRing") (hNL : κ.2.2.2.2.2.2.2.2.2.2.2.2.2.2 = 7)   : ∀ (f : Nat) (v0 : Nat) (v1 : Int32) (v2 : Int32) (v3 : Int32) (μ : Me), V κ ρ 0 0 μ (FX4_padOnRing_L2  f v0 v1 v2 v3 μ) 2 [(0, .ref v0), (1, .int v1), (2, .int v2), (3, .int v3)] [] := by
  intro f
  induction f with
  | zero => intros; exact V_none
  | succ f ih => intro v0 v1 v2 v3 μ; exact VX4_padOnRing_B2 F M hNL (fun v0 v1 v2 v3 μ => ih v0 v1 v2 v3 μ) v0 v1 v2 v3 μ
def FX4_padOnRing (a0 : Nat) (p1 : Int32) (p2 : Int32) (μ : Me) : Rs Int32 :=
  (FX4_padOnRing_L2  FU a0 p1 p2 0 μ)
set_option maxHeartbeats 4000000 in
set_option maxRecDepth 100000 in
theorem metX4_padOnRing {l : Launch} {s0 : State} {D : va_G} {aC : Nat → ClassId} (hG : Gl s0 D aC) (hl : l.stackTraces = false) (a0 : Nat) (p1 : Int32) (p2 : Int32) (μ : Me) : Ct l yX4_padOnRing (ws_ yX4_padOnRing cX4_padOnRing 7 (some .int)) rmX4_padOnRing s0 D aC (fun r : Int32 => some (.int r)) [.ref a0, .int p1, .int p2] μ (FX4_padOnRing a0 p1 p2 μ) := by
  refine Ct_of hG hl (by decide +kernel) (Nat.le_of_ble_eq_true rfl) (fun κ ρ hNL F M hκ => ?_)
  have F : Fx κ cX4_padOnRing RX4 := F
  change V κ ρ 0 0 μ (FX4_padOnRing a0 p1 p2 μ) 0 [(0, .ref a0), (1, .int p1), (2, .int p2)] []
  unfold FX4_padOnRing
  refine V_iconst (v := 0) F dX4_padOnRing_0 (by decide) ?_
  refine V_istore_n (lv' := [(3, .int 0), (0, .ref a0), (1, .int p1), (2, .int p2)]) F dX4_padOnRing_1 rfl (lt_L hNL (by decide)) rfl ?_
  refine V_sub [1, 2, 3, 0] rfl ?_
  exact VX4_padOnRing_L2 F M hNL  FU a0 p1 p2 0 μ
/-! DroneLightShow$Scene.matchesByMask(I)I -/
abbrev rmX4_matchesByMask : Room := { frames := 1, cells := 0, slots := 0, locals := 23 }
def FX4_matchesByMask (a0 : Nat) (p1 : Int32) (μ : Me) : Rs Int32 :=
  (gR μ a0 5 2 (fun x1 => (aJ μ x1 p1 (fun x2 => (gR μ a0 5 0 (fun x3 => (bnd (vc μ x3 3 (FX2_flyingCells x3  μ)) (fun x5 μ4 => (bnd (FJ13_bitCount_95d88 (x2 &&& x5) μ4) (fun x7 μ6 => (rt x7 μ6)))))))))))
set_option maxHeartbeats 4000000 in
set_option maxRecDepth 100000 in
theorem metX4_matchesByMask {l : Launch} {s0 : State} {D : va_G} {aC : Nat → ClassId} (hG : Gl s0 D aC) (hl : l.stackTraces = false) (a0 : Nat) (p1 : Int32) (μ : Me) : Ct l yX4_matchesByMask (ws_ yX4_matchesByMask cX4_matchesByMask 2 (some .int)) rmX4_matchesByMask s0 D aC (fun r : Int32 => some (.int r)) [.ref a0, .int p1] μ (FX4_matchesByMask a0 p1 μ) := by
  refine Ct_of hG hl (by decide +kernel) (Nat.le_of_ble_eq_true rfl) (fun κ ρ hNL F M hκ => ?_)
  have F : Fx κ cX4_matchesByMask RX4 := F
  change V κ ρ 0 0 μ (FX4_matchesByMask a0 p1 μ) 0 [(0, .ref a0), (1, .int p1)] []
  unfold FX4_matchesByMask
  refine V_aload_n F dX4_matchesByMask_0 rfl 0 rfl ?_
  refine V_gR (ci := 5) (k9 := 2) (C := RX4) (T := TX4) (N := 10) F rfl hinX4 (by decide) q176 dX4_matchesByMask_1 (fun x1 => ?_)
  refine V_iload_n F dX4_matchesByMask_4 rfl 1 rfl ?_
  refine V_aJ F dX4_matchesByMask_5 (fun x2 => ?_)
  refine V_aload_n F dX4_matchesByMask_6 rfl 0 rfl ?_
  refine V_gR (ci := 5) (k9 := 0) (C := RX4) (T := TX4) (N := 10) F rfl hinX4 (by decide) q172 dX4_matchesByMask_7 (fun x3 => ?_)
  refine V_cV (As := []) (rest := [.long x2]) (C := RX2) (N := 0) F M (metX2_flyingCells (Fx_G F) (Fx_l F) x3  μ) rfl q386 q68 q383 q384 q385 ⟨by decide +kernel, by decide +kernel, by decide +kernel⟩ rfl ⟨by decide, by decide⟩ (Nat.le_of_ble_eq_true rfl) dX4_matchesByMask_10 (by decide) (by decide) (fun x5 μ4 => ?_)
  change V κ ρ 0 0 μ4 _ 13 [(0, .ref a0), (1, .int p1)] [.long x5, .long x2]
  refine V_land F dX4_matchesByMask_13 ?_
  refine V_cS (As := [.long (x2 &&& x5)]) (rest := []) (N := 1) F M (metJ13_bitCount_95d88 (Fx_G F) (Fx_l F) (x2 &&& x5) μ4) q371 q83 q387 q370 ⟨by decide +kernel, by decide +kernel, by decide +kernel⟩ rfl ⟨by decide, by decide⟩ (Nat.le_of_ble_eq_true rfl) dX4_matchesByMask_14 (by decide) (by decide) (fun x7 μ6 => ?_)
  change V κ ρ 0 0 μ6 _ 17 [(0, .ref a0), (1, .int p1)] [.int x7]
  exact V_iret F M dX4_matchesByMask_17 rfl (by decide) (by decide)
/-! DroneLightShow$Scene.matchesByScan(I)I -/
abbrev rmX4_matchesByScan : Room := { frames := 1, cells := 0, slots := 0, locals := 22 }
def FX4_matchesByScan_B4 (k4 : Nat → Int32 → Int32 → Int32 → Me → Rs Int32) (v0 : Nat) (v1 : Int32) (v2 : Int32) (v3 : Int32) (μ : Me) : Rs Int32 :=
  (if 64 ≤ v3 then (rt v2 μ) else (gR μ v0 5 0 (fun x3 => (bnd (vc μ x3 3 (FX2_occupant x3 v3 μ)) (fun x5 μ4 => (gR μ4 v0 5 2 (fun x6 => (aJ μ4 x6 v1 (fun x7 => (bnd (FX7_contains x7 v3 μ4) (fun x9 μ8 => (if x9 = 0 then (k4 v0 v1 v2 (v3 + 1) μ8) else (if x5 = (-1) then (k4 v0 v1 v2 (v3 + 1) μ8) else (gR μ8 v0 5 0 (fun x14 => (gR μ8 x14 3 4 (fun x15 => (aZ μ8 x15 x5 (fun x16 => (if x16 = 0 then (k4 v0 v1 v2 (v3 + 1) μ8) else (k4 v0 v1 (v2 + 1) (v3 + 1) μ8)))))))))))))))))))))
set_option maxHeartbeats 4000000 in
set_option maxRecDepth 100000 in
theorem VX4_matchesByScan_B4 {κ : Cx} {ρ : (Int32 ⊕ String) × Me} (F : Fx κ cX4_matchesByScan RX4) (M : Mx κ (fun r : Int32 => some (.int r)) ρ rmX4_matchesByScan (some .int) [] "matchesByScan") (hNL : κ.2.2.2.2.2.2.2.2.2.2.2.2.2.2 = 5) {k4 : Nat → Int32 → Int32 → Int32 → Me → Rs Int32} (hk4 : ∀ (v0 : Nat) (v1 : Int32) (v2 : Int32) (v3 : Int32) (μ : Me), V κ ρ 0 0 μ (k4 v0 v1 v2 v3 μ) 4 [(0, .ref v0), (1, .int v1), (2, .int v2), (3, .int v3)] []) (v0 : Nat) (v1 : Int32) (v2 : Int32) (v3 : Int32) (μ : Me) : V κ ρ 0 0 μ (FX4_matchesByScan_B4 k4 v0 v1 v2 v3 μ) 4 [(0, .ref v0), (1, .int v1), (2, .int v2), (3, .int v3)] [] := by
  unfold FX4_matchesByScan_B4
  refine V_iload_n F dX4_matchesByScan_4 rfl 3 rfl ?_
  refine V_bipush (v := 64) F dX4_matchesByScan_5 (by decide) ?_
  refine V_icmp_ge (tgt := 61) F dX4_matchesByScan_7 (by decide) (fun c1 => ?_) (fun c2 => ?_)
  · refine V_iload_n F dX4_matchesByScan_61 rfl 2 rfl ?_
    exact V_iret F M dX4_matchesByScan_62 rfl (by decide) (by decide)
  · refine V_aload_n F dX4_matchesByScan_10 rfl 0 rfl ?_
    refine V_gR (ci := 5) (k9 := 0) (C := RX4) (T := TX4) (N := 10) F rfl hinX4 (by decide) q172 dX4_matchesByScan_11 (fun x3 => ?_)
    refine V_iload_n F dX4_matchesByScan_14 rfl 3 rfl ?_
    refine V_cV (As := [.int v3]) (rest := []) (C := RX2) (N := 1) F M (metX2_occupant (Fx_G F) (Fx_l F) x3 v3 μ) rfl q395 q68 q392 q393 q394 ⟨by decide +kernel, by decide +kernel, by decide +kernel⟩ rfl ⟨by decide, by decide⟩ (Nat.le_of_ble_eq_true rfl) dX4_matchesByScan_15 (by decide) (by decide) (fun x5 μ4 => ?_)
    change V κ ρ 0 0 μ4 _ 18 [(0, .ref v0), (1, .int v1), (2, .int v2), (3, .int v3)] [.int x5]
    refine V_istore (lv' := [(4, .int x5), (0, .ref v0), (1, .int v1), (2, .int v2), (3, .int v3)]) F dX4_matchesByScan_18 (lt_L hNL (by decide)) rfl ?_
    refine V_aload_n F dX4_matchesByScan_20 rfl 1 rfl ?_
    refine V_gR (ci := 5) (k9 := 2) (C := RX4) (T := TX4) (N := 10) F rfl hinX4 (by decide) q176 dX4_matchesByScan_21 (fun x6 => ?_)
    refine V_iload_n F dX4_matchesByScan_24 rfl 2 rfl ?_
    refine V_aJ F dX4_matchesByScan_25 (fun x7 => ?_)
    refine V_iload_n F dX4_matchesByScan_26 rfl 4 rfl ?_
    refine V_cSN (As := [.long x7, .int v3]) (rest := []) (N := 2) F M (metX7_contains (Fx_G F) (Fx_l F) x7 v3 μ4) q398 q66 q396 q397 ⟨by decide +kernel, by decide +kernel, by decide +kernel⟩ rfl ⟨by decide, by decide⟩ (Nat.le_of_ble_eq_true rfl) dX4_matchesByScan_27 (by decide) (by decide) (fun x9 μ8 => ?_)
    change V κ ρ 0 0 μ8 _ 30 [(4, .int x5), (0, .ref v0), (1, .int v1), (2, .int v2), (3, .int v3)] [.int x9]
    refine V_if_eq (tgt := 55) F dX4_matchesByScan_30 (by decide) (fun c10 => ?_) (fun c11 => ?_)
    · refine V_iinc (lv' := [(3, .int (v3 + 1)), (4, .int x5), (0, .ref v0), (1, .int v1), (2, .int v2)]) F dX4_matchesByScan_55 4 rfl rfl (lt_L hNL (by decide)) rfl ?_
      refine V_goto (tgt := 4) F dX4_matchesByScan_58 (by decide) ?_
      refine V_sub [2, 3, 4, 0] rfl ?_
      exact hk4 v0 v1 v2 (v3 + 1) μ8
    · refine V_iload F dX4_matchesByScan_33 0 rfl ?_
      refine V_iconst (v := (-1)) F dX4_matchesByScan_35 (by decide) ?_
      refine V_icmp_eq (tgt := 55) F dX4_matchesByScan_36 (by decide) (fun c12 => ?_) (fun c13 => ?_)
      · refine V_iinc (lv' := [(3, .int (v3 + 1)), (4, .int x5), (0, .ref v0), (1, .int v1), (2, .int v2)]) F dX4_matchesByScan_55 4 rfl rfl (lt_L hNL (by decide)) rfl ?_
        refine V_goto (tgt := 4) F dX4_matchesByScan_58 (by decide) ?_
        refine V_sub [2, 3, 4, 0] rfl ?_
        exact hk4 v0 v1 v2 (v3 + 1) μ8
      · refine V_aload_n F dX4_matchesByScan_39 rfl 1 rfl ?_
        refine V_gR (ci := 5) (k9 := 0) (C := RX4) (T := TX4) (N := 10) F rfl hinX4 (by decide) q172 dX4_matchesByScan_40 (fun x14 => ?_)
        refine V_gR (ci := 3) (k9 := 4) (C := RX2) (T := TX2) (N := 7) F rfl hinX2 (by decide) q126 dX4_matchesByScan_43 (fun x15 => ?_)
        refine V_iload F dX4_matchesByScan_46 0 rfl ?_
        refine V_aZ F dX4_matchesByScan_48 (fun x16 => ?_)
        refine V_if_eq (tgt := 55) F dX4_matchesByScan_49 (by decide) (fun c17 => ?_) (fun c18 => ?_)
        · refine V_iinc (lv' := [(3, .int (v3 + 1)), (4, .int x5), (0, .ref v0), (1, .int v1), (2, .int v2)]) F dX4_matchesByScan_55 4 rfl rfl (lt_L hNL (by decide)) rfl ?_
          refine V_goto (tgt := 4) F dX4_matchesByScan_58 (by decide) ?_
          refine V_sub [2, 3, 4, 0] rfl ?_
          exact hk4 v0 v1 v2 (v3 + 1) μ8
        · refine V_iinc (lv' := [(2, .int (v2 + 1)), (4, .int x5), (0, .ref v0), (1, .int v1), (3, .int v3)]) F dX4_matchesByScan_52 3 rfl rfl (lt_L hNL (by decide)) rfl ?_
          refine V_iinc (lv' := [(3, .int (v3 + 1)), (2, .int (v2 + 1)), (4, .int x5), (0, .ref v0), (1, .int v1)]) F dX4_matchesByScan_55 4 rfl rfl (lt_L hNL (by decide)) rfl ?_
          refine V_goto (tgt := 4) F dX4_matchesByScan_58 (by decide) ?_
          refine V_sub [3, 4, 1, 0] rfl ?_
          exact hk4 v0 v1 (v2 + 1) (v3 + 1) μ8
def FX4_matchesByScan_L4  : Nat → Nat → Int32 → Int32 → Int32 → Me → Rs Int32
  | 0, _, _, _, _, _ => none
  | f + 1, v0, v1, v2, v3, μ => FX4_matchesByScan_B4 (FX4_matchesByScan_L4  f) v0 v1 v2 v3 μ
theorem VX4_matchesByScan_L4 {κ : Cx} {ρ : (Int32 ⊕ String) × Me} (F : Fx κ cX4_matchesByScan RX4) (M : Mx κ (fun r : Int32 => some (.int r)) ρ rmX4_matchesByScan (some .int) [] "matchesByScan") (hNL : κ.2.2.2.2.2.2.2.2.2.2.2.2.2.2 = 5)   : ∀ (f : Nat) (v0 : Nat) (v1 : Int32) (v2 : Int32) (v3 : Int32) (μ : Me), V κ ρ 0 0 μ (FX4_matchesByScan_L4  f v0 v1 v2 v3 μ) 4 [(0, .ref v0), (1, .int v1), (2, .int v2), (3, .int v3)] [] := by
  intro f
  induction f with
  | zero => intros; exact V_none
  | succ f ih => intro v0 v1 v2 v3 μ; exact VX4_matchesByScan_B4 F M hNL (fun v0 v1 v2 v3 μ => ih v0 v1 v2 v3 μ) v0 v1 v2 v3 μ
def FX4_matchesByScan (a0 : Nat) (p1 : Int32) (μ : Me) : Rs Int32 :=
  (FX4_matchesByScan_L4  FU a0 p1 0 0 μ)
set_option maxHeartbeats 4000000 in
set_option maxRecDepth 100000 in
theorem metX4_matchesByScan {l : Launch} {s0 : State} {D : va_G} {aC : Nat → ClassId} (hG : Gl s0 D aC) (hl : l.stackTraces = false) (a0 : Nat) (p1 : Int32) (μ : Me) : Ct l yX4_matchesByScan (ws_ yX4_matchesByScan cX4_matchesByScan 5 (some .int)) rmX4_matchesByScan s0 D aC (fun r : Int32 => some (.int r)) [.ref a0, .int p1] μ (FX4_matchesByScan a0 p1 μ) := by
  refine Ct_of hG hl (by decide +kernel) (Nat.le_of_ble_eq_true rfl) (fun κ ρ hNL F M hκ => ?_)
  have F : Fx κ cX4_matchesByScan RX4 := F
  change V κ ρ 0 0 μ (FX4_matchesByScan a0 p1 μ) 0 [(0, .ref a0), (1, .int p1)] []
  unfold FX4_matchesByScan
  refine V_iconst (v := 0) F dX4_matchesByScan_0 (by decide) ?_
  refine V_istore_n (lv' := [(2, .int 0), (0, .ref a0), (1, .int p1)]) F dX4_matchesByScan_1 rfl (lt_L hNL (by decide)) rfl ?_
  refine V_iconst (v := 0) F dX4_matchesByScan_2 (by decide) ?_
  refine V_istore_n (lv' := [(3, .int 0), (2, .int 0), (0, .ref a0), (1, .int p1)]) F dX4_matchesByScan_3 rfl (lt_L hNL (by decide)) rfl ?_
  refine V_sub [2, 3, 1, 0] rfl ?_
  exact VX4_matchesByScan_L4 F M hNL  FU a0 p1 0 0 μ
/-! DroneLightShow$Scene.picture(I)C -/
abbrev rmX4_picture : Room := { frames := 1, cells := 0, slots := 0, locals := 22 }
def FX4_picture (a0 : Nat) (p1 : Int32) (μ : Me) : Rs Int32 :=
  (gR μ a0 5 0 (fun x1 => (bnd (vc μ x1 3 (FX2_occupant x1 p1 μ)) (fun x3 μ2 => (if x3 = (-1) then (gJ μ2 a0 5 3 (fun x6 => (bnd (FX7_contains x6 p1 μ2) (fun x8 μ7 => (if x8 = 0 then (gd (vp_nar .char 46 = 46) (rt 46 μ7)) else (gd (vp_nar .char 95 = 95) (rt 95 μ7))))))) else (gR μ2 a0 5 0 (fun x13 => (gR μ2 x13 3 4 (fun x14 => (aZ μ2 x14 x3 (fun x15 => (if x15 = 0 then (gd (vp_nar .char ((((97 + x3) : Int32).toUInt32 % 65536).toInt32) = (((97 + x3) : Int32).toUInt32 % 65536).toInt32) (rt ((((97 + x3) : Int32).toUInt32 % 65536).toInt32) μ2)) else (gd (vp_nar .char ((((48 + x3) : Int32).toUInt32 % 65536).toInt32) = (((48 + x3) : Int32).toUInt32 % 65536).toInt32) (rt ((((48 + x3) : Int32).toUInt32 % 65536).toInt32) μ2))))))))))))))
set_option maxHeartbeats 4000000 in
set_option maxRecDepth 100000 in
theorem metX4_picture {l : Launch} {s0 : State} {D : va_G} {aC : Nat → ClassId} (hG : Gl s0 D aC) (hl : l.stackTraces = false) (a0 : Nat) (p1 : Int32) (μ : Me) : Ct l yX4_picture (ws_ yX4_picture cX4_picture 3 (some .char)) rmX4_picture s0 D aC (fun r : Int32 => some (.int r)) [.ref a0, .int p1] μ (FX4_picture a0 p1 μ) := by
  refine Ct_of hG hl (by decide +kernel) (Nat.le_of_ble_eq_true rfl) (fun κ ρ hNL F M hκ => ?_)
  have F : Fx κ cX4_picture RX4 := F
  change V κ ρ 0 0 μ (FX4_picture a0 p1 μ) 0 [(0, .ref a0), (1, .int p1)] []
  unfold FX4_picture
  refine V_aload_n F dX4_picture_0 rfl 0 rfl ?_
  refine V_gR (ci := 5) (k9 := 0) (C := RX4) (T := TX4) (N := 10) F rfl hinX4 (by decide) q172 dX4_picture_1 (fun x1 => ?_)
  refine V_iload_n F dX4_picture_4 rfl 1 rfl ?_
  refine V_cV (As := [.int p1]) (rest := []) (C := RX2) (N := 1) F M (metX2_occupant (Fx_G F) (Fx_l F) x1 p1 μ) rfl q395 q68 q392 q393 q394 ⟨by decide +kernel, by decide +kernel, by decide +kernel⟩ rfl ⟨by decide, by decide⟩ (Nat.le_of_ble_eq_true rfl) dX4_picture_5 (by decide) (by decide) (fun x3 μ2 => ?_)
  change V κ ρ 0 0 μ2 _ 8 [(0, .ref a0), (1, .int p1)] [.int x3]
  refine V_istore_n (lv' := [(2, .int x3), (0, .ref a0), (1, .int p1)]) F dX4_picture_8 rfl (lt_L hNL (by decide)) rfl ?_
  refine V_iload_n F dX4_picture_9 rfl 0 rfl ?_
  refine V_iconst (v := (-1)) F dX4_picture_10 (by decide) ?_
  refine V_icmp_eq (tgt := 37) F dX4_picture_11 (by decide) (fun c4 => ?_) (fun c5 => ?_)
  · refine V_aload_n F dX4_picture_37 rfl 1 rfl ?_
    refine V_gJ (ci := 5) (k9 := 3) (C := RX4) (T := TX4) (N := 10) F rfl hinX4 (by decide) q178 dX4_picture_38 (fun x6 => ?_)
    refine V_iload_n F dX4_picture_41 rfl 2 rfl ?_
    refine V_cSN (As := [.long x6, .int p1]) (rest := []) (N := 2) F M (metX7_contains (Fx_G F) (Fx_l F) x6 p1 μ2) q398 q66 q396 q397 ⟨by decide +kernel, by decide +kernel, by decide +kernel⟩ rfl ⟨by decide, by decide⟩ (Nat.le_of_ble_eq_true rfl) dX4_picture_42 (by decide) (by decide) (fun x8 μ7 => ?_)
    change V κ ρ 0 0 μ7 _ 45 [(2, .int x3), (0, .ref a0), (1, .int p1)] [.int x8]
    refine V_if_eq (tgt := 53) F dX4_picture_45 (by decide) (fun c9 => ?_) (fun c10 => ?_)
    · refine V_bipush (v := 46) F dX4_picture_53 (by decide) ?_
      refine V_gd (fun g11 => ?_)
      exact V_zret F M dX4_picture_55 rfl (nar_c g11) (by decide) (by decide)
    · refine V_bipush (v := 95) F dX4_picture_48 (by decide) ?_
      refine V_goto (tgt := 55) F dX4_picture_50 (by decide) ?_
      refine V_gd (fun g12 => ?_)
      exact V_zret F M dX4_picture_55 rfl (nar_c g12) (by decide) (by decide)
  · refine V_aload_n F dX4_picture_14 rfl 1 rfl ?_
    refine V_gR (ci := 5) (k9 := 0) (C := RX4) (T := TX4) (N := 10) F rfl hinX4 (by decide) q172 dX4_picture_15 (fun x13 => ?_)
    refine V_gR (ci := 3) (k9 := 4) (C := RX2) (T := TX2) (N := 7) F rfl hinX2 (by decide) q126 dX4_picture_18 (fun x14 => ?_)
    refine V_iload_n F dX4_picture_21 rfl 0 rfl ?_
    refine V_aZ F dX4_picture_22 (fun x15 => ?_)
    refine V_if_eq (tgt := 31) F dX4_picture_23 (by decide) (fun c16 => ?_) (fun c17 => ?_)
    · refine V_bipush (v := 97) F dX4_picture_31 (by decide) ?_
      refine V_iload_n F dX4_picture_33 rfl 0 rfl ?_
      refine V_iadd F dX4_picture_34 ?_
      refine V_i2c F dX4_picture_35 ?_
      refine V_gd (fun g18 => ?_)
      exact V_zret F M dX4_picture_36 rfl (nar_c g18) (by decide) (by decide)
    · refine V_bipush (v := 48) F dX4_picture_26 (by decide) ?_
      refine V_goto (tgt := 33) F dX4_picture_28 (by decide) ?_
      refine V_iload_n F dX4_picture_33 rfl 0 rfl ?_
      refine V_iadd F dX4_picture_34 ?_
      refine V_i2c F dX4_picture_35 ?_
      refine V_gd (fun g19 => ?_)
      exact V_zret F M dX4_picture_36 rfl (nar_c g19) (by decide) (by decide)
/-! DroneLightShow$Script.parseVerb()LDroneLightShow$Verb; -/
abbrev rmX5_parseVerb : Room := { frames := 5, cells := 0, slots := 0, locals := 107 }
def FX5_parseVerb_B4 (aC : Nat → Nat) (k4 : Nat → Int32 → Int32 → Me → Rs (Option Nat)) (v0 : Nat) (v1 : Int32) (v2 : Int32) (μ : Me) : Rs (Option Nat) :=
  (if (nI 11) ≤ v2 then (gI μ v0 6 5 (fun x3 => (pf μ v0 6 5 (.int (x3 + v1)) (fun μ4 => (rt (none : Option Nat) μ4))))) else (gd (inb v2 11 = true) (gd (v2.toNatClampNeg < 11) (bnd (vc μ v0 6 (FX5_sameCharacters aC v0 v2.toNatClampNeg μ)) (fun x8 μ7 => (gd (v2.toNatClampNeg < 15) (bnd (FJ0_length_8abf5 aC v2.toNatClampNeg  μ7) (fun x11 μ10 => (if x8 = x11 then (gI μ10 v0 6 5 (fun x14 => (pf μ10 v0 6 5 (.int (x14 + x8)) (fun μ15 => (gd (inb v2 11 = true) (rt (some v2.toNatClampNeg) μ15)))))) else (k4 v0 (if v1 < x8 then x8 else v1) (v2 + 1) μ10))))))))))
set_option maxHeartbeats 4000000 in
set_option maxRecDepth 100000 in
theorem VX5_parseVerb_B4 {aC : Nat → Nat} {κ : Cx} {ρ : ((Option Nat) ⊕ String) × Me} (F : Fx κ cX5_parseVerb RX5) (M : Mx κ (fun r : Option Nat => some (vref aC r)) ρ rmX5_parseVerb (some (.object "DroneLightShow$Verb")) [] "parseVerb") (hNL : κ.2.2.2.2.2.2.2.2.2.2.2.2.2.2 = 5) (hκ : κ.2.2.2.2.2.2.2.2.2.2.2.2.2.1 = aC) {k4 : Nat → Int32 → Int32 → Me → Rs (Option Nat)} (hk4 : ∀ (v0 : Nat) (v1 : Int32) (v2 : Int32) (μ : Me), V κ ρ 0 0 μ (k4 v0 v1 v2 μ) 4 [(0, .ref v0), (1, .int v1), (2, .int v2)] []) (v0 : Nat) (v1 : Int32) (v2 : Int32) (μ : Me) : V κ ρ 0 0 μ (FX5_parseVerb_B4 aC k4 v0 v1 v2 μ) 4 [(0, .ref v0), (1, .int v1), (2, .int v2)] [] := by
  have SGa := Fx_SGa F hκ _ rfl
  unfold FX5_parseVerb_B4
  refine V_iload_n F dX5_parseVerb_4 rfl 2 rfl ?_
  refine V_gstN F SGa.1 q1024 dX5_parseVerb_5 ?_
  refine V_tlen F SGa.2.1 dX5_parseVerb_8 ?_
  refine V_icmp_ge (tgt := 67) F dX5_parseVerb_9 (by decide) (fun c1 => ?_) (fun c2 => ?_)
  · refine V_aload_n F dX5_parseVerb_67 rfl 0 rfl ?_
    refine V_dup F dX5_parseVerb_68 rfl ?_
    refine V_gI (ci := 6) (k9 := 5) (C := RX5) (T := TX5) (N := 6) F rfl hinX5 (by decide) q252 dX5_parseVerb_69 (fun x3 => ?_)
    refine V_iload_n F dX5_parseVerb_72 rfl 1 rfl ?_
    refine V_iadd F dX5_parseVerb_73 ?_
    refine V_pf (ci := 6) (k9 := 5) (C := RX5) (T := TX5) (N := 6) (ty := tyX5) F rfl hinX5 tyX5_ok nmX5 (by decide) q252 rfl rfl rfl dX5_parseVerb_74 (fun μ4 => ?_)
    refine V_null F dX5_parseVerb_77 ?_
    exact V_aret F M (Or.inl ⟨_, rfl⟩) (Or.inl rfl) dX5_parseVerb_78 rfl (by decide) (by decide)
  · refine V_gstN F SGa.1 q1024 dX5_parseVerb_12 ?_
    refine V_iload_n F dX5_parseVerb_15 rfl 2 rfl ?_
    refine V_gd (fun g5 => ?_)
    refine V_ta (v := 0) F SGa.2.1 g5 dX5_parseVerb_16 ?_
    change V κ ρ 0 0 μ _ 17 [(0, .ref v0), (1, .int v1), (2, .int v2)] [.ref (aC (110 + v2.toNatClampNeg))]
    refine V_gd (fun g6 => ?_)
    refine V_gof F (SGa.2.2.2.2.1 v2.toNatClampNeg g6).2.2.1 q1724 dX5_parseVerb_17 ?_
    refine V_astore_n (lv' := [(3, .ref (aC (130 + v2.toNatClampNeg))), (0, .ref v0), (1, .int v1), (2, .int v2)]) F dX5_parseVerb_20 rfl (lt_L hNL (by decide)) rfl ?_
    refine V_aload_n F dX5_parseVerb_21 rfl 1 rfl ?_
    refine V_aload_n F dX5_parseVerb_22 rfl 0 rfl ?_
    refine V_cV (As := [.ref (aC (130 + v2.toNatClampNeg))]) (rest := []) (C := RX5) (N := 1) F M (metX5_sameCharacters (Fx_G F) (Fx_l F) hκ v0 v2.toNatClampNeg μ) rfl q1029 q71 q1026 q1028 q16 ⟨by decide +kernel, by decide +kernel, by decide +kernel⟩ rfl ⟨by decide, by decide⟩ (Nat.le_of_ble_eq_true rfl) dX5_parseVerb_23 (by decide) (by decide) (fun x8 μ7 => ?_)
    change V κ ρ 0 0 μ7 _ 26 [(3, .ref (aC (130 + v2.toNatClampNeg))), (0, .ref v0), (1, .int v1), (2, .int v2)] [.int x8]
    refine V_istore (lv' := [(4, .int x8), (3, .ref (aC (130 + v2.toNatClampNeg))), (0, .ref v0), (1, .int v1), (2, .int v2)]) F dX5_parseVerb_26 (lt_L hNL (by decide)) rfl ?_
    refine V_iload F dX5_parseVerb_28 0 rfl ?_
    refine V_aload_n F dX5_parseVerb_30 rfl 1 rfl ?_
    refine V_gd (fun g9 => ?_)
    refine V_cO (As := []) (rest := [.int x8]) (C := "java/lang/String") (N := 0) F M (SGa.2.2.2.2.2.2.1 v2.toNatClampNeg g9).1 (metJ0_length_8abf5 (Fx_G F) (Fx_l F) hκ v2.toNatClampNeg  μ7) q1033 q78 q1030 q1031 q1032 ⟨by decide +kernel, by decide +kernel, by decide +kernel⟩ rfl ⟨by decide, by decide⟩ (Nat.le_of_ble_eq_true rfl) dX5_parseVerb_31 (by decide) (by decide) (fun x11 μ10 => ?_)
    change V κ ρ 0 0 μ10 _ 34 [(4, .int x8), (3, .ref (aC (130 + v2.toNatClampNeg))), (0, .ref v0), (1, .int v1), (2, .int v2)] [.int x11, .int x8]
    refine V_icmp_ne (tgt := 54) F dX5_parseVerb_34 (by decide) (fun c12 => ?_) (fun c13 => ?_)
    · refine V_iload_n F dX5_parseVerb_54 rfl 3 rfl ?_
      refine V_iload F dX5_parseVerb_55 0 rfl ?_
      refine V_max F M q1078 q911 q84 q912 dX5_parseVerb_57 (by decide) (Nat.le_of_ble_eq_true rfl) (by decide) (by decide) ?_
      refine V_istore_n (lv' := [(1, .int (if v1 < x8 then x8 else v1)), (4, .int x8), (3, .ref (aC (130 + v2.toNatClampNeg))), (0, .ref v0), (2, .int v2)]) F dX5_parseVerb_60 rfl (lt_L hNL (by decide)) rfl ?_
      refine V_iinc (lv' := [(2, .int (v2 + 1)), (1, .int (if v1 < x8 then x8 else v1)), (4, .int x8), (3, .ref (aC (130 + v2.toNatClampNeg))), (0, .ref v0)]) F dX5_parseVerb_61 4 rfl rfl (lt_L hNL (by decide)) rfl ?_
      refine V_goto (tgt := 4) F dX5_parseVerb_64 (by decide) ?_
      refine V_sub [4, 1, 0] rfl ?_
      exact hk4 v0 (if v1 < x8 then x8 else v1) (v2 + 1) μ10
    · refine V_aload_n F dX5_parseVerb_37 rfl 2 rfl ?_
      refine V_dup F dX5_parseVerb_38 rfl ?_
      refine V_gI (ci := 6) (k9 := 5) (C := RX5) (T := TX5) (N := 6) F rfl hinX5 (by decide) q252 dX5_parseVerb_39 (fun x14 => ?_)
      refine V_iload F dX5_parseVerb_42 0 rfl ?_
      refine V_iadd F dX5_parseVerb_44 ?_
      refine V_pf (ci := 6) (k9 := 5) (C := RX5) (T := TX5) (N := 6) (ty := tyX5) F rfl hinX5 tyX5_ok nmX5 (by decide) q252 rfl rfl rfl dX5_parseVerb_45 (fun μ15 => ?_)
      refine V_gstN F SGa.1 q1024 dX5_parseVerb_48 ?_
      refine V_iload_n F dX5_parseVerb_51 rfl 4 rfl ?_
      refine V_gd (fun g16 => ?_)
      refine V_ta (v := 0) F SGa.2.1 g16 dX5_parseVerb_52 ?_
      change V κ ρ 0 0 μ15 _ 53 [(4, .int x8), (3, .ref (aC (130 + v2.toNatClampNeg))), (0, .ref v0), (1, .int v1), (2, .int v2)] [.ref (aC (110 + v2.toNatClampNeg))]
      exact V_aret F M (Or.inl ⟨_, rfl⟩) (Or.inr ⟨_, rfl⟩) dX5_parseVerb_53 rfl (by decide) (by decide)
def FX5_parseVerb_L4 (aC : Nat → Nat)  : Nat → Nat → Int32 → Int32 → Me → Rs (Option Nat)
  | 0, _, _, _, _ => none
  | f + 1, v0, v1, v2, μ => FX5_parseVerb_B4 aC (FX5_parseVerb_L4 aC  f) v0 v1 v2 μ
theorem VX5_parseVerb_L4 {aC : Nat → Nat} {κ : Cx} {ρ : ((Option Nat) ⊕ String) × Me} (F : Fx κ cX5_parseVerb RX5) (M : Mx κ (fun r : Option Nat => some (vref aC r)) ρ rmX5_parseVerb (some (.object "DroneLightShow$Verb")) [] "parseVerb") (hNL : κ.2.2.2.2.2.2.2.2.2.2.2.2.2.2 = 5) (hκ : κ.2.2.2.2.2.2.2.2.2.2.2.2.2.1 = aC)   : ∀ (f : Nat) (v0 : Nat) (v1 : Int32) (v2 : Int32) (μ : Me), V κ ρ 0 0 μ (FX5_parseVerb_L4 aC  f v0 v1 v2 μ) 4 [(0, .ref v0), (1, .int v1), (2, .int v2)] [] := by
  intro f
  induction f with
  | zero => intros; exact V_none
  | succ f ih => intro v0 v1 v2 μ; exact VX5_parseVerb_B4 F M hNL hκ (fun v0 v1 v2 μ => ih v0 v1 v2 μ) v0 v1 v2 μ
def FX5_parseVerb (aC : Nat → Nat) (a0 : Nat) (μ : Me) : Rs (Option Nat) :=
  (FX5_parseVerb_L4 aC  FU a0 0 0 μ)
set_option maxHeartbeats 4000000 in
set_option maxRecDepth 100000 in
theorem metX5_parseVerb {l : Launch} {s0 : State} {D : va_G} {aC aC9 : Nat → ClassId} (hG : Gl s0 D aC9) (hl : l.stackTraces = false) (e9 : aC9 = aC) (a0 : Nat) (μ : Me) : Ct l yX5_parseVerb (ws_ yX5_parseVerb cX5_parseVerb 5 (some (.object "DroneLightShow$Verb"))) rmX5_parseVerb s0 D aC9 (fun r : Option Nat => some (vref aC r)) [.ref a0] μ (FX5_parseVerb aC a0 μ) := by
  refine Ct_of hG hl (by decide +kernel) (Nat.le_of_ble_eq_true rfl) (fun κ ρ hNL F M hκ => ?_)
  have hκ := hκ.trans e9
  have F : Fx κ cX5_parseVerb RX5 := F
  change V κ ρ 0 0 μ (FX5_parseVerb aC a0 μ) 0 [(0, .ref a0)] []
  have SGa := Fx_SGa F hκ _ rfl
  unfold FX5_parseVerb
  refine V_iconst (v := 0) F dX5_parseVerb_0 (by decide) ?_
  refine V_istore_n (lv' := [(1, .int 0), (0, .ref a0)]) F dX5_parseVerb_1 rfl (lt_L hNL (by decide)) rfl ?_
  refine V_iconst (v := 0) F dX5_parseVerb_2 (by decide) ?_
  refine V_istore_n (lv' := [(2, .int 0), (1, .int 0), (0, .ref a0)]) F dX5_parseVerb_3 rfl (lt_L hNL (by decide)) rfl ?_
  refine V_sub [2, 1, 0] rfl ?_
  exact VX5_parseVerb_L4 F M hNL hκ  FU a0 0 0 μ
/-! DroneLightShow$Script.parseNumber(I)I -/
abbrev rmX5_parseNumber : Room := { frames := 1, cells := 0, slots := 0, locals := 20 }
def FX5_parseNumber_B47 (k4 : Nat → Int32 → Int32 → Int32 → Me → Rs Int32) (v0 : Nat) (v1 : Int32) (v3 : Int32) (t0 : Int32) (μ : Me) : Rs Int32 :=
  (gI μ v0 6 5 (fun x12 => (pf μ v0 6 5 (.int (x12 + 1)) (fun μ13 => (k4 v0 v1 t0 (v3 + 1) μ13)))))
set_option maxHeartbeats 4000000 in
set_option maxRecDepth 100000 in
theorem VX5_parseNumber_B47 {κ : Cx} {ρ : (Int32 ⊕ String) × Me} (F : Fx κ cX5_parseNumber RX5) (M : Mx κ (fun r : Int32 => some (.int r)) ρ rmX5_parseNumber (some .int) [] "parseNumber") (hNL : κ.2.2.2.2.2.2.2.2.2.2.2.2.2.2 = 5) {k4 : Nat → Int32 → Int32 → Int32 → Me → Rs Int32} (hk4 : ∀ (v0 : Nat) (v1 : Int32) (v2 : Int32) (v3 : Int32) (μ : Me), V κ ρ 0 0 μ (k4 v0 v1 v2 v3 μ) 4 [(0, .ref v0), (1, .int v1), (2, .int v2), (3, .int v3)] []) (v0 : Nat) (v1 : Int32) (v3 : Int32) (t0 : Int32) (μ : Me) : V κ ρ 0 0 μ (FX5_parseNumber_B47 k4 v0 v1 v3 t0 μ) 47 [(0, .ref v0), (1, .int v1), (3, .int v3)] [.int t0] := by
  unfold FX5_parseNumber_B47
  refine V_istore_n (lv' := [(2, .int t0), (0, .ref v0), (1, .int v1), (3, .int v3)]) F dX5_parseNumber_47 rfl (lt_L hNL (by decide)) rfl ?_
  refine V_aload_n F dX5_parseNumber_48 rfl 1 rfl ?_
  refine V_dup F dX5_parseNumber_49 rfl ?_
  refine V_gI (ci := 6) (k9 := 5) (C := RX5) (T := TX5) (N := 6) F rfl hinX5 (by decide) q252 dX5_parseNumber_50 (fun x12 => ?_)
  refine V_iconst (v := 1) F dX5_parseNumber_53 (by decide) ?_
  refine V_iadd F dX5_parseNumber_54 ?_
  refine V_pf (ci := 6) (k9 := 5) (C := RX5) (T := TX5) (N := 6) (ty := tyX5) F rfl hinX5 tyX5_ok nmX5 (by decide) q252 rfl rfl rfl dX5_parseNumber_55 (fun μ13 => ?_)
  refine V_iinc (lv' := [(3, .int (v3 + 1)), (2, .int t0), (0, .ref v0), (1, .int v1)]) F dX5_parseNumber_58 3 rfl rfl (lt_L hNL (by decide)) rfl ?_
  refine V_goto (tgt := 4) F dX5_parseNumber_61 (by decide) ?_
  refine V_sub [2, 3, 1, 0] rfl ?_
  exact hk4 v0 v1 t0 (v3 + 1) μ13
def FX5_parseNumber_B4 (k4 : Nat → Int32 → Int32 → Int32 → Me → Rs Int32) (v0 : Nat) (v1 : Int32) (v2 : Int32) (v3 : Int32) (μ : Me) : Rs Int32 :=
  (if v1 ≤ v3 then (rt v2 μ) else (bnd (vc μ v0 6 (FX5_atDigit v0  μ)) (fun x4 μ3 => (if x4 = 0 then (rt v2 μ3) else (gR μ3 v0 6 0 (fun x7 => (gI μ3 v0 6 5 (fun x8 => (aCh μ3 x7 x8 (fun x9 => (if v2 = (-1) then (FX5_parseNumber_B47 k4 v0 v1 v3 (x9 - 48) μ3) else (FX5_parseNumber_B47 k4 v0 v1 v3 ((10 * v2) + (x9 - 48)) μ3))))))))))))
set_option maxHeartbeats 4000000 in
set_option maxRecDepth 100000 in
theorem VX5_parseNumber_B4 {κ : Cx} {ρ : (Int32 ⊕ String) × Me} (F : Fx κ cX5_parseNumber RX5) (M : Mx κ (fun r : Int32 => some (.int r)) ρ rmX5_parseNumber (some .int) [] "parseNumber") (hNL : κ.2.2.2.2.2.2.2.2.2.2.2.2.2.2 = 5) {k4 : Nat → Int32 → Int32 → Int32 → Me → Rs Int32} (hk4 : ∀ (v0 : Nat) (v1 : Int32) (v2 : Int32) (v3 : Int32) (μ : Me), V κ ρ 0 0 μ (k4 v0 v1 v2 v3 μ) 4 [(0, .ref v0), (1, .int v1), (2, .int v2), (3, .int v3)] []) (v0 : Nat) (v1 : Int32) (v2 : Int32) (v3 : Int32) (μ : Me) : V κ ρ 0 0 μ (FX5_parseNumber_B4 k4 v0 v1 v2 v3 μ) 4 [(0, .ref v0), (1, .int v1), (2, .int v2), (3, .int v3)] [] := by
  unfold FX5_parseNumber_B4
  refine V_iload_n F dX5_parseNumber_4 rfl 3 rfl ?_
  refine V_iload_n F dX5_parseNumber_5 rfl 1 rfl ?_
  refine V_icmp_ge (tgt := 64) F dX5_parseNumber_6 (by decide) (fun c1 => ?_) (fun c2 => ?_)
  · refine V_iload_n F dX5_parseNumber_64 rfl 2 rfl ?_
    exact V_iret F M dX5_parseNumber_65 rfl (by decide) (by decide)
  · refine V_aload_n F dX5_parseNumber_9 rfl 0 rfl ?_
    refine V_cV (As := []) (rest := []) (C := RX5) (N := 0) F M (metX5_atDigit (Fx_G F) (Fx_l F) v0  μ) rfl q1090 q71 q1087 q1089 q19 ⟨by decide +kernel, by decide +kernel, by decide +kernel⟩ rfl ⟨by decide, by decide⟩ (Nat.le_of_ble_eq_true rfl) dX5_parseNumber_10 (by decide) (by decide) (fun x4 μ3 => ?_)
    change V κ ρ 0 0 μ3 _ 13 [(0, .ref v0), (1, .int v1), (2, .int v2), (3, .int v3)] [.int x4]
    refine V_if_eq (tgt := 64) F dX5_parseNumber_13 (by decide) (fun c5 => ?_) (fun c6 => ?_)
    · refine V_iload_n F dX5_parseNumber_64 rfl 2 rfl ?_
      exact V_iret F M dX5_parseNumber_65 rfl (by decide) (by decide)
    · refine V_aload_n F dX5_parseNumber_16 rfl 0 rfl ?_
      refine V_gR (ci := 6) (k9 := 0) (C := RX5) (T := TX5) (N := 6) F rfl hinX5 (by decide) q243 dX5_parseNumber_17 (fun x7 => ?_)
      refine V_aload_n F dX5_parseNumber_20 rfl 0 rfl ?_
      refine V_gI (ci := 6) (k9 := 5) (C := RX5) (T := TX5) (N := 6) F rfl hinX5 (by decide) q252 dX5_parseNumber_21 (fun x8 => ?_)
      refine V_aCh F dX5_parseNumber_24 (fun x9 => ?_)
      refine V_bipush (v := 48) F dX5_parseNumber_25 (by decide) ?_
      refine V_isub F dX5_parseNumber_27 ?_
      refine V_istore (lv' := [(4, .int (x9 - 48)), (0, .ref v0), (1, .int v1), (2, .int v2), (3, .int v3)]) F dX5_parseNumber_28 (lt_L hNL (by decide)) rfl ?_
      refine V_iload_n F dX5_parseNumber_30 rfl 3 rfl ?_
      refine V_iconst (v := (-1)) F dX5_parseNumber_31 (by decide) ?_
      refine V_icmp_ne (tgt := 40) F dX5_parseNumber_32 (by decide) (fun c10 => ?_) (fun c11 => ?_)
      · refine V_bipush (v := 10) F dX5_parseNumber_40 (by decide) ?_
        refine V_iload_n F dX5_parseNumber_42 rfl 3 rfl ?_
        refine V_imul F dX5_parseNumber_43 ?_
        refine V_iload F dX5_parseNumber_44 0 rfl ?_
        refine V_iadd F dX5_parseNumber_46 ?_
        refine V_sub [1, 2, 4] rfl ?_
        exact VX5_parseNumber_B47 F M hNL hk4 v0 v1 v3 ((10 * v2) + (x9 - 48)) μ3
      · refine V_iload F dX5_parseNumber_35 0 rfl ?_
        refine V_goto (tgt := 47) F dX5_parseNumber_37 (by decide) ?_
        refine V_sub [1, 2, 4] rfl ?_
        exact VX5_parseNumber_B47 F M hNL hk4 v0 v1 v3 (x9 - 48) μ3
def FX5_parseNumber_L4  : Nat → Nat → Int32 → Int32 → Int32 → Me → Rs Int32
  | 0, _, _, _, _, _ => none
  | f + 1, v0, v1, v2, v3, μ => FX5_parseNumber_B4 (FX5_parseNumber_L4  f) v0 v1 v2 v3 μ
theorem VX5_parseNumber_L4 {κ : Cx} {ρ : (Int32 ⊕ String) × Me} (F : Fx κ cX5_parseNumber RX5) (M : Mx κ (fun r : Int32 => some (.int r)) ρ rmX5_parseNumber (some .int) [] "parseNumber") (hNL : κ.2.2.2.2.2.2.2.2.2.2.2.2.2.2 = 5)   : ∀ (f : Nat) (v0 : Nat) (v1 : Int32) (v2 : Int32) (v3 : Int32) (μ : Me), V κ ρ 0 0 μ (FX5_parseNumber_L4  f v0 v1 v2 v3 μ) 4 [(0, .ref v0), (1, .int v1), (2, .int v2), (3, .int v3)] [] := by
  intro f
  induction f with
  | zero => intros; exact V_none
  | succ f ih => intro v0 v1 v2 v3 μ; exact VX5_parseNumber_B4 F M hNL (fun v0 v1 v2 v3 μ => ih v0 v1 v2 v3 μ) v0 v1 v2 v3 μ
def FX5_parseNumber (a0 : Nat) (p1 : Int32) (μ : Me) : Rs Int32 :=
  (FX5_parseNumber_L4  FU a0 p1 (-1) 0 μ)
set_option maxHeartbeats 4000000 in
set_option maxRecDepth 100000 in
theorem metX5_parseNumber {l : Launch} {s0 : State} {D : va_G} {aC : Nat → ClassId} (hG : Gl s0 D aC) (hl : l.stackTraces = false) (a0 : Nat) (p1 : Int32) (μ : Me) : Ct l yX5_parseNumber (ws_ yX5_parseNumber cX5_parseNumber 5 (some .int)) rmX5_parseNumber s0 D aC (fun r : Int32 => some (.int r)) [.ref a0, .int p1] μ (FX5_parseNumber a0 p1 μ) := by
  refine Ct_of hG hl (by decide +kernel) (Nat.le_of_ble_eq_true rfl) (fun κ ρ hNL F M hκ => ?_)
  have F : Fx κ cX5_parseNumber RX5 := F
  change V κ ρ 0 0 μ (FX5_parseNumber a0 p1 μ) 0 [(0, .ref a0), (1, .int p1)] []
  unfold FX5_parseNumber
  refine V_iconst (v := (-1)) F dX5_parseNumber_0 (by decide) ?_
  refine V_istore_n (lv' := [(2, .int (-1)), (0, .ref a0), (1, .int p1)]) F dX5_parseNumber_1 rfl (lt_L hNL (by decide)) rfl ?_
  refine V_iconst (v := 0) F dX5_parseNumber_2 (by decide) ?_
  refine V_istore_n (lv' := [(3, .int 0), (2, .int (-1)), (0, .ref a0), (1, .int p1)]) F dX5_parseNumber_3 rfl (lt_L hNL (by decide)) rfl ?_
  refine V_sub [2, 3, 1, 0] rfl ?_
  exact VX5_parseNumber_L4 F M hNL  FU a0 p1 (-1) 0 μ
/-! DroneLightShow.<init>()V -/
abbrev rmX7_init : Room := { frames := 4, cells := 163, slots := 1540, locals := 86 }
def FX7_init (a0 : Nat) (μ : Me) : Rs Unit :=
  (nw μ (.inr (5, [.null, .null, .null, .long 0, .int 0, .int 0, .int 0, .int 0, .int 0, .int 0])) (fun a1 μ2 => (bnd (FX4_init a1  μ2) (fun x4 μ3 => (pf μ3 a0 7 0 (.ref a1) (fun μ5 => (nw μ5 (.inr (5, [.null, .null, .null, .long 0, .int 0, .int 0, .int 0, .int 0, .int 0, .int 0])) (fun a6 μ7 => (bnd (FX4_init a6  μ7) (fun x9 μ8 => (pf μ8 a0 7 1 (.ref a6) (fun μ10 => (nw μ10 (.inr (5, [.null, .null, .null, .long 0, .int 0, .int 0, .int 0, .int 0, .int 0, .int 0])) (fun a11 μ12 => (bnd (FX4_init a11  μ12) (fun x14 μ13 => (pf μ13 a0 7 2 (.ref a11) (fun μ15 => (nw μ15 (.inr (4, [.null, .int 0, .int 0])) (fun a16 μ17 => (bnd (FX3_init a16  μ17) (fun x19 μ18 => (pf μ18 a0 7 4 (.ref a16) (fun μ20 => (nw μ20 (.inr (6, [.null, .int 0, .null, .null, .int 0, .int 0])) (fun a21 μ22 => (bnd (FX5_init a21  μ22) (fun x24 μ23 => (pf μ23 a0 7 5 (.ref a21) (fun μ25 => (pf μ25 a0 7 6 (.int (-1)) (fun μ26 => (pf μ26 a0 7 7 (.int (-1)) (fun μ27 => (nw μ27 (.inl (2, (8, .inl (fun _ => 0)))) (fun a28 μ29 => (pf μ29 a0 7 8 (.ref a28) (fun μ30 => (nw μ30 (.inl (0, (64, .inl (fun _ => 0)))) (fun a31 μ32 => (pf μ32 a0 7 10 (.ref a31) (fun μ33 => (rt () μ33)))))))))))))))))))))))))))))))))))))))))))
set_option maxHeartbeats 4000000 in
set_option maxRecDepth 100000 in
theorem metX7_init {l : Launch} {s0 : State} {D : va_G} {aC : Nat → ClassId} (hG : Gl s0 D aC) (hl : l.stackTraces = false) (a0 : Nat) (μ : Me) : Ct l yX7_init (ws_ yX7_init cX7_init 1 none) rmX7_init s0 D aC (fun _ : Unit => none) [.ref a0] μ (FX7_init a0 μ) := by
  refine Ct_of hG hl (by decide +kernel) (Nat.le_of_ble_eq_true rfl) (fun κ ρ hNL F M hκ => ?_)
  have F : Fx κ cX7_init RX7 := F
  change V κ ρ 0 0 μ (FX7_init a0 μ) 0 [(0, .ref a0)] []
  unfold FX7_init
  refine V_aload_n F dX7_init_0 rfl 0 rfl ?_
  refine V_oinit F M q97 q98 q99 dX7_init_1 (by decide) (Nat.le_of_ble_eq_true rfl) ?_
  refine V_aload_n F dX7_init_4 rfl 0 rfl ?_
  refine V_new (ci := 5) (C := RX4) (T := TX4) (N := 10) (ty := tyX4) F (Mx_R M) rfl hinX4 tyX4_ok q100 q101 q67 dfX4 dX7_init_5 (by decide) (by decide) (fun a1 μ2 => ?_)
  change V κ ρ 1 10 μ2 _ 8 [(0, .ref a0)] [.ref a1, .ref a0]
  refine V_dup F dX7_init_8 rfl ?_
  refine V_cIN (As := []) (rest := [.ref a1, .ref a0]) (N := 0) F M (metX4_init (Fx_G F) (Fx_l F) a1  μ2) q104 q67 q102 q103 rfl ⟨by decide +kernel, by decide +kernel, by decide +kernel⟩ rfl ⟨by decide, by decide⟩ (Nat.le_of_ble_eq_true rfl) dX7_init_9 (by decide) (by decide) (fun x4 μ3 => ?_)
  change V κ ρ 13 121 μ3 _ 12 [(0, .ref a0)] [.ref a1, .ref a0]
  refine V_pf (ci := 7) (k9 := 0) (C := RX7) (T := TX7) (N := 11) (ty := tyX7) F rfl hinX7 tyX7_ok nmX7 (by decide) q268 rfl rfl rfl dX7_init_12 (fun μ5 => ?_)
  refine V_aload_n F dX7_init_15 rfl 0 rfl ?_
  refine V_new (ci := 5) (C := RX4) (T := TX4) (N := 10) (ty := tyX4) F (Mx_R M) rfl hinX4 tyX4_ok q100 q101 q67 dfX4 dX7_init_16 (by decide) (by decide) (fun a6 μ7 => ?_)
  change V κ ρ 14 131 μ7 _ 19 [(0, .ref a0)] [.ref a6, .ref a0]
  refine V_dup F dX7_init_19 rfl ?_
  refine V_cIN (As := []) (rest := [.ref a6, .ref a0]) (N := 0) F M (metX4_init (Fx_G F) (Fx_l F) a6  μ7) q104 q67 q102 q103 rfl ⟨by decide +kernel, by decide +kernel, by decide +kernel⟩ rfl ⟨by decide, by decide⟩ (Nat.le_of_ble_eq_true rfl) dX7_init_20 (by decide) (by decide) (fun x9 μ8 => ?_)
  change V κ ρ 26 242 μ8 _ 23 [(0, .ref a0)] [.ref a6, .ref a0]
  refine V_pf (ci := 7) (k9 := 1) (C := RX7) (T := TX7) (N := 11) (ty := tyX7) F rfl hinX7 tyX7_ok nmX7 (by decide) q269 rfl rfl rfl dX7_init_23 (fun μ10 => ?_)
  refine V_aload_n F dX7_init_26 rfl 0 rfl ?_
  refine V_new (ci := 5) (C := RX4) (T := TX4) (N := 10) (ty := tyX4) F (Mx_R M) rfl hinX4 tyX4_ok q100 q101 q67 dfX4 dX7_init_27 (by decide) (by decide) (fun a11 μ12 => ?_)
  change V κ ρ 27 252 μ12 _ 30 [(0, .ref a0)] [.ref a11, .ref a0]
  refine V_dup F dX7_init_30 rfl ?_
  refine V_cIN (As := []) (rest := [.ref a11, .ref a0]) (N := 0) F M (metX4_init (Fx_G F) (Fx_l F) a11  μ12) q104 q67 q102 q103 rfl ⟨by decide +kernel, by decide +kernel, by decide +kernel⟩ rfl ⟨by decide, by decide⟩ (Nat.le_of_ble_eq_true rfl) dX7_init_31 (by decide) (by decide) (fun x14 μ13 => ?_)
  change V κ ρ 39 363 μ13 _ 34 [(0, .ref a0)] [.ref a11, .ref a0]
  refine V_pfF (ci := 7) (k9 := 2) (C := RX7) (T := TX7) (N := 11) (ty := tyX7) F rfl hinX7 tyX7_ok nmX7 (by decide) q270 rfl (Mx_nm M) rfl rfl rfl dX7_init_34 (fun μ15 => ?_)
  refine V_aload_n F dX7_init_37 rfl 0 rfl ?_
  refine V_new (ci := 4) (C := RX3) (T := TX3) (N := 3) (ty := tyX3) F (Mx_R M) rfl hinX3 tyX3_ok q213 q214 q70 dfX3 dX7_init_38 (by decide) (by decide) (fun a16 μ17 => ?_)
  change V κ ρ 40 366 μ17 _ 41 [(0, .ref a0)] [.ref a16, .ref a0]
  refine V_dup F dX7_init_41 rfl ?_
  refine V_cI (As := []) (rest := [.ref a16, .ref a0]) (N := 0) F M (metX3_init (Fx_G F) (Fx_l F) a16  μ17) q217 q70 q215 q216 rfl ⟨by decide +kernel, by decide +kernel, by decide +kernel⟩ rfl ⟨by decide, by decide⟩ (Nat.le_of_ble_eq_true rfl) dX7_init_42 (by decide) (by decide) (fun x19 μ18 => ?_)
  change V κ ρ 145 1342 μ18 _ 45 [(0, .ref a0)] [.ref a16, .ref a0]
  refine V_pfF (ci := 7) (k9 := 4) (C := RX7) (T := TX7) (N := 11) (ty := tyX7) F rfl hinX7 tyX7_ok nmX7 (by decide) q272 rfl (Mx_nm M) rfl rfl rfl dX7_init_45 (fun μ20 => ?_)
  refine V_aload_n F dX7_init_48 rfl 0 rfl ?_
  refine V_new (ci := 6) (C := RX5) (T := TX5) (N := 6) (ty := tyX5) F (Mx_R M) rfl hinX5 tyX5_ok q233 q234 q71 dfX5 dX7_init_49 (by decide) (by decide) (fun a21 μ22 => ?_)
  change V κ ρ 146 1348 μ22 _ 52 [(0, .ref a0)] [.ref a21, .ref a0]
  refine V_dup F dX7_init_52 rfl ?_
  refine V_cIN (As := []) (rest := [.ref a21, .ref a0]) (N := 0) F M (metX5_init (Fx_G F) (Fx_l F) a21  μ22) q237 q71 q235 q236 rfl ⟨by decide +kernel, by decide +kernel, by decide +kernel⟩ rfl ⟨by decide, by decide⟩ (Nat.le_of_ble_eq_true rfl) dX7_init_53 (by decide) (by decide) (fun x24 μ23 => ?_)
  change V κ ρ 161 1468 μ23 _ 56 [(0, .ref a0)] [.ref a21, .ref a0]
  refine V_pfF (ci := 7) (k9 := 5) (C := RX7) (T := TX7) (N := 11) (ty := tyX7) F rfl hinX7 tyX7_ok nmX7 (by decide) q273 rfl (Mx_nm M) rfl rfl rfl dX7_init_56 (fun μ25 => ?_)
  refine V_aload_n F dX7_init_59 rfl 0 rfl ?_
  refine V_iconst (v := (-1)) F dX7_init_60 (by decide) ?_
  refine V_pf (ci := 7) (k9 := 6) (C := RX7) (T := TX7) (N := 11) (ty := tyX7) F rfl hinX7 tyX7_ok nmX7 (by decide) q274 rfl rfl rfl dX7_init_61 (fun μ26 => ?_)
  refine V_aload_n F dX7_init_64 rfl 0 rfl ?_
  refine V_iconst (v := (-1)) F dX7_init_65 (by decide) ?_
  refine V_pf (ci := 7) (k9 := 7) (C := RX7) (T := TX7) (N := 11) (ty := tyX7) F rfl hinX7 tyX7_ok nmX7 (by decide) q275 rfl rfl rfl dX7_init_66 (fun μ27 => ?_)
  refine V_aload_n F dX7_init_69 rfl 0 rfl ?_
  refine V_bipush (v := 8) F dX7_init_70 (by decide) ?_
  refine V_na (N := 8) (ty := .char) F (Mx_R M) q267 rfl (by decide) (fun _ => rfl) (fun _ => rfl) (by decide) (by decide) (by decide) (fun _ _ => rfl) dX7_init_72 (by decide) (by decide) (fun a28 μ29 => ?_)
  change V κ ρ 162 1476 μ29 _ 74 [(0, .ref a0)] [.ref a28, .ref a0]
  refine V_pfF (ci := 7) (k9 := 8) (C := RX7) (T := TX7) (N := 11) (ty := tyX7) F rfl hinX7 tyX7_ok nmX7 (by decide) q276 rfl (Mx_nm M) rfl rfl rfl dX7_init_74 (fun μ30 => ?_)
  refine V_aload_n F dX7_init_77 rfl 0 rfl ?_
  refine V_bipush (v := 64) F dX7_init_78 (by decide) ?_
  refine V_na (N := 64) (ty := .int) F (Mx_R M) q149 rfl (by decide) (fun _ => rfl) (fun _ => rfl) (by decide) (by decide) (by decide) (fun _ _ => rfl) dX7_init_80 (by decide) (by decide) (fun a31 μ32 => ?_)
  change V κ ρ 163 1540 μ32 _ 82 [(0, .ref a0)] [.ref a31, .ref a0]
  refine V_pfF (ci := 7) (k9 := 10) (C := RX7) (T := TX7) (N := 11) (ty := tyX7) F rfl hinX7 tyX7_ok nmX7 (by decide) q278 rfl (Mx_nm M) rfl rfl rfl dX7_init_82 (fun μ33 => ?_)
  exact V_vret F M dX7_init_85 rfl (by decide) (by decide)
/-! DroneLightShow.cellOf(I)I -/
abbrev rmX7_cellOf : Room := { frames := 7, cells := 1, slots := 6, locals := 121 }
def FX7_cellOf (a0 : Nat) (p1 : Int32) (μ : Me) : Rs Int32 :=
  (bnd (vc μ a0 7 (FX7_demandDrone a0 p1 μ)) (fun x2 μ1 => (gR μ1 a0 7 0 (fun x3 => (gR μ1 x3 5 0 (fun x4 => (gR μ1 x4 3 0 (fun x5 => (aI μ1 x5 p1 (fun x6 => (rt x6 μ1)))))))))))
set_option maxHeartbeats 4000000 in
set_option maxRecDepth 100000 in
theorem metX7_cellOf {l : Launch} {s0 : State} {D : va_G} {aC : Nat → ClassId} (hG : Gl s0 D aC) (hl : l.stackTraces = false) (a0 : Nat) (p1 : Int32) (μ : Me) : Ct l yX7_cellOf (ws_ yX7_cellOf cX7_cellOf 2 (some .int)) rmX7_cellOf s0 D aC (fun r : Int32 => some (.int r)) [.ref a0, .int p1] μ (FX7_cellOf a0 p1 μ) := by
  refine Ct_of hG hl (by decide +kernel) (Nat.le_of_ble_eq_true rfl) (fun κ ρ hNL F M hκ => ?_)
  have F : Fx κ cX7_cellOf RX7 := F
  change V κ ρ 0 0 μ (FX7_cellOf a0 p1 μ) 0 [(0, .ref a0), (1, .int p1)] []
  unfold FX7_cellOf
  refine V_aload_n F dX7_cellOf_0 rfl 0 rfl ?_
  refine V_iload_n F dX7_cellOf_1 rfl 1 rfl ?_
  refine V_cV (As := [.int p1]) (rest := []) (C := RX7) (N := 1) F M (metX7_demandDrone (Fx_G F) (Fx_l F) a0 p1 μ) rfl q689 q66 q686 q688 q6 ⟨by decide +kernel, by decide +kernel, by decide +kernel⟩ rfl ⟨by decide, by decide⟩ (Nat.le_of_ble_eq_true rfl) dX7_cellOf_2 (by decide) (by decide) (fun x2 μ1 => ?_)
  change V κ ρ 1 6 μ1 _ 5 [(0, .ref a0), (1, .int p1)] []
  refine V_aload_n F dX7_cellOf_5 rfl 0 rfl ?_
  refine V_gR (ci := 7) (k9 := 0) (C := RX7) (T := TX7) (N := 11) F rfl hinX7 (by decide) q268 dX7_cellOf_6 (fun x3 => ?_)
  refine V_gR (ci := 5) (k9 := 0) (C := RX4) (T := TX4) (N := 10) F rfl hinX4 (by decide) q173 dX7_cellOf_9 (fun x4 => ?_)
  refine V_gR (ci := 3) (k9 := 0) (C := RX2) (T := TX2) (N := 7) F rfl hinX2 (by decide) q114 dX7_cellOf_12 (fun x5 => ?_)
  refine V_iload_n F dX7_cellOf_15 rfl 1 rfl ?_
  refine V_aI F dX7_cellOf_16 (fun x6 => ?_)
  exact V_iret F M dX7_cellOf_17 rfl (by decide) (by decide)
/-! DroneLightShow.battery(I)I -/
abbrev rmX7_battery : Room := { frames := 7, cells := 1, slots := 6, locals := 121 }
def FX7_battery (a0 : Nat) (p1 : Int32) (μ : Me) : Rs Int32 :=
  (bnd (vc μ a0 7 (FX7_demandDrone a0 p1 μ)) (fun x2 μ1 => (gR μ1 a0 7 0 (fun x3 => (gR μ1 x3 5 0 (fun x4 => (gR μ1 x4 3 1 (fun x5 => (aI μ1 x5 p1 (fun x6 => (rt x6 μ1)))))))))))
set_option maxHeartbeats 4000000 in
set_option maxRecDepth 100000 in
theorem metX7_battery {l : Launch} {s0 : State} {D : va_G} {aC : Nat → ClassId} (hG : Gl s0 D aC) (hl : l.stackTraces = false) (a0 : Nat) (p1 : Int32) (μ : Me) : Ct l yX7_battery (ws_ yX7_battery cX7_battery 2 (some .int)) rmX7_battery s0 D aC (fun r : Int32 => some (.int r)) [.ref a0, .int p1] μ (FX7_battery a0 p1 μ) := by
  refine Ct_of hG hl (by decide +kernel) (Nat.le_of_ble_eq_true rfl) (fun κ ρ hNL F M hκ => ?_)
  have F : Fx κ cX7_battery RX7 := F
  change V κ ρ 0 0 μ (FX7_battery a0 p1 μ) 0 [(0, .ref a0), (1, .int p1)] []
  unfold FX7_battery
  refine V_aload_n F dX7_battery_0 rfl 0 rfl ?_
  refine V_iload_n F dX7_battery_1 rfl 1 rfl ?_
  refine V_cV (As := [.int p1]) (rest := []) (C := RX7) (N := 1) F M (metX7_demandDrone (Fx_G F) (Fx_l F) a0 p1 μ) rfl q689 q66 q686 q688 q6 ⟨by decide +kernel, by decide +kernel, by decide +kernel⟩ rfl ⟨by decide, by decide⟩ (Nat.le_of_ble_eq_true rfl) dX7_battery_2 (by decide) (by decide) (fun x2 μ1 => ?_)
  change V κ ρ 1 6 μ1 _ 5 [(0, .ref a0), (1, .int p1)] []
  refine V_aload_n F dX7_battery_5 rfl 0 rfl ?_
  refine V_gR (ci := 7) (k9 := 0) (C := RX7) (T := TX7) (N := 11) F rfl hinX7 (by decide) q268 dX7_battery_6 (fun x3 => ?_)
  refine V_gR (ci := 5) (k9 := 0) (C := RX4) (T := TX4) (N := 10) F rfl hinX4 (by decide) q173 dX7_battery_9 (fun x4 => ?_)
  refine V_gR (ci := 3) (k9 := 1) (C := RX2) (T := TX2) (N := 7) F rfl hinX2 (by decide) q117 dX7_battery_12 (fun x5 => ?_)
  refine V_iload_n F dX7_battery_15 rfl 1 rfl ?_
  refine V_aI F dX7_battery_16 (fun x6 => ?_)
  exact V_iret F M dX7_battery_17 rfl (by decide) (by decide)
/-! DroneLightShow.isFlying(I)Z -/
abbrev rmX7_isFlying : Room := { frames := 7, cells := 1, slots := 6, locals := 121 }
def FX7_isFlying (a0 : Nat) (p1 : Int32) (μ : Me) : Rs Int32 :=
  (bnd (vc μ a0 7 (FX7_demandDrone a0 p1 μ)) (fun x2 μ1 => (gR μ1 a0 7 0 (fun x3 => (gR μ1 x3 5 0 (fun x4 => (gR μ1 x4 3 4 (fun x5 => (aZ μ1 x5 p1 (fun x6 => (gd (vp_nar .boolean x6 = x6) (rt x6 μ1))))))))))))
set_option maxHeartbeats 4000000 in
set_option maxRecDepth 100000 in
theorem metX7_isFlying {l : Launch} {s0 : State} {D : va_G} {aC : Nat → ClassId} (hG : Gl s0 D aC) (hl : l.stackTraces = false) (a0 : Nat) (p1 : Int32) (μ : Me) : Ct l yX7_isFlying (ws_ yX7_isFlying cX7_isFlying 2 (some .boolean)) rmX7_isFlying s0 D aC (fun r : Int32 => some (.int r)) [.ref a0, .int p1] μ (FX7_isFlying a0 p1 μ) := by
  refine Ct_of hG hl (by decide +kernel) (Nat.le_of_ble_eq_true rfl) (fun κ ρ hNL F M hκ => ?_)
  have F : Fx κ cX7_isFlying RX7 := F
  change V κ ρ 0 0 μ (FX7_isFlying a0 p1 μ) 0 [(0, .ref a0), (1, .int p1)] []
  unfold FX7_isFlying
  refine V_aload_n F dX7_isFlying_0 rfl 0 rfl ?_
  refine V_iload_n F dX7_isFlying_1 rfl 1 rfl ?_
  refine V_cV (As := [.int p1]) (rest := []) (C := RX7) (N := 1) F M (metX7_demandDrone (Fx_G F) (Fx_l F) a0 p1 μ) rfl q689 q66 q686 q688 q6 ⟨by decide +kernel, by decide +kernel, by decide +kernel⟩ rfl ⟨by decide, by decide⟩ (Nat.le_of_ble_eq_true rfl) dX7_isFlying_2 (by decide) (by decide) (fun x2 μ1 => ?_)
  change V κ ρ 1 6 μ1 _ 5 [(0, .ref a0), (1, .int p1)] []
  refine V_aload_n F dX7_isFlying_5 rfl 0 rfl ?_
  refine V_gR (ci := 7) (k9 := 0) (C := RX7) (T := TX7) (N := 11) F rfl hinX7 (by decide) q268 dX7_isFlying_6 (fun x3 => ?_)
  refine V_gR (ci := 5) (k9 := 0) (C := RX4) (T := TX4) (N := 10) F rfl hinX4 (by decide) q173 dX7_isFlying_9 (fun x4 => ?_)
  refine V_gR (ci := 3) (k9 := 4) (C := RX2) (T := TX2) (N := 7) F rfl hinX2 (by decide) q127 dX7_isFlying_12 (fun x5 => ?_)
  refine V_iload_n F dX7_isFlying_15 rfl 1 rfl ?_
  refine V_aZ F dX7_isFlying_16 (fun x6 => ?_)
  refine V_gd (fun g7 => ?_)
  exact V_zret F M dX7_isFlying_17 rfl (nar_z g7) (by decide) (by decide)
/-! DroneLightShow.isInEmergency(I)Z -/
abbrev rmX7_isInEmergency : Room := { frames := 7, cells := 1, slots := 6, locals := 121 }
def FX7_isInEmergency (a0 : Nat) (p1 : Int32) (μ : Me) : Rs Int32 :=
  (bnd (vc μ a0 7 (FX7_demandDrone a0 p1 μ)) (fun x2 μ1 => (gR μ1 a0 7 0 (fun x3 => (gR μ1 x3 5 0 (fun x4 => (gR μ1 x4 3 5 (fun x5 => (aZ μ1 x5 p1 (fun x6 => (gd (vp_nar .boolean x6 = x6) (rt x6 μ1))))))))))))
set_option maxHeartbeats 4000000 in
set_option maxRecDepth 100000 in
theorem metX7_isInEmergency {l : Launch} {s0 : State} {D : va_G} {aC : Nat → ClassId} (hG : Gl s0 D aC) (hl : l.stackTraces = false) (a0 : Nat) (p1 : Int32) (μ : Me) : Ct l yX7_isInEmergency (ws_ yX7_isInEmergency cX7_isInEmergency 2 (some .boolean)) rmX7_isInEmergency s0 D aC (fun r : Int32 => some (.int r)) [.ref a0, .int p1] μ (FX7_isInEmergency a0 p1 μ) := by
  refine Ct_of hG hl (by decide +kernel) (Nat.le_of_ble_eq_true rfl) (fun κ ρ hNL F M hκ => ?_)
  have F : Fx κ cX7_isInEmergency RX7 := F
  change V κ ρ 0 0 μ (FX7_isInEmergency a0 p1 μ) 0 [(0, .ref a0), (1, .int p1)] []
  unfold FX7_isInEmergency
  refine V_aload_n F dX7_isInEmergency_0 rfl 0 rfl ?_
  refine V_iload_n F dX7_isInEmergency_1 rfl 1 rfl ?_
  refine V_cV (As := [.int p1]) (rest := []) (C := RX7) (N := 1) F M (metX7_demandDrone (Fx_G F) (Fx_l F) a0 p1 μ) rfl q689 q66 q686 q688 q6 ⟨by decide +kernel, by decide +kernel, by decide +kernel⟩ rfl ⟨by decide, by decide⟩ (Nat.le_of_ble_eq_true rfl) dX7_isInEmergency_2 (by decide) (by decide) (fun x2 μ1 => ?_)
  change V κ ρ 1 6 μ1 _ 5 [(0, .ref a0), (1, .int p1)] []
  refine V_aload_n F dX7_isInEmergency_5 rfl 0 rfl ?_
  refine V_gR (ci := 7) (k9 := 0) (C := RX7) (T := TX7) (N := 11) F rfl hinX7 (by decide) q268 dX7_isInEmergency_6 (fun x3 => ?_)
  refine V_gR (ci := 5) (k9 := 0) (C := RX4) (T := TX4) (N := 10) F rfl hinX4 (by decide) q173 dX7_isInEmergency_9 (fun x4 => ?_)
  refine V_gR (ci := 3) (k9 := 5) (C := RX2) (T := TX2) (N := 7) F rfl hinX2 (by decide) q130 dX7_isInEmergency_12 (fun x5 => ?_)
  refine V_iload_n F dX7_isInEmergency_15 rfl 1 rfl ?_
  refine V_aZ F dX7_isInEmergency_16 (fun x6 => ?_)
  refine V_gd (fun g7 => ?_)
  exact V_zret F M dX7_isInEmergency_17 rfl (nar_z g7) (by decide) (by decide)
/-! DroneLightShow.target(I)I -/
abbrev rmX7_target : Room := { frames := 7, cells := 2, slots := 12, locals := 121 }
def FX7_target (a0 : Nat) (p1 : Int32) (μ : Me) : Rs Int32 :=
  (bnd (vc μ a0 7 (FX7_demandDrone a0 p1 μ)) (fun x2 μ1 => (gR μ1 a0 7 0 (fun x3 => (gR μ1 x3 5 0 (fun x4 => (gR μ1 x4 3 2 (fun x5 => (aI μ1 x5 p1 (fun x6 => (bnd (FX7_found x6 μ1) (fun x8 μ7 => (rt x8 μ7)))))))))))))
set_option maxHeartbeats 4000000 in
set_option maxRecDepth 100000 in
theorem metX7_target {l : Launch} {s0 : State} {D : va_G} {aC : Nat → ClassId} (hG : Gl s0 D aC) (hl : l.stackTraces = false) (a0 : Nat) (p1 : Int32) (μ : Me) : Ct l yX7_target (ws_ yX7_target cX7_target 2 (some .int)) rmX7_target s0 D aC (fun r : Int32 => some (.int r)) [.ref a0, .int p1] μ (FX7_target a0 p1 μ) := by
  refine Ct_of hG hl (by decide +kernel) (Nat.le_of_ble_eq_true rfl) (fun κ ρ hNL F M hκ => ?_)
  have F : Fx κ cX7_target RX7 := F
  change V κ ρ 0 0 μ (FX7_target a0 p1 μ) 0 [(0, .ref a0), (1, .int p1)] []
  unfold FX7_target
  refine V_aload_n F dX7_target_0 rfl 0 rfl ?_
  refine V_iload_n F dX7_target_1 rfl 1 rfl ?_
  refine V_cV (As := [.int p1]) (rest := []) (C := RX7) (N := 1) F M (metX7_demandDrone (Fx_G F) (Fx_l F) a0 p1 μ) rfl q689 q66 q686 q688 q6 ⟨by decide +kernel, by decide +kernel, by decide +kernel⟩ rfl ⟨by decide, by decide⟩ (Nat.le_of_ble_eq_true rfl) dX7_target_2 (by decide) (by decide) (fun x2 μ1 => ?_)
  change V κ ρ 1 6 μ1 _ 5 [(0, .ref a0), (1, .int p1)] []
  refine V_aload_n F dX7_target_5 rfl 0 rfl ?_
  refine V_gR (ci := 7) (k9 := 0) (C := RX7) (T := TX7) (N := 11) F rfl hinX7 (by decide) q268 dX7_target_6 (fun x3 => ?_)
  refine V_gR (ci := 5) (k9 := 0) (C := RX4) (T := TX4) (N := 10) F rfl hinX4 (by decide) q173 dX7_target_9 (fun x4 => ?_)
  refine V_gR (ci := 3) (k9 := 2) (C := RX2) (T := TX2) (N := 7) F rfl hinX2 (by decide) q120 dX7_target_12 (fun x5 => ?_)
  refine V_iload_n F dX7_target_15 rfl 1 rfl ?_
  refine V_aI F dX7_target_16 (fun x6 => ?_)
  refine V_cS (As := [.int x6]) (rest := []) (N := 1) F M (metX7_found (Fx_G F) (Fx_l F) x6 μ1) q723 q66 q721 q722 ⟨by decide +kernel, by decide +kernel, by decide +kernel⟩ rfl ⟨by decide, by decide⟩ (Nat.le_of_ble_eq_true rfl) dX7_target_17 (by decide) (by decide) (fun x8 μ7 => ?_)
  change V κ ρ 2 12 μ7 _ 20 [(0, .ref a0), (1, .int p1)] [.int x8]
  exact V_iret F M dX7_target_20 rfl (by decide) (by decide)
/-! DroneLightShow.colour(I)I -/
abbrev rmX7_colour : Room := { frames := 7, cells := 1, slots := 6, locals := 121 }
def FX7_colour (a0 : Nat) (p1 : Int32) (μ : Me) : Rs Int32 :=
  (bnd (vc μ a0 7 (FX7_demandDrone a0 p1 μ)) (fun x2 μ1 => (gR μ1 a0 7 0 (fun x3 => (gR μ1 x3 5 0 (fun x4 => (gR μ1 x4 3 3 (fun x5 => (aI μ1 x5 p1 (fun x6 => (rt x6 μ1)))))))))))
set_option maxHeartbeats 4000000 in
set_option maxRecDepth 100000 in
theorem metX7_colour {l : Launch} {s0 : State} {D : va_G} {aC : Nat → ClassId} (hG : Gl s0 D aC) (hl : l.stackTraces = false) (a0 : Nat) (p1 : Int32) (μ : Me) : Ct l yX7_colour (ws_ yX7_colour cX7_colour 2 (some .int)) rmX7_colour s0 D aC (fun r : Int32 => some (.int r)) [.ref a0, .int p1] μ (FX7_colour a0 p1 μ) := by
  refine Ct_of hG hl (by decide +kernel) (Nat.le_of_ble_eq_true rfl) (fun κ ρ hNL F M hκ => ?_)
  have F : Fx κ cX7_colour RX7 := F
  change V κ ρ 0 0 μ (FX7_colour a0 p1 μ) 0 [(0, .ref a0), (1, .int p1)] []
  unfold FX7_colour
  refine V_aload_n F dX7_colour_0 rfl 0 rfl ?_
  refine V_iload_n F dX7_colour_1 rfl 1 rfl ?_
  refine V_cV (As := [.int p1]) (rest := []) (C := RX7) (N := 1) F M (metX7_demandDrone (Fx_G F) (Fx_l F) a0 p1 μ) rfl q689 q66 q686 q688 q6 ⟨by decide +kernel, by decide +kernel, by decide +kernel⟩ rfl ⟨by decide, by decide⟩ (Nat.le_of_ble_eq_true rfl) dX7_colour_2 (by decide) (by decide) (fun x2 μ1 => ?_)
  change V κ ρ 1 6 μ1 _ 5 [(0, .ref a0), (1, .int p1)] []
  refine V_aload_n F dX7_colour_5 rfl 0 rfl ?_
  refine V_gR (ci := 7) (k9 := 0) (C := RX7) (T := TX7) (N := 11) F rfl hinX7 (by decide) q268 dX7_colour_6 (fun x3 => ?_)
  refine V_gR (ci := 5) (k9 := 0) (C := RX4) (T := TX4) (N := 10) F rfl hinX4 (by decide) q173 dX7_colour_9 (fun x4 => ?_)
  refine V_gR (ci := 3) (k9 := 3) (C := RX2) (T := TX2) (N := 7) F rfl hinX2 (by decide) q124 dX7_colour_12 (fun x5 => ?_)
  refine V_iload_n F dX7_colour_15 rfl 1 rfl ?_
  refine V_aI F dX7_colour_16 (fun x6 => ?_)
  exact V_iret F M dX7_colour_17 rfl (by decide) (by decide)
/-! DroneLightShow.nearestPad(I)I -/
abbrev rmX7_nearestPad : Room := { frames := 7, cells := 2, slots := 12, locals := 121 }
def FX7_nearestPad (a0 : Nat) (p1 : Int32) (μ : Me) : Rs Int32 :=
  (bnd (vc μ a0 7 (FX7_demandDrone a0 p1 μ)) (fun x2 μ1 => (gR μ1 a0 7 0 (fun x3 => (gR μ1 a0 7 0 (fun x4 => (gR μ1 x4 5 0 (fun x5 => (gR μ1 x5 3 0 (fun x6 => (aI μ1 x6 p1 (fun x7 => (bnd (vc μ1 x3 5 (FX4_padByDistance x3 x7 μ1)) (fun x9 μ8 => (bnd (FX7_found x9 μ8) (fun x11 μ10 => (rt x11 μ10)))))))))))))))))
set_option maxHeartbeats 4000000 in
set_option maxRecDepth 100000 in
theorem metX7_nearestPad {l : Launch} {s0 : State} {D : va_G} {aC : Nat → ClassId} (hG : Gl s0 D aC) (hl : l.stackTraces = false) (a0 : Nat) (p1 : Int32) (μ : Me) : Ct l yX7_nearestPad (ws_ yX7_nearestPad cX7_nearestPad 2 (some .int)) rmX7_nearestPad s0 D aC (fun r : Int32 => some (.int r)) [.ref a0, .int p1] μ (FX7_nearestPad a0 p1 μ) := by
  refine Ct_of hG hl (by decide +kernel) (Nat.le_of_ble_eq_true rfl) (fun κ ρ hNL F M hκ => ?_)
  have F : Fx κ cX7_nearestPad RX7 := F
  change V κ ρ 0 0 μ (FX7_nearestPad a0 p1 μ) 0 [(0, .ref a0), (1, .int p1)] []
  unfold FX7_nearestPad
  refine V_aload_n F dX7_nearestPad_0 rfl 0 rfl ?_
  refine V_iload_n F dX7_nearestPad_1 rfl 1 rfl ?_
  refine V_cV (As := [.int p1]) (rest := []) (C := RX7) (N := 1) F M (metX7_demandDrone (Fx_G F) (Fx_l F) a0 p1 μ) rfl q689 q66 q686 q688 q6 ⟨by decide +kernel, by decide +kernel, by decide +kernel⟩ rfl ⟨by decide, by decide⟩ (Nat.le_of_ble_eq_true rfl) dX7_nearestPad_2 (by decide) (by decide) (fun x2 μ1 => ?_)
  change V κ ρ 1 6 μ1 _ 5 [(0, .ref a0), (1, .int p1)] []
  refine V_aload_n F dX7_nearestPad_5 rfl 0 rfl ?_
  refine V_gR (ci := 7) (k9 := 0) (C := RX7) (T := TX7) (N := 11) F rfl hinX7 (by decide) q268 dX7_nearestPad_6 (fun x3 => ?_)
  refine V_aload_n F dX7_nearestPad_9 rfl 0 rfl ?_
  refine V_gR (ci := 7) (k9 := 0) (C := RX7) (T := TX7) (N := 11) F rfl hinX7 (by decide) q268 dX7_nearestPad_10 (fun x4 => ?_)
  refine V_gR (ci := 5) (k9 := 0) (C := RX4) (T := TX4) (N := 10) F rfl hinX4 (by decide) q173 dX7_nearestPad_13 (fun x5 => ?_)
  refine V_gR (ci := 3) (k9 := 0) (C := RX2) (T := TX2) (N := 7) F rfl hinX2 (by decide) q114 dX7_nearestPad_16 (fun x6 => ?_)
  refine V_iload_n F dX7_nearestPad_19 rfl 1 rfl ?_
  refine V_aI F dX7_nearestPad_20 (fun x7 => ?_)
  refine V_cV (As := [.int x7]) (rest := []) (C := RX4) (N := 1) F M (metX4_padByDistance (Fx_G F) (Fx_l F) x3 x7 μ1) rfl q406 q67 q403 q404 q405 ⟨by decide +kernel, by decide +kernel, by decide +kernel⟩ rfl ⟨by decide, by decide⟩ (Nat.le_of_ble_eq_true rfl) dX7_nearestPad_21 (by decide) (by decide) (fun x9 μ8 => ?_)
  change V κ ρ 1 6 μ8 _ 24 [(0, .ref a0), (1, .int p1)] [.int x9]
  refine V_cS (As := [.int x9]) (rest := []) (N := 1) F M (metX7_found (Fx_G F) (Fx_l F) x9 μ8) q723 q66 q721 q722 ⟨by decide +kernel, by decide +kernel, by decide +kernel⟩ rfl ⟨by decide, by decide⟩ (Nat.le_of_ble_eq_true rfl) dX7_nearestPad_24 (by decide) (by decide) (fun x11 μ10 => ?_)
  change V κ ρ 2 12 μ10 _ 27 [(0, .ref a0), (1, .int p1)] [.int x11]
  exact V_iret F M dX7_nearestPad_27 rfl (by decide) (by decide)
/-! DroneLightShow.wantedCell(I)I -/
abbrev rmX7_wantedCell : Room := { frames := 7, cells := 2, slots := 12, locals := 121 }
def FX7_wantedCell (a0 : Nat) (p1 : Int32) (μ : Me) : Rs Int32 :=
  (bnd (vc μ a0 7 (FX7_demandDrone a0 p1 μ)) (fun x2 μ1 => (gR μ1 a0 7 0 (fun x3 => (gR μ1 x3 5 0 (fun x4 => (bnd (vc μ1 x4 3 (FX2_wish x4 p1 μ1)) (fun x6 μ5 => (bnd (FX7_found x6 μ5) (fun x8 μ7 => (rt x8 μ7)))))))))))
set_option maxHeartbeats 4000000 in
set_option maxRecDepth 100000 in
theorem metX7_wantedCell {l : Launch} {s0 : State} {D : va_G} {aC : Nat → ClassId} (hG : Gl s0 D aC) (hl : l.stackTraces = false) (a0 : Nat) (p1 : Int32) (μ : Me) : Ct l yX7_wantedCell (ws_ yX7_wantedCell cX7_wantedCell 2 (some .int)) rmX7_wantedCell s0 D aC (fun r : Int32 => some (.int r)) [.ref a0, .int p1] μ (FX7_wantedCell a0 p1 μ) := by
  refine Ct_of hG hl (by decide +kernel) (Nat.le_of_ble_eq_true rfl) (fun κ ρ hNL F M hκ => ?_)
  have F : Fx κ cX7_wantedCell RX7 := F
  change V κ ρ 0 0 μ (FX7_wantedCell a0 p1 μ) 0 [(0, .ref a0), (1, .int p1)] []
  unfold FX7_wantedCell
  refine V_aload_n F dX7_wantedCell_0 rfl 0 rfl ?_
  refine V_iload_n F dX7_wantedCell_1 rfl 1 rfl ?_
  refine V_cV (As := [.int p1]) (rest := []) (C := RX7) (N := 1) F M (metX7_demandDrone (Fx_G F) (Fx_l F) a0 p1 μ) rfl q689 q66 q686 q688 q6 ⟨by decide +kernel, by decide +kernel, by decide +kernel⟩ rfl ⟨by decide, by decide⟩ (Nat.le_of_ble_eq_true rfl) dX7_wantedCell_2 (by decide) (by decide) (fun x2 μ1 => ?_)
  change V κ ρ 1 6 μ1 _ 5 [(0, .ref a0), (1, .int p1)] []
  refine V_aload_n F dX7_wantedCell_5 rfl 0 rfl ?_
  refine V_gR (ci := 7) (k9 := 0) (C := RX7) (T := TX7) (N := 11) F rfl hinX7 (by decide) q268 dX7_wantedCell_6 (fun x3 => ?_)
  refine V_gR (ci := 5) (k9 := 0) (C := RX4) (T := TX4) (N := 10) F rfl hinX4 (by decide) q173 dX7_wantedCell_9 (fun x4 => ?_)
  refine V_iload_n F dX7_wantedCell_12 rfl 1 rfl ?_
  refine V_cV (As := [.int p1]) (rest := []) (C := RX2) (N := 1) F M (metX2_wish (Fx_G F) (Fx_l F) x4 p1 μ1) rfl q329 q68 q344 q327 q328 ⟨by decide +kernel, by decide +kernel, by decide +kernel⟩ rfl ⟨by decide, by decide⟩ (Nat.le_of_ble_eq_true rfl) dX7_wantedCell_13 (by decide) (by decide) (fun x6 μ5 => ?_)
  change V κ ρ 1 6 μ5 _ 16 [(0, .ref a0), (1, .int p1)] [.int x6]
  refine V_cS (As := [.int x6]) (rest := []) (N := 1) F M (metX7_found (Fx_G F) (Fx_l F) x6 μ5) q723 q66 q721 q722 ⟨by decide +kernel, by decide +kernel, by decide +kernel⟩ rfl ⟨by decide, by decide⟩ (Nat.le_of_ble_eq_true rfl) dX7_wantedCell_16 (by decide) (by decide) (fun x8 μ7 => ?_)
  change V κ ρ 2 12 μ7 _ 19 [(0, .ref a0), (1, .int p1)] [.int x8]
  exact V_iret F M dX7_wantedCell_19 rfl (by decide) (by decide)
/-! DroneLightShow.conflictCount()I -/
abbrev rmX7_conflictCount : Room := { frames := 3, cells := 0, slots := 0, locals := 67 }
def FX7_conflictCount (a0 : Nat) (μ : Me) : Rs Int32 :=
  (gR μ a0 7 0 (fun x1 => (gR μ x1 5 0 (fun x2 => (bnd (vc μ x2 3 (FX2_conflictingPairs x2  μ)) (fun x4 μ3 => (rt x4 μ3)))))))
set_option maxHeartbeats 4000000 in
set_option maxRecDepth 100000 in
theorem metX7_conflictCount {l : Launch} {s0 : State} {D : va_G} {aC : Nat → ClassId} (hG : Gl s0 D aC) (hl : l.stackTraces = false) (a0 : Nat) (μ : Me) : Ct l yX7_conflictCount (ws_ yX7_conflictCount cX7_conflictCount 1 (some .int)) rmX7_conflictCount s0 D aC (fun r : Int32 => some (.int r)) [.ref a0] μ (FX7_conflictCount a0 μ) := by
  refine Ct_of hG hl (by decide +kernel) (Nat.le_of_ble_eq_true rfl) (fun κ ρ hNL F M hκ => ?_)
  have F : Fx κ cX7_conflictCount RX7 := F
  change V κ ρ 0 0 μ (FX7_conflictCount a0 μ) 0 [(0, .ref a0)] []
  unfold FX7_conflictCount
  refine V_aload_n F dX7_conflictCount_0 rfl 0 rfl ?_
  refine V_gR (ci := 7) (k9 := 0) (C := RX7) (T := TX7) (N := 11) F rfl hinX7 (by decide) q268 dX7_conflictCount_1 (fun x1 => ?_)
  refine V_gR (ci := 5) (k9 := 0) (C := RX4) (T := TX4) (N := 10) F rfl hinX4 (by decide) q173 dX7_conflictCount_4 (fun x2 => ?_)
  refine V_cV (As := []) (rest := []) (C := RX2) (N := 0) F M (metX2_conflictingPairs (Fx_G F) (Fx_l F) x2  μ) rfl q325 q68 q322 q323 q324 ⟨by decide +kernel, by decide +kernel, by decide +kernel⟩ rfl ⟨by decide, by decide⟩ (Nat.le_of_ble_eq_true rfl) dX7_conflictCount_7 (by decide) (by decide) (fun x4 μ3 => ?_)
  change V κ ρ 0 0 μ3 _ 10 [(0, .ref a0)] [.int x4]
  exact V_iret F M dX7_conflictCount_10 rfl (by decide) (by decide)
/-! DroneLightShow.nextCueTime()I -/
abbrev rmX7_nextCueTime : Room := { frames := 7, cells := 1, slots := 6, locals := 120 }
def FX7_nextCueTime (a0 : Nat) (μ : Me) : Rs Int32 :=
  (gR μ a0 7 0 (fun x1 => (gR μ x1 5 1 (fun x2 => (bnd (vc μ x2 2 (FX1_earliest x2  μ)) (fun x4 μ3 => (bnd (FX7_found x4 μ3) (fun x6 μ5 => (rt x6 μ5)))))))))
set_option maxHeartbeats 4000000 in
set_option maxRecDepth 100000 in
theorem metX7_nextCueTime {l : Launch} {s0 : State} {D : va_G} {aC : Nat → ClassId} (hG : Gl s0 D aC) (hl : l.stackTraces = false) (a0 : Nat) (μ : Me) : Ct l yX7_nextCueTime (ws_ yX7_nextCueTime cX7_nextCueTime 1 (some .int)) rmX7_nextCueTime s0 D aC (fun r : Int32 => some (.int r)) [.ref a0] μ (FX7_nextCueTime a0 μ) := by
  refine Ct_of hG hl (by decide +kernel) (Nat.le_of_ble_eq_true rfl) (fun κ ρ hNL F M hκ => ?_)
  have F : Fx κ cX7_nextCueTime RX7 := F
  change V κ ρ 0 0 μ (FX7_nextCueTime a0 μ) 0 [(0, .ref a0)] []
  unfold FX7_nextCueTime
  refine V_aload_n F dX7_nextCueTime_0 rfl 0 rfl ?_
  refine V_gR (ci := 7) (k9 := 0) (C := RX7) (T := TX7) (N := 11) F rfl hinX7 (by decide) q268 dX7_nextCueTime_1 (fun x1 => ?_)
  refine V_gR (ci := 5) (k9 := 1) (C := RX4) (T := TX4) (N := 10) F rfl hinX4 (by decide) q175 dX7_nextCueTime_4 (fun x2 => ?_)
  refine V_cV (As := []) (rest := []) (C := RX1) (N := 0) F M (metX1_earliest (Fx_G F) (Fx_l F) x2  μ) rfl q991 q69 q988 q989 q990 ⟨by decide +kernel, by decide +kernel, by decide +kernel⟩ rfl ⟨by decide, by decide⟩ (Nat.le_of_ble_eq_true rfl) dX7_nextCueTime_7 (by decide) (by decide) (fun x4 μ3 => ?_)
  change V κ ρ 0 0 μ3 _ 10 [(0, .ref a0)] [.int x4]
  refine V_cS (As := [.int x4]) (rest := []) (N := 1) F M (metX7_found (Fx_G F) (Fx_l F) x4 μ3) q723 q66 q721 q722 ⟨by decide +kernel, by decide +kernel, by decide +kernel⟩ rfl ⟨by decide, by decide⟩ (Nat.le_of_ble_eq_true rfl) dX7_nextCueTime_10 (by decide) (by decide) (fun x6 μ5 => ?_)
  change V κ ρ 1 6 μ5 _ 13 [(0, .ref a0)] [.int x6]
  exact V_iret F M dX7_nextCueTime_13 rfl (by decide) (by decide)
/-! DroneLightShow.errorPosition()I -/
abbrev rmX7_errorPosition : Room := { frames := 7, cells := 1, slots := 6, locals := 120 }
def FX7_errorPosition (a0 : Nat) (μ : Me) : Rs Int32 :=
  (gI μ a0 7 6 (fun x1 => (bnd (FX7_found x1 μ) (fun x3 μ2 => (rt x3 μ2)))))
set_option maxHeartbeats 4000000 in
set_option maxRecDepth 100000 in
theorem metX7_errorPosition {l : Launch} {s0 : State} {D : va_G} {aC : Nat → ClassId} (hG : Gl s0 D aC) (hl : l.stackTraces = false) (a0 : Nat) (μ : Me) : Ct l yX7_errorPosition (ws_ yX7_errorPosition cX7_errorPosition 1 (some .int)) rmX7_errorPosition s0 D aC (fun r : Int32 => some (.int r)) [.ref a0] μ (FX7_errorPosition a0 μ) := by
  refine Ct_of hG hl (by decide +kernel) (Nat.le_of_ble_eq_true rfl) (fun κ ρ hNL F M hκ => ?_)
  have F : Fx κ cX7_errorPosition RX7 := F
  change V κ ρ 0 0 μ (FX7_errorPosition a0 μ) 0 [(0, .ref a0)] []
  unfold FX7_errorPosition
  refine V_aload_n F dX7_errorPosition_0 rfl 0 rfl ?_
  refine V_gI (ci := 7) (k9 := 6) (C := RX7) (T := TX7) (N := 11) F rfl hinX7 (by decide) q274 dX7_errorPosition_1 (fun x1 => ?_)
  refine V_cS (As := [.int x1]) (rest := []) (N := 1) F M (metX7_found (Fx_G F) (Fx_l F) x1 μ) q723 q66 q721 q722 ⟨by decide +kernel, by decide +kernel, by decide +kernel⟩ rfl ⟨by decide, by decide⟩ (Nat.le_of_ble_eq_true rfl) dX7_errorPosition_4 (by decide) (by decide) (fun x3 μ2 => ?_)
  change V κ ρ 1 6 μ2 _ 7 [(0, .ref a0)] [.int x3]
  exact V_iret F M dX7_errorPosition_7 rfl (by decide) (by decide)
/-! DroneLightShow.failedCommand()I -/
abbrev rmX7_failedCommand : Room := { frames := 7, cells := 1, slots := 6, locals := 120 }
def FX7_failedCommand (a0 : Nat) (μ : Me) : Rs Int32 :=
  (gI μ a0 7 7 (fun x1 => (bnd (FX7_found x1 μ) (fun x3 μ2 => (rt x3 μ2)))))
set_option maxHeartbeats 4000000 in
set_option maxRecDepth 100000 in
theorem metX7_failedCommand {l : Launch} {s0 : State} {D : va_G} {aC : Nat → ClassId} (hG : Gl s0 D aC) (hl : l.stackTraces = false) (a0 : Nat) (μ : Me) : Ct l yX7_failedCommand (ws_ yX7_failedCommand cX7_failedCommand 1 (some .int)) rmX7_failedCommand s0 D aC (fun r : Int32 => some (.int r)) [.ref a0] μ (FX7_failedCommand a0 μ) := by
  refine Ct_of hG hl (by decide +kernel) (Nat.le_of_ble_eq_true rfl) (fun κ ρ hNL F M hκ => ?_)
  have F : Fx κ cX7_failedCommand RX7 := F
  change V κ ρ 0 0 μ (FX7_failedCommand a0 μ) 0 [(0, .ref a0)] []
  unfold FX7_failedCommand
  refine V_aload_n F dX7_failedCommand_0 rfl 0 rfl ?_
  refine V_gI (ci := 7) (k9 := 7) (C := RX7) (T := TX7) (N := 11) F rfl hinX7 (by decide) q275 dX7_failedCommand_1 (fun x1 => ?_)
  refine V_cS (As := [.int x1]) (rest := []) (N := 1) F M (metX7_found (Fx_G F) (Fx_l F) x1 μ) q723 q66 q721 q722 ⟨by decide +kernel, by decide +kernel, by decide +kernel⟩ rfl ⟨by decide, by decide⟩ (Nat.le_of_ble_eq_true rfl) dX7_failedCommand_4 (by decide) (by decide) (fun x3 μ2 => ?_)
  change V κ ρ 1 6 μ2 _ 7 [(0, .ref a0)] [.int x3]
  exact V_iret F M dX7_failedCommand_7 rfl (by decide) (by decide)
/-! DroneLightShow.describeRow(I)I -/
abbrev rmX7_describeRow : Room := { frames := 6, cells := 1, slots := 6, locals := 100 }
def FX7_describeRow_B10   (μ : Me) : Rs Int32 :=
  (thr "java/lang/IndexOutOfBoundsException" μ)
set_option maxHeartbeats 4000000 in
set_option maxRecDepth 100000 in
theorem VX7_describeRow_B10 {κ : Cx} {ρ : (Int32 ⊕ String) × Me} (F : Fx κ cX7_describeRow RX7) (M : Mx κ (fun r : Int32 => some (.int r)) ρ rmX7_describeRow (some .int) [] "describeRow") (hNL : κ.2.2.2.2.2.2.2.2.2.2.2.2.2.2 = 3)    (μ : Me) : V κ ρ 0 0 μ (FX7_describeRow_B10   μ) 10 [] [] := by
  unfold FX7_describeRow_B10
  exact V_throwW F M q549 q76 (List.mem_of_getElem? (i := 14) rfl) th_IndexOutOfBoundsException (by decide) dX7_describeRow_10 dX7_describeRow_13 dX7_describeRow_14 dX7_describeRow_17 dX7_describeRow_20 (by decide) (by decide) (by decide) (by decide)
def FX7_describeRow_B23 (k23 : Nat → Int32 → Int32 → Me → Rs Int32) (v0 : Nat) (v1 : Int32) (v2 : Int32) (μ : Me) : Rs Int32 :=
  (if 8 ≤ v2 then (pf μ v0 7 9 (.int 8) (fun μ7 => (gI μ7 v0 7 9 (fun x8 => (rt x8 μ7))))) else (gR μ v0 7 8 (fun x9 => (gR μ v0 7 0 (fun x10 => (bnd (vc μ x10 5 (FX4_picture x10 ((8 * v1) + v2) μ)) (fun x12 μ11 => (sC μ11 x9 v2 x12 (fun μ13 => (k23 v0 v1 (v2 + 1) μ13))))))))))
set_option maxHeartbeats 4000000 in
set_option maxRecDepth 100000 in
theorem VX7_describeRow_B23 {κ : Cx} {ρ : (Int32 ⊕ String) × Me} (F : Fx κ cX7_describeRow RX7) (M : Mx κ (fun r : Int32 => some (.int r)) ρ rmX7_describeRow (some .int) [] "describeRow") (hNL : κ.2.2.2.2.2.2.2.2.2.2.2.2.2.2 = 3) {k23 : Nat → Int32 → Int32 → Me → Rs Int32} (hk23 : ∀ (v0 : Nat) (v1 : Int32) (v2 : Int32) (μ : Me), V κ ρ 0 0 μ (k23 v0 v1 v2 μ) 23 [(0, .ref v0), (1, .int v1), (2, .int v2)] []) (v0 : Nat) (v1 : Int32) (v2 : Int32) (μ : Me) : V κ ρ 0 0 μ (FX7_describeRow_B23 k23 v0 v1 v2 μ) 23 [(0, .ref v0), (1, .int v1), (2, .int v2)] [] := by
  unfold FX7_describeRow_B23
  refine V_iload_n F dX7_describeRow_23 rfl 2 rfl ?_
  refine V_bipush (v := 8) F dX7_describeRow_24 (by decide) ?_
  refine V_icmp_ge (tgt := 54) F dX7_describeRow_26 (by decide) (fun c5 => ?_) (fun c6 => ?_)
  · refine V_aload_n F dX7_describeRow_54 rfl 0 rfl ?_
    refine V_bipush (v := 8) F dX7_describeRow_55 (by decide) ?_
    refine V_pf (ci := 7) (k9 := 9) (C := RX7) (T := TX7) (N := 11) (ty := tyX7) F rfl hinX7 tyX7_ok nmX7 (by decide) q277 rfl rfl rfl dX7_describeRow_57 (fun μ7 => ?_)
    refine V_aload_n F dX7_describeRow_60 rfl 0 rfl ?_
    refine V_gI (ci := 7) (k9 := 9) (C := RX7) (T := TX7) (N := 11) F rfl hinX7 (by decide) q277 dX7_describeRow_61 (fun x8 => ?_)
    exact V_iret F M dX7_describeRow_64 rfl (by decide) (by decide)
  · refine V_aload_n F dX7_describeRow_29 rfl 0 rfl ?_
    refine V_gR (ci := 7) (k9 := 8) (C := RX7) (T := TX7) (N := 11) F rfl hinX7 (by decide) q276 dX7_describeRow_30 (fun x9 => ?_)
    refine V_iload_n F dX7_describeRow_33 rfl 2 rfl ?_
    refine V_aload_n F dX7_describeRow_34 rfl 0 rfl ?_
    refine V_gR (ci := 7) (k9 := 0) (C := RX7) (T := TX7) (N := 11) F rfl hinX7 (by decide) q268 dX7_describeRow_35 (fun x10 => ?_)
    refine V_bipush (v := 8) F dX7_describeRow_38 (by decide) ?_
    refine V_iload_n F dX7_describeRow_40 rfl 1 rfl ?_
    refine V_imul F dX7_describeRow_41 ?_
    refine V_iload_n F dX7_describeRow_42 rfl 2 rfl ?_
    refine V_iadd F dX7_describeRow_43 ?_
    refine V_cV (As := [.int ((8 * v1) + v2)]) (rest := [.int v2, .ref x9]) (C := RX4) (N := 1) F M (metX4_picture (Fx_G F) (Fx_l F) x10 ((8 * v1) + v2) μ) rfl q1141 q67 q1138 q1139 q1140 ⟨by decide +kernel, by decide +kernel, by decide +kernel⟩ rfl ⟨by decide, by decide⟩ (Nat.le_of_ble_eq_true rfl) dX7_describeRow_44 (by decide) (by decide) (fun x12 μ11 => ?_)
    change V κ ρ 0 0 μ11 _ 47 [(0, .ref v0), (1, .int v1), (2, .int v2)] [.int x12, .int v2, .ref x9]
    refine V_sC F dX7_describeRow_47 (fun μ13 => ?_)
    refine V_iinc (lv' := [(2, .int (v2 + 1)), (0, .ref v0), (1, .int v1)]) F dX7_describeRow_48 2 rfl rfl (lt_L hNL (by decide)) rfl ?_
    refine V_goto (tgt := 23) F dX7_describeRow_51 (by decide) ?_
    refine V_sub [1, 2, 0] rfl ?_
    exact hk23 v0 v1 (v2 + 1) μ13
def FX7_describeRow_L23  : Nat → Nat → Int32 → Int32 → Me → Rs Int32
  | 0, _, _, _, _ => none
  | f + 1, v0, v1, v2, μ => FX7_describeRow_B23 (FX7_describeRow_L23  f) v0 v1 v2 μ
theorem VX7_describeRow_L23 {κ : Cx} {ρ : (Int32 ⊕ String) × Me} (F : Fx κ cX7_describeRow RX7) (M : Mx κ (fun r : Int32 => some (.int r)) ρ rmX7_describeRow (some .int) [] "describeRow") (hNL : κ.2.2.2.2.2.2.2.2.2.2.2.2.2.2 = 3)   : ∀ (f : Nat) (v0 : Nat) (v1 : Int32) (v2 : Int32) (μ : Me), V κ ρ 0 0 μ (FX7_describeRow_L23  f v0 v1 v2 μ) 23 [(0, .ref v0), (1, .int v1), (2, .int v2)] [] := by
  intro f
  induction f with
  | zero => intros; exact V_none
  | succ f ih => intro v0 v1 v2 μ; exact VX7_describeRow_B23 F M hNL (fun v0 v1 v2 μ => ih v0 v1 v2 μ) v0 v1 v2 μ
def FX7_describeRow (a0 : Nat) (p1 : Int32) (μ : Me) : Rs Int32 :=
  (if p1 < 0 then (FX7_describeRow_B10  μ) else (if p1 < 8 then (FX7_describeRow_L23  FU a0 p1 0 μ) else (FX7_describeRow_B10  μ)))
set_option maxHeartbeats 4000000 in
set_option maxRecDepth 100000 in
theorem metX7_describeRow {l : Launch} {s0 : State} {D : va_G} {aC : Nat → ClassId} (hG : Gl s0 D aC) (hl : l.stackTraces = false) (a0 : Nat) (p1 : Int32) (μ : Me) : Ct l yX7_describeRow (ws_ yX7_describeRow cX7_describeRow 3 (some .int)) rmX7_describeRow s0 D aC (fun r : Int32 => some (.int r)) [.ref a0, .int p1] μ (FX7_describeRow a0 p1 μ) := by
  refine Ct_of hG hl (by decide +kernel) (Nat.le_of_ble_eq_true rfl) (fun κ ρ hNL F M hκ => ?_)
  have F : Fx κ cX7_describeRow RX7 := F
  change V κ ρ 0 0 μ (FX7_describeRow a0 p1 μ) 0 [(0, .ref a0), (1, .int p1)] []
  unfold FX7_describeRow
  refine V_iload_n F dX7_describeRow_0 rfl 1 rfl ?_
  refine V_if_lt (tgt := 10) F dX7_describeRow_1 (by decide) (fun c1 => ?_) (fun c2 => ?_)
  · refine V_sub [] rfl ?_
    exact VX7_describeRow_B10 F M hNL  μ
  · refine V_iload_n F dX7_describeRow_4 rfl 1 rfl ?_
    refine V_bipush (v := 8) F dX7_describeRow_5 (by decide) ?_
    refine V_icmp_lt (tgt := 21) F dX7_describeRow_7 (by decide) (fun c3 => ?_) (fun c4 => ?_)
    · refine V_iconst (v := 0) F dX7_describeRow_21 (by decide) ?_
      refine V_istore_n (lv' := [(2, .int 0), (0, .ref a0), (1, .int p1)]) F dX7_describeRow_22 rfl (lt_L hNL (by decide)) rfl ?_
      refine V_sub [1, 2, 0] rfl ?_
      exact VX7_describeRow_L23 F M hNL  FU a0 p1 0 μ
    · refine V_sub [] rfl ?_
      exact VX7_describeRow_B10 F M hNL  μ
/-! DroneLightShow.meanBatteryBits()I -/
abbrev rmX7_meanBatteryBits : Room := { frames := 6, cells := 1, slots := 6, locals := 100 }
def FX7_meanBatteryBits (a0 : Nat) (μ : Me) : Rs Int32 :=
  (gR μ a0 7 0 (fun x1 => (gR μ x1 5 0 (fun x2 => (gI μ x2 3 6 (fun x3 => (if x3 = 0 then (thr "java/lang/ArithmeticException" μ) else (gR μ a0 7 0 (fun x6 => (gR μ x6 5 0 (fun x7 => (bnd (vc μ x7 3 (FX2_batterySum x7  μ)) (fun x9 μ8 => (gd (nn32 (FP.fdiv (FP.i2f x9) (FP.i2f x3)) = true) (bnd (FX7_bitsOf (FP.fdiv (FP.i2f x9) (FP.i2f x3)) μ8) (fun x12 μ11 => (rt x12 μ11)))))))))))))))))
set_option maxHeartbeats 4000000 in
set_option maxRecDepth 100000 in
theorem metX7_meanBatteryBits {l : Launch} {s0 : State} {D : va_G} {aC : Nat → ClassId} (hG : Gl s0 D aC) (hl : l.stackTraces = false) (a0 : Nat) (μ : Me) : Ct l yX7_meanBatteryBits (ws_ yX7_meanBatteryBits cX7_meanBatteryBits 2 (some .int)) rmX7_meanBatteryBits s0 D aC (fun r : Int32 => some (.int r)) [.ref a0] μ (FX7_meanBatteryBits a0 μ) := by
  refine Ct_of hG hl (by decide +kernel) (Nat.le_of_ble_eq_true rfl) (fun κ ρ hNL F M hκ => ?_)
  have F : Fx κ cX7_meanBatteryBits RX7 := F
  change V κ ρ 0 0 μ (FX7_meanBatteryBits a0 μ) 0 [(0, .ref a0)] []
  unfold FX7_meanBatteryBits
  refine V_aload_n F dX7_meanBatteryBits_0 rfl 0 rfl ?_
  refine V_gR (ci := 7) (k9 := 0) (C := RX7) (T := TX7) (N := 11) F rfl hinX7 (by decide) q268 dX7_meanBatteryBits_1 (fun x1 => ?_)
  refine V_gR (ci := 5) (k9 := 0) (C := RX4) (T := TX4) (N := 10) F rfl hinX4 (by decide) q173 dX7_meanBatteryBits_4 (fun x2 => ?_)
  refine V_gI (ci := 3) (k9 := 6) (C := RX2) (T := TX2) (N := 7) F rfl hinX2 (by decide) q133 dX7_meanBatteryBits_7 (fun x3 => ?_)
  refine V_istore_n (lv' := [(1, .int x3), (0, .ref a0)]) F dX7_meanBatteryBits_10 rfl (lt_L hNL (by decide)) rfl ?_
  refine V_iload_n F dX7_meanBatteryBits_11 rfl 0 rfl ?_
  refine V_if_ne (tgt := 26) F dX7_meanBatteryBits_12 (by decide) (fun c4 => ?_) (fun c5 => ?_)
  · refine V_aload_n F dX7_meanBatteryBits_26 rfl 1 rfl ?_
    refine V_gR (ci := 7) (k9 := 0) (C := RX7) (T := TX7) (N := 11) F rfl hinX7 (by decide) q268 dX7_meanBatteryBits_27 (fun x6 => ?_)
    refine V_gR (ci := 5) (k9 := 0) (C := RX4) (T := TX4) (N := 10) F rfl hinX4 (by decide) q173 dX7_meanBatteryBits_30 (fun x7 => ?_)
    refine V_cV (As := []) (rest := []) (C := RX2) (N := 0) F M (metX2_batterySum (Fx_G F) (Fx_l F) x7  μ) rfl q1161 q68 q1158 q1159 q1160 ⟨by decide +kernel, by decide +kernel, by decide +kernel⟩ rfl ⟨by decide, by decide⟩ (Nat.le_of_ble_eq_true rfl) dX7_meanBatteryBits_33 (by decide) (by decide) (fun x9 μ8 => ?_)
    change V κ ρ 0 0 μ8 _ 36 [(1, .int x3), (0, .ref a0)] [.int x9]
    refine V_i2f F dX7_meanBatteryBits_36 ?_
    refine V_iload_n F dX7_meanBatteryBits_37 rfl 0 rfl ?_
    refine V_i2f F dX7_meanBatteryBits_38 ?_
    refine V_gd (fun g10 => ?_)
    refine V_fdiv F dX7_meanBatteryBits_39 g10 ?_
    refine V_cS (As := [.float (FP.fdiv (FP.i2f x9) (FP.i2f x3))]) (rest := []) (N := 1) F M (metX7_bitsOf (Fx_G F) (Fx_l F) (FP.fdiv (FP.i2f x9) (FP.i2f x3)) μ8) q1164 q66 q1162 q1163 ⟨by decide +kernel, by decide +kernel, by decide +kernel⟩ rfl ⟨by decide, by decide⟩ (Nat.le_of_ble_eq_true rfl) dX7_meanBatteryBits_40 (by decide) (by decide) (fun x12 μ11 => ?_)
    change V κ ρ 0 0 μ11 _ 43 [(1, .int x3), (0, .ref a0)] [.int x12]
    exact V_iret F M dX7_meanBatteryBits_43 rfl (by decide) (by decide)
  · exact V_throwW F M q878 q86 (List.mem_of_getElem? (i := 16) rfl) th_ArithmeticException (by decide) dX7_meanBatteryBits_15 dX7_meanBatteryBits_18 dX7_meanBatteryBits_19 dX7_meanBatteryBits_22 dX7_meanBatteryBits_25 (by decide) (by decide) (by decide) (by decide)
/-! DroneLightShow.meanDistance()D -/
abbrev rmX7_meanDistance : Room := { frames := 6, cells := 1, slots := 6, locals := 100 }
def FX7_meanDistance (a0 : Nat) (μ : Me) : Rs UInt64 :=
  (gR μ a0 7 0 (fun x1 => (gR μ x1 5 0 (fun x2 => (bnd (vc μ x2 3 (FX2_targetCount x2  μ)) (fun x4 μ3 => (if x4 = 0 then (thr "java/lang/ArithmeticException" μ3) else (gR μ3 a0 7 0 (fun x7 => (gR μ3 x7 5 0 (fun x8 => (bnd (vc μ3 x8 3 (FX2_targetDistanceSum x8  μ3)) (fun x10 μ9 => (gd (nn64 (FP.ddiv (FP.i2d x10) (FP.i2d x4)) = true) (rt (FP.ddiv (FP.i2d x10) (FP.i2d x4)) μ9)))))))))))))))
set_option maxHeartbeats 4000000 in
set_option maxRecDepth 100000 in
theorem metX7_meanDistance {l : Launch} {s0 : State} {D : va_G} {aC : Nat → ClassId} (hG : Gl s0 D aC) (hl : l.stackTraces = false) (a0 : Nat) (μ : Me) : Ct l yX7_meanDistance (ws_ yX7_meanDistance cX7_meanDistance 2 (some .double)) rmX7_meanDistance s0 D aC (fun r : UInt64 => some (.double r)) [.ref a0] μ (FX7_meanDistance a0 μ) := by
  refine Ct_of hG hl (by decide +kernel) (Nat.le_of_ble_eq_true rfl) (fun κ ρ hNL F M hκ => ?_)
  have F : Fx κ cX7_meanDistance RX7 := F
  change V κ ρ 0 0 μ (FX7_meanDistance a0 μ) 0 [(0, .ref a0)] []
  unfold FX7_meanDistance
  refine V_aload_n F dX7_meanDistance_0 rfl 0 rfl ?_
  refine V_gR (ci := 7) (k9 := 0) (C := RX7) (T := TX7) (N := 11) F rfl hinX7 (by decide) q268 dX7_meanDistance_1 (fun x1 => ?_)
  refine V_gR (ci := 5) (k9 := 0) (C := RX4) (T := TX4) (N := 10) F rfl hinX4 (by decide) q173 dX7_meanDistance_4 (fun x2 => ?_)
  refine V_cV (As := []) (rest := []) (C := RX2) (N := 0) F M (metX2_targetCount (Fx_G F) (Fx_l F) x2  μ) rfl q1176 q68 q1173 q1174 q1175 ⟨by decide +kernel, by decide +kernel, by decide +kernel⟩ rfl ⟨by decide, by decide⟩ (Nat.le_of_ble_eq_true rfl) dX7_meanDistance_7 (by decide) (by decide) (fun x4 μ3 => ?_)
  change V κ ρ 0 0 μ3 _ 10 [(0, .ref a0)] [.int x4]
  refine V_istore_n (lv' := [(1, .int x4), (0, .ref a0)]) F dX7_meanDistance_10 rfl (lt_L hNL (by decide)) rfl ?_
  refine V_iload_n F dX7_meanDistance_11 rfl 0 rfl ?_
  refine V_if_ne (tgt := 26) F dX7_meanDistance_12 (by decide) (fun c5 => ?_) (fun c6 => ?_)
  · refine V_aload_n F dX7_meanDistance_26 rfl 1 rfl ?_
    refine V_gR (ci := 7) (k9 := 0) (C := RX7) (T := TX7) (N := 11) F rfl hinX7 (by decide) q268 dX7_meanDistance_27 (fun x7 => ?_)
    refine V_gR (ci := 5) (k9 := 0) (C := RX4) (T := TX4) (N := 10) F rfl hinX4 (by decide) q173 dX7_meanDistance_30 (fun x8 => ?_)
    refine V_cV (As := []) (rest := []) (C := RX2) (N := 0) F M (metX2_targetDistanceSum (Fx_G F) (Fx_l F) x8  μ3) rfl q1181 q68 q1178 q1179 q1180 ⟨by decide +kernel, by decide +kernel, by decide +kernel⟩ rfl ⟨by decide, by decide⟩ (Nat.le_of_ble_eq_true rfl) dX7_meanDistance_33 (by decide) (by decide) (fun x10 μ9 => ?_)
    change V κ ρ 0 0 μ9 _ 36 [(1, .int x4), (0, .ref a0)] [.int x10]
    refine V_i2d F dX7_meanDistance_36 ?_
    refine V_iload_n F dX7_meanDistance_37 rfl 0 rfl ?_
    refine V_i2d F dX7_meanDistance_38 ?_
    refine V_gd (fun g11 => ?_)
    refine V_ddiv F dX7_meanDistance_39 g11 ?_
    exact V_dret F M dX7_meanDistance_40 rfl (by decide) (by decide)
  · exact V_throwW F M q878 q86 (List.mem_of_getElem? (i := 17) rfl) th_ArithmeticException (by decide) dX7_meanDistance_15 dX7_meanDistance_18 dX7_meanDistance_19 dX7_meanDistance_22 dX7_meanDistance_25 (by decide) (by decide) (by decide) (by decide)
/-! DroneLightShow.save()I -/
abbrev rmX7_save : Room := { frames := 3, cells := 0, slots := 0, locals := 68 }
def FX7_save (a0 : Nat) (μ : Me) : Rs Int32 :=
  (gR μ a0 7 2 (fun x1 => (gR μ a0 7 0 (fun x2 => (bnd (vc μ x1 5 (FX4_copyFrom x1 x2 μ)) (fun x4 μ3 => (pf μ3 a0 7 3 (.int 1) (fun μ5 => (gR μ5 a0 7 2 (fun x6 => (gR μ5 x6 5 0 (fun x7 => (gI μ5 x7 3 6 (fun x8 => (rt x8 μ5)))))))))))))))
set_option maxHeartbeats 4000000 in
set_option maxRecDepth 100000 in
theorem metX7_save {l : Launch} {s0 : State} {D : va_G} {aC : Nat → ClassId} (hG : Gl s0 D aC) (hl : l.stackTraces = false) (a0 : Nat) (μ : Me) : Ct l yX7_save (ws_ yX7_save cX7_save 1 (some .int)) rmX7_save s0 D aC (fun r : Int32 => some (.int r)) [.ref a0] μ (FX7_save a0 μ) := by
  refine Ct_of hG hl (by decide +kernel) (Nat.le_of_ble_eq_true rfl) (fun κ ρ hNL F M hκ => ?_)
  have F : Fx κ cX7_save RX7 := F
  change V κ ρ 0 0 μ (FX7_save a0 μ) 0 [(0, .ref a0)] []
  unfold FX7_save
  refine V_aload_n F dX7_save_0 rfl 0 rfl ?_
  refine V_gR (ci := 7) (k9 := 2) (C := RX7) (T := TX7) (N := 11) F rfl hinX7 (by decide) q270 dX7_save_1 (fun x1 => ?_)
  refine V_aload_n F dX7_save_4 rfl 0 rfl ?_
  refine V_gR (ci := 7) (k9 := 0) (C := RX7) (T := TX7) (N := 11) F rfl hinX7 (by decide) q268 dX7_save_5 (fun x2 => ?_)
  refine V_cV (As := [.ref x2]) (rest := []) (C := RX4) (N := 1) F M (metX4_copyFrom (Fx_G F) (Fx_l F) x1 x2 μ) rfl q429 q67 q426 q427 q428 ⟨by decide +kernel, by decide +kernel, by decide +kernel⟩ rfl ⟨by decide, by decide⟩ (Nat.le_of_ble_eq_true rfl) dX7_save_8 (by decide) (by decide) (fun x4 μ3 => ?_)
  change V κ ρ 0 0 μ3 _ 11 [(0, .ref a0)] []
  refine V_aload_n F dX7_save_11 rfl 0 rfl ?_
  refine V_iconst (v := 1) F dX7_save_12 (by decide) ?_
  refine V_pf (ci := 7) (k9 := 3) (C := RX7) (T := TX7) (N := 11) (ty := tyX7) F rfl hinX7 tyX7_ok nmX7 (by decide) q271 rfl (by decide) (by decide) dX7_save_13 (fun μ5 => ?_)
  refine V_aload_n F dX7_save_16 rfl 0 rfl ?_
  refine V_gR (ci := 7) (k9 := 2) (C := RX7) (T := TX7) (N := 11) F rfl hinX7 (by decide) q270 dX7_save_17 (fun x6 => ?_)
  refine V_gR (ci := 5) (k9 := 0) (C := RX4) (T := TX4) (N := 10) F rfl hinX4 (by decide) q173 dX7_save_20 (fun x7 => ?_)
  refine V_gI (ci := 3) (k9 := 6) (C := RX2) (T := TX2) (N := 7) F rfl hinX2 (by decide) q133 dX7_save_23 (fun x8 => ?_)
  exact V_iret F M dX7_save_26 rfl (by decide) (by decide)
/-! DroneLightShow.restore()I -/
abbrev rmX7_restore : Room := { frames := 6, cells := 1, slots := 6, locals := 100 }
def FX7_restore (a0 : Nat) (μ : Me) : Rs Int32 :=
  (gI μ a0 7 3 (fun x1 => (if x1 = 0 then (thr "java/lang/IllegalStateException" μ) else (gR μ a0 7 0 (fun x4 => (gR μ a0 7 2 (fun x5 => (bnd (vc μ x4 5 (FX4_copyFrom x4 x5 μ)) (fun x7 μ6 => (gR μ6 a0 7 4 (fun x8 => (pf μ6 x8 4 2 (.int 0) (fun μ9 => (gR μ9 a0 7 0 (fun x10 => (gR μ9 x10 5 0 (fun x11 => (gI μ9 x11 3 6 (fun x12 => (rt x12 μ9))))))))))))))))))))
set_option maxHeartbeats 4000000 in
set_option maxRecDepth 100000 in
theorem metX7_restore {l : Launch} {s0 : State} {D : va_G} {aC : Nat → ClassId} (hG : Gl s0 D aC) (hl : l.stackTraces = false) (a0 : Nat) (μ : Me) : Ct l yX7_restore (ws_ yX7_restore cX7_restore 1 (some .int)) rmX7_restore s0 D aC (fun r : Int32 => some (.int r)) [.ref a0] μ (FX7_restore a0 μ) := by
  refine Ct_of hG hl (by decide +kernel) (Nat.le_of_ble_eq_true rfl) (fun κ ρ hNL F M hκ => ?_)
  have F : Fx κ cX7_restore RX7 := F
  change V κ ρ 0 0 μ (FX7_restore a0 μ) 0 [(0, .ref a0)] []
  unfold FX7_restore
  refine V_aload_n F dX7_restore_0 rfl 0 rfl ?_
  refine V_gI (ci := 7) (k9 := 3) (C := RX7) (T := TX7) (N := 11) F rfl hinX7 (by decide) q271 dX7_restore_1 (fun x1 => ?_)
  refine V_if_ne (tgt := 18) F dX7_restore_4 (by decide) (fun c2 => ?_) (fun c3 => ?_)
  · refine V_aload_n F dX7_restore_18 rfl 0 rfl ?_
    refine V_gR (ci := 7) (k9 := 0) (C := RX7) (T := TX7) (N := 11) F rfl hinX7 (by decide) q268 dX7_restore_19 (fun x4 => ?_)
    refine V_aload_n F dX7_restore_22 rfl 0 rfl ?_
    refine V_gR (ci := 7) (k9 := 2) (C := RX7) (T := TX7) (N := 11) F rfl hinX7 (by decide) q270 dX7_restore_23 (fun x5 => ?_)
    refine V_cV (As := [.ref x5]) (rest := []) (C := RX4) (N := 1) F M (metX4_copyFrom (Fx_G F) (Fx_l F) x4 x5 μ) rfl q429 q67 q426 q427 q428 ⟨by decide +kernel, by decide +kernel, by decide +kernel⟩ rfl ⟨by decide, by decide⟩ (Nat.le_of_ble_eq_true rfl) dX7_restore_26 (by decide) (by decide) (fun x7 μ6 => ?_)
    change V κ ρ 0 0 μ6 _ 29 [(0, .ref a0)] []
    refine V_aload_n F dX7_restore_29 rfl 0 rfl ?_
    refine V_gR (ci := 7) (k9 := 4) (C := RX7) (T := TX7) (N := 11) F rfl hinX7 (by decide) q272 dX7_restore_30 (fun x8 => ?_)
    refine V_iconst (v := 0) F dX7_restore_33 (by decide) ?_
    refine V_pf (ci := 4) (k9 := 2) (C := RX3) (T := TX3) (N := 3) (ty := tyX3) F rfl hinX3 tyX3_ok nmX3 (by decide) q225 rfl rfl rfl dX7_restore_34 (fun μ9 => ?_)
    refine V_aload_n F dX7_restore_37 rfl 0 rfl ?_
    refine V_gR (ci := 7) (k9 := 0) (C := RX7) (T := TX7) (N := 11) F rfl hinX7 (by decide) q268 dX7_restore_38 (fun x10 => ?_)
    refine V_gR (ci := 5) (k9 := 0) (C := RX4) (T := TX4) (N := 10) F rfl hinX4 (by decide) q173 dX7_restore_41 (fun x11 => ?_)
    refine V_gI (ci := 3) (k9 := 6) (C := RX2) (T := TX2) (N := 7) F rfl hinX2 (by decide) q133 dX7_restore_44 (fun x12 => ?_)
    exact V_iret F M dX7_restore_47 rfl (by decide) (by decide)
  · exact V_throwW F M q578 q80 (List.mem_of_getElem? (i := 19) rfl) th_IllegalStateException (by decide) dX7_restore_7 dX7_restore_10 dX7_restore_11 dX7_restore_14 dX7_restore_17 (by decide) (by decide) (by decide) (by decide)
/-! DroneLightShow.demandCell(I)V -/
abbrev rmX7_demandCell : Room := { frames := 6, cells := 1, slots := 6, locals := 100 }
def FX7_demandCell (p1 : Int32) (μ : Me) : Rs Unit :=
  (bnd (FX7_isCell p1 μ) (fun x2 μ1 => (if x2 = 0 then (thr "java/lang/IndexOutOfBoundsException" μ1) else (rt () μ1))))
set_option maxHeartbeats 4000000 in
set_option maxRecDepth 100000 in
theorem metX7_demandCell {l : Launch} {s0 : State} {D : va_G} {aC : Nat → ClassId} (hG : Gl s0 D aC) (hl : l.stackTraces = false) (p1 : Int32) (μ : Me) : Ct l yX7_demandCell (ws_ yX7_demandCell cX7_demandCell 1 none) rmX7_demandCell s0 D aC (fun _ : Unit => none) [.int p1] μ (FX7_demandCell p1 μ) := by
  refine Ct_of hG hl (by decide +kernel) (Nat.le_of_ble_eq_true rfl) (fun κ ρ hNL F M hκ => ?_)
  have F : Fx κ cX7_demandCell RX7 := F
  change V κ ρ 0 0 μ (FX7_demandCell p1 μ) 0 [(0, .int p1)] []
  unfold FX7_demandCell
  refine V_iload_n F dX7_demandCell_0 rfl 0 rfl ?_
  refine V_cS (As := [.int p1]) (rest := []) (N := 1) F M (metX7_isCell (Fx_G F) (Fx_l F) p1 μ) q537 q66 q757 q536 ⟨by decide +kernel, by decide +kernel, by decide +kernel⟩ rfl ⟨by decide, by decide⟩ (Nat.le_of_ble_eq_true rfl) dX7_demandCell_1 (by decide) (by decide) (fun x2 μ1 => ?_)
  change V κ ρ 0 0 μ1 _ 4 [(0, .int p1)] [.int x2]
  refine V_if_ne (tgt := 18) F dX7_demandCell_4 (by decide) (fun c3 => ?_) (fun c4 => ?_)
  · exact V_vret F M dX7_demandCell_18 rfl (by decide) (by decide)
  · exact V_throwW F M q549 q76 (List.mem_of_getElem? (i := 6) rfl) th_IndexOutOfBoundsException (by decide) dX7_demandCell_7 dX7_demandCell_10 dX7_demandCell_11 dX7_demandCell_14 dX7_demandCell_17 (by decide) (by decide) (by decide) (by decide)
/-! DroneLightShow.demandFormation(I)V -/
abbrev rmX7_demandFormation : Room := { frames := 6, cells := 1, slots := 6, locals := 100 }
def FX7_demandFormation (p1 : Int32) (μ : Me) : Rs Unit :=
  (bnd (FX7_isFormation p1 μ) (fun x2 μ1 => (if x2 = 0 then (thr "java/lang/IndexOutOfBoundsException" μ1) else (rt () μ1))))
set_option maxHeartbeats 4000000 in
set_option maxRecDepth 100000 in
theorem metX7_demandFormation {l : Launch} {s0 : State} {D : va_G} {aC : Nat → ClassId} (hG : Gl s0 D aC) (hl : l.stackTraces = false) (p1 : Int32) (μ : Me) : Ct l yX7_demandFormation (ws_ yX7_demandFormation cX7_demandFormation 1 none) rmX7_demandFormation s0 D aC (fun _ : Unit => none) [.int p1] μ (FX7_demandFormation p1 μ) := by
  refine Ct_of hG hl (by decide +kernel) (Nat.le_of_ble_eq_true rfl) (fun κ ρ hNL F M hκ => ?_)
  have F : Fx κ cX7_demandFormation RX7 := F
  change V κ ρ 0 0 μ (FX7_demandFormation p1 μ) 0 [(0, .int p1)] []
  unfold FX7_demandFormation
  refine V_iload_n F dX7_demandFormation_0 rfl 0 rfl ?_
  refine V_cS (As := [.int p1]) (rest := []) (N := 1) F M (metX7_isFormation (Fx_G F) (Fx_l F) p1 μ) q795 q66 q841 q794 ⟨by decide +kernel, by decide +kernel, by decide +kernel⟩ rfl ⟨by decide, by decide⟩ (Nat.le_of_ble_eq_true rfl) dX7_demandFormation_1 (by decide) (by decide) (fun x2 μ1 => ?_)
  change V κ ρ 0 0 μ1 _ 4 [(0, .int p1)] [.int x2]
  refine V_if_ne (tgt := 18) F dX7_demandFormation_4 (by decide) (fun c3 => ?_) (fun c4 => ?_)
  · exact V_vret F M dX7_demandFormation_18 rfl (by decide) (by decide)
  · exact V_throwW F M q549 q76 (List.mem_of_getElem? (i := 7) rfl) th_IndexOutOfBoundsException (by decide) dX7_demandFormation_7 dX7_demandFormation_10 dX7_demandFormation_11 dX7_demandFormation_14 dX7_demandFormation_17 (by decide) (by decide) (by decide) (by decide)
/-! DroneLightShow.pairsByCell()I -/
abbrev rmX7_pairsByCell : Room := { frames := 2, cells := 0, slots := 0, locals := 43 }
def FX7_pairsByCell_B25 (k25 : Nat → Int32 → Int32 → Me → Rs Int32) (v0 : Nat) (v1 : Int32) (v2 : Int32) (μ : Me) : Rs Int32 :=
  (gR μ v0 7 0 (fun x3 => (gR μ x3 5 0 (fun x4 => (gI μ x4 3 6 (fun x5 => (if x5 ≤ v2 then (rt v1 μ) else (gR μ v0 7 0 (fun x8 => (gR μ x8 5 0 (fun x9 => (bnd (vc μ x9 3 (FX2_wish x9 v2 μ)) (fun x11 μ10 => (if x11 = (-1) then (k25 v0 v1 (v2 + 1) μ10) else (gR μ10 v0 7 10 (fun x14 => (aI μ10 x14 x11 (fun x15 => (gR μ10 v0 7 10 (fun x16 => (aI μ10 x16 x11 (fun x17 => (sI μ10 x16 x11 (x17 + 1) (fun μ18 => (k25 v0 (v1 + x15) (v2 + 1) μ18)))))))))))))))))))))))))
set_option maxHeartbeats 4000000 in
set_option maxRecDepth 100000 in
theorem VX7_pairsByCell_B25 {κ : Cx} {ρ : (Int32 ⊕ String) × Me} (F : Fx κ cX7_pairsByCell RX7) (M : Mx κ (fun r : Int32 => some (.int r)) ρ rmX7_pairsByCell (some .int) [] "pairsByCell") (hNL : κ.2.2.2.2.2.2.2.2.2.2.2.2.2.2 = 4) {k25 : Nat → Int32 → Int32 → Me → Rs Int32} (hk25 : ∀ (v0 : Nat) (v1 : Int32) (v2 : Int32) (μ : Me), V κ ρ 0 0 μ (k25 v0 v1 v2 μ) 25 [(0, .ref v0), (1, .int v1), (2, .int v2)] []) (v0 : Nat) (v1 : Int32) (v2 : Int32) (μ : Me) : V κ ρ 0 0 μ (FX7_pairsByCell_B25 k25 v0 v1 v2 μ) 25 [(0, .ref v0), (1, .int v1), (2, .int v2)] [] := by
  unfold FX7_pairsByCell_B25
  refine V_iload_n F dX7_pairsByCell_25 rfl 2 rfl ?_
  refine V_aload_n F dX7_pairsByCell_26 rfl 0 rfl ?_
  refine V_gR (ci := 7) (k9 := 0) (C := RX7) (T := TX7) (N := 11) F rfl hinX7 (by decide) q268 dX7_pairsByCell_27 (fun x3 => ?_)
  refine V_gR (ci := 5) (k9 := 0) (C := RX4) (T := TX4) (N := 10) F rfl hinX4 (by decide) q173 dX7_pairsByCell_30 (fun x4 => ?_)
  refine V_gI (ci := 3) (k9 := 6) (C := RX2) (T := TX2) (N := 7) F rfl hinX2 (by decide) q133 dX7_pairsByCell_33 (fun x5 => ?_)
  refine V_icmp_ge (tgt := 81) F dX7_pairsByCell_36 (by decide) (fun c6 => ?_) (fun c7 => ?_)
  · refine V_iload_n F dX7_pairsByCell_81 rfl 1 rfl ?_
    exact V_iret F M dX7_pairsByCell_82 rfl (by decide) (by decide)
  · refine V_aload_n F dX7_pairsByCell_39 rfl 0 rfl ?_
    refine V_gR (ci := 7) (k9 := 0) (C := RX7) (T := TX7) (N := 11) F rfl hinX7 (by decide) q268 dX7_pairsByCell_40 (fun x8 => ?_)
    refine V_gR (ci := 5) (k9 := 0) (C := RX4) (T := TX4) (N := 10) F rfl hinX4 (by decide) q173 dX7_pairsByCell_43 (fun x9 => ?_)
    refine V_iload_n F dX7_pairsByCell_46 rfl 2 rfl ?_
    refine V_cV (As := [.int v2]) (rest := []) (C := RX2) (N := 1) F M (metX2_wish (Fx_G F) (Fx_l F) x9 v2 μ) rfl q329 q68 q344 q327 q328 ⟨by decide +kernel, by decide +kernel, by decide +kernel⟩ rfl ⟨by decide, by decide⟩ (Nat.le_of_ble_eq_true rfl) dX7_pairsByCell_47 (by decide) (by decide) (fun x11 μ10 => ?_)
    change V κ ρ 0 0 μ10 _ 50 [(0, .ref v0), (1, .int v1), (2, .int v2)] [.int x11]
    refine V_istore_n (lv' := [(3, .int x11), (0, .ref v0), (1, .int v1), (2, .int v2)]) F dX7_pairsByCell_50 rfl (lt_L hNL (by decide)) rfl ?_
    refine V_iload_n F dX7_pairsByCell_51 rfl 0 rfl ?_
    refine V_iconst (v := (-1)) F dX7_pairsByCell_52 (by decide) ?_
    refine V_icmp_eq (tgt := 75) F dX7_pairsByCell_53 (by decide) (fun c12 => ?_) (fun c13 => ?_)
    · refine V_iinc (lv' := [(2, .int (v2 + 1)), (3, .int x11), (0, .ref v0), (1, .int v1)]) F dX7_pairsByCell_75 3 rfl rfl (lt_L hNL (by decide)) rfl ?_
      refine V_goto (tgt := 25) F dX7_pairsByCell_78 (by decide) ?_
      refine V_sub [2, 3, 0] rfl ?_
      exact hk25 v0 v1 (v2 + 1) μ10
    · refine V_iload_n F dX7_pairsByCell_56 rfl 2 rfl ?_
      refine V_aload_n F dX7_pairsByCell_57 rfl 1 rfl ?_
      refine V_gR (ci := 7) (k9 := 10) (C := RX7) (T := TX7) (N := 11) F rfl hinX7 (by decide) q278 dX7_pairsByCell_58 (fun x14 => ?_)
      refine V_iload_n F dX7_pairsByCell_61 rfl 0 rfl ?_
      refine V_aI F dX7_pairsByCell_62 (fun x15 => ?_)
      refine V_iadd F dX7_pairsByCell_63 ?_
      refine V_istore_n (lv' := [(1, .int (v1 + x15)), (3, .int x11), (0, .ref v0), (2, .int v2)]) F dX7_pairsByCell_64 rfl (lt_L hNL (by decide)) rfl ?_
      refine V_aload_n F dX7_pairsByCell_65 rfl 2 rfl ?_
      refine V_gR (ci := 7) (k9 := 10) (C := RX7) (T := TX7) (N := 11) F rfl hinX7 (by decide) q278 dX7_pairsByCell_66 (fun x16 => ?_)
      refine V_iload_n F dX7_pairsByCell_69 rfl 1 rfl ?_
      refine V_dup2 F dX7_pairsByCell_70 rfl rfl ?_
      refine V_aI F dX7_pairsByCell_71 (fun x17 => ?_)
      refine V_iconst (v := 1) F dX7_pairsByCell_72 (by decide) ?_
      refine V_iadd F dX7_pairsByCell_73 ?_
      refine V_sI F dX7_pairsByCell_74 (fun μ18 => ?_)
      refine V_iinc (lv' := [(2, .int (v2 + 1)), (1, .int (v1 + x15)), (3, .int x11), (0, .ref v0)]) F dX7_pairsByCell_75 3 rfl rfl (lt_L hNL (by decide)) rfl ?_
      refine V_goto (tgt := 25) F dX7_pairsByCell_78 (by decide) ?_
      refine V_sub [3, 1, 0] rfl ?_
      exact hk25 v0 (v1 + x15) (v2 + 1) μ18
def FX7_pairsByCell_L25  : Nat → Nat → Int32 → Int32 → Me → Rs Int32
  | 0, _, _, _, _ => none
  | f + 1, v0, v1, v2, μ => FX7_pairsByCell_B25 (FX7_pairsByCell_L25  f) v0 v1 v2 μ
theorem VX7_pairsByCell_L25 {κ : Cx} {ρ : (Int32 ⊕ String) × Me} (F : Fx κ cX7_pairsByCell RX7) (M : Mx κ (fun r : Int32 => some (.int r)) ρ rmX7_pairsByCell (some .int) [] "pairsByCell") (hNL : κ.2.2.2.2.2.2.2.2.2.2.2.2.2.2 = 4)   : ∀ (f : Nat) (v0 : Nat) (v1 : Int32) (v2 : Int32) (μ : Me), V κ ρ 0 0 μ (FX7_pairsByCell_L25  f v0 v1 v2 μ) 25 [(0, .ref v0), (1, .int v1), (2, .int v2)] [] := by
  intro f
  induction f with
  | zero => intros; exact V_none
  | succ f ih => intro v0 v1 v2 μ; exact VX7_pairsByCell_B25 F M hNL (fun v0 v1 v2 μ => ih v0 v1 v2 μ) v0 v1 v2 μ
def FX7_pairsByCell_B2 (k2 : Nat → Int32 → Me → Rs Int32) (v0 : Nat) (v1 : Int32) (μ : Me) : Rs Int32 :=
  (if 64 ≤ v1 then (FX7_pairsByCell_L25  FU v0 0 0 μ) else (gR μ v0 7 10 (fun x19 => (sI μ x19 v1 0 (fun μ20 => (k2 v0 (v1 + 1) μ20))))))
set_option maxHeartbeats 4000000 in
set_option maxRecDepth 100000 in
theorem VX7_pairsByCell_B2 {κ : Cx} {ρ : (Int32 ⊕ String) × Me} (F : Fx κ cX7_pairsByCell RX7) (M : Mx κ (fun r : Int32 => some (.int r)) ρ rmX7_pairsByCell (some .int) [] "pairsByCell") (hNL : κ.2.2.2.2.2.2.2.2.2.2.2.2.2.2 = 4) {k2 : Nat → Int32 → Me → Rs Int32} (hk2 : ∀ (v0 : Nat) (v1 : Int32) (μ : Me), V κ ρ 0 0 μ (k2 v0 v1 μ) 2 [(0, .ref v0), (1, .int v1)] []) (v0 : Nat) (v1 : Int32) (μ : Me) : V κ ρ 0 0 μ (FX7_pairsByCell_B2 k2 v0 v1 μ) 2 [(0, .ref v0), (1, .int v1)] [] := by
  unfold FX7_pairsByCell_B2
  refine V_iload_n F dX7_pairsByCell_2 rfl 1 rfl ?_
  refine V_bipush (v := 64) F dX7_pairsByCell_3 (by decide) ?_
  refine V_icmp_ge (tgt := 21) F dX7_pairsByCell_5 (by decide) (fun c1 => ?_) (fun c2 => ?_)
  · refine V_iconst (v := 0) F dX7_pairsByCell_21 (by decide) ?_
    refine V_istore_n (lv' := [(1, .int 0), (0, .ref v0)]) F dX7_pairsByCell_22 rfl (lt_L hNL (by decide)) rfl ?_
    refine V_iconst (v := 0) F dX7_pairsByCell_23 (by decide) ?_
    refine V_istore_n (lv' := [(2, .int 0), (1, .int 0), (0, .ref v0)]) F dX7_pairsByCell_24 rfl (lt_L hNL (by decide)) rfl ?_
    refine V_sub [2, 1, 0] rfl ?_
    exact VX7_pairsByCell_L25 F M hNL  FU v0 0 0 μ
  · refine V_aload_n F dX7_pairsByCell_8 rfl 0 rfl ?_
    refine V_gR (ci := 7) (k9 := 10) (C := RX7) (T := TX7) (N := 11) F rfl hinX7 (by decide) q278 dX7_pairsByCell_9 (fun x19 => ?_)
    refine V_iload_n F dX7_pairsByCell_12 rfl 1 rfl ?_
    refine V_iconst (v := 0) F dX7_pairsByCell_13 (by decide) ?_
    refine V_sI F dX7_pairsByCell_14 (fun μ20 => ?_)
    refine V_iinc (lv' := [(1, .int (v1 + 1)), (0, .ref v0)]) F dX7_pairsByCell_15 1 rfl rfl (lt_L hNL (by decide)) rfl ?_
    refine V_goto (tgt := 2) F dX7_pairsByCell_18 (by decide) ?_
    refine V_sub [1, 0] rfl ?_
    exact hk2 v0 (v1 + 1) μ20
def FX7_pairsByCell_L2  : Nat → Nat → Int32 → Me → Rs Int32
  | 0, _, _, _ => none
  | f + 1, v0, v1, μ => FX7_pairsByCell_B2 (FX7_pairsByCell_L2  f) v0 v1 μ
theorem VX7_pairsByCell_L2 {κ : Cx} {ρ : (Int32 ⊕ String) × Me} (F : Fx κ cX7_pairsByCell RX7) (M : Mx κ (fun r : Int32 => some (.int r)) ρ rmX7_pairsByCell (some .int) [] "pairsByCell") (hNL : κ.2.2.2.2.2.2.2.2.2.2.2.2.2.2 = 4)   : ∀ (f : Nat) (v0 : Nat) (v1 : Int32) (μ : Me), V κ ρ 0 0 μ (FX7_pairsByCell_L2  f v0 v1 μ) 2 [(0, .ref v0), (1, .int v1)] [] := by
  intro f
  induction f with
  | zero => intros; exact V_none
  | succ f ih => intro v0 v1 μ; exact VX7_pairsByCell_B2 F M hNL (fun v0 v1 μ => ih v0 v1 μ) v0 v1 μ
def FX7_pairsByCell (a0 : Nat) (μ : Me) : Rs Int32 :=
  (FX7_pairsByCell_L2  FU a0 0 μ)
set_option maxHeartbeats 4000000 in
set_option maxRecDepth 100000 in
theorem metX7_pairsByCell {l : Launch} {s0 : State} {D : va_G} {aC : Nat → ClassId} (hG : Gl s0 D aC) (hl : l.stackTraces = false) (a0 : Nat) (μ : Me) : Ct l yX7_pairsByCell (ws_ yX7_pairsByCell cX7_pairsByCell 4 (some .int)) rmX7_pairsByCell s0 D aC (fun r : Int32 => some (.int r)) [.ref a0] μ (FX7_pairsByCell a0 μ) := by
  refine Ct_of hG hl (by decide +kernel) (Nat.le_of_ble_eq_true rfl) (fun κ ρ hNL F M hκ => ?_)
  have F : Fx κ cX7_pairsByCell RX7 := F
  change V κ ρ 0 0 μ (FX7_pairsByCell a0 μ) 0 [(0, .ref a0)] []
  unfold FX7_pairsByCell
  refine V_iconst (v := 0) F dX7_pairsByCell_0 (by decide) ?_
  refine V_istore_n (lv' := [(1, .int 0), (0, .ref a0)]) F dX7_pairsByCell_1 rfl (lt_L hNL (by decide)) rfl ?_
  refine V_sub [1, 0] rfl ?_
  exact VX7_pairsByCell_L2 F M hNL  FU a0 0 μ
/-! DroneLightShow.matchCountsAgree()Z -/
abbrev rmX7_matchCountsAgree : Room := { frames := 2, cells := 0, slots := 0, locals := 46 }
def FX7_matchCountsAgree_B2 (k2 : Nat → Int32 → Me → Rs Int32) (v0 : Nat) (v1 : Int32) (μ : Me) : Rs Int32 :=
  (if 4 ≤ v1 then (rt 1 μ) else (gR μ v0 7 0 (fun x3 => (bnd (vc μ x3 5 (FX4_matchesByMask x3 v1 μ)) (fun x5 μ4 => (gR μ4 v0 7 0 (fun x6 => (bnd (vc μ4 x6 5 (FX4_matchesByScan x6 v1 μ4)) (fun x8 μ7 => (if x5 = x8 then (k2 v0 (v1 + 1) μ7) else (rt 0 μ7)))))))))))
set_option maxHeartbeats 4000000 in
set_option maxRecDepth 100000 in
theorem VX7_matchCountsAgree_B2 {κ : Cx} {ρ : (Int32 ⊕ String) × Me} (F : Fx κ cX7_matchCountsAgree RX7) (M : Mx κ (fun r : Int32 => some (.int r)) ρ rmX7_matchCountsAgree (some .boolean) [] "matchCountsAgree") (hNL : κ.2.2.2.2.2.2.2.2.2.2.2.2.2.2 = 2) {k2 : Nat → Int32 → Me → Rs Int32} (hk2 : ∀ (v0 : Nat) (v1 : Int32) (μ : Me), V κ ρ 0 0 μ (k2 v0 v1 μ) 2 [(0, .ref v0), (1, .int v1)] []) (v0 : Nat) (v1 : Int32) (μ : Me) : V κ ρ 0 0 μ (FX7_matchCountsAgree_B2 k2 v0 v1 μ) 2 [(0, .ref v0), (1, .int v1)] [] := by
  unfold FX7_matchCountsAgree_B2
  refine V_iload_n F dX7_matchCountsAgree_2 rfl 1 rfl ?_
  refine V_iconst (v := 4) F dX7_matchCountsAgree_3 (by decide) ?_
  refine V_icmp_ge (tgt := 34) F dX7_matchCountsAgree_4 (by decide) (fun c1 => ?_) (fun c2 => ?_)
  · refine V_iconst (v := 1) F dX7_matchCountsAgree_34 (by decide) ?_
    exact V_zret F M dX7_matchCountsAgree_35 rfl (by decide) (by decide) (by decide)
  · refine V_aload_n F dX7_matchCountsAgree_7 rfl 0 rfl ?_
    refine V_gR (ci := 7) (k9 := 0) (C := RX7) (T := TX7) (N := 11) F rfl hinX7 (by decide) q268 dX7_matchCountsAgree_8 (fun x3 => ?_)
    refine V_iload_n F dX7_matchCountsAgree_11 rfl 1 rfl ?_
    refine V_cV (As := [.int v1]) (rest := []) (C := RX4) (N := 1) F M (metX4_matchesByMask (Fx_G F) (Fx_l F) x3 v1 μ) rfl q382 q67 q379 q380 q381 ⟨by decide +kernel, by decide +kernel, by decide +kernel⟩ rfl ⟨by decide, by decide⟩ (Nat.le_of_ble_eq_true rfl) dX7_matchCountsAgree_12 (by decide) (by decide) (fun x5 μ4 => ?_)
    change V κ ρ 0 0 μ4 _ 15 [(0, .ref v0), (1, .int v1)] [.int x5]
    refine V_aload_n F dX7_matchCountsAgree_15 rfl 0 rfl ?_
    refine V_gR (ci := 7) (k9 := 0) (C := RX7) (T := TX7) (N := 11) F rfl hinX7 (by decide) q268 dX7_matchCountsAgree_16 (fun x6 => ?_)
    refine V_iload_n F dX7_matchCountsAgree_19 rfl 1 rfl ?_
    refine V_cV (As := [.int v1]) (rest := [.int x5]) (C := RX4) (N := 1) F M (metX4_matchesByScan (Fx_G F) (Fx_l F) x6 v1 μ4) rfl q391 q67 q388 q389 q390 ⟨by decide +kernel, by decide +kernel, by decide +kernel⟩ rfl ⟨by decide, by decide⟩ (Nat.le_of_ble_eq_true rfl) dX7_matchCountsAgree_20 (by decide) (by decide) (fun x8 μ7 => ?_)
    change V κ ρ 0 0 μ7 _ 23 [(0, .ref v0), (1, .int v1)] [.int x8, .int x5]
    refine V_icmp_eq (tgt := 28) F dX7_matchCountsAgree_23 (by decide) (fun c9 => ?_) (fun c10 => ?_)
    · refine V_iinc (lv' := [(1, .int (v1 + 1)), (0, .ref v0)]) F dX7_matchCountsAgree_28 1 rfl rfl (lt_L hNL (by decide)) rfl ?_
      refine V_goto (tgt := 2) F dX7_matchCountsAgree_31 (by decide) ?_
      refine V_sub [1, 0] rfl ?_
      exact hk2 v0 (v1 + 1) μ7
    · refine V_iconst (v := 0) F dX7_matchCountsAgree_26 (by decide) ?_
      exact V_zret F M dX7_matchCountsAgree_27 rfl (by decide) (by decide) (by decide)
def FX7_matchCountsAgree_L2  : Nat → Nat → Int32 → Me → Rs Int32
  | 0, _, _, _ => none
  | f + 1, v0, v1, μ => FX7_matchCountsAgree_B2 (FX7_matchCountsAgree_L2  f) v0 v1 μ
theorem VX7_matchCountsAgree_L2 {κ : Cx} {ρ : (Int32 ⊕ String) × Me} (F : Fx κ cX7_matchCountsAgree RX7) (M : Mx κ (fun r : Int32 => some (.int r)) ρ rmX7_matchCountsAgree (some .boolean) [] "matchCountsAgree") (hNL : κ.2.2.2.2.2.2.2.2.2.2.2.2.2.2 = 2)   : ∀ (f : Nat) (v0 : Nat) (v1 : Int32) (μ : Me), V κ ρ 0 0 μ (FX7_matchCountsAgree_L2  f v0 v1 μ) 2 [(0, .ref v0), (1, .int v1)] [] := by
  intro f
  induction f with
  | zero => intros; exact V_none
  | succ f ih => intro v0 v1 μ; exact VX7_matchCountsAgree_B2 F M hNL (fun v0 v1 μ => ih v0 v1 μ) v0 v1 μ
def FX7_matchCountsAgree (a0 : Nat) (μ : Me) : Rs Int32 :=
  (FX7_matchCountsAgree_L2  FU a0 0 μ)
set_option maxHeartbeats 4000000 in
set_option maxRecDepth 100000 in
theorem metX7_matchCountsAgree {l : Launch} {s0 : State} {D : va_G} {aC : Nat → ClassId} (hG : Gl s0 D aC) (hl : l.stackTraces = false) (a0 : Nat) (μ : Me) : Ct l yX7_matchCountsAgree (ws_ yX7_matchCountsAgree cX7_matchCountsAgree 2 (some .boolean)) rmX7_matchCountsAgree s0 D aC (fun r : Int32 => some (.int r)) [.ref a0] μ (FX7_matchCountsAgree a0 μ) := by
  refine Ct_of hG hl (by decide +kernel) (Nat.le_of_ble_eq_true rfl) (fun κ ρ hNL F M hκ => ?_)
  have F : Fx κ cX7_matchCountsAgree RX7 := F
  change V κ ρ 0 0 μ (FX7_matchCountsAgree a0 μ) 0 [(0, .ref a0)] []
  unfold FX7_matchCountsAgree
  refine V_iconst (v := 0) F dX7_matchCountsAgree_0 (by decide) ?_
  refine V_istore_n (lv' := [(1, .int 0), (0, .ref a0)]) F dX7_matchCountsAgree_1 rfl (lt_L hNL (by decide)) rfl ?_
  refine V_sub [1, 0] rfl ?_
  exact VX7_matchCountsAgree_L2 F M hNL  FU a0 0 μ
/-! DroneLightShow$Fleet.ranked(I)I -/
abbrev rmX2_ranked : Room := { frames := 2, cells := 0, slots := 0, locals := 45 }
def FX2_ranked_B2 (k2 : Nat → Int32 → Int32 → Me → Rs Int32) (v0 : Nat) (v1 : Int32) (v2 : Int32) (μ : Me) : Rs Int32 :=
  (gI μ v0 3 6 (fun x1 => (if x1 ≤ v2 then (rt (-1) μ) else (bnd (vc μ v0 3 (FX2_rankOf v0 v2 μ)) (fun x5 μ4 => (if x5 = v1 then (rt v2 μ4) else (k2 v0 v1 (v2 + 1) μ4)))))))
set_option maxHeartbeats 4000000 in
set_option maxRecDepth 100000 in
theorem VX2_ranked_B2 {κ : Cx} {ρ : (Int32 ⊕ String) × Me} (F : Fx κ cX2_ranked RX2) (M : Mx κ (fun r : Int32 => some (.int r)) ρ rmX2_ranked (some .int) [] "ranked") (hNL : κ.2.2.2.2.2.2.2.2.2.2.2.2.2.2 = 3) {k2 : Nat → Int32 → Int32 → Me → Rs Int32} (hk2 : ∀ (v0 : Nat) (v1 : Int32) (v2 : Int32) (μ : Me), V κ ρ 0 0 μ (k2 v0 v1 v2 μ) 2 [(0, .ref v0), (1, .int v1), (2, .int v2)] []) (v0 : Nat) (v1 : Int32) (v2 : Int32) (μ : Me) : V κ ρ 0 0 μ (FX2_ranked_B2 k2 v0 v1 v2 μ) 2 [(0, .ref v0), (1, .int v1), (2, .int v2)] [] := by
  unfold FX2_ranked_B2
  refine V_iload_n F dX2_ranked_2 rfl 2 rfl ?_
  refine V_aload_n F dX2_ranked_3 rfl 0 rfl ?_
  refine V_gI (ci := 3) (k9 := 6) (C := RX2) (T := TX2) (N := 7) F rfl hinX2 (by decide) q131 dX2_ranked_4 (fun x1 => ?_)
  refine V_icmp_ge (tgt := 27) F dX2_ranked_7 (by decide) (fun c2 => ?_) (fun c3 => ?_)
  · refine V_iconst (v := (-1)) F dX2_ranked_27 (by decide) ?_
    exact V_iret F M dX2_ranked_28 rfl (by decide) (by decide)
  · refine V_aload_n F dX2_ranked_10 rfl 0 rfl ?_
    refine V_iload_n F dX2_ranked_11 rfl 2 rfl ?_
    refine V_cV (As := [.int v2]) (rest := []) (C := RX2) (N := 1) F M (metX2_rankOf (Fx_G F) (Fx_l F) v0 v2 μ) rfl q955 q68 q952 q954 q12 ⟨by decide +kernel, by decide +kernel, by decide +kernel⟩ rfl ⟨by decide, by decide⟩ (Nat.le_of_ble_eq_true rfl) dX2_ranked_12 (by decide) (by decide) (fun x5 μ4 => ?_)
    change V κ ρ 0 0 μ4 _ 15 [(0, .ref v0), (1, .int v1), (2, .int v2)] [.int x5]
    refine V_iload_n F dX2_ranked_15 rfl 1 rfl ?_
    refine V_icmp_ne (tgt := 21) F dX2_ranked_16 (by decide) (fun c6 => ?_) (fun c7 => ?_)
    · refine V_iinc (lv' := [(2, .int (v2 + 1)), (0, .ref v0), (1, .int v1)]) F dX2_ranked_21 2 rfl rfl (lt_L hNL (by decide)) rfl ?_
      refine V_goto (tgt := 2) F dX2_ranked_24 (by decide) ?_
      refine V_sub [1, 2, 0] rfl ?_
      exact hk2 v0 v1 (v2 + 1) μ4
    · refine V_iload_n F dX2_ranked_19 rfl 2 rfl ?_
      exact V_iret F M dX2_ranked_20 rfl (by decide) (by decide)
def FX2_ranked_L2  : Nat → Nat → Int32 → Int32 → Me → Rs Int32
  | 0, _, _, _, _ => none
  | f + 1, v0, v1, v2, μ => FX2_ranked_B2 (FX2_ranked_L2  f) v0 v1 v2 μ
theorem VX2_ranked_L2 {κ : Cx} {ρ : (Int32 ⊕ String) × Me} (F : Fx κ cX2_ranked RX2) (M : Mx κ (fun r : Int32 => some (.int r)) ρ rmX2_ranked (some .int) [] "ranked") (hNL : κ.2.2.2.2.2.2.2.2.2.2.2.2.2.2 = 3)   : ∀ (f : Nat) (v0 : Nat) (v1 : Int32) (v2 : Int32) (μ : Me), V κ ρ 0 0 μ (FX2_ranked_L2  f v0 v1 v2 μ) 2 [(0, .ref v0), (1, .int v1), (2, .int v2)] [] := by
  intro f
  induction f with
  | zero => intros; exact V_none
  | succ f ih => intro v0 v1 v2 μ; exact VX2_ranked_B2 F M hNL (fun v0 v1 v2 μ => ih v0 v1 v2 μ) v0 v1 v2 μ
def FX2_ranked (a0 : Nat) (p1 : Int32) (μ : Me) : Rs Int32 :=
  (FX2_ranked_L2  FU a0 p1 0 μ)
set_option maxHeartbeats 4000000 in
set_option maxRecDepth 100000 in
theorem metX2_ranked {l : Launch} {s0 : State} {D : va_G} {aC : Nat → ClassId} (hG : Gl s0 D aC) (hl : l.stackTraces = false) (a0 : Nat) (p1 : Int32) (μ : Me) : Ct l yX2_ranked (ws_ yX2_ranked cX2_ranked 3 (some .int)) rmX2_ranked s0 D aC (fun r : Int32 => some (.int r)) [.ref a0, .int p1] μ (FX2_ranked a0 p1 μ) := by
  refine Ct_of hG hl (by decide +kernel) (Nat.le_of_ble_eq_true rfl) (fun κ ρ hNL F M hκ => ?_)
  have F : Fx κ cX2_ranked RX2 := F
  change V κ ρ 0 0 μ (FX2_ranked a0 p1 μ) 0 [(0, .ref a0), (1, .int p1)] []
  unfold FX2_ranked
  refine V_iconst (v := 0) F dX2_ranked_0 (by decide) ?_
  refine V_istore_n (lv' := [(2, .int 0), (0, .ref a0), (1, .int p1)]) F dX2_ranked_1 rfl (lt_L hNL (by decide)) rfl ?_
  refine V_sub [1, 2, 0] rfl ?_
  exact VX2_ranked_L2 F M hNL  FU a0 p1 0 μ
/-! DroneLightShow$History.keep(LDroneLightShow$Scene;)V -/
abbrev rmX3_keep : Room := { frames := 3, cells := 0, slots := 0, locals := 68 }
def FX3_keep_B32  (v0 : Nat) (v1 : Nat) (μ : Me) : Rs Unit :=
  (gR μ v0 4 0 (fun x4 => (gI μ v0 4 1 (fun x5 => (gI μ v0 4 2 (fun x6 => (aR μ 5 x4 ((x5 + x6) - (x5 + x6) / 8 * 8) (fun x7 => (bnd (vc μ x7 5 (FX4_copyFrom x7 v1 μ)) (fun x9 μ8 => (gI μ8 v0 4 2 (fun x10 => (pf μ8 v0 4 2 (.int (x10 + 1)) (fun μ11 => (rt () μ11)))))))))))))))
set_option maxHeartbeats 4000000 in
set_option maxRecDepth 100000 in
theorem VX3_keep_B32 {κ : Cx} {ρ : (Unit ⊕ String) × Me} (F : Fx κ cX3_keep RX3) (M : Mx κ (fun _ : Unit => none) ρ rmX3_keep none [] "keep") (hNL : κ.2.2.2.2.2.2.2.2.2.2.2.2.2.2 = 2)   (v0 : Nat) (v1 : Nat) (μ : Me) : V κ ρ 0 0 μ (FX3_keep_B32  v0 v1 μ) 32 [(0, .ref v0), (1, .ref v1)] [] := by
  unfold FX3_keep_B32
  refine V_aload_n F dX3_keep_32 rfl 0 rfl ?_
  refine V_gR (ci := 4) (k9 := 0) (C := RX3) (T := TX3) (N := 3) F rfl hinX3 (by decide) q222 dX3_keep_33 (fun x4 => ?_)
  refine V_aload_n F dX3_keep_36 rfl 0 rfl ?_
  refine V_gI (ci := 4) (k9 := 1) (C := RX3) (T := TX3) (N := 3) F rfl hinX3 (by decide) q223 dX3_keep_37 (fun x5 => ?_)
  refine V_aload_n F dX3_keep_40 rfl 0 rfl ?_
  refine V_gI (ci := 4) (k9 := 2) (C := RX3) (T := TX3) (N := 3) F rfl hinX3 (by decide) q224 dX3_keep_41 (fun x6 => ?_)
  refine V_iadd F dX3_keep_44 ?_
  refine V_bipush (v := 8) F dX3_keep_45 (by decide) ?_
  refine V_irem F dX3_keep_47 (by decide) ?_
  refine V_aR F (by decide) dX3_keep_48 (fun x7 => ?_)
  refine V_aload_n F dX3_keep_49 rfl 1 rfl ?_
  refine V_cV (As := [.ref v1]) (rest := []) (C := RX4) (N := 1) F M (metX4_copyFrom (Fx_G F) (Fx_l F) x7 v1 μ) rfl q429 q67 q614 q427 q428 ⟨by decide +kernel, by decide +kernel, by decide +kernel⟩ rfl ⟨by decide, by decide⟩ (Nat.le_of_ble_eq_true rfl) dX3_keep_50 (by decide) (by decide) (fun x9 μ8 => ?_)
  change V κ ρ 0 0 μ8 _ 53 [(0, .ref v0), (1, .ref v1)] []
  refine V_aload_n F dX3_keep_53 rfl 0 rfl ?_
  refine V_dup F dX3_keep_54 rfl ?_
  refine V_gI (ci := 4) (k9 := 2) (C := RX3) (T := TX3) (N := 3) F rfl hinX3 (by decide) q224 dX3_keep_55 (fun x10 => ?_)
  refine V_iconst (v := 1) F dX3_keep_58 (by decide) ?_
  refine V_iadd F dX3_keep_59 ?_
  refine V_pf (ci := 4) (k9 := 2) (C := RX3) (T := TX3) (N := 3) (ty := tyX3) F rfl hinX3 tyX3_ok nmX3 (by decide) q224 rfl rfl rfl dX3_keep_60 (fun μ11 => ?_)
  exact V_vret F M dX3_keep_63 rfl (by decide) (by decide)
def FX3_keep (a0 : Nat) (p1 : Nat) (μ : Me) : Rs Unit :=
  (gI μ a0 4 2 (fun x1 => (if x1 = 8 then (gI μ a0 4 1 (fun x12 => (pf μ a0 4 1 (.int ((x12 + 1) - (x12 + 1) / 8 * 8)) (fun μ13 => (gI μ13 a0 4 2 (fun x14 => (pf μ13 a0 4 2 (.int (x14 - 1)) (fun μ15 => (FX3_keep_B32  a0 p1 μ15))))))))) else (FX3_keep_B32  a0 p1 μ))))
set_option maxHeartbeats 4000000 in
set_option maxRecDepth 100000 in
theorem metX3_keep {l : Launch} {s0 : State} {D : va_G} {aC : Nat → ClassId} (hG : Gl s0 D aC) (hl : l.stackTraces = false) (a0 : Nat) (p1 : Nat) (μ : Me) : Ct l yX3_keep (ws_ yX3_keep cX3_keep 2 none) rmX3_keep s0 D aC (fun _ : Unit => none) [.ref a0, .ref p1] μ (FX3_keep a0 p1 μ) := by
  refine Ct_of hG hl (by decide +kernel) (Nat.le_of_ble_eq_true rfl) (fun κ ρ hNL F M hκ => ?_)
  have F : Fx κ cX3_keep RX3 := F
  change V κ ρ 0 0 μ (FX3_keep a0 p1 μ) 0 [(0, .ref a0), (1, .ref p1)] []
  unfold FX3_keep
  refine V_aload_n F dX3_keep_0 rfl 0 rfl ?_
  refine V_gI (ci := 4) (k9 := 2) (C := RX3) (T := TX3) (N := 3) F rfl hinX3 (by decide) q224 dX3_keep_1 (fun x1 => ?_)
  refine V_bipush (v := 8) F dX3_keep_4 (by decide) ?_
  refine V_icmp_ne (tgt := 32) F dX3_keep_6 (by decide) (fun c2 => ?_) (fun c3 => ?_)
  · refine V_sub [0, 1] rfl ?_
    exact VX3_keep_B32 F M hNL  a0 p1 μ
  · refine V_aload_n F dX3_keep_9 rfl 0 rfl ?_
    refine V_aload_n F dX3_keep_10 rfl 0 rfl ?_
    refine V_gI (ci := 4) (k9 := 1) (C := RX3) (T := TX3) (N := 3) F rfl hinX3 (by decide) q223 dX3_keep_11 (fun x12 => ?_)
    refine V_iconst (v := 1) F dX3_keep_14 (by decide) ?_
    refine V_iadd F dX3_keep_15 ?_
    refine V_bipush (v := 8) F dX3_keep_16 (by decide) ?_
    refine V_irem F dX3_keep_18 (by decide) ?_
    refine V_pf (ci := 4) (k9 := 1) (C := RX3) (T := TX3) (N := 3) (ty := tyX3) F rfl hinX3 tyX3_ok nmX3 (by decide) q223 rfl rfl rfl dX3_keep_19 (fun μ13 => ?_)
    refine V_aload_n F dX3_keep_22 rfl 0 rfl ?_
    refine V_dup F dX3_keep_23 rfl ?_
    refine V_gI (ci := 4) (k9 := 2) (C := RX3) (T := TX3) (N := 3) F rfl hinX3 (by decide) q224 dX3_keep_24 (fun x14 => ?_)
    refine V_iconst (v := 1) F dX3_keep_27 (by decide) ?_
    refine V_isub F dX3_keep_28 ?_
    refine V_pf (ci := 4) (k9 := 2) (C := RX3) (T := TX3) (N := 3) (ty := tyX3) F rfl hinX3 tyX3_ok nmX3 (by decide) q224 rfl rfl rfl dX3_keep_29 (fun μ15 => ?_)
    refine V_sub [0, 1] rfl ?_
    exact VX3_keep_B32 F M hNL  a0 p1 μ15
/-! DroneLightShow$History.takeBack(LDroneLightShow$Scene;)V -/
abbrev rmX3_takeBack : Room := { frames := 3, cells := 0, slots := 0, locals := 68 }
def FX3_takeBack (a0 : Nat) (p1 : Nat) (μ : Me) : Rs Unit :=
  (gI μ a0 4 2 (fun x1 => (pf μ a0 4 2 (.int (x1 - 1)) (fun μ2 => (gR μ2 a0 4 0 (fun x3 => (gI μ2 a0 4 1 (fun x4 => (gI μ2 a0 4 2 (fun x5 => (aR μ2 5 x3 ((x4 + x5) - (x4 + x5) / 8 * 8) (fun x6 => (bnd (vc μ2 p1 5 (FX4_copyFrom p1 x6 μ2)) (fun x8 μ7 => (rt () μ7)))))))))))))))
set_option maxHeartbeats 4000000 in
set_option maxRecDepth 100000 in
theorem metX3_takeBack {l : Launch} {s0 : State} {D : va_G} {aC : Nat → ClassId} (hG : Gl s0 D aC) (hl : l.stackTraces = false) (a0 : Nat) (p1 : Nat) (μ : Me) : Ct l yX3_takeBack (ws_ yX3_takeBack cX3_takeBack 2 none) rmX3_takeBack s0 D aC (fun _ : Unit => none) [.ref a0, .ref p1] μ (FX3_takeBack a0 p1 μ) := by
  refine Ct_of hG hl (by decide +kernel) (Nat.le_of_ble_eq_true rfl) (fun κ ρ hNL F M hκ => ?_)
  have F : Fx κ cX3_takeBack RX3 := F
  change V κ ρ 0 0 μ (FX3_takeBack a0 p1 μ) 0 [(0, .ref a0), (1, .ref p1)] []
  unfold FX3_takeBack
  refine V_aload_n F dX3_takeBack_0 rfl 0 rfl ?_
  refine V_dup F dX3_takeBack_1 rfl ?_
  refine V_gI (ci := 4) (k9 := 2) (C := RX3) (T := TX3) (N := 3) F rfl hinX3 (by decide) q224 dX3_takeBack_2 (fun x1 => ?_)
  refine V_iconst (v := 1) F dX3_takeBack_5 (by decide) ?_
  refine V_isub F dX3_takeBack_6 ?_
  refine V_pf (ci := 4) (k9 := 2) (C := RX3) (T := TX3) (N := 3) (ty := tyX3) F rfl hinX3 tyX3_ok nmX3 (by decide) q224 rfl rfl rfl dX3_takeBack_7 (fun μ2 => ?_)
  refine V_aload_n F dX3_takeBack_10 rfl 1 rfl ?_
  refine V_aload_n F dX3_takeBack_11 rfl 0 rfl ?_
  refine V_gR (ci := 4) (k9 := 0) (C := RX3) (T := TX3) (N := 3) F rfl hinX3 (by decide) q222 dX3_takeBack_12 (fun x3 => ?_)
  refine V_aload_n F dX3_takeBack_15 rfl 0 rfl ?_
  refine V_gI (ci := 4) (k9 := 1) (C := RX3) (T := TX3) (N := 3) F rfl hinX3 (by decide) q223 dX3_takeBack_16 (fun x4 => ?_)
  refine V_aload_n F dX3_takeBack_19 rfl 0 rfl ?_
  refine V_gI (ci := 4) (k9 := 2) (C := RX3) (T := TX3) (N := 3) F rfl hinX3 (by decide) q224 dX3_takeBack_20 (fun x5 => ?_)
  refine V_iadd F dX3_takeBack_23 ?_
  refine V_bipush (v := 8) F dX3_takeBack_24 (by decide) ?_
  refine V_irem F dX3_takeBack_26 (by decide) ?_
  refine V_aR F (by decide) dX3_takeBack_27 (fun x6 => ?_)
  refine V_cV (As := [.ref x6]) (rest := []) (C := RX4) (N := 1) F M (metX4_copyFrom (Fx_G F) (Fx_l F) p1 x6 μ2) rfl q429 q67 q614 q427 q428 ⟨by decide +kernel, by decide +kernel, by decide +kernel⟩ rfl ⟨by decide, by decide⟩ (Nat.le_of_ble_eq_true rfl) dX3_takeBack_28 (by decide) (by decide) (fun x8 μ7 => ?_)
  change V κ ρ 0 0 μ7 _ 31 [(0, .ref a0), (1, .ref p1)] []
  exact V_vret F M dX3_takeBack_31 rfl (by decide) (by decide)
/-! DroneLightShow$Scene.beginEmergencies()V -/
abbrev rmX4_beginEmergencies : Room := { frames := 3, cells := 0, slots := 0, locals := 69 }
def FX4_beginEmergencies_B2 (k2 : Nat → Int32 → Me → Rs Unit) (v0 : Nat) (v1 : Int32) (μ : Me) : Rs Unit :=
  (gR μ v0 5 0 (fun x1 => (gI μ x1 3 6 (fun x2 => (if x2 ≤ v1 then (rt () μ) else (gR μ v0 5 0 (fun x5 => (bnd (vc μ x5 3 (FX2_isAssignable x5 v1 μ)) (fun x7 μ6 => (if x7 = 0 then (k2 v0 (v1 + 1) μ6) else (gR μ6 v0 5 0 (fun x10 => (gR μ6 x10 3 1 (fun x11 => (aI μ6 x11 v1 (fun x12 => (gI μ6 v0 5 4 (fun x13 => (if x13 < x12 then (k2 v0 (v1 + 1) μ6) else (gR μ6 v0 5 0 (fun x16 => (gR μ6 x16 3 0 (fun x17 => (aI μ6 x17 v1 (fun x18 => (bnd (vc μ6 v0 5 (FX4_padByDistance v0 x18 μ6)) (fun x20 μ19 => (if x20 = (-1) then (bnd (vc μ19 v0 5 (FX4_forceDown v0 v1 μ19)) (fun x32 μ31 => (k2 v0 (v1 + 1) μ31))) else (gR μ19 v0 5 0 (fun x23 => (gR μ19 x23 3 5 (fun x24 => (sZ μ19 x24 v1 1 (fun μ25 => (gR μ25 v0 5 0 (fun x26 => (gR μ25 x26 3 2 (fun x27 => (sI μ25 x27 v1 x20 (fun μ28 => (gI μ28 v0 5 8 (fun x29 => (pf μ28 v0 5 8 (.int (x29 + 1)) (fun μ30 => (k2 v0 (v1 + 1) μ30)))))))))))))))))))))))))))))))))))))))))))))
set_option maxHeartbeats 4000000 in
set_option maxRecDepth 100000 in
theorem VX4_beginEmergencies_B2 {κ : Cx} {ρ : (Unit ⊕ String) × Me} (F : Fx κ cX4_beginEmergencies RX4) (M : Mx κ (fun _ : Unit => none) ρ rmX4_beginEmergencies none [] "beginEmergencies") (hNL : κ.2.2.2.2.2.2.2.2.2.2.2.2.2.2 = 3) {k2 : Nat → Int32 → Me → Rs Unit} (hk2 : ∀ (v0 : Nat) (v1 : Int32) (μ : Me), V κ ρ 0 0 μ (k2 v0 v1 μ) 2 [(0, .ref v0), (1, .int v1)] []) (v0 : Nat) (v1 : Int32) (μ : Me) : V κ ρ 0 0 μ (FX4_beginEmergencies_B2 k2 v0 v1 μ) 2 [(0, .ref v0), (1, .int v1)] [] := by
  unfold FX4_beginEmergencies_B2
  refine V_iload_n F dX4_beginEmergencies_2 rfl 1 rfl ?_
  refine V_aload_n F dX4_beginEmergencies_3 rfl 0 rfl ?_
  refine V_gR (ci := 5) (k9 := 0) (C := RX4) (T := TX4) (N := 10) F rfl hinX4 (by decide) q172 dX4_beginEmergencies_4 (fun x1 => ?_)
  refine V_gI (ci := 3) (k9 := 6) (C := RX2) (T := TX2) (N := 7) F rfl hinX2 (by decide) q132 dX4_beginEmergencies_7 (fun x2 => ?_)
  refine V_icmp_ge (tgt := 103) F dX4_beginEmergencies_10 (by decide) (fun c3 => ?_) (fun c4 => ?_)
  · exact V_vret F M dX4_beginEmergencies_103 rfl (by decide) (by decide)
  · refine V_aload_n F dX4_beginEmergencies_13 rfl 0 rfl ?_
    refine V_gR (ci := 5) (k9 := 0) (C := RX4) (T := TX4) (N := 10) F rfl hinX4 (by decide) q172 dX4_beginEmergencies_14 (fun x5 => ?_)
    refine V_iload_n F dX4_beginEmergencies_17 rfl 1 rfl ?_
    refine V_cV (As := [.int v1]) (rest := []) (C := RX2) (N := 1) F M (metX2_isAssignable (Fx_G F) (Fx_l F) x5 v1 μ) rfl q825 q68 q917 q823 q824 ⟨by decide +kernel, by decide +kernel, by decide +kernel⟩ rfl ⟨by decide, by decide⟩ (Nat.le_of_ble_eq_true rfl) dX4_beginEmergencies_18 (by decide) (by decide) (fun x7 μ6 => ?_)
    change V κ ρ 0 0 μ6 _ 21 [(0, .ref v0), (1, .int v1)] [.int x7]
    refine V_if_eq (tgt := 97) F dX4_beginEmergencies_21 (by decide) (fun c8 => ?_) (fun c9 => ?_)
    · refine V_iinc (lv' := [(1, .int (v1 + 1)), (0, .ref v0)]) F dX4_beginEmergencies_97 1 rfl rfl (lt_L hNL (by decide)) rfl ?_
      refine V_goto (tgt := 2) F dX4_beginEmergencies_100 (by decide) ?_
      refine V_sub [1, 0] rfl ?_
      exact hk2 v0 (v1 + 1) μ6
    · refine V_aload_n F dX4_beginEmergencies_24 rfl 0 rfl ?_
      refine V_gR (ci := 5) (k9 := 0) (C := RX4) (T := TX4) (N := 10) F rfl hinX4 (by decide) q172 dX4_beginEmergencies_25 (fun x10 => ?_)
      refine V_gR (ci := 3) (k9 := 1) (C := RX2) (T := TX2) (N := 7) F rfl hinX2 (by decide) q116 dX4_beginEmergencies_28 (fun x11 => ?_)
      refine V_iload_n F dX4_beginEmergencies_31 rfl 1 rfl ?_
      refine V_aI F dX4_beginEmergencies_32 (fun x12 => ?_)
      refine V_aload_n F dX4_beginEmergencies_33 rfl 0 rfl ?_
      refine V_gI (ci := 5) (k9 := 4) (C := RX4) (T := TX4) (N := 10) F rfl hinX4 (by decide) q180 dX4_beginEmergencies_34 (fun x13 => ?_)
      refine V_icmp_gt (tgt := 97) F dX4_beginEmergencies_37 (by decide) (fun c14 => ?_) (fun c15 => ?_)
      · refine V_iinc (lv' := [(1, .int (v1 + 1)), (0, .ref v0)]) F dX4_beginEmergencies_97 1 rfl rfl (lt_L hNL (by decide)) rfl ?_
        refine V_goto (tgt := 2) F dX4_beginEmergencies_100 (by decide) ?_
        refine V_sub [1, 0] rfl ?_
        exact hk2 v0 (v1 + 1) μ6
      · refine V_aload_n F dX4_beginEmergencies_40 rfl 0 rfl ?_
        refine V_aload_n F dX4_beginEmergencies_41 rfl 0 rfl ?_
        refine V_gR (ci := 5) (k9 := 0) (C := RX4) (T := TX4) (N := 10) F rfl hinX4 (by decide) q172 dX4_beginEmergencies_42 (fun x16 => ?_)
        refine V_gR (ci := 3) (k9 := 0) (C := RX2) (T := TX2) (N := 7) F rfl hinX2 (by decide) q113 dX4_beginEmergencies_45 (fun x17 => ?_)
        refine V_iload_n F dX4_beginEmergencies_48 rfl 1 rfl ?_
        refine V_aI F dX4_beginEmergencies_49 (fun x18 => ?_)
        refine V_cV (As := [.int x18]) (rest := []) (C := RX4) (N := 1) F M (metX4_padByDistance (Fx_G F) (Fx_l F) v0 x18 μ6) rfl q406 q67 q918 q404 q405 ⟨by decide +kernel, by decide +kernel, by decide +kernel⟩ rfl ⟨by decide, by decide⟩ (Nat.le_of_ble_eq_true rfl) dX4_beginEmergencies_50 (by decide) (by decide) (fun x20 μ19 => ?_)
        change V κ ρ 0 0 μ19 _ 53 [(0, .ref v0), (1, .int v1)] [.int x20]
        refine V_istore_n (lv' := [(2, .int x20), (0, .ref v0), (1, .int v1)]) F dX4_beginEmergencies_53 rfl (lt_L hNL (by decide)) rfl ?_
        refine V_iload_n F dX4_beginEmergencies_54 rfl 0 rfl ?_
        refine V_iconst (v := (-1)) F dX4_beginEmergencies_55 (by decide) ?_
        refine V_icmp_ne (tgt := 67) F dX4_beginEmergencies_56 (by decide) (fun c21 => ?_) (fun c22 => ?_)
        · refine V_aload_n F dX4_beginEmergencies_67 rfl 1 rfl ?_
          refine V_gR (ci := 5) (k9 := 0) (C := RX4) (T := TX4) (N := 10) F rfl hinX4 (by decide) q172 dX4_beginEmergencies_68 (fun x23 => ?_)
          refine V_gR (ci := 3) (k9 := 5) (C := RX2) (T := TX2) (N := 7) F rfl hinX2 (by decide) q129 dX4_beginEmergencies_71 (fun x24 => ?_)
          refine V_iload_n F dX4_beginEmergencies_74 rfl 2 rfl ?_
          refine V_iconst (v := 1) F dX4_beginEmergencies_75 (by decide) ?_
          refine V_sZ F dX4_beginEmergencies_76 (fun μ25 => ?_)
          refine V_aload_n F dX4_beginEmergencies_77 rfl 1 rfl ?_
          refine V_gR (ci := 5) (k9 := 0) (C := RX4) (T := TX4) (N := 10) F rfl hinX4 (by decide) q172 dX4_beginEmergencies_78 (fun x26 => ?_)
          refine V_gR (ci := 3) (k9 := 2) (C := RX2) (T := TX2) (N := 7) F rfl hinX2 (by decide) q119 dX4_beginEmergencies_81 (fun x27 => ?_)
          refine V_iload_n F dX4_beginEmergencies_84 rfl 2 rfl ?_
          refine V_iload_n F dX4_beginEmergencies_85 rfl 0 rfl ?_
          refine V_sI F dX4_beginEmergencies_86 (fun μ28 => ?_)
          refine V_aload_n F dX4_beginEmergencies_87 rfl 1 rfl ?_
          refine V_dup F dX4_beginEmergencies_88 rfl ?_
          refine V_gI (ci := 5) (k9 := 8) (C := RX4) (T := TX4) (N := 10) F rfl hinX4 (by decide) q187 dX4_beginEmergencies_89 (fun x29 => ?_)
          refine V_iconst (v := 1) F dX4_beginEmergencies_92 (by decide) ?_
          refine V_iadd F dX4_beginEmergencies_93 ?_
          refine V_pf (ci := 5) (k9 := 8) (C := RX4) (T := TX4) (N := 10) (ty := tyX4) F rfl hinX4 tyX4_ok nmX4 (by decide) q187 rfl rfl rfl dX4_beginEmergencies_94 (fun μ30 => ?_)
          refine V_iinc (lv' := [(1, .int (v1 + 1)), (2, .int x20), (0, .ref v0)]) F dX4_beginEmergencies_97 2 rfl rfl (lt_L hNL (by decide)) rfl ?_
          refine V_goto (tgt := 2) F dX4_beginEmergencies_100 (by decide) ?_
          refine V_sub [2, 0] rfl ?_
          exact hk2 v0 (v1 + 1) μ30
        · refine V_aload_n F dX4_beginEmergencies_59 rfl 1 rfl ?_
          refine V_iload_n F dX4_beginEmergencies_60 rfl 2 rfl ?_
          refine V_cV (As := [.int v1]) (rest := []) (C := RX4) (N := 1) F M (metX4_forceDown (Fx_G F) (Fx_l F) v0 v1 μ19) rfl q922 q67 q919 q921 q9 ⟨by decide +kernel, by decide +kernel, by decide +kernel⟩ rfl ⟨by decide, by decide⟩ (Nat.le_of_ble_eq_true rfl) dX4_beginEmergencies_61 (by decide) (by decide) (fun x32 μ31 => ?_)
          change V κ ρ 0 0 μ31 _ 64 [(2, .int x20), (0, .ref v0), (1, .int v1)] []
          refine V_goto (tgt := 97) F dX4_beginEmergencies_64 (by decide) ?_
          refine V_iinc (lv' := [(1, .int (v1 + 1)), (2, .int x20), (0, .ref v0)]) F dX4_beginEmergencies_97 2 rfl rfl (lt_L hNL (by decide)) rfl ?_
          refine V_goto (tgt := 2) F dX4_beginEmergencies_100 (by decide) ?_
          refine V_sub [2, 0] rfl ?_
          exact hk2 v0 (v1 + 1) μ31
def FX4_beginEmergencies_L2  : Nat → Nat → Int32 → Me → Rs Unit
  | 0, _, _, _ => none
  | f + 1, v0, v1, μ => FX4_beginEmergencies_B2 (FX4_beginEmergencies_L2  f) v0 v1 μ
theorem VX4_beginEmergencies_L2 {κ : Cx} {ρ : (Unit ⊕ String) × Me} (F : Fx κ cX4_beginEmergencies RX4) (M : Mx κ (fun _ : Unit => none) ρ rmX4_beginEmergencies none [] "beginEmergencies") (hNL : κ.2.2.2.2.2.2.2.2.2.2.2.2.2.2 = 3)   : ∀ (f : Nat) (v0 : Nat) (v1 : Int32) (μ : Me), V κ ρ 0 0 μ (FX4_beginEmergencies_L2  f v0 v1 μ) 2 [(0, .ref v0), (1, .int v1)] [] := by
  intro f
  induction f with
  | zero => intros; exact V_none
  | succ f ih => intro v0 v1 μ; exact VX4_beginEmergencies_B2 F M hNL (fun v0 v1 μ => ih v0 v1 μ) v0 v1 μ
def FX4_beginEmergencies (a0 : Nat) (μ : Me) : Rs Unit :=
  (FX4_beginEmergencies_L2  FU a0 0 μ)
set_option maxHeartbeats 4000000 in
set_option maxRecDepth 100000 in
theorem metX4_beginEmergencies {l : Launch} {s0 : State} {D : va_G} {aC : Nat → ClassId} (hG : Gl s0 D aC) (hl : l.stackTraces = false) (a0 : Nat) (μ : Me) : Ct l yX4_beginEmergencies (ws_ yX4_beginEmergencies cX4_beginEmergencies 3 none) rmX4_beginEmergencies s0 D aC (fun _ : Unit => none) [.ref a0] μ (FX4_beginEmergencies a0 μ) := by
  refine Ct_of hG hl (by decide +kernel) (Nat.le_of_ble_eq_true rfl) (fun κ ρ hNL F M hκ => ?_)
  have F : Fx κ cX4_beginEmergencies RX4 := F
  change V κ ρ 0 0 μ (FX4_beginEmergencies a0 μ) 0 [(0, .ref a0)] []
  unfold FX4_beginEmergencies
  refine V_iconst (v := 0) F dX4_beginEmergencies_0 (by decide) ?_
  refine V_istore_n (lv' := [(1, .int 0), (0, .ref a0)]) F dX4_beginEmergencies_1 rfl (lt_L hNL (by decide)) rfl ?_
  refine V_sub [1, 0] rfl ?_
  exact VX4_beginEmergencies_L2 F M hNL  FU a0 0 μ
/-! DroneLightShow$Scene.padByRings(I)I -/
abbrev rmX4_padByRings : Room := { frames := 2, cells := 0, slots := 0, locals := 51 }
def FX4_padByRings_B2 (k2 : Nat → Int32 → Int32 → Me → Rs Int32) (v0 : Nat) (v1 : Int32) (v2 : Int32) (μ : Me) : Rs Int32 :=
  (if 14 < v2 then (rt (-1) μ) else (bnd (vc μ v0 5 (FX4_padOnRing v0 v1 v2 μ)) (fun x4 μ3 => (if x4 = (-1) then (k2 v0 v1 (v2 + 1) μ3) else (rt x4 μ3)))))
set_option maxHeartbeats 4000000 in
set_option maxRecDepth 100000 in
theorem VX4_padByRings_B2 {κ : Cx} {ρ : (Int32 ⊕ String) × Me} (F : Fx κ cX4_padByRings RX4) (M : Mx κ (fun r : Int32 => some (.int r)) ρ rmX4_padByRings (some .int) [] "padByRings") (hNL : κ.2.2.2.2.2.2.2.2.2.2.2.2.2.2 = 4) {k2 : Nat → Int32 → Int32 → Me → Rs Int32} (hk2 : ∀ (v0 : Nat) (v1 : Int32) (v2 : Int32) (μ : Me), V κ ρ 0 0 μ (k2 v0 v1 v2 μ) 2 [(0, .ref v0), (1, .int v1), (2, .int v2)] []) (v0 : Nat) (v1 : Int32) (v2 : Int32) (μ : Me) : V κ ρ 0 0 μ (FX4_padByRings_B2 k2 v0 v1 v2 μ) 2 [(0, .ref v0), (1, .int v1), (2, .int v2)] [] := by
  unfold FX4_padByRings_B2
  refine V_iload_n F dX4_padByRings_2 rfl 2 rfl ?_
  refine V_bipush (v := 14) F dX4_padByRings_3 (by decide) ?_
  refine V_icmp_gt (tgt := 28) F dX4_padByRings_5 (by decide) (fun c1 => ?_) (fun c2 => ?_)
  · refine V_iconst (v := (-1)) F dX4_padByRings_28 (by decide) ?_
    exact V_iret F M dX4_padByRings_29 rfl (by decide) (by decide)
  · refine V_aload_n F dX4_padByRings_8 rfl 0 rfl ?_
    refine V_iload_n F dX4_padByRings_9 rfl 1 rfl ?_
    refine V_iload_n F dX4_padByRings_10 rfl 2 rfl ?_
    refine V_cV (As := [.int v1, .int v2]) (rest := []) (C := RX4) (N := 2) F M (metX4_padOnRing (Fx_G F) (Fx_l F) v0 v1 v2 μ) rfl q420 q67 q417 q419 q3 ⟨by decide +kernel, by decide +kernel, by decide +kernel⟩ rfl ⟨by decide, by decide⟩ (Nat.le_of_ble_eq_true rfl) dX4_padByRings_11 (by decide) (by decide) (fun x4 μ3 => ?_)
    change V κ ρ 0 0 μ3 _ 14 [(0, .ref v0), (1, .int v1), (2, .int v2)] [.int x4]
    refine V_istore_n (lv' := [(3, .int x4), (0, .ref v0), (1, .int v1), (2, .int v2)]) F dX4_padByRings_14 rfl (lt_L hNL (by decide)) rfl ?_
    refine V_iload_n F dX4_padByRings_15 rfl 0 rfl ?_
    refine V_iconst (v := (-1)) F dX4_padByRings_16 (by decide) ?_
    refine V_icmp_eq (tgt := 22) F dX4_padByRings_17 (by decide) (fun c5 => ?_) (fun c6 => ?_)
    · refine V_iinc (lv' := [(2, .int (v2 + 1)), (3, .int x4), (0, .ref v0), (1, .int v1)]) F dX4_padByRings_22 3 rfl rfl (lt_L hNL (by decide)) rfl ?_
      refine V_goto (tgt := 2) F dX4_padByRings_25 (by decide) ?_
      refine V_sub [2, 3, 0] rfl ?_
      exact hk2 v0 v1 (v2 + 1) μ3
    · refine V_iload_n F dX4_padByRings_20 rfl 0 rfl ?_
      exact V_iret F M dX4_padByRings_21 rfl (by decide) (by decide)
def FX4_padByRings_L2  : Nat → Nat → Int32 → Int32 → Me → Rs Int32
  | 0, _, _, _, _ => none
  | f + 1, v0, v1, v2, μ => FX4_padByRings_B2 (FX4_padByRings_L2  f) v0 v1 v2 μ
theorem VX4_padByRings_L2 {κ : Cx} {ρ : (Int32 ⊕ String) × Me} (F : Fx κ cX4_padByRings RX4) (M : Mx κ (fun r : Int32 => some (.int r)) ρ rmX4_padByRings (some .int) [] "padByRings") (hNL : κ.2.2.2.2.2.2.2.2.2.2.2.2.2.2 = 4)   : ∀ (f : Nat) (v0 : Nat) (v1 : Int32) (v2 : Int32) (μ : Me), V κ ρ 0 0 μ (FX4_padByRings_L2  f v0 v1 v2 μ) 2 [(0, .ref v0), (1, .int v1), (2, .int v2)] [] := by
  intro f
  induction f with
  | zero => intros; exact V_none
  | succ f ih => intro v0 v1 v2 μ; exact VX4_padByRings_B2 F M hNL (fun v0 v1 v2 μ => ih v0 v1 v2 μ) v0 v1 v2 μ
def FX4_padByRings (a0 : Nat) (p1 : Int32) (μ : Me) : Rs Int32 :=
  (FX4_padByRings_L2  FU a0 p1 0 μ)
set_option maxHeartbeats 4000000 in
set_option maxRecDepth 100000 in
theorem metX4_padByRings {l : Launch} {s0 : State} {D : va_G} {aC : Nat → ClassId} (hG : Gl s0 D aC) (hl : l.stackTraces = false) (a0 : Nat) (p1 : Int32) (μ : Me) : Ct l yX4_padByRings (ws_ yX4_padByRings cX4_padByRings 4 (some .int)) rmX4_padByRings s0 D aC (fun r : Int32 => some (.int r)) [.ref a0, .int p1] μ (FX4_padByRings a0 p1 μ) := by
  refine Ct_of hG hl (by decide +kernel) (Nat.le_of_ble_eq_true rfl) (fun κ ρ hNL F M hκ => ?_)
  have F : Fx κ cX4_padByRings RX4 := F
  change V κ ρ 0 0 μ (FX4_padByRings a0 p1 μ) 0 [(0, .ref a0), (1, .int p1)] []
  unfold FX4_padByRings
  refine V_iconst (v := 0) F dX4_padByRings_0 (by decide) ?_
  refine V_istore_n (lv' := [(2, .int 0), (0, .ref a0), (1, .int p1)]) F dX4_padByRings_1 rfl (lt_L hNL (by decide)) rfl ?_
  refine V_sub [1, 2, 0] rfl ?_
  exact VX4_padByRings_L2 F M hNL  FU a0 p1 0 μ
/-! DroneLightShow$Script.parseCommand(I)Z -/
abbrev rmX5_parseCommand : Room := { frames := 6, cells := 0, slots := 0, locals := 131 }
def FX5_parseCommand_B51 (aC : Nat → Nat) (k20 : Nat → Int32 → Nat → Int32 → Me → Rs Int32) (v0 : Nat) (v1 : Int32) (v2 : Nat) (v3 : Int32) (μ : Me) : Rs Int32 :=
  (gd (v2 < 11) (gd ((wdx v2) < 15) (bnd (FJ0_charAt_5068e aC (wdx v2) v3 μ) (fun x19 μ18 => (bnd (vc μ18 v0 6 (FX5_parseNumber v0 (x19 - 48) μ18)) (fun x21 μ20 => (if x21 = (-1) then (rt 0 μ20) else (gR μ20 v0 6 3 (fun x24 => (aR μ20 7 x24 v1 (fun x25 => (sI μ20 x25 v3 x21 (fun μ26 => (k20 v0 v1 v2 (v3 + 1) μ26))))))))))))))
set_option maxHeartbeats 4000000 in
set_option maxRecDepth 100000 in
theorem VX5_parseCommand_B51 {aC : Nat → Nat} {κ : Cx} {ρ : (Int32 ⊕ String) × Me} (F : Fx κ cX5_parseCommand RX5) (M : Mx κ (fun r : Int32 => some (.int r)) ρ rmX5_parseCommand (some .boolean) [] "parseCommand") (hNL : κ.2.2.2.2.2.2.2.2.2.2.2.2.2.2 = 5) (hκ : κ.2.2.2.2.2.2.2.2.2.2.2.2.2.1 = aC) {k20 : Nat → Int32 → Nat → Int32 → Me → Rs Int32} (hk20 : ∀ (v0 : Nat) (v1 : Int32) (v2 : Nat) (v3 : Int32) (μ : Me), V κ ρ 0 0 μ (k20 v0 v1 v2 v3 μ) 20 [(0, .ref v0), (1, .int v1), (2, .ref (aC (110 + v2))), (3, .int v3)] []) (v0 : Nat) (v1 : Int32) (v2 : Nat) (v3 : Int32) (μ : Me) : V κ ρ 0 0 μ (FX5_parseCommand_B51 aC k20 v0 v1 v2 v3 μ) 51 [(0, .ref v0), (1, .int v1), (2, .ref (aC (110 + v2))), (3, .int v3)] [] := by
  have SGa := Fx_SGa F hκ _ rfl
  unfold FX5_parseCommand_B51
  refine V_aload_n F dX5_parseCommand_51 rfl 0 rfl ?_
  refine V_aload_n F dX5_parseCommand_52 rfl 2 rfl ?_
  refine V_gd (fun g16 => ?_)
  refine V_gof F (SGa.2.2.2.2.1 v2 g16).2.2.2 q1727 dX5_parseCommand_53 ?_
  refine V_iload_n F dX5_parseCommand_56 rfl 3 rfl ?_
  refine V_gd (fun g17 => ?_)
  refine V_cO (As := [.int v3]) (rest := [.ref v0]) (C := "java/lang/String") (N := 1) F M (SGa.2.2.2.2.2.2.1 (wdx v2) g17).1 (metJ0_charAt_5068e (Fx_G F) (Fx_l F) hκ (wdx v2) v3 μ) q1043 q78 q1040 q1041 q1042 ⟨by decide +kernel, by decide +kernel, by decide +kernel⟩ rfl ⟨by decide, by decide⟩ (Nat.le_of_ble_eq_true rfl) dX5_parseCommand_57 (by decide) (by decide) (fun x19 μ18 => ?_)
  change V κ ρ 0 0 μ18 _ 60 [(0, .ref v0), (1, .int v1), (2, .ref (aC (110 + v2))), (3, .int v3)] [.int x19, .ref v0]
  refine V_bipush (v := 48) F dX5_parseCommand_60 (by decide) ?_
  refine V_isub F dX5_parseCommand_62 ?_
  refine V_cV (As := [.int (x19 - 48)]) (rest := []) (C := RX5) (N := 1) F M (metX5_parseNumber (Fx_G F) (Fx_l F) v0 (x19 - 48) μ18) rfl q1086 q71 q1083 q1085 q18 ⟨by decide +kernel, by decide +kernel, by decide +kernel⟩ rfl ⟨by decide, by decide⟩ (Nat.le_of_ble_eq_true rfl) dX5_parseCommand_63 (by decide) (by decide) (fun x21 μ20 => ?_)
  change V κ ρ 0 0 μ20 _ 66 [(0, .ref v0), (1, .int v1), (2, .ref (aC (110 + v2))), (3, .int v3)] [.int x21]
  refine V_istore (lv' := [(4, .int x21), (0, .ref v0), (1, .int v1), (2, .ref (aC (110 + v2))), (3, .int v3)]) F dX5_parseCommand_66 (lt_L hNL (by decide)) rfl ?_
  refine V_iload F dX5_parseCommand_68 0 rfl ?_
  refine V_iconst (v := (-1)) F dX5_parseCommand_70 (by decide) ?_
  refine V_icmp_ne (tgt := 76) F dX5_parseCommand_71 (by decide) (fun c22 => ?_) (fun c23 => ?_)
  · refine V_aload_n F dX5_parseCommand_76 rfl 1 rfl ?_
    refine V_gR (ci := 6) (k9 := 3) (C := RX5) (T := TX5) (N := 6) F rfl hinX5 (by decide) q248 dX5_parseCommand_77 (fun x24 => ?_)
    refine V_iload_n F dX5_parseCommand_80 rfl 2 rfl ?_
    refine V_aR F (by decide) dX5_parseCommand_81 (fun x25 => ?_)
    refine V_iload_n F dX5_parseCommand_82 rfl 4 rfl ?_
    refine V_iload F dX5_parseCommand_83 0 rfl ?_
    refine V_sI F dX5_parseCommand_85 (fun μ26 => ?_)
    refine V_iinc (lv' := [(3, .int (v3 + 1)), (4, .int x21), (0, .ref v0), (1, .int v1), (2, .ref (aC (110 + v2)))]) F dX5_parseCommand_86 4 rfl rfl (lt_L hNL (by decide)) rfl ?_
    refine V_goto (tgt := 20) F dX5_parseCommand_89 (by decide) ?_
    refine V_sub [2, 3, 4, 0] rfl ?_
    exact hk20 v0 v1 v2 (v3 + 1) μ26
  · refine V_iconst (v := 0) F dX5_parseCommand_74 (by decide) ?_
    exact V_zret F M dX5_parseCommand_75 rfl (by decide) (by decide) (by decide)
def FX5_parseCommand_B20 (aC : Nat → Nat) (k20 : Nat → Int32 → Nat → Int32 → Me → Rs Int32) (v0 : Nat) (v1 : Int32) (v2 : Nat) (v3 : Int32) (μ : Me) : Rs Int32 :=
  (gd (v2 < 11) (gd ((wdx v2) < 15) (bnd (FJ0_length_8abf5 aC (wdx v2)  μ) (fun x9 μ8 => (if x9 ≤ v3 then (rt 1 μ8) else (if 3 ≤ v3 then (rt 1 μ8) else (if v3 ≤ 0 then (FX5_parseCommand_B51 aC k20 v0 v1 v2 v3 μ8) else (bnd (vc μ8 v0 6 (FX5_skip v0 32 μ8)) (fun x28 μ27 => (if x28 = 0 then (rt 0 μ27) else (FX5_parseCommand_B51 aC k20 v0 v1 v2 v3 μ27)))))))))))
set_option maxHeartbeats 4000000 in
set_option maxRecDepth 100000 in
theorem VX5_parseCommand_B20 {aC : Nat → Nat} {κ : Cx} {ρ : (Int32 ⊕ String) × Me} (F : Fx κ cX5_parseCommand RX5) (M : Mx κ (fun r : Int32 => some (.int r)) ρ rmX5_parseCommand (some .boolean) [] "parseCommand") (hNL : κ.2.2.2.2.2.2.2.2.2.2.2.2.2.2 = 5) (hκ : κ.2.2.2.2.2.2.2.2.2.2.2.2.2.1 = aC) {k20 : Nat → Int32 → Nat → Int32 → Me → Rs Int32} (hk20 : ∀ (v0 : Nat) (v1 : Int32) (v2 : Nat) (v3 : Int32) (μ : Me), V κ ρ 0 0 μ (k20 v0 v1 v2 v3 μ) 20 [(0, .ref v0), (1, .int v1), (2, .ref (aC (110 + v2))), (3, .int v3)] []) (v0 : Nat) (v1 : Int32) (v2 : Nat) (v3 : Int32) (μ : Me) : V κ ρ 0 0 μ (FX5_parseCommand_B20 aC k20 v0 v1 v2 v3 μ) 20 [(0, .ref v0), (1, .int v1), (2, .ref (aC (110 + v2))), (3, .int v3)] [] := by
  have SGa := Fx_SGa F hκ _ rfl
  unfold FX5_parseCommand_B20
  refine V_iload_n F dX5_parseCommand_20 rfl 3 rfl ?_
  refine V_aload_n F dX5_parseCommand_21 rfl 2 rfl ?_
  refine V_gd (fun g6 => ?_)
  refine V_gof F (SGa.2.2.2.2.1 v2 g6).2.2.2 q1727 dX5_parseCommand_22 ?_
  refine V_gd (fun g7 => ?_)
  refine V_cO (As := []) (rest := [.int v3]) (C := "java/lang/String") (N := 0) F M (SGa.2.2.2.2.2.2.1 (wdx v2) g7).1 (metJ0_length_8abf5 (Fx_G F) (Fx_l F) hκ (wdx v2)  μ) q1033 q78 q1030 q1031 q1032 ⟨by decide +kernel, by decide +kernel, by decide +kernel⟩ rfl ⟨by decide, by decide⟩ (Nat.le_of_ble_eq_true rfl) dX5_parseCommand_25 (by decide) (by decide) (fun x9 μ8 => ?_)
  change V κ ρ 0 0 μ8 _ 28 [(0, .ref v0), (1, .int v1), (2, .ref (aC (110 + v2))), (3, .int v3)] [.int x9, .int v3]
  refine V_icmp_ge (tgt := 92) F dX5_parseCommand_28 (by decide) (fun c10 => ?_) (fun c11 => ?_)
  · refine V_iconst (v := 1) F dX5_parseCommand_92 (by decide) ?_
    exact V_zret F M dX5_parseCommand_93 rfl (by decide) (by decide) (by decide)
  · refine V_iload_n F dX5_parseCommand_31 rfl 3 rfl ?_
    refine V_iconst (v := 3) F dX5_parseCommand_32 (by decide) ?_
    refine V_icmp_ge (tgt := 92) F dX5_parseCommand_33 (by decide) (fun c12 => ?_) (fun c13 => ?_)
    · refine V_iconst (v := 1) F dX5_parseCommand_92 (by decide) ?_
      exact V_zret F M dX5_parseCommand_93 rfl (by decide) (by decide) (by decide)
    · refine V_iload_n F dX5_parseCommand_36 rfl 3 rfl ?_
      refine V_if_le (tgt := 51) F dX5_parseCommand_37 (by decide) (fun c14 => ?_) (fun c15 => ?_)
      · refine V_sub [0, 1, 2, 3] rfl ?_
        exact VX5_parseCommand_B51 F M hNL hκ hk20 v0 v1 v2 v3 μ8
      · refine V_aload_n F dX5_parseCommand_40 rfl 0 rfl ?_
        refine V_bipush (v := 32) F dX5_parseCommand_41 (by decide) ?_
        refine V_cV (As := [.int 32]) (rest := []) (C := RX5) (N := 1) F M (metX5_skip (Fx_G F) (Fx_l F) v0 32 μ8) rfl q1082 q71 q1079 q1081 q17 ⟨by decide +kernel, by decide +kernel, by decide +kernel⟩ rfl ⟨by decide, by decide⟩ (Nat.le_of_ble_eq_true rfl) dX5_parseCommand_43 (by decide) (by decide) (fun x28 μ27 => ?_)
        change V κ ρ 0 0 μ27 _ 46 [(0, .ref v0), (1, .int v1), (2, .ref (aC (110 + v2))), (3, .int v3)] [.int x28]
        refine V_if_ne (tgt := 51) F dX5_parseCommand_46 (by decide) (fun c29 => ?_) (fun c30 => ?_)
        · refine V_sub [0, 1, 2, 3] rfl ?_
          exact VX5_parseCommand_B51 F M hNL hκ hk20 v0 v1 v2 v3 μ27
        · refine V_iconst (v := 0) F dX5_parseCommand_49 (by decide) ?_
          exact V_zret F M dX5_parseCommand_50 rfl (by decide) (by decide) (by decide)
def FX5_parseCommand_L20 (aC : Nat → Nat)  : Nat → Nat → Int32 → Nat → Int32 → Me → Rs Int32
  | 0, _, _, _, _, _ => none
  | f + 1, v0, v1, v2, v3, μ => FX5_parseCommand_B20 aC (FX5_parseCommand_L20 aC  f) v0 v1 v2 v3 μ
theorem VX5_parseCommand_L20 {aC : Nat → Nat} {κ : Cx} {ρ : (Int32 ⊕ String) × Me} (F : Fx κ cX5_parseCommand RX5) (M : Mx κ (fun r : Int32 => some (.int r)) ρ rmX5_parseCommand (some .boolean) [] "parseCommand") (hNL : κ.2.2.2.2.2.2.2.2.2.2.2.2.2.2 = 5) (hκ : κ.2.2.2.2.2.2.2.2.2.2.2.2.2.1 = aC)   : ∀ (f : Nat) (v0 : Nat) (v1 : Int32) (v2 : Nat) (v3 : Int32) (μ : Me), V κ ρ 0 0 μ (FX5_parseCommand_L20 aC  f v0 v1 v2 v3 μ) 20 [(0, .ref v0), (1, .int v1), (2, .ref (aC (110 + v2))), (3, .int v3)] [] := by
  intro f
  induction f with
  | zero => intros; exact V_none
  | succ f ih => intro v0 v1 v2 v3 μ; exact VX5_parseCommand_B20 F M hNL hκ (fun v0 v1 v2 v3 μ => ih v0 v1 v2 v3 μ) v0 v1 v2 v3 μ
def FX5_parseCommand (aC : Nat → Nat) (a0 : Nat) (p1 : Int32) (μ : Me) : Rs Int32 :=
  (bnd (vc μ a0 6 (FX5_parseVerb aC a0  μ)) (fun x2 μ1 => (op_ x2 (rt 0 μ1) (fun a3 => (gR μ1 a0 6 2 (fun x4 => (sW aC μ1 x4 p1 a3 (fun μ5 => (FX5_parseCommand_L20 aC  FU a0 p1 a3 0 μ5)))))))))
set_option maxHeartbeats 4000000 in
set_option maxRecDepth 100000 in
theorem metX5_parseCommand {l : Launch} {s0 : State} {D : va_G} {aC aC9 : Nat → ClassId} (hG : Gl s0 D aC9) (hl : l.stackTraces = false) (e9 : aC9 = aC) (a0 : Nat) (p1 : Int32) (μ : Me) : Ct l yX5_parseCommand (ws_ yX5_parseCommand cX5_parseCommand 5 (some .boolean)) rmX5_parseCommand s0 D aC9 (fun r : Int32 => some (.int r)) [.ref a0, .int p1] μ (FX5_parseCommand aC a0 p1 μ) := by
  refine Ct_of hG hl (by decide +kernel) (Nat.le_of_ble_eq_true rfl) (fun κ ρ hNL F M hκ => ?_)
  have hκ := hκ.trans e9
  have F : Fx κ cX5_parseCommand RX5 := F
  change V κ ρ 0 0 μ (FX5_parseCommand aC a0 p1 μ) 0 [(0, .ref a0), (1, .int p1)] []
  have SGa := Fx_SGa F hκ _ rfl
  unfold FX5_parseCommand
  refine V_aload_n F dX5_parseCommand_0 rfl 0 rfl ?_
  refine V_cV (As := []) (rest := []) (C := RX5) (N := 0) F M (metX5_parseVerb (Fx_G F) (Fx_l F) hκ a0  μ) rfl q1023 q71 q1020 q1022 q15 ⟨by decide +kernel, by decide +kernel, by decide +kernel⟩ rfl ⟨by decide, by decide⟩ (Nat.le_of_ble_eq_true rfl) dX5_parseCommand_1 (by decide) (by decide) (fun x2 μ1 => ?_)
  change V κ ρ 0 0 μ1 _ 4 [(0, .ref a0), (1, .int p1)] [vref aC x2]
  refine V_opv ?_ (fun a3 => ?_)
  · refine V_astore_nN (lv' := [(2, .null), (0, .ref a0), (1, .int p1)]) F dX5_parseCommand_4 rfl (lt_L hNL (by decide)) rfl ?_
    refine V_aload_nN F dX5_parseCommand_5 rfl 0 rfl ?_
    refine V_ifnonnullN F dX5_parseCommand_6 ?_
    refine V_iconst (v := 0) F dX5_parseCommand_9 (by decide) ?_
    exact V_zret F M dX5_parseCommand_10 rfl (by decide) (by decide) (by decide)
  · refine V_astore_n (lv' := [(2, .ref (aC (110 + a3))), (0, .ref a0), (1, .int p1)]) F dX5_parseCommand_4 rfl (lt_L hNL (by decide)) rfl ?_
    refine V_aload_n F dX5_parseCommand_5 rfl 0 rfl ?_
    refine V_ifnonnull (tgt := 11) F dX5_parseCommand_6 (by decide) ?_
    refine V_aload_n F dX5_parseCommand_11 rfl 1 rfl ?_
    refine V_gR (ci := 6) (k9 := 2) (C := RX5) (T := TX5) (N := 6) F rfl hinX5 (by decide) q246 dX5_parseCommand_12 (fun x4 => ?_)
    refine V_iload_n F dX5_parseCommand_15 rfl 2 rfl ?_
    refine V_aload_n F dX5_parseCommand_16 rfl 0 rfl ?_
    refine V_sW F hκ dX5_parseCommand_17 (fun μ5 => ?_)
    refine V_iconst (v := 0) F dX5_parseCommand_18 (by decide) ?_
    refine V_istore_n (lv' := [(3, .int 0), (2, .ref (aC (110 + a3))), (0, .ref a0), (1, .int p1)]) F dX5_parseCommand_19 rfl (lt_L hNL (by decide)) rfl ?_
    refine V_sub [2, 3, 1, 0] rfl ?_
    exact VX5_parseCommand_L20 F M hNL hκ  FU a0 p1 a3 0 μ5
/-! DroneLightShow.droneAt(I)I -/
abbrev rmX7_droneAt : Room := { frames := 7, cells := 2, slots := 12, locals := 120 }
def FX7_droneAt (a0 : Nat) (p1 : Int32) (μ : Me) : Rs Int32 :=
  (bnd (FX7_demandCell p1 μ) (fun x2 μ1 => (gR μ1 a0 7 0 (fun x3 => (gR μ1 x3 5 0 (fun x4 => (bnd (vc μ1 x4 3 (FX2_occupant x4 p1 μ1)) (fun x6 μ5 => (bnd (FX7_found x6 μ5) (fun x8 μ7 => (rt x8 μ7)))))))))))
set_option maxHeartbeats 4000000 in
set_option maxRecDepth 100000 in
theorem metX7_droneAt {l : Launch} {s0 : State} {D : va_G} {aC : Nat → ClassId} (hG : Gl s0 D aC) (hl : l.stackTraces = false) (a0 : Nat) (p1 : Int32) (μ : Me) : Ct l yX7_droneAt (ws_ yX7_droneAt cX7_droneAt 2 (some .int)) rmX7_droneAt s0 D aC (fun r : Int32 => some (.int r)) [.ref a0, .int p1] μ (FX7_droneAt a0 p1 μ) := by
  refine Ct_of hG hl (by decide +kernel) (Nat.le_of_ble_eq_true rfl) (fun κ ρ hNL F M hκ => ?_)
  have F : Fx κ cX7_droneAt RX7 := F
  change V κ ρ 0 0 μ (FX7_droneAt a0 p1 μ) 0 [(0, .ref a0), (1, .int p1)] []
  unfold FX7_droneAt
  refine V_iload_n F dX7_droneAt_0 rfl 1 rfl ?_
  refine V_cS (As := [.int p1]) (rest := []) (N := 1) F M (metX7_demandCell (Fx_G F) (Fx_l F) p1 μ) q756 q66 q754 q755 ⟨by decide +kernel, by decide +kernel, by decide +kernel⟩ rfl ⟨by decide, by decide⟩ (Nat.le_of_ble_eq_true rfl) dX7_droneAt_1 (by decide) (by decide) (fun x2 μ1 => ?_)
  change V κ ρ 1 6 μ1 _ 4 [(0, .ref a0), (1, .int p1)] []
  refine V_aload_n F dX7_droneAt_4 rfl 0 rfl ?_
  refine V_gR (ci := 7) (k9 := 0) (C := RX7) (T := TX7) (N := 11) F rfl hinX7 (by decide) q268 dX7_droneAt_5 (fun x3 => ?_)
  refine V_gR (ci := 5) (k9 := 0) (C := RX4) (T := TX4) (N := 10) F rfl hinX4 (by decide) q173 dX7_droneAt_8 (fun x4 => ?_)
  refine V_iload_n F dX7_droneAt_11 rfl 1 rfl ?_
  refine V_cV (As := [.int p1]) (rest := []) (C := RX2) (N := 1) F M (metX2_occupant (Fx_G F) (Fx_l F) x4 p1 μ1) rfl q395 q68 q759 q393 q394 ⟨by decide +kernel, by decide +kernel, by decide +kernel⟩ rfl ⟨by decide, by decide⟩ (Nat.le_of_ble_eq_true rfl) dX7_droneAt_12 (by decide) (by decide) (fun x6 μ5 => ?_)
  change V κ ρ 1 6 μ5 _ 15 [(0, .ref a0), (1, .int p1)] [.int x6]
  refine V_cS (As := [.int x6]) (rest := []) (N := 1) F M (metX7_found (Fx_G F) (Fx_l F) x6 μ5) q723 q66 q721 q722 ⟨by decide +kernel, by decide +kernel, by decide +kernel⟩ rfl ⟨by decide, by decide⟩ (Nat.le_of_ble_eq_true rfl) dX7_droneAt_15 (by decide) (by decide) (fun x8 μ7 => ?_)
  change V κ ρ 2 12 μ7 _ 18 [(0, .ref a0), (1, .int p1)] [.int x8]
  exact V_iret F M dX7_droneAt_18 rfl (by decide) (by decide)
/-! DroneLightShow.isPad(I)Z -/
abbrev rmX7_isPad : Room := { frames := 7, cells := 1, slots := 6, locals := 120 }
def FX7_isPad (a0 : Nat) (p1 : Int32) (μ : Me) : Rs Int32 :=
  (bnd (FX7_demandCell p1 μ) (fun x2 μ1 => (gR μ1 a0 7 0 (fun x3 => (gJ μ1 x3 5 3 (fun x4 => (bnd (FX7_contains x4 p1 μ1) (fun x6 μ5 => (gd (vp_nar .boolean x6 = x6) (rt x6 μ5))))))))))
set_option maxHeartbeats 4000000 in
set_option maxRecDepth 100000 in
theorem metX7_isPad {l : Launch} {s0 : State} {D : va_G} {aC : Nat → ClassId} (hG : Gl s0 D aC) (hl : l.stackTraces = false) (a0 : Nat) (p1 : Int32) (μ : Me) : Ct l yX7_isPad (ws_ yX7_isPad cX7_isPad 2 (some .boolean)) rmX7_isPad s0 D aC (fun r : Int32 => some (.int r)) [.ref a0, .int p1] μ (FX7_isPad a0 p1 μ) := by
  refine Ct_of hG hl (by decide +kernel) (Nat.le_of_ble_eq_true rfl) (fun κ ρ hNL F M hκ => ?_)
  have F : Fx κ cX7_isPad RX7 := F
  change V κ ρ 0 0 μ (FX7_isPad a0 p1 μ) 0 [(0, .ref a0), (1, .int p1)] []
  unfold FX7_isPad
  refine V_iload_n F dX7_isPad_0 rfl 1 rfl ?_
  refine V_cS (As := [.int p1]) (rest := []) (N := 1) F M (metX7_demandCell (Fx_G F) (Fx_l F) p1 μ) q756 q66 q754 q755 ⟨by decide +kernel, by decide +kernel, by decide +kernel⟩ rfl ⟨by decide, by decide⟩ (Nat.le_of_ble_eq_true rfl) dX7_isPad_1 (by decide) (by decide) (fun x2 μ1 => ?_)
  change V κ ρ 1 6 μ1 _ 4 [(0, .ref a0), (1, .int p1)] []
  refine V_aload_n F dX7_isPad_4 rfl 0 rfl ?_
  refine V_gR (ci := 7) (k9 := 0) (C := RX7) (T := TX7) (N := 11) F rfl hinX7 (by decide) q268 dX7_isPad_5 (fun x3 => ?_)
  refine V_gJ (ci := 5) (k9 := 3) (C := RX4) (T := TX4) (N := 10) F rfl hinX4 (by decide) q179 dX7_isPad_8 (fun x4 => ?_)
  refine V_iload_n F dX7_isPad_11 rfl 1 rfl ?_
  refine V_cS (As := [.long x4, .int p1]) (rest := []) (N := 2) F M (metX7_contains (Fx_G F) (Fx_l F) x4 p1 μ1) q398 q66 q767 q397 ⟨by decide +kernel, by decide +kernel, by decide +kernel⟩ rfl ⟨by decide, by decide⟩ (Nat.le_of_ble_eq_true rfl) dX7_isPad_12 (by decide) (by decide) (fun x6 μ5 => ?_)
  change V κ ρ 1 6 μ5 _ 15 [(0, .ref a0), (1, .int p1)] [.int x6]
  refine V_gd (fun g7 => ?_)
  exact V_zret F M dX7_isPad_15 rfl (nar_z g7) (by decide) (by decide)
/-! DroneLightShow.nearestPadByRings(I)I -/
abbrev rmX7_nearestPadByRings : Room := { frames := 7, cells := 2, slots := 12, locals := 121 }
def FX7_nearestPadByRings (a0 : Nat) (p1 : Int32) (μ : Me) : Rs Int32 :=
  (bnd (vc μ a0 7 (FX7_demandDrone a0 p1 μ)) (fun x2 μ1 => (gR μ1 a0 7 0 (fun x3 => (gR μ1 a0 7 0 (fun x4 => (gR μ1 x4 5 0 (fun x5 => (gR μ1 x5 3 0 (fun x6 => (aI μ1 x6 p1 (fun x7 => (bnd (vc μ1 x3 5 (FX4_padByRings x3 x7 μ1)) (fun x9 μ8 => (bnd (FX7_found x9 μ8) (fun x11 μ10 => (rt x11 μ10)))))))))))))))))
set_option maxHeartbeats 4000000 in
set_option maxRecDepth 100000 in
theorem metX7_nearestPadByRings {l : Launch} {s0 : State} {D : va_G} {aC : Nat → ClassId} (hG : Gl s0 D aC) (hl : l.stackTraces = false) (a0 : Nat) (p1 : Int32) (μ : Me) : Ct l yX7_nearestPadByRings (ws_ yX7_nearestPadByRings cX7_nearestPadByRings 2 (some .int)) rmX7_nearestPadByRings s0 D aC (fun r : Int32 => some (.int r)) [.ref a0, .int p1] μ (FX7_nearestPadByRings a0 p1 μ) := by
  refine Ct_of hG hl (by decide +kernel) (Nat.le_of_ble_eq_true rfl) (fun κ ρ hNL F M hκ => ?_)
  have F : Fx κ cX7_nearestPadByRings RX7 := F
  change V κ ρ 0 0 μ (FX7_nearestPadByRings a0 p1 μ) 0 [(0, .ref a0), (1, .int p1)] []
  unfold FX7_nearestPadByRings
  refine V_aload_n F dX7_nearestPadByRings_0 rfl 0 rfl ?_
  refine V_iload_n F dX7_nearestPadByRings_1 rfl 1 rfl ?_
  refine V_cV (As := [.int p1]) (rest := []) (C := RX7) (N := 1) F M (metX7_demandDrone (Fx_G F) (Fx_l F) a0 p1 μ) rfl q689 q66 q686 q688 q6 ⟨by decide +kernel, by decide +kernel, by decide +kernel⟩ rfl ⟨by decide, by decide⟩ (Nat.le_of_ble_eq_true rfl) dX7_nearestPadByRings_2 (by decide) (by decide) (fun x2 μ1 => ?_)
  change V κ ρ 1 6 μ1 _ 5 [(0, .ref a0), (1, .int p1)] []
  refine V_aload_n F dX7_nearestPadByRings_5 rfl 0 rfl ?_
  refine V_gR (ci := 7) (k9 := 0) (C := RX7) (T := TX7) (N := 11) F rfl hinX7 (by decide) q268 dX7_nearestPadByRings_6 (fun x3 => ?_)
  refine V_aload_n F dX7_nearestPadByRings_9 rfl 0 rfl ?_
  refine V_gR (ci := 7) (k9 := 0) (C := RX7) (T := TX7) (N := 11) F rfl hinX7 (by decide) q268 dX7_nearestPadByRings_10 (fun x4 => ?_)
  refine V_gR (ci := 5) (k9 := 0) (C := RX4) (T := TX4) (N := 10) F rfl hinX4 (by decide) q173 dX7_nearestPadByRings_13 (fun x5 => ?_)
  refine V_gR (ci := 3) (k9 := 0) (C := RX2) (T := TX2) (N := 7) F rfl hinX2 (by decide) q114 dX7_nearestPadByRings_16 (fun x6 => ?_)
  refine V_iload_n F dX7_nearestPadByRings_19 rfl 1 rfl ?_
  refine V_aI F dX7_nearestPadByRings_20 (fun x7 => ?_)
  refine V_cV (As := [.int x7]) (rest := []) (C := RX4) (N := 1) F M (metX4_padByRings (Fx_G F) (Fx_l F) x3 x7 μ1) rfl q416 q67 q413 q414 q415 ⟨by decide +kernel, by decide +kernel, by decide +kernel⟩ rfl ⟨by decide, by decide⟩ (Nat.le_of_ble_eq_true rfl) dX7_nearestPadByRings_21 (by decide) (by decide) (fun x9 μ8 => ?_)
  change V κ ρ 1 6 μ8 _ 24 [(0, .ref a0), (1, .int p1)] [.int x9]
  refine V_cS (As := [.int x9]) (rest := []) (N := 1) F M (metX7_found (Fx_G F) (Fx_l F) x9 μ8) q723 q66 q721 q722 ⟨by decide +kernel, by decide +kernel, by decide +kernel⟩ rfl ⟨by decide, by decide⟩ (Nat.le_of_ble_eq_true rfl) dX7_nearestPadByRings_24 (by decide) (by decide) (fun x11 μ10 => ?_)
  change V κ ρ 2 12 μ10 _ 27 [(0, .ref a0), (1, .int p1)] [.int x11]
  exact V_iret F M dX7_nearestPadByRings_27 rfl (by decide) (by decide)
/-! DroneLightShow.formationMask(I)J -/
abbrev rmX7_formationMask : Room := { frames := 7, cells := 1, slots := 6, locals := 120 }
def FX7_formationMask (a0 : Nat) (p1 : Int32) (μ : Me) : Rs Int64 :=
  (bnd (FX7_demandFormation p1 μ) (fun x2 μ1 => (gR μ1 a0 7 0 (fun x3 => (gR μ1 x3 5 2 (fun x4 => (aJ μ1 x4 p1 (fun x5 => (rt x5 μ1)))))))))
set_option maxHeartbeats 4000000 in
set_option maxRecDepth 100000 in
theorem metX7_formationMask {l : Launch} {s0 : State} {D : va_G} {aC : Nat → ClassId} (hG : Gl s0 D aC) (hl : l.stackTraces = false) (a0 : Nat) (p1 : Int32) (μ : Me) : Ct l yX7_formationMask (ws_ yX7_formationMask cX7_formationMask 2 (some .long)) rmX7_formationMask s0 D aC (fun r : Int64 => some (.long r)) [.ref a0, .int p1] μ (FX7_formationMask a0 p1 μ) := by
  refine Ct_of hG hl (by decide +kernel) (Nat.le_of_ble_eq_true rfl) (fun κ ρ hNL F M hκ => ?_)
  have F : Fx κ cX7_formationMask RX7 := F
  change V κ ρ 0 0 μ (FX7_formationMask a0 p1 μ) 0 [(0, .ref a0), (1, .int p1)] []
  unfold FX7_formationMask
  refine V_iload_n F dX7_formationMask_0 rfl 1 rfl ?_
  refine V_cS (As := [.int p1]) (rest := []) (N := 1) F M (metX7_demandFormation (Fx_G F) (Fx_l F) p1 μ) q840 q66 q838 q839 ⟨by decide +kernel, by decide +kernel, by decide +kernel⟩ rfl ⟨by decide, by decide⟩ (Nat.le_of_ble_eq_true rfl) dX7_formationMask_1 (by decide) (by decide) (fun x2 μ1 => ?_)
  change V κ ρ 1 6 μ1 _ 4 [(0, .ref a0), (1, .int p1)] []
  refine V_aload_n F dX7_formationMask_4 rfl 0 rfl ?_
  refine V_gR (ci := 7) (k9 := 0) (C := RX7) (T := TX7) (N := 11) F rfl hinX7 (by decide) q268 dX7_formationMask_5 (fun x3 => ?_)
  refine V_gR (ci := 5) (k9 := 2) (C := RX4) (T := TX4) (N := 10) F rfl hinX4 (by decide) q177 dX7_formationMask_8 (fun x4 => ?_)
  refine V_iload_n F dX7_formationMask_11 rfl 1 rfl ?_
  refine V_aJ F dX7_formationMask_12 (fun x5 => ?_)
  exact V_lret F M dX7_formationMask_13 rfl (by decide) (by decide)
/-! DroneLightShow.matchCount(I)I -/
abbrev rmX7_matchCount : Room := { frames := 7, cells := 1, slots := 6, locals := 120 }
def FX7_matchCount (a0 : Nat) (p1 : Int32) (μ : Me) : Rs Int32 :=
  (bnd (FX7_demandFormation p1 μ) (fun x2 μ1 => (gR μ1 a0 7 0 (fun x3 => (bnd (vc μ1 x3 5 (FX4_matchesByMask x3 p1 μ1)) (fun x5 μ4 => (rt x5 μ4)))))))
set_option maxHeartbeats 4000000 in
set_option maxRecDepth 100000 in
theorem metX7_matchCount {l : Launch} {s0 : State} {D : va_G} {aC : Nat → ClassId} (hG : Gl s0 D aC) (hl : l.stackTraces = false) (a0 : Nat) (p1 : Int32) (μ : Me) : Ct l yX7_matchCount (ws_ yX7_matchCount cX7_matchCount 2 (some .int)) rmX7_matchCount s0 D aC (fun r : Int32 => some (.int r)) [.ref a0, .int p1] μ (FX7_matchCount a0 p1 μ) := by
  refine Ct_of hG hl (by decide +kernel) (Nat.le_of_ble_eq_true rfl) (fun κ ρ hNL F M hκ => ?_)
  have F : Fx κ cX7_matchCount RX7 := F
  change V κ ρ 0 0 μ (FX7_matchCount a0 p1 μ) 0 [(0, .ref a0), (1, .int p1)] []
  unfold FX7_matchCount
  refine V_iload_n F dX7_matchCount_0 rfl 1 rfl ?_
  refine V_cS (As := [.int p1]) (rest := []) (N := 1) F M (metX7_demandFormation (Fx_G F) (Fx_l F) p1 μ) q840 q66 q838 q839 ⟨by decide +kernel, by decide +kernel, by decide +kernel⟩ rfl ⟨by decide, by decide⟩ (Nat.le_of_ble_eq_true rfl) dX7_matchCount_1 (by decide) (by decide) (fun x2 μ1 => ?_)
  change V κ ρ 1 6 μ1 _ 4 [(0, .ref a0), (1, .int p1)] []
  refine V_aload_n F dX7_matchCount_4 rfl 0 rfl ?_
  refine V_gR (ci := 7) (k9 := 0) (C := RX7) (T := TX7) (N := 11) F rfl hinX7 (by decide) q268 dX7_matchCount_5 (fun x3 => ?_)
  refine V_iload_n F dX7_matchCount_8 rfl 1 rfl ?_
  refine V_cV (As := [.int p1]) (rest := []) (C := RX4) (N := 1) F M (metX4_matchesByMask (Fx_G F) (Fx_l F) x3 p1 μ1) rfl q382 q67 q379 q380 q381 ⟨by decide +kernel, by decide +kernel, by decide +kernel⟩ rfl ⟨by decide, by decide⟩ (Nat.le_of_ble_eq_true rfl) dX7_matchCount_9 (by decide) (by decide) (fun x5 μ4 => ?_)
  change V κ ρ 1 6 μ4 _ 12 [(0, .ref a0), (1, .int p1)] [.int x5]
  exact V_iret F M dX7_matchCount_12 rfl (by decide) (by decide)
/-! DroneLightShow.matchCountByScan(I)I -/
abbrev rmX7_matchCountByScan : Room := { frames := 7, cells := 1, slots := 6, locals := 120 }
def FX7_matchCountByScan (a0 : Nat) (p1 : Int32) (μ : Me) : Rs Int32 :=
  (bnd (FX7_demandFormation p1 μ) (fun x2 μ1 => (gR μ1 a0 7 0 (fun x3 => (bnd (vc μ1 x3 5 (FX4_matchesByScan x3 p1 μ1)) (fun x5 μ4 => (rt x5 μ4)))))))
set_option maxHeartbeats 4000000 in
set_option maxRecDepth 100000 in
theorem metX7_matchCountByScan {l : Launch} {s0 : State} {D : va_G} {aC : Nat → ClassId} (hG : Gl s0 D aC) (hl : l.stackTraces = false) (a0 : Nat) (p1 : Int32) (μ : Me) : Ct l yX7_matchCountByScan (ws_ yX7_matchCountByScan cX7_matchCountByScan 2 (some .int)) rmX7_matchCountByScan s0 D aC (fun r : Int32 => some (.int r)) [.ref a0, .int p1] μ (FX7_matchCountByScan a0 p1 μ) := by
  refine Ct_of hG hl (by decide +kernel) (Nat.le_of_ble_eq_true rfl) (fun κ ρ hNL F M hκ => ?_)
  have F : Fx κ cX7_matchCountByScan RX7 := F
  change V κ ρ 0 0 μ (FX7_matchCountByScan a0 p1 μ) 0 [(0, .ref a0), (1, .int p1)] []
  unfold FX7_matchCountByScan
  refine V_iload_n F dX7_matchCountByScan_0 rfl 1 rfl ?_
  refine V_cS (As := [.int p1]) (rest := []) (N := 1) F M (metX7_demandFormation (Fx_G F) (Fx_l F) p1 μ) q840 q66 q838 q839 ⟨by decide +kernel, by decide +kernel, by decide +kernel⟩ rfl ⟨by decide, by decide⟩ (Nat.le_of_ble_eq_true rfl) dX7_matchCountByScan_1 (by decide) (by decide) (fun x2 μ1 => ?_)
  change V κ ρ 1 6 μ1 _ 4 [(0, .ref a0), (1, .int p1)] []
  refine V_aload_n F dX7_matchCountByScan_4 rfl 0 rfl ?_
  refine V_gR (ci := 7) (k9 := 0) (C := RX7) (T := TX7) (N := 11) F rfl hinX7 (by decide) q268 dX7_matchCountByScan_5 (fun x3 => ?_)
  refine V_iload_n F dX7_matchCountByScan_8 rfl 1 rfl ?_
  refine V_cV (As := [.int p1]) (rest := []) (C := RX4) (N := 1) F M (metX4_matchesByScan (Fx_G F) (Fx_l F) x3 p1 μ1) rfl q391 q67 q388 q389 q390 ⟨by decide +kernel, by decide +kernel, by decide +kernel⟩ rfl ⟨by decide, by decide⟩ (Nat.le_of_ble_eq_true rfl) dX7_matchCountByScan_9 (by decide) (by decide) (fun x5 μ4 => ?_)
  change V κ ρ 1 6 μ4 _ 12 [(0, .ref a0), (1, .int p1)] [.int x5]
  exact V_iret F M dX7_matchCountByScan_12 rfl (by decide) (by decide)
/-! DroneLightShow.coverage(I)F -/
abbrev rmX7_coverage : Room := { frames := 7, cells := 2, slots := 12, locals := 120 }
def FX7_coverage (a0 : Nat) (p1 : Int32) (μ : Me) : Rs UInt32 :=
  (bnd (FX7_demandFormation p1 μ) (fun x2 μ1 => (gR μ1 a0 7 0 (fun x3 => (gR μ1 x3 5 2 (fun x4 => (aJ μ1 x4 p1 (fun x5 => (bnd (FJ13_bitCount_95d88 x5 μ1) (fun x7 μ6 => (if x7 = 0 then (thr "java/lang/ArithmeticException" μ6) else (gR μ6 a0 7 0 (fun x10 => (bnd (vc μ6 x10 5 (FX4_matchesByMask x10 p1 μ6)) (fun x12 μ11 => (gd (nn32 (FP.fdiv (FP.i2f x12) (FP.i2f x7)) = true) (rt (FP.fdiv (FP.i2f x12) (FP.i2f x7)) μ11)))))))))))))))))
set_option maxHeartbeats 4000000 in
set_option maxRecDepth 100000 in
theorem metX7_coverage {l : Launch} {s0 : State} {D : va_G} {aC : Nat → ClassId} (hG : Gl s0 D aC) (hl : l.stackTraces = false) (a0 : Nat) (p1 : Int32) (μ : Me) : Ct l yX7_coverage (ws_ yX7_coverage cX7_coverage 3 (some .float)) rmX7_coverage s0 D aC (fun r : UInt32 => some (.float r)) [.ref a0, .int p1] μ (FX7_coverage a0 p1 μ) := by
  refine Ct_of hG hl (by decide +kernel) (Nat.le_of_ble_eq_true rfl) (fun κ ρ hNL F M hκ => ?_)
  have F : Fx κ cX7_coverage RX7 := F
  change V κ ρ 0 0 μ (FX7_coverage a0 p1 μ) 0 [(0, .ref a0), (1, .int p1)] []
  unfold FX7_coverage
  refine V_iload_n F dX7_coverage_0 rfl 1 rfl ?_
  refine V_cS (As := [.int p1]) (rest := []) (N := 1) F M (metX7_demandFormation (Fx_G F) (Fx_l F) p1 μ) q840 q66 q838 q839 ⟨by decide +kernel, by decide +kernel, by decide +kernel⟩ rfl ⟨by decide, by decide⟩ (Nat.le_of_ble_eq_true rfl) dX7_coverage_1 (by decide) (by decide) (fun x2 μ1 => ?_)
  change V κ ρ 1 6 μ1 _ 4 [(0, .ref a0), (1, .int p1)] []
  refine V_aload_n F dX7_coverage_4 rfl 0 rfl ?_
  refine V_gR (ci := 7) (k9 := 0) (C := RX7) (T := TX7) (N := 11) F rfl hinX7 (by decide) q268 dX7_coverage_5 (fun x3 => ?_)
  refine V_gR (ci := 5) (k9 := 2) (C := RX4) (T := TX4) (N := 10) F rfl hinX4 (by decide) q177 dX7_coverage_8 (fun x4 => ?_)
  refine V_iload_n F dX7_coverage_11 rfl 1 rfl ?_
  refine V_aJ F dX7_coverage_12 (fun x5 => ?_)
  refine V_cS (As := [.long x5]) (rest := []) (N := 1) F M (metJ13_bitCount_95d88 (Fx_G F) (Fx_l F) x5 μ1) q371 q83 q369 q370 ⟨by decide +kernel, by decide +kernel, by decide +kernel⟩ rfl ⟨by decide, by decide⟩ (Nat.le_of_ble_eq_true rfl) dX7_coverage_13 (by decide) (by decide) (fun x7 μ6 => ?_)
  change V κ ρ 1 6 μ6 _ 16 [(0, .ref a0), (1, .int p1)] [.int x7]
  refine V_istore_n (lv' := [(2, .int x7), (0, .ref a0), (1, .int p1)]) F dX7_coverage_16 rfl (lt_L hNL (by decide)) rfl ?_
  refine V_iload_n F dX7_coverage_17 rfl 0 rfl ?_
  refine V_if_ne (tgt := 31) F dX7_coverage_18 (by decide) (fun c8 => ?_) (fun c9 => ?_)
  · refine V_aload_n F dX7_coverage_31 rfl 1 rfl ?_
    refine V_gR (ci := 7) (k9 := 0) (C := RX7) (T := TX7) (N := 11) F rfl hinX7 (by decide) q268 dX7_coverage_32 (fun x10 => ?_)
    refine V_iload_n F dX7_coverage_35 rfl 2 rfl ?_
    refine V_cV (As := [.int p1]) (rest := []) (C := RX4) (N := 1) F M (metX4_matchesByMask (Fx_G F) (Fx_l F) x10 p1 μ6) rfl q382 q67 q379 q380 q381 ⟨by decide +kernel, by decide +kernel, by decide +kernel⟩ rfl ⟨by decide, by decide⟩ (Nat.le_of_ble_eq_true rfl) dX7_coverage_36 (by decide) (by decide) (fun x12 μ11 => ?_)
    change V κ ρ 1 6 μ11 _ 39 [(2, .int x7), (0, .ref a0), (1, .int p1)] [.int x12]
    refine V_i2f F dX7_coverage_39 ?_
    refine V_iload_n F dX7_coverage_40 rfl 0 rfl ?_
    refine V_i2f F dX7_coverage_41 ?_
    refine V_gd (fun g13 => ?_)
    refine V_fdiv F dX7_coverage_42 g13 ?_
    exact V_fret F M dX7_coverage_43 rfl (by decide) (by decide)
  · exact V_throw F M q878 q86 (List.mem_of_getElem? (i := 8) rfl) th_ArithmeticException (by decide) dX7_coverage_21 dX7_coverage_24 dX7_coverage_25 dX7_coverage_27 dX7_coverage_30 (by decide) (by decide) (by decide) (by decide)
/-! DroneLightShow.conflictCountByCell()I -/
abbrev rmX7_conflictCountByCell : Room := { frames := 3, cells := 0, slots := 0, locals := 66 }
def FX7_conflictCountByCell (a0 : Nat) (μ : Me) : Rs Int32 :=
  (bnd (vc μ a0 7 (FX7_pairsByCell a0  μ)) (fun x2 μ1 => (rt x2 μ1)))
set_option maxHeartbeats 4000000 in
set_option maxRecDepth 100000 in
theorem metX7_conflictCountByCell {l : Launch} {s0 : State} {D : va_G} {aC : Nat → ClassId} (hG : Gl s0 D aC) (hl : l.stackTraces = false) (a0 : Nat) (μ : Me) : Ct l yX7_conflictCountByCell (ws_ yX7_conflictCountByCell cX7_conflictCountByCell 1 (some .int)) rmX7_conflictCountByCell s0 D aC (fun r : Int32 => some (.int r)) [.ref a0] μ (FX7_conflictCountByCell a0 μ) := by
  refine Ct_of hG hl (by decide +kernel) (Nat.le_of_ble_eq_true rfl) (fun κ ρ hNL F M hκ => ?_)
  have F : Fx κ cX7_conflictCountByCell RX7 := F
  change V κ ρ 0 0 μ (FX7_conflictCountByCell a0 μ) 0 [(0, .ref a0)] []
  unfold FX7_conflictCountByCell
  refine V_aload_n F dX7_conflictCountByCell_0 rfl 0 rfl ?_
  refine V_cV (As := []) (rest := []) (C := RX7) (N := 0) F M (metX7_pairsByCell (Fx_G F) (Fx_l F) a0  μ) rfl q343 q66 q340 q342 q0 ⟨by decide +kernel, by decide +kernel, by decide +kernel⟩ rfl ⟨by decide, by decide⟩ (Nat.le_of_ble_eq_true rfl) dX7_conflictCountByCell_1 (by decide) (by decide) (fun x2 μ1 => ?_)
  change V κ ρ 0 0 μ1 _ 4 [(0, .ref a0)] [.int x2]
  exact V_iret F M dX7_conflictCountByCell_4 rfl (by decide) (by decide)
/-! DroneLightShow.droneAtRank(I)I -/
abbrev rmX7_droneAtRank : Room := { frames := 7, cells := 1, slots := 6, locals := 120 }
def FX7_droneAtRank (a0 : Nat) (p1 : Int32) (μ : Me) : Rs Int32 :=
  (gR μ a0 7 0 (fun x1 => (gR μ x1 5 0 (fun x2 => (bnd (vc μ x2 3 (FX2_ranked x2 p1 μ)) (fun x4 μ3 => (bnd (FX7_found x4 μ3) (fun x6 μ5 => (rt x6 μ5)))))))))
set_option maxHeartbeats 4000000 in
set_option maxRecDepth 100000 in
theorem metX7_droneAtRank {l : Launch} {s0 : State} {D : va_G} {aC : Nat → ClassId} (hG : Gl s0 D aC) (hl : l.stackTraces = false) (a0 : Nat) (p1 : Int32) (μ : Me) : Ct l yX7_droneAtRank (ws_ yX7_droneAtRank cX7_droneAtRank 2 (some .int)) rmX7_droneAtRank s0 D aC (fun r : Int32 => some (.int r)) [.ref a0, .int p1] μ (FX7_droneAtRank a0 p1 μ) := by
  refine Ct_of hG hl (by decide +kernel) (Nat.le_of_ble_eq_true rfl) (fun κ ρ hNL F M hκ => ?_)
  have F : Fx κ cX7_droneAtRank RX7 := F
  change V κ ρ 0 0 μ (FX7_droneAtRank a0 p1 μ) 0 [(0, .ref a0), (1, .int p1)] []
  unfold FX7_droneAtRank
  refine V_aload_n F dX7_droneAtRank_0 rfl 0 rfl ?_
  refine V_gR (ci := 7) (k9 := 0) (C := RX7) (T := TX7) (N := 11) F rfl hinX7 (by decide) q268 dX7_droneAtRank_1 (fun x1 => ?_)
  refine V_gR (ci := 5) (k9 := 0) (C := RX4) (T := TX4) (N := 10) F rfl hinX4 (by decide) q173 dX7_droneAtRank_4 (fun x2 => ?_)
  refine V_iload_n F dX7_droneAtRank_7 rfl 1 rfl ?_
  refine V_cV (As := [.int p1]) (rest := []) (C := RX2) (N := 1) F M (metX2_ranked (Fx_G F) (Fx_l F) x2 p1 μ) rfl q951 q68 q948 q949 q950 ⟨by decide +kernel, by decide +kernel, by decide +kernel⟩ rfl ⟨by decide, by decide⟩ (Nat.le_of_ble_eq_true rfl) dX7_droneAtRank_8 (by decide) (by decide) (fun x4 μ3 => ?_)
  change V κ ρ 0 0 μ3 _ 11 [(0, .ref a0), (1, .int p1)] [.int x4]
  refine V_cS (As := [.int x4]) (rest := []) (N := 1) F M (metX7_found (Fx_G F) (Fx_l F) x4 μ3) q723 q66 q721 q722 ⟨by decide +kernel, by decide +kernel, by decide +kernel⟩ rfl ⟨by decide, by decide⟩ (Nat.le_of_ble_eq_true rfl) dX7_droneAtRank_11 (by decide) (by decide) (fun x6 μ5 => ?_)
  change V κ ρ 1 6 μ5 _ 14 [(0, .ref a0), (1, .int p1)] [.int x6]
  exact V_iret F M dX7_droneAtRank_14 rfl (by decide) (by decide)
/-! DroneLightShow.undo()I -/
abbrev rmX7_undo : Room := { frames := 6, cells := 1, slots := 6, locals := 100 }
def FX7_undo (a0 : Nat) (μ : Me) : Rs Int32 :=
  (gR μ a0 7 4 (fun x1 => (gI μ x1 4 2 (fun x2 => (if x2 = 0 then (thr "java/lang/IllegalStateException" μ) else (gR μ a0 7 4 (fun x5 => (gR μ a0 7 0 (fun x6 => (bnd (vc μ x5 4 (FX3_takeBack x5 x6 μ)) (fun x8 μ7 => (gR μ7 a0 7 4 (fun x9 => (gI μ7 x9 4 2 (fun x10 => (rt x10 μ7))))))))))))))))
set_option maxHeartbeats 4000000 in
set_option maxRecDepth 100000 in
theorem metX7_undo {l : Launch} {s0 : State} {D : va_G} {aC : Nat → ClassId} (hG : Gl s0 D aC) (hl : l.stackTraces = false) (a0 : Nat) (μ : Me) : Ct l yX7_undo (ws_ yX7_undo cX7_undo 1 (some .int)) rmX7_undo s0 D aC (fun r : Int32 => some (.int r)) [.ref a0] μ (FX7_undo a0 μ) := by
  refine Ct_of hG hl (by decide +kernel) (Nat.le_of_ble_eq_true rfl) (fun κ ρ hNL F M hκ => ?_)
  have F : Fx κ cX7_undo RX7 := F
  change V κ ρ 0 0 μ (FX7_undo a0 μ) 0 [(0, .ref a0)] []
  unfold FX7_undo
  refine V_aload_n F dX7_undo_0 rfl 0 rfl ?_
  refine V_gR (ci := 7) (k9 := 4) (C := RX7) (T := TX7) (N := 11) F rfl hinX7 (by decide) q272 dX7_undo_1 (fun x1 => ?_)
  refine V_gI (ci := 4) (k9 := 2) (C := RX3) (T := TX3) (N := 3) F rfl hinX3 (by decide) q225 dX7_undo_4 (fun x2 => ?_)
  refine V_if_ne (tgt := 21) F dX7_undo_7 (by decide) (fun c3 => ?_) (fun c4 => ?_)
  · refine V_aload_n F dX7_undo_21 rfl 0 rfl ?_
    refine V_gR (ci := 7) (k9 := 4) (C := RX7) (T := TX7) (N := 11) F rfl hinX7 (by decide) q272 dX7_undo_22 (fun x5 => ?_)
    refine V_aload_n F dX7_undo_25 rfl 0 rfl ?_
    refine V_gR (ci := 7) (k9 := 0) (C := RX7) (T := TX7) (N := 11) F rfl hinX7 (by decide) q268 dX7_undo_26 (fun x6 => ?_)
    refine V_cV (As := [.ref x6]) (rest := []) (C := RX3) (N := 1) F M (metX3_takeBack (Fx_G F) (Fx_l F) x5 x6 μ) rfl q1193 q70 q1190 q1191 q1192 ⟨by decide +kernel, by decide +kernel, by decide +kernel⟩ rfl ⟨by decide, by decide⟩ (Nat.le_of_ble_eq_true rfl) dX7_undo_29 (by decide) (by decide) (fun x8 μ7 => ?_)
    change V κ ρ 0 0 μ7 _ 32 [(0, .ref a0)] []
    refine V_aload_n F dX7_undo_32 rfl 0 rfl ?_
    refine V_gR (ci := 7) (k9 := 4) (C := RX7) (T := TX7) (N := 11) F rfl hinX7 (by decide) q272 dX7_undo_33 (fun x9 => ?_)
    refine V_gI (ci := 4) (k9 := 2) (C := RX3) (T := TX3) (N := 3) F rfl hinX3 (by decide) q225 dX7_undo_36 (fun x10 => ?_)
    exact V_iret F M dX7_undo_39 rfl (by decide) (by decide)
  · exact V_throwW F M q578 q80 (List.mem_of_getElem? (i := 18) rfl) th_IllegalStateException (by decide) dX7_undo_10 dX7_undo_13 dX7_undo_14 dX7_undo_17 dX7_undo_20 (by decide) (by decide) (by decide) (by decide)
/-! DroneLightShow.commit(I)I -/
abbrev rmX7_commit : Room := { frames := 7, cells := 1, slots := 6, locals := 120 }
def FX7_commit_B8  (v0 : Nat) (v1 : Int32) (μ : Me) : Rs Int32 :=
  (gR μ v0 7 4 (fun x3 => (gR μ v0 7 0 (fun x4 => (bnd (vc μ x3 4 (FX3_keep x3 x4 μ)) (fun x6 μ5 => (gR μ5 v0 7 0 (fun x7 => (gR μ5 v0 7 1 (fun x8 => (pf μ5 v0 7 0 (.ref x8) (fun μ9 => (pf μ9 v0 7 1 (.ref x7) (fun μ10 => (rt v1 μ10)))))))))))))))
set_option maxHeartbeats 4000000 in
set_option maxRecDepth 100000 in
theorem VX7_commit_B8 {κ : Cx} {ρ : (Int32 ⊕ String) × Me} (F : Fx κ cX7_commit RX7) (M : Mx κ (fun r : Int32 => some (.int r)) ρ rmX7_commit (some .int) [] "commit") (hNL : κ.2.2.2.2.2.2.2.2.2.2.2.2.2.2 = 3)   (v0 : Nat) (v1 : Int32) (μ : Me) : V κ ρ 1 6 μ (FX7_commit_B8  v0 v1 μ) 8 [(0, .ref v0), (1, .int v1)] [] := by
  unfold FX7_commit_B8
  refine V_aload_n F dX7_commit_8 rfl 0 rfl ?_
  refine V_gR (ci := 7) (k9 := 4) (C := RX7) (T := TX7) (N := 11) F rfl hinX7 (by decide) q272 dX7_commit_9 (fun x3 => ?_)
  refine V_aload_n F dX7_commit_12 rfl 0 rfl ?_
  refine V_gR (ci := 7) (k9 := 0) (C := RX7) (T := TX7) (N := 11) F rfl hinX7 (by decide) q268 dX7_commit_13 (fun x4 => ?_)
  refine V_cV (As := [.ref x4]) (rest := []) (C := RX3) (N := 1) F M (metX3_keep (Fx_G F) (Fx_l F) x3 x4 μ) rfl q613 q70 q610 q611 q612 ⟨by decide +kernel, by decide +kernel, by decide +kernel⟩ rfl ⟨by decide, by decide⟩ (Nat.le_of_ble_eq_true rfl) dX7_commit_16 (by decide) (by decide) (fun x6 μ5 => ?_)
  change V κ ρ 1 6 μ5 _ 19 [(0, .ref v0), (1, .int v1)] []
  refine V_aload_n F dX7_commit_19 rfl 0 rfl ?_
  refine V_gR (ci := 7) (k9 := 0) (C := RX7) (T := TX7) (N := 11) F rfl hinX7 (by decide) q268 dX7_commit_20 (fun x7 => ?_)
  refine V_astore_n (lv' := [(2, .ref x7), (0, .ref v0), (1, .int v1)]) F dX7_commit_23 rfl (lt_L hNL (by decide)) rfl ?_
  refine V_aload_n F dX7_commit_24 rfl 1 rfl ?_
  refine V_aload_n F dX7_commit_25 rfl 1 rfl ?_
  refine V_gR (ci := 7) (k9 := 1) (C := RX7) (T := TX7) (N := 11) F rfl hinX7 (by decide) q269 dX7_commit_26 (fun x8 => ?_)
  refine V_pf (ci := 7) (k9 := 0) (C := RX7) (T := TX7) (N := 11) (ty := tyX7) F rfl hinX7 tyX7_ok nmX7 (by decide) q268 rfl rfl rfl dX7_commit_29 (fun μ9 => ?_)
  refine V_aload_n F dX7_commit_32 rfl 1 rfl ?_
  refine V_aload_n F dX7_commit_33 rfl 0 rfl ?_
  refine V_pf (ci := 7) (k9 := 1) (C := RX7) (T := TX7) (N := 11) (ty := tyX7) F rfl hinX7 tyX7_ok nmX7 (by decide) q269 rfl rfl rfl dX7_commit_34 (fun μ10 => ?_)
  refine V_iload_n F dX7_commit_37 rfl 2 rfl ?_
  exact V_iret F M dX7_commit_38 rfl (by decide) (by decide)
def FX7_commit (a0 : Nat) (p1 : Int32) (μ : Me) : Rs Int32 :=
  (if 0 ≤ p1 then (FX7_commit_B8  a0 p1 μ) else (bnd (FX7_refuse p1 μ) (fun x12 μ11 => (FX7_commit_B8  a0 p1 μ11))))
set_option maxHeartbeats 4000000 in
set_option maxRecDepth 100000 in
theorem metX7_commit {l : Launch} {s0 : State} {D : va_G} {aC : Nat → ClassId} (hG : Gl s0 D aC) (hl : l.stackTraces = false) (a0 : Nat) (p1 : Int32) (μ : Me) : Ct l yX7_commit (ws_ yX7_commit cX7_commit 3 (some .int)) rmX7_commit s0 D aC (fun r : Int32 => some (.int r)) [.ref a0, .int p1] μ (FX7_commit a0 p1 μ) := by
  refine Ct_of hG hl (by decide +kernel) (Nat.le_of_ble_eq_true rfl) (fun κ ρ hNL F M hκ => ?_)
  have F : Fx κ cX7_commit RX7 := F
  change V κ ρ 0 0 μ (FX7_commit a0 p1 μ) 0 [(0, .ref a0), (1, .int p1)] []
  unfold FX7_commit
  refine V_iload_n F dX7_commit_0 rfl 1 rfl ?_
  refine V_if_ge (tgt := 8) F dX7_commit_1 (by decide) (fun c1 => ?_) (fun c2 => ?_)
  · refine V_widen (k' := 1) (n' := 6) (by decide) (by decide) ?_
    refine V_sub [0, 1] rfl ?_
    exact VX7_commit_B8 F M hNL  a0 p1 μ
  · refine V_iload_n F dX7_commit_4 rfl 1 rfl ?_
    refine V_cS (As := [.int p1]) (rest := []) (N := 1) F M (metX7_refuse (Fx_G F) (Fx_l F) p1 μ) q548 q66 q546 q547 ⟨by decide +kernel, by decide +kernel, by decide +kernel⟩ rfl ⟨by decide, by decide⟩ (Nat.le_of_ble_eq_true rfl) dX7_commit_5 (by decide) (by decide) (fun x12 μ11 => ?_)
    change V κ ρ 1 6 μ11 _ 8 [(0, .ref a0), (1, .int p1)] []
    refine V_sub [0, 1] rfl ?_
    exact VX7_commit_B8 F M hNL  a0 p1 μ11
/-! DroneLightShow.nearestPadsAgree()Z -/
abbrev rmX7_nearestPadsAgree : Room := { frames := 3, cells := 0, slots := 0, locals := 74 }
def FX7_nearestPadsAgree_B2 (k2 : Nat → Int32 → Me → Rs Int32) (v0 : Nat) (v1 : Int32) (μ : Me) : Rs Int32 :=
  (gR μ v0 7 0 (fun x1 => (gR μ x1 5 0 (fun x2 => (gI μ x2 3 6 (fun x3 => (if x3 ≤ v1 then (rt 1 μ) else (gR μ v0 7 0 (fun x6 => (gR μ x6 5 0 (fun x7 => (gR μ x7 3 0 (fun x8 => (aI μ x8 v1 (fun x9 => (gR μ v0 7 0 (fun x10 => (bnd (vc μ x10 5 (FX4_padByDistance x10 x9 μ)) (fun x12 μ11 => (gR μ11 v0 7 0 (fun x13 => (bnd (vc μ11 x13 5 (FX4_padByRings x13 x9 μ11)) (fun x15 μ14 => (if x12 = x15 then (k2 v0 (v1 + 1) μ14) else (rt 0 μ14)))))))))))))))))))))))))
set_option maxHeartbeats 4000000 in
set_option maxRecDepth 100000 in
theorem VX7_nearestPadsAgree_B2 {κ : Cx} {ρ : (Int32 ⊕ String) × Me} (F : Fx κ cX7_nearestPadsAgree RX7) (M : Mx κ (fun r : Int32 => some (.int r)) ρ rmX7_nearestPadsAgree (some .boolean) [] "nearestPadsAgree") (hNL : κ.2.2.2.2.2.2.2.2.2.2.2.2.2.2 = 3) {k2 : Nat → Int32 → Me → Rs Int32} (hk2 : ∀ (v0 : Nat) (v1 : Int32) (μ : Me), V κ ρ 0 0 μ (k2 v0 v1 μ) 2 [(0, .ref v0), (1, .int v1)] []) (v0 : Nat) (v1 : Int32) (μ : Me) : V κ ρ 0 0 μ (FX7_nearestPadsAgree_B2 k2 v0 v1 μ) 2 [(0, .ref v0), (1, .int v1)] [] := by
  unfold FX7_nearestPadsAgree_B2
  refine V_iload_n F dX7_nearestPadsAgree_2 rfl 1 rfl ?_
  refine V_aload_n F dX7_nearestPadsAgree_3 rfl 0 rfl ?_
  refine V_gR (ci := 7) (k9 := 0) (C := RX7) (T := TX7) (N := 11) F rfl hinX7 (by decide) q268 dX7_nearestPadsAgree_4 (fun x1 => ?_)
  refine V_gR (ci := 5) (k9 := 0) (C := RX4) (T := TX4) (N := 10) F rfl hinX4 (by decide) q173 dX7_nearestPadsAgree_7 (fun x2 => ?_)
  refine V_gI (ci := 3) (k9 := 6) (C := RX2) (T := TX2) (N := 7) F rfl hinX2 (by decide) q133 dX7_nearestPadsAgree_10 (fun x3 => ?_)
  refine V_icmp_ge (tgt := 56) F dX7_nearestPadsAgree_13 (by decide) (fun c4 => ?_) (fun c5 => ?_)
  · refine V_iconst (v := 1) F dX7_nearestPadsAgree_56 (by decide) ?_
    exact V_zret F M dX7_nearestPadsAgree_57 rfl (by decide) (by decide) (by decide)
  · refine V_aload_n F dX7_nearestPadsAgree_16 rfl 0 rfl ?_
    refine V_gR (ci := 7) (k9 := 0) (C := RX7) (T := TX7) (N := 11) F rfl hinX7 (by decide) q268 dX7_nearestPadsAgree_17 (fun x6 => ?_)
    refine V_gR (ci := 5) (k9 := 0) (C := RX4) (T := TX4) (N := 10) F rfl hinX4 (by decide) q173 dX7_nearestPadsAgree_20 (fun x7 => ?_)
    refine V_gR (ci := 3) (k9 := 0) (C := RX2) (T := TX2) (N := 7) F rfl hinX2 (by decide) q114 dX7_nearestPadsAgree_23 (fun x8 => ?_)
    refine V_iload_n F dX7_nearestPadsAgree_26 rfl 1 rfl ?_
    refine V_aI F dX7_nearestPadsAgree_27 (fun x9 => ?_)
    refine V_istore_n (lv' := [(2, .int x9), (0, .ref v0), (1, .int v1)]) F dX7_nearestPadsAgree_28 rfl (lt_L hNL (by decide)) rfl ?_
    refine V_aload_n F dX7_nearestPadsAgree_29 rfl 1 rfl ?_
    refine V_gR (ci := 7) (k9 := 0) (C := RX7) (T := TX7) (N := 11) F rfl hinX7 (by decide) q268 dX7_nearestPadsAgree_30 (fun x10 => ?_)
    refine V_iload_n F dX7_nearestPadsAgree_33 rfl 0 rfl ?_
    refine V_cV (As := [.int x9]) (rest := []) (C := RX4) (N := 1) F M (metX4_padByDistance (Fx_G F) (Fx_l F) x10 x9 μ) rfl q406 q67 q403 q404 q405 ⟨by decide +kernel, by decide +kernel, by decide +kernel⟩ rfl ⟨by decide, by decide⟩ (Nat.le_of_ble_eq_true rfl) dX7_nearestPadsAgree_34 (by decide) (by decide) (fun x12 μ11 => ?_)
    change V κ ρ 0 0 μ11 _ 37 [(2, .int x9), (0, .ref v0), (1, .int v1)] [.int x12]
    refine V_aload_n F dX7_nearestPadsAgree_37 rfl 1 rfl ?_
    refine V_gR (ci := 7) (k9 := 0) (C := RX7) (T := TX7) (N := 11) F rfl hinX7 (by decide) q268 dX7_nearestPadsAgree_38 (fun x13 => ?_)
    refine V_iload_n F dX7_nearestPadsAgree_41 rfl 0 rfl ?_
    refine V_cV (As := [.int x9]) (rest := [.int x12]) (C := RX4) (N := 1) F M (metX4_padByRings (Fx_G F) (Fx_l F) x13 x9 μ11) rfl q416 q67 q413 q414 q415 ⟨by decide +kernel, by decide +kernel, by decide +kernel⟩ rfl ⟨by decide, by decide⟩ (Nat.le_of_ble_eq_true rfl) dX7_nearestPadsAgree_42 (by decide) (by decide) (fun x15 μ14 => ?_)
    change V κ ρ 0 0 μ14 _ 45 [(2, .int x9), (0, .ref v0), (1, .int v1)] [.int x15, .int x12]
    refine V_icmp_eq (tgt := 50) F dX7_nearestPadsAgree_45 (by decide) (fun c16 => ?_) (fun c17 => ?_)
    · refine V_iinc (lv' := [(1, .int (v1 + 1)), (2, .int x9), (0, .ref v0)]) F dX7_nearestPadsAgree_50 2 rfl rfl (lt_L hNL (by decide)) rfl ?_
      refine V_goto (tgt := 2) F dX7_nearestPadsAgree_53 (by decide) ?_
      refine V_sub [2, 0] rfl ?_
      exact hk2 v0 (v1 + 1) μ14
    · refine V_iconst (v := 0) F dX7_nearestPadsAgree_48 (by decide) ?_
      exact V_zret F M dX7_nearestPadsAgree_49 rfl (by decide) (by decide) (by decide)
def FX7_nearestPadsAgree_L2  : Nat → Nat → Int32 → Me → Rs Int32
  | 0, _, _, _ => none
  | f + 1, v0, v1, μ => FX7_nearestPadsAgree_B2 (FX7_nearestPadsAgree_L2  f) v0 v1 μ
theorem VX7_nearestPadsAgree_L2 {κ : Cx} {ρ : (Int32 ⊕ String) × Me} (F : Fx κ cX7_nearestPadsAgree RX7) (M : Mx κ (fun r : Int32 => some (.int r)) ρ rmX7_nearestPadsAgree (some .boolean) [] "nearestPadsAgree") (hNL : κ.2.2.2.2.2.2.2.2.2.2.2.2.2.2 = 3)   : ∀ (f : Nat) (v0 : Nat) (v1 : Int32) (μ : Me), V κ ρ 0 0 μ (FX7_nearestPadsAgree_L2  f v0 v1 μ) 2 [(0, .ref v0), (1, .int v1)] [] := by
  intro f
  induction f with
  | zero => intros; exact V_none
  | succ f ih => intro v0 v1 μ; exact VX7_nearestPadsAgree_B2 F M hNL (fun v0 v1 μ => ih v0 v1 μ) v0 v1 μ
def FX7_nearestPadsAgree (a0 : Nat) (μ : Me) : Rs Int32 :=
  (FX7_nearestPadsAgree_L2  FU a0 0 μ)
set_option maxHeartbeats 4000000 in
set_option maxRecDepth 100000 in
theorem metX7_nearestPadsAgree {l : Launch} {s0 : State} {D : va_G} {aC : Nat → ClassId} (hG : Gl s0 D aC) (hl : l.stackTraces = false) (a0 : Nat) (μ : Me) : Ct l yX7_nearestPadsAgree (ws_ yX7_nearestPadsAgree cX7_nearestPadsAgree 3 (some .boolean)) rmX7_nearestPadsAgree s0 D aC (fun r : Int32 => some (.int r)) [.ref a0] μ (FX7_nearestPadsAgree a0 μ) := by
  refine Ct_of hG hl (by decide +kernel) (Nat.le_of_ble_eq_true rfl) (fun κ ρ hNL F M hκ => ?_)
  have F : Fx κ cX7_nearestPadsAgree RX7 := F
  change V κ ρ 0 0 μ (FX7_nearestPadsAgree a0 μ) 0 [(0, .ref a0)] []
  unfold FX7_nearestPadsAgree
  refine V_iconst (v := 0) F dX7_nearestPadsAgree_0 (by decide) ?_
  refine V_istore_n (lv' := [(1, .int 0), (0, .ref a0)]) F dX7_nearestPadsAgree_1 rfl (lt_L hNL (by decide)) rfl ?_
  refine V_sub [1, 0] rfl ?_
  exact VX7_nearestPadsAgree_L2 F M hNL  FU a0 0 μ
/-! DroneLightShow$Scene.tick()V -/
abbrev rmX4_tick : Room := { frames := 4, cells := 0, slots := 0, locals := 91 }
def FX4_tick (a0 : Nat) (μ : Me) : Rs Unit :=
  (gI μ a0 5 5 (fun x1 => (pf μ a0 5 5 (.int (x1 + 1)) (fun μ2 => (gR μ2 a0 5 1 (fun x3 => (gI μ2 a0 5 5 (fun x4 => (gR μ2 a0 5 0 (fun x5 => (bnd (vc μ2 x3 2 (FX1_fire x3 x4 x5 μ2)) (fun x7 μ6 => (bnd (vc μ6 a0 5 (FX4_moveDrones a0  μ6)) (fun x9 μ8 => (bnd (vc μ8 a0 5 (FX4_beginEmergencies a0  μ8)) (fun x11 μ10 => (bnd (vc μ10 a0 5 (FX4_endFlights a0  μ10)) (fun x13 μ12 => (bnd (vc μ12 a0 5 (FX4_chargeDrones a0  μ12)) (fun x15 μ14 => (rt () μ14)))))))))))))))))))))
set_option maxHeartbeats 4000000 in
set_option maxRecDepth 100000 in
theorem metX4_tick {l : Launch} {s0 : State} {D : va_G} {aC : Nat → ClassId} (hG : Gl s0 D aC) (hl : l.stackTraces = false) (a0 : Nat) (μ : Me) : Ct l yX4_tick (ws_ yX4_tick cX4_tick 1 none) rmX4_tick s0 D aC (fun _ : Unit => none) [.ref a0] μ (FX4_tick a0 μ) := by
  refine Ct_of hG hl (by decide +kernel) (Nat.le_of_ble_eq_true rfl) (fun κ ρ hNL F M hκ => ?_)
  have F : Fx κ cX4_tick RX4 := F
  change V κ ρ 0 0 μ (FX4_tick a0 μ) 0 [(0, .ref a0)] []
  unfold FX4_tick
  refine V_aload_n F dX4_tick_0 rfl 0 rfl ?_
  refine V_dup F dX4_tick_1 rfl ?_
  refine V_gI (ci := 5) (k9 := 5) (C := RX4) (T := TX4) (N := 10) F rfl hinX4 (by decide) q181 dX4_tick_2 (fun x1 => ?_)
  refine V_iconst (v := 1) F dX4_tick_5 (by decide) ?_
  refine V_iadd F dX4_tick_6 ?_
  refine V_pf (ci := 5) (k9 := 5) (C := RX4) (T := TX4) (N := 10) (ty := tyX4) F rfl hinX4 tyX4_ok nmX4 (by decide) q181 rfl rfl rfl dX4_tick_7 (fun μ2 => ?_)
  refine V_aload_n F dX4_tick_10 rfl 0 rfl ?_
  refine V_gR (ci := 5) (k9 := 1) (C := RX4) (T := TX4) (N := 10) F rfl hinX4 (by decide) q174 dX4_tick_11 (fun x3 => ?_)
  refine V_aload_n F dX4_tick_14 rfl 0 rfl ?_
  refine V_gI (ci := 5) (k9 := 5) (C := RX4) (T := TX4) (N := 10) F rfl hinX4 (by decide) q181 dX4_tick_15 (fun x4 => ?_)
  refine V_aload_n F dX4_tick_18 rfl 0 rfl ?_
  refine V_gR (ci := 5) (k9 := 0) (C := RX4) (T := TX4) (N := 10) F rfl hinX4 (by decide) q172 dX4_tick_19 (fun x5 => ?_)
  refine V_cV (As := [.int x4, .ref x5]) (rest := []) (C := RX1) (N := 2) F M (metX1_fire (Fx_G F) (Fx_l F) x3 x4 x5 μ2) rfl q899 q69 q896 q897 q898 ⟨by decide +kernel, by decide +kernel, by decide +kernel⟩ rfl ⟨by decide, by decide⟩ (Nat.le_of_ble_eq_true rfl) dX4_tick_22 (by decide) (by decide) (fun x7 μ6 => ?_)
  change V κ ρ 0 0 μ6 _ 25 [(0, .ref a0)] []
  refine V_aload_n F dX4_tick_25 rfl 0 rfl ?_
  refine V_cV (As := []) (rest := []) (C := RX4) (N := 0) F M (metX4_moveDrones (Fx_G F) (Fx_l F) a0  μ6) rfl q903 q67 q900 q902 q7 ⟨by decide +kernel, by decide +kernel, by decide +kernel⟩ rfl ⟨by decide, by decide⟩ (Nat.le_of_ble_eq_true rfl) dX4_tick_26 (by decide) (by decide) (fun x9 μ8 => ?_)
  change V κ ρ 0 0 μ8 _ 29 [(0, .ref a0)] []
  refine V_aload_n F dX4_tick_29 rfl 0 rfl ?_
  refine V_cV (As := []) (rest := []) (C := RX4) (N := 0) F M (metX4_beginEmergencies (Fx_G F) (Fx_l F) a0  μ8) rfl q916 q67 q913 q915 q8 ⟨by decide +kernel, by decide +kernel, by decide +kernel⟩ rfl ⟨by decide, by decide⟩ (Nat.le_of_ble_eq_true rfl) dX4_tick_30 (by decide) (by decide) (fun x11 μ10 => ?_)
  change V κ ρ 0 0 μ10 _ 33 [(0, .ref a0)] []
  refine V_aload_n F dX4_tick_33 rfl 0 rfl ?_
  refine V_cV (As := []) (rest := []) (C := RX4) (N := 0) F M (metX4_endFlights (Fx_G F) (Fx_l F) a0  μ10) rfl q926 q67 q923 q925 q10 ⟨by decide +kernel, by decide +kernel, by decide +kernel⟩ rfl ⟨by decide, by decide⟩ (Nat.le_of_ble_eq_true rfl) dX4_tick_34 (by decide) (by decide) (fun x13 μ12 => ?_)
  change V κ ρ 0 0 μ12 _ 37 [(0, .ref a0)] []
  refine V_aload_n F dX4_tick_37 rfl 0 rfl ?_
  refine V_cV (As := []) (rest := []) (C := RX4) (N := 0) F M (metX4_chargeDrones (Fx_G F) (Fx_l F) a0  μ12) rfl q930 q67 q927 q929 q11 ⟨by decide +kernel, by decide +kernel, by decide +kernel⟩ rfl ⟨by decide, by decide⟩ (Nat.le_of_ble_eq_true rfl) dX4_tick_38 (by decide) (by decide) (fun x15 μ14 => ?_)
  change V κ ρ 0 0 μ14 _ 41 [(0, .ref a0)] []
  exact V_vret F M dX4_tick_41 rfl (by decide) (by decide)
/-! DroneLightShow$Script.parse()Z -/
abbrev rmX5_parse : Room := { frames := 7, cells := 0, slots := 0, locals := 155 }
def FX5_parse_B7 (aC : Nat → Nat) (k7 : Nat → Int32 → Me → Rs Int32) (v0 : Nat) (v1 : Int32) (μ : Me) : Rs Int32 :=
  (if 12 ≤ v1 then (rt 0 μ) else (bnd (vc μ v0 6 (FX5_parseCommand aC v0 v1 μ)) (fun x5 μ4 => (if x5 = 0 then (rt 0 μ4) else (pf μ4 v0 6 4 (.int (v1 + 1)) (fun μ8 => (gI μ8 v0 6 5 (fun x9 => (gI μ8 v0 6 1 (fun x10 => (if x9 = x10 then (rt 1 μ8) else (bnd (vc μ8 v0 6 (FX5_skip v0 59 μ8)) (fun x14 μ13 => (if x14 = 0 then (rt 0 μ13) else (k7 v0 (v1 + 1) μ13)))))))))))))))
set_option maxHeartbeats 4000000 in
set_option maxRecDepth 100000 in
theorem VX5_parse_B7 {aC : Nat → Nat} {κ : Cx} {ρ : (Int32 ⊕ String) × Me} (F : Fx κ cX5_parse RX5) (M : Mx κ (fun r : Int32 => some (.int r)) ρ rmX5_parse (some .boolean) [] "parse") (hNL : κ.2.2.2.2.2.2.2.2.2.2.2.2.2.2 = 2) (hκ : κ.2.2.2.2.2.2.2.2.2.2.2.2.2.1 = aC) {k7 : Nat → Int32 → Me → Rs Int32} (hk7 : ∀ (v0 : Nat) (v1 : Int32) (μ : Me), V κ ρ 0 0 μ (k7 v0 v1 μ) 7 [(0, .ref v0), (1, .int v1)] []) (v0 : Nat) (v1 : Int32) (μ : Me) : V κ ρ 0 0 μ (FX5_parse_B7 aC k7 v0 v1 μ) 7 [(0, .ref v0), (1, .int v1)] [] := by
  have SGa := Fx_SGa F hκ _ rfl
  unfold FX5_parse_B7
  refine V_iload_n F dX5_parse_7 rfl 1 rfl ?_
  refine V_bipush (v := 12) F dX5_parse_8 (by decide) ?_
  refine V_icmp_ge (tgt := 60) F dX5_parse_10 (by decide) (fun c2 => ?_) (fun c3 => ?_)
  · refine V_iconst (v := 0) F dX5_parse_60 (by decide) ?_
    exact V_zret F M dX5_parse_61 rfl (by decide) (by decide) (by decide)
  · refine V_aload_n F dX5_parse_13 rfl 0 rfl ?_
    refine V_iload_n F dX5_parse_14 rfl 1 rfl ?_
    refine V_cV (As := [.int v1]) (rest := []) (C := RX5) (N := 1) F M (metX5_parseCommand (Fx_G F) (Fx_l F) hκ v0 v1 μ) rfl q1019 q71 q1016 q1018 q14 ⟨by decide +kernel, by decide +kernel, by decide +kernel⟩ rfl ⟨by decide, by decide⟩ (Nat.le_of_ble_eq_true rfl) dX5_parse_15 (by decide) (by decide) (fun x5 μ4 => ?_)
    change V κ ρ 0 0 μ4 _ 18 [(0, .ref v0), (1, .int v1)] [.int x5]
    refine V_if_ne (tgt := 23) F dX5_parse_18 (by decide) (fun c6 => ?_) (fun c7 => ?_)
    · refine V_aload_n F dX5_parse_23 rfl 0 rfl ?_
      refine V_iload_n F dX5_parse_24 rfl 1 rfl ?_
      refine V_iconst (v := 1) F dX5_parse_25 (by decide) ?_
      refine V_iadd F dX5_parse_26 ?_
      refine V_pf (ci := 6) (k9 := 4) (C := RX5) (T := TX5) (N := 6) (ty := tyX5) F rfl hinX5 tyX5_ok nmX5 (by decide) q250 rfl rfl rfl dX5_parse_27 (fun μ8 => ?_)
      refine V_aload_n F dX5_parse_30 rfl 0 rfl ?_
      refine V_gI (ci := 6) (k9 := 5) (C := RX5) (T := TX5) (N := 6) F rfl hinX5 (by decide) q252 dX5_parse_31 (fun x9 => ?_)
      refine V_aload_n F dX5_parse_34 rfl 0 rfl ?_
      refine V_gI (ci := 6) (k9 := 1) (C := RX5) (T := TX5) (N := 6) F rfl hinX5 (by decide) q244 dX5_parse_35 (fun x10 => ?_)
      refine V_icmp_ne (tgt := 43) F dX5_parse_38 (by decide) (fun c11 => ?_) (fun c12 => ?_)
      · refine V_aload_n F dX5_parse_43 rfl 0 rfl ?_
        refine V_bipush (v := 59) F dX5_parse_44 (by decide) ?_
        refine V_cV (As := [.int 59]) (rest := []) (C := RX5) (N := 1) F M (metX5_skip (Fx_G F) (Fx_l F) v0 59 μ8) rfl q1082 q71 q1079 q1081 q17 ⟨by decide +kernel, by decide +kernel, by decide +kernel⟩ rfl ⟨by decide, by decide⟩ (Nat.le_of_ble_eq_true rfl) dX5_parse_46 (by decide) (by decide) (fun x14 μ13 => ?_)
        change V κ ρ 0 0 μ13 _ 49 [(0, .ref v0), (1, .int v1)] [.int x14]
        refine V_if_ne (tgt := 54) F dX5_parse_49 (by decide) (fun c15 => ?_) (fun c16 => ?_)
        · refine V_iinc (lv' := [(1, .int (v1 + 1)), (0, .ref v0)]) F dX5_parse_54 1 rfl rfl (lt_L hNL (by decide)) rfl ?_
          refine V_goto (tgt := 7) F dX5_parse_57 (by decide) ?_
          refine V_sub [1, 0] rfl ?_
          exact hk7 v0 (v1 + 1) μ13
        · refine V_iconst (v := 0) F dX5_parse_52 (by decide) ?_
          exact V_zret F M dX5_parse_53 rfl (by decide) (by decide) (by decide)
      · refine V_iconst (v := 1) F dX5_parse_41 (by decide) ?_
        exact V_zret F M dX5_parse_42 rfl (by decide) (by decide) (by decide)
    · refine V_iconst (v := 0) F dX5_parse_21 (by decide) ?_
      exact V_zret F M dX5_parse_22 rfl (by decide) (by decide) (by decide)
def FX5_parse_L7 (aC : Nat → Nat)  : Nat → Nat → Int32 → Me → Rs Int32
  | 0, _, _, _ => none
  | f + 1, v0, v1, μ => FX5_parse_B7 aC (FX5_parse_L7 aC  f) v0 v1 μ
theorem VX5_parse_L7 {aC : Nat → Nat} {κ : Cx} {ρ : (Int32 ⊕ String) × Me} (F : Fx κ cX5_parse RX5) (M : Mx κ (fun r : Int32 => some (.int r)) ρ rmX5_parse (some .boolean) [] "parse") (hNL : κ.2.2.2.2.2.2.2.2.2.2.2.2.2.2 = 2) (hκ : κ.2.2.2.2.2.2.2.2.2.2.2.2.2.1 = aC)   : ∀ (f : Nat) (v0 : Nat) (v1 : Int32) (μ : Me), V κ ρ 0 0 μ (FX5_parse_L7 aC  f v0 v1 μ) 7 [(0, .ref v0), (1, .int v1)] [] := by
  intro f
  induction f with
  | zero => intros; exact V_none
  | succ f ih => intro v0 v1 μ; exact VX5_parse_B7 F M hNL hκ (fun v0 v1 μ => ih v0 v1 μ) v0 v1 μ
def FX5_parse (aC : Nat → Nat) (a0 : Nat) (μ : Me) : Rs Int32 :=
  (pf μ a0 6 5 (.int 0) (fun μ1 => (FX5_parse_L7 aC  FU a0 0 μ1)))
set_option maxHeartbeats 4000000 in
set_option maxRecDepth 100000 in
theorem metX5_parse {l : Launch} {s0 : State} {D : va_G} {aC aC9 : Nat → ClassId} (hG : Gl s0 D aC9) (hl : l.stackTraces = false) (e9 : aC9 = aC) (a0 : Nat) (μ : Me) : Ct l yX5_parse (ws_ yX5_parse cX5_parse 2 (some .boolean)) rmX5_parse s0 D aC9 (fun r : Int32 => some (.int r)) [.ref a0] μ (FX5_parse aC a0 μ) := by
  refine Ct_of hG hl (by decide +kernel) (Nat.le_of_ble_eq_true rfl) (fun κ ρ hNL F M hκ => ?_)
  have hκ := hκ.trans e9
  have F : Fx κ cX5_parse RX5 := F
  change V κ ρ 0 0 μ (FX5_parse aC a0 μ) 0 [(0, .ref a0)] []
  have SGa := Fx_SGa F hκ _ rfl
  unfold FX5_parse
  refine V_aload_n F dX5_parse_0 rfl 0 rfl ?_
  refine V_iconst (v := 0) F dX5_parse_1 (by decide) ?_
  refine V_pf (ci := 6) (k9 := 5) (C := RX5) (T := TX5) (N := 6) (ty := tyX5) F rfl hinX5 tyX5_ok nmX5 (by decide) q252 rfl rfl rfl dX5_parse_2 (fun μ1 => ?_)
  refine V_iconst (v := 0) F dX5_parse_5 (by decide) ?_
  refine V_istore_n (lv' := [(1, .int 0), (0, .ref a0)]) F dX5_parse_6 rfl (lt_L hNL (by decide)) rfl ?_
  refine V_sub [1, 0] rfl ?_
  exact VX5_parse_L7 F M hNL hκ  FU a0 0 μ1
/-! DroneLightShow.addDrone(I)I -/
abbrev rmX7_addDrone : Room := { frames := 8, cells := 1, slots := 6, locals := 142 }
def FX7_addDrone (a0 : Nat) (p1 : Int32) (μ : Me) : Rs Int32 :=
  (gR μ a0 7 1 (fun x1 => (gR μ a0 7 0 (fun x2 => (bnd (vc μ x1 5 (FX4_copyFrom x1 x2 μ)) (fun x4 μ3 => (gR μ3 a0 7 1 (fun x5 => (bnd (vc μ3 x5 5 (FX4_enlist x5 p1 μ3)) (fun x7 μ6 => (bnd (vc μ6 a0 7 (FX7_commit a0 x7 μ6)) (fun x9 μ8 => (rt x9 μ8)))))))))))))
set_option maxHeartbeats 4000000 in
set_option maxRecDepth 100000 in
theorem metX7_addDrone {l : Launch} {s0 : State} {D : va_G} {aC : Nat → ClassId} (hG : Gl s0 D aC) (hl : l.stackTraces = false) (a0 : Nat) (p1 : Int32) (μ : Me) : Ct l yX7_addDrone (ws_ yX7_addDrone cX7_addDrone 2 (some .int)) rmX7_addDrone s0 D aC (fun r : Int32 => some (.int r)) [.ref a0, .int p1] μ (FX7_addDrone a0 p1 μ) := by
  refine Ct_of hG hl (by decide +kernel) (Nat.le_of_ble_eq_true rfl) (fun κ ρ hNL F M hκ => ?_)
  have F : Fx κ cX7_addDrone RX7 := F
  change V κ ρ 0 0 μ (FX7_addDrone a0 p1 μ) 0 [(0, .ref a0), (1, .int p1)] []
  unfold FX7_addDrone
  refine V_aload_n F dX7_addDrone_0 rfl 0 rfl ?_
  refine V_gR (ci := 7) (k9 := 1) (C := RX7) (T := TX7) (N := 11) F rfl hinX7 (by decide) q269 dX7_addDrone_1 (fun x1 => ?_)
  refine V_aload_n F dX7_addDrone_4 rfl 0 rfl ?_
  refine V_gR (ci := 7) (k9 := 0) (C := RX7) (T := TX7) (N := 11) F rfl hinX7 (by decide) q268 dX7_addDrone_5 (fun x2 => ?_)
  refine V_cV (As := [.ref x2]) (rest := []) (C := RX4) (N := 1) F M (metX4_copyFrom (Fx_G F) (Fx_l F) x1 x2 μ) rfl q429 q67 q426 q427 q428 ⟨by decide +kernel, by decide +kernel, by decide +kernel⟩ rfl ⟨by decide, by decide⟩ (Nat.le_of_ble_eq_true rfl) dX7_addDrone_8 (by decide) (by decide) (fun x4 μ3 => ?_)
  change V κ ρ 0 0 μ3 _ 11 [(0, .ref a0), (1, .int p1)] []
  refine V_aload_n F dX7_addDrone_11 rfl 0 rfl ?_
  refine V_aload_n F dX7_addDrone_12 rfl 0 rfl ?_
  refine V_gR (ci := 7) (k9 := 1) (C := RX7) (T := TX7) (N := 11) F rfl hinX7 (by decide) q269 dX7_addDrone_13 (fun x5 => ?_)
  refine V_iload_n F dX7_addDrone_16 rfl 1 rfl ?_
  refine V_cV (As := [.int p1]) (rest := [.ref a0]) (C := RX4) (N := 1) F M (metX4_enlist (Fx_G F) (Fx_l F) x5 p1 μ3) rfl q534 q67 q531 q532 q533 ⟨by decide +kernel, by decide +kernel, by decide +kernel⟩ rfl ⟨by decide, by decide⟩ (Nat.le_of_ble_eq_true rfl) dX7_addDrone_17 (by decide) (by decide) (fun x7 μ6 => ?_)
  change V κ ρ 0 0 μ6 _ 20 [(0, .ref a0), (1, .int p1)] [.int x7, .ref a0]
  refine V_cV (As := [.int x7]) (rest := []) (C := RX7) (N := 1) F M (metX7_commit (Fx_G F) (Fx_l F) a0 x7 μ6) rfl q545 q66 q542 q544 q5 ⟨by decide +kernel, by decide +kernel, by decide +kernel⟩ rfl ⟨by decide, by decide⟩ (Nat.le_of_ble_eq_true rfl) dX7_addDrone_20 (by decide) (by decide) (fun x9 μ8 => ?_)
  change V κ ρ 1 6 μ8 _ 23 [(0, .ref a0), (1, .int p1)] [.int x9]
  exact V_iret F M dX7_addDrone_23 rfl (by decide) (by decide)
/-! DroneLightShow.addPad(I)I -/
abbrev rmX7_addPad : Room := { frames := 8, cells := 1, slots := 6, locals := 142 }
def FX7_addPad (a0 : Nat) (p1 : Int32) (μ : Me) : Rs Int32 :=
  (gR μ a0 7 1 (fun x1 => (gR μ a0 7 0 (fun x2 => (bnd (vc μ x1 5 (FX4_copyFrom x1 x2 μ)) (fun x4 μ3 => (gR μ3 a0 7 1 (fun x5 => (bnd (vc μ3 x5 5 (FX4_markPad x5 p1 μ3)) (fun x7 μ6 => (bnd (vc μ6 a0 7 (FX7_commit a0 x7 μ6)) (fun x9 μ8 => (rt x9 μ8)))))))))))))
set_option maxHeartbeats 4000000 in
set_option maxRecDepth 100000 in
theorem metX7_addPad {l : Launch} {s0 : State} {D : va_G} {aC : Nat → ClassId} (hG : Gl s0 D aC) (hl : l.stackTraces = false) (a0 : Nat) (p1 : Int32) (μ : Me) : Ct l yX7_addPad (ws_ yX7_addPad cX7_addPad 2 (some .int)) rmX7_addPad s0 D aC (fun r : Int32 => some (.int r)) [.ref a0, .int p1] μ (FX7_addPad a0 p1 μ) := by
  refine Ct_of hG hl (by decide +kernel) (Nat.le_of_ble_eq_true rfl) (fun κ ρ hNL F M hκ => ?_)
  have F : Fx κ cX7_addPad RX7 := F
  change V κ ρ 0 0 μ (FX7_addPad a0 p1 μ) 0 [(0, .ref a0), (1, .int p1)] []
  unfold FX7_addPad
  refine V_aload_n F dX7_addPad_0 rfl 0 rfl ?_
  refine V_gR (ci := 7) (k9 := 1) (C := RX7) (T := TX7) (N := 11) F rfl hinX7 (by decide) q269 dX7_addPad_1 (fun x1 => ?_)
  refine V_aload_n F dX7_addPad_4 rfl 0 rfl ?_
  refine V_gR (ci := 7) (k9 := 0) (C := RX7) (T := TX7) (N := 11) F rfl hinX7 (by decide) q268 dX7_addPad_5 (fun x2 => ?_)
  refine V_cV (As := [.ref x2]) (rest := []) (C := RX4) (N := 1) F M (metX4_copyFrom (Fx_G F) (Fx_l F) x1 x2 μ) rfl q429 q67 q426 q427 q428 ⟨by decide +kernel, by decide +kernel, by decide +kernel⟩ rfl ⟨by decide, by decide⟩ (Nat.le_of_ble_eq_true rfl) dX7_addPad_8 (by decide) (by decide) (fun x4 μ3 => ?_)
  change V κ ρ 0 0 μ3 _ 11 [(0, .ref a0), (1, .int p1)] []
  refine V_aload_n F dX7_addPad_11 rfl 0 rfl ?_
  refine V_aload_n F dX7_addPad_12 rfl 0 rfl ?_
  refine V_gR (ci := 7) (k9 := 1) (C := RX7) (T := TX7) (N := 11) F rfl hinX7 (by decide) q269 dX7_addPad_13 (fun x5 => ?_)
  refine V_iload_n F dX7_addPad_16 rfl 1 rfl ?_
  refine V_cV (As := [.int p1]) (rest := [.ref a0]) (C := RX4) (N := 1) F M (metX4_markPad (Fx_G F) (Fx_l F) x5 p1 μ3) rfl q626 q67 q623 q624 q625 ⟨by decide +kernel, by decide +kernel, by decide +kernel⟩ rfl ⟨by decide, by decide⟩ (Nat.le_of_ble_eq_true rfl) dX7_addPad_17 (by decide) (by decide) (fun x7 μ6 => ?_)
  change V κ ρ 0 0 μ6 _ 20 [(0, .ref a0), (1, .int p1)] [.int x7, .ref a0]
  refine V_cV (As := [.int x7]) (rest := []) (C := RX7) (N := 1) F M (metX7_commit (Fx_G F) (Fx_l F) a0 x7 μ6) rfl q545 q66 q542 q544 q5 ⟨by decide +kernel, by decide +kernel, by decide +kernel⟩ rfl ⟨by decide, by decide⟩ (Nat.le_of_ble_eq_true rfl) dX7_addPad_20 (by decide) (by decide) (fun x9 μ8 => ?_)
  change V κ ρ 1 6 μ8 _ 23 [(0, .ref a0), (1, .int p1)] [.int x9]
  exact V_iret F M dX7_addPad_23 rfl (by decide) (by decide)
/-! DroneLightShow.takeOff(I)I -/
abbrev rmX7_takeOff : Room := { frames := 8, cells := 1, slots := 6, locals := 142 }
def FX7_takeOff (a0 : Nat) (p1 : Int32) (μ : Me) : Rs Int32 :=
  (gR μ a0 7 1 (fun x1 => (gR μ a0 7 0 (fun x2 => (bnd (vc μ x1 5 (FX4_copyFrom x1 x2 μ)) (fun x4 μ3 => (gR μ3 a0 7 1 (fun x5 => (bnd (vc μ3 x5 5 (FX4_lift x5 p1 μ3)) (fun x7 μ6 => (bnd (vc μ6 a0 7 (FX7_commit a0 x7 μ6)) (fun x9 μ8 => (rt x9 μ8)))))))))))))
set_option maxHeartbeats 4000000 in
set_option maxRecDepth 100000 in
theorem metX7_takeOff {l : Launch} {s0 : State} {D : va_G} {aC : Nat → ClassId} (hG : Gl s0 D aC) (hl : l.stackTraces = false) (a0 : Nat) (p1 : Int32) (μ : Me) : Ct l yX7_takeOff (ws_ yX7_takeOff cX7_takeOff 2 (some .int)) rmX7_takeOff s0 D aC (fun r : Int32 => some (.int r)) [.ref a0, .int p1] μ (FX7_takeOff a0 p1 μ) := by
  refine Ct_of hG hl (by decide +kernel) (Nat.le_of_ble_eq_true rfl) (fun κ ρ hNL F M hκ => ?_)
  have F : Fx κ cX7_takeOff RX7 := F
  change V κ ρ 0 0 μ (FX7_takeOff a0 p1 μ) 0 [(0, .ref a0), (1, .int p1)] []
  unfold FX7_takeOff
  refine V_aload_n F dX7_takeOff_0 rfl 0 rfl ?_
  refine V_gR (ci := 7) (k9 := 1) (C := RX7) (T := TX7) (N := 11) F rfl hinX7 (by decide) q269 dX7_takeOff_1 (fun x1 => ?_)
  refine V_aload_n F dX7_takeOff_4 rfl 0 rfl ?_
  refine V_gR (ci := 7) (k9 := 0) (C := RX7) (T := TX7) (N := 11) F rfl hinX7 (by decide) q268 dX7_takeOff_5 (fun x2 => ?_)
  refine V_cV (As := [.ref x2]) (rest := []) (C := RX4) (N := 1) F M (metX4_copyFrom (Fx_G F) (Fx_l F) x1 x2 μ) rfl q429 q67 q426 q427 q428 ⟨by decide +kernel, by decide +kernel, by decide +kernel⟩ rfl ⟨by decide, by decide⟩ (Nat.le_of_ble_eq_true rfl) dX7_takeOff_8 (by decide) (by decide) (fun x4 μ3 => ?_)
  change V κ ρ 0 0 μ3 _ 11 [(0, .ref a0), (1, .int p1)] []
  refine V_aload_n F dX7_takeOff_11 rfl 0 rfl ?_
  refine V_aload_n F dX7_takeOff_12 rfl 0 rfl ?_
  refine V_gR (ci := 7) (k9 := 1) (C := RX7) (T := TX7) (N := 11) F rfl hinX7 (by decide) q269 dX7_takeOff_13 (fun x5 => ?_)
  refine V_iload_n F dX7_takeOff_16 rfl 1 rfl ?_
  refine V_cV (As := [.int p1]) (rest := [.ref a0]) (C := RX4) (N := 1) F M (metX4_lift (Fx_G F) (Fx_l F) x5 p1 μ3) rfl q637 q67 q634 q635 q636 ⟨by decide +kernel, by decide +kernel, by decide +kernel⟩ rfl ⟨by decide, by decide⟩ (Nat.le_of_ble_eq_true rfl) dX7_takeOff_17 (by decide) (by decide) (fun x7 μ6 => ?_)
  change V κ ρ 0 0 μ6 _ 20 [(0, .ref a0), (1, .int p1)] [.int x7, .ref a0]
  refine V_cV (As := [.int x7]) (rest := []) (C := RX7) (N := 1) F M (metX7_commit (Fx_G F) (Fx_l F) a0 x7 μ6) rfl q545 q66 q542 q544 q5 ⟨by decide +kernel, by decide +kernel, by decide +kernel⟩ rfl ⟨by decide, by decide⟩ (Nat.le_of_ble_eq_true rfl) dX7_takeOff_20 (by decide) (by decide) (fun x9 μ8 => ?_)
  change V κ ρ 1 6 μ8 _ 23 [(0, .ref a0), (1, .int p1)] [.int x9]
  exact V_iret F M dX7_takeOff_23 rfl (by decide) (by decide)
/-! DroneLightShow.land(I)I -/
abbrev rmX7_land : Room := { frames := 8, cells := 1, slots := 6, locals := 142 }
def FX7_land (a0 : Nat) (p1 : Int32) (μ : Me) : Rs Int32 :=
  (gR μ a0 7 1 (fun x1 => (gR μ a0 7 0 (fun x2 => (bnd (vc μ x1 5 (FX4_copyFrom x1 x2 μ)) (fun x4 μ3 => (gR μ3 a0 7 1 (fun x5 => (bnd (vc μ3 x5 5 (FX4_setDown x5 p1 μ3)) (fun x7 μ6 => (bnd (vc μ6 a0 7 (FX7_commit a0 x7 μ6)) (fun x9 μ8 => (rt x9 μ8)))))))))))))
set_option maxHeartbeats 4000000 in
set_option maxRecDepth 100000 in
theorem metX7_land {l : Launch} {s0 : State} {D : va_G} {aC : Nat → ClassId} (hG : Gl s0 D aC) (hl : l.stackTraces = false) (a0 : Nat) (p1 : Int32) (μ : Me) : Ct l yX7_land (ws_ yX7_land cX7_land 2 (some .int)) rmX7_land s0 D aC (fun r : Int32 => some (.int r)) [.ref a0, .int p1] μ (FX7_land a0 p1 μ) := by
  refine Ct_of hG hl (by decide +kernel) (Nat.le_of_ble_eq_true rfl) (fun κ ρ hNL F M hκ => ?_)
  have F : Fx κ cX7_land RX7 := F
  change V κ ρ 0 0 μ (FX7_land a0 p1 μ) 0 [(0, .ref a0), (1, .int p1)] []
  unfold FX7_land
  refine V_aload_n F dX7_land_0 rfl 0 rfl ?_
  refine V_gR (ci := 7) (k9 := 1) (C := RX7) (T := TX7) (N := 11) F rfl hinX7 (by decide) q269 dX7_land_1 (fun x1 => ?_)
  refine V_aload_n F dX7_land_4 rfl 0 rfl ?_
  refine V_gR (ci := 7) (k9 := 0) (C := RX7) (T := TX7) (N := 11) F rfl hinX7 (by decide) q268 dX7_land_5 (fun x2 => ?_)
  refine V_cV (As := [.ref x2]) (rest := []) (C := RX4) (N := 1) F M (metX4_copyFrom (Fx_G F) (Fx_l F) x1 x2 μ) rfl q429 q67 q426 q427 q428 ⟨by decide +kernel, by decide +kernel, by decide +kernel⟩ rfl ⟨by decide, by decide⟩ (Nat.le_of_ble_eq_true rfl) dX7_land_8 (by decide) (by decide) (fun x4 μ3 => ?_)
  change V κ ρ 0 0 μ3 _ 11 [(0, .ref a0), (1, .int p1)] []
  refine V_aload_n F dX7_land_11 rfl 0 rfl ?_
  refine V_aload_n F dX7_land_12 rfl 0 rfl ?_
  refine V_gR (ci := 7) (k9 := 1) (C := RX7) (T := TX7) (N := 11) F rfl hinX7 (by decide) q269 dX7_land_13 (fun x5 => ?_)
  refine V_iload_n F dX7_land_16 rfl 1 rfl ?_
  refine V_cV (As := [.int p1]) (rest := [.ref a0]) (C := RX4) (N := 1) F M (metX4_setDown (Fx_G F) (Fx_l F) x5 p1 μ3) rfl q656 q67 q653 q654 q655 ⟨by decide +kernel, by decide +kernel, by decide +kernel⟩ rfl ⟨by decide, by decide⟩ (Nat.le_of_ble_eq_true rfl) dX7_land_17 (by decide) (by decide) (fun x7 μ6 => ?_)
  change V κ ρ 0 0 μ6 _ 20 [(0, .ref a0), (1, .int p1)] [.int x7, .ref a0]
  refine V_cV (As := [.int x7]) (rest := []) (C := RX7) (N := 1) F M (metX7_commit (Fx_G F) (Fx_l F) a0 x7 μ6) rfl q545 q66 q542 q544 q5 ⟨by decide +kernel, by decide +kernel, by decide +kernel⟩ rfl ⟨by decide, by decide⟩ (Nat.le_of_ble_eq_true rfl) dX7_land_20 (by decide) (by decide) (fun x9 μ8 => ?_)
  change V κ ρ 1 6 μ8 _ 23 [(0, .ref a0), (1, .int p1)] [.int x9]
  exact V_iret F M dX7_land_23 rfl (by decide) (by decide)
/-! DroneLightShow.sendTo(II)I -/
abbrev rmX7_sendTo : Room := { frames := 8, cells := 1, slots := 6, locals := 142 }
def FX7_sendTo (a0 : Nat) (p1 : Int32) (p2 : Int32) (μ : Me) : Rs Int32 :=
  (gR μ a0 7 1 (fun x1 => (gR μ a0 7 0 (fun x2 => (bnd (vc μ x1 5 (FX4_copyFrom x1 x2 μ)) (fun x4 μ3 => (gR μ3 a0 7 1 (fun x5 => (bnd (vc μ3 x5 5 (FX4_aim x5 p1 p2 μ3)) (fun x7 μ6 => (bnd (vc μ6 a0 7 (FX7_commit a0 x7 μ6)) (fun x9 μ8 => (rt x9 μ8)))))))))))))
set_option maxHeartbeats 4000000 in
set_option maxRecDepth 100000 in
theorem metX7_sendTo {l : Launch} {s0 : State} {D : va_G} {aC : Nat → ClassId} (hG : Gl s0 D aC) (hl : l.stackTraces = false) (a0 : Nat) (p1 : Int32) (p2 : Int32) (μ : Me) : Ct l yX7_sendTo (ws_ yX7_sendTo cX7_sendTo 3 (some .int)) rmX7_sendTo s0 D aC (fun r : Int32 => some (.int r)) [.ref a0, .int p1, .int p2] μ (FX7_sendTo a0 p1 p2 μ) := by
  refine Ct_of hG hl (by decide +kernel) (Nat.le_of_ble_eq_true rfl) (fun κ ρ hNL F M hκ => ?_)
  have F : Fx κ cX7_sendTo RX7 := F
  change V κ ρ 0 0 μ (FX7_sendTo a0 p1 p2 μ) 0 [(0, .ref a0), (1, .int p1), (2, .int p2)] []
  unfold FX7_sendTo
  refine V_aload_n F dX7_sendTo_0 rfl 0 rfl ?_
  refine V_gR (ci := 7) (k9 := 1) (C := RX7) (T := TX7) (N := 11) F rfl hinX7 (by decide) q269 dX7_sendTo_1 (fun x1 => ?_)
  refine V_aload_n F dX7_sendTo_4 rfl 0 rfl ?_
  refine V_gR (ci := 7) (k9 := 0) (C := RX7) (T := TX7) (N := 11) F rfl hinX7 (by decide) q268 dX7_sendTo_5 (fun x2 => ?_)
  refine V_cV (As := [.ref x2]) (rest := []) (C := RX4) (N := 1) F M (metX4_copyFrom (Fx_G F) (Fx_l F) x1 x2 μ) rfl q429 q67 q426 q427 q428 ⟨by decide +kernel, by decide +kernel, by decide +kernel⟩ rfl ⟨by decide, by decide⟩ (Nat.le_of_ble_eq_true rfl) dX7_sendTo_8 (by decide) (by decide) (fun x4 μ3 => ?_)
  change V κ ρ 0 0 μ3 _ 11 [(0, .ref a0), (1, .int p1), (2, .int p2)] []
  refine V_aload_n F dX7_sendTo_11 rfl 0 rfl ?_
  refine V_aload_n F dX7_sendTo_12 rfl 0 rfl ?_
  refine V_gR (ci := 7) (k9 := 1) (C := RX7) (T := TX7) (N := 11) F rfl hinX7 (by decide) q269 dX7_sendTo_13 (fun x5 => ?_)
  refine V_iload_n F dX7_sendTo_16 rfl 1 rfl ?_
  refine V_iload_n F dX7_sendTo_17 rfl 2 rfl ?_
  refine V_cV (As := [.int p1, .int p2]) (rest := [.ref a0]) (C := RX4) (N := 2) F M (metX4_aim (Fx_G F) (Fx_l F) x5 p1 p2 μ3) rfl q667 q67 q664 q665 q666 ⟨by decide +kernel, by decide +kernel, by decide +kernel⟩ rfl ⟨by decide, by decide⟩ (Nat.le_of_ble_eq_true rfl) dX7_sendTo_18 (by decide) (by decide) (fun x7 μ6 => ?_)
  change V κ ρ 0 0 μ6 _ 21 [(0, .ref a0), (1, .int p1), (2, .int p2)] [.int x7, .ref a0]
  refine V_cV (As := [.int x7]) (rest := []) (C := RX7) (N := 1) F M (metX7_commit (Fx_G F) (Fx_l F) a0 x7 μ6) rfl q545 q66 q542 q544 q5 ⟨by decide +kernel, by decide +kernel, by decide +kernel⟩ rfl ⟨by decide, by decide⟩ (Nat.le_of_ble_eq_true rfl) dX7_sendTo_21 (by decide) (by decide) (fun x9 μ8 => ?_)
  change V κ ρ 1 6 μ8 _ 24 [(0, .ref a0), (1, .int p1), (2, .int p2)] [.int x9]
  exact V_iret F M dX7_sendTo_24 rfl (by decide) (by decide)
/-! DroneLightShow.setReserve(I)I -/
abbrev rmX7_setReserve : Room := { frames := 8, cells := 1, slots := 6, locals := 142 }
def FX7_setReserve (a0 : Nat) (p1 : Int32) (μ : Me) : Rs Int32 :=
  (gR μ a0 7 1 (fun x1 => (gR μ a0 7 0 (fun x2 => (bnd (vc μ x1 5 (FX4_copyFrom x1 x2 μ)) (fun x4 μ3 => (gR μ3 a0 7 1 (fun x5 => (bnd (vc μ3 x5 5 (FX4_changeReserve x5 p1 μ3)) (fun x7 μ6 => (bnd (vc μ6 a0 7 (FX7_commit a0 x7 μ6)) (fun x9 μ8 => (rt x9 μ8)))))))))))))
set_option maxHeartbeats 4000000 in
set_option maxRecDepth 100000 in
theorem metX7_setReserve {l : Launch} {s0 : State} {D : va_G} {aC : Nat → ClassId} (hG : Gl s0 D aC) (hl : l.stackTraces = false) (a0 : Nat) (p1 : Int32) (μ : Me) : Ct l yX7_setReserve (ws_ yX7_setReserve cX7_setReserve 2 (some .int)) rmX7_setReserve s0 D aC (fun r : Int32 => some (.int r)) [.ref a0, .int p1] μ (FX7_setReserve a0 p1 μ) := by
  refine Ct_of hG hl (by decide +kernel) (Nat.le_of_ble_eq_true rfl) (fun κ ρ hNL F M hκ => ?_)
  have F : Fx κ cX7_setReserve RX7 := F
  change V κ ρ 0 0 μ (FX7_setReserve a0 p1 μ) 0 [(0, .ref a0), (1, .int p1)] []
  unfold FX7_setReserve
  refine V_aload_n F dX7_setReserve_0 rfl 0 rfl ?_
  refine V_gR (ci := 7) (k9 := 1) (C := RX7) (T := TX7) (N := 11) F rfl hinX7 (by decide) q269 dX7_setReserve_1 (fun x1 => ?_)
  refine V_aload_n F dX7_setReserve_4 rfl 0 rfl ?_
  refine V_gR (ci := 7) (k9 := 0) (C := RX7) (T := TX7) (N := 11) F rfl hinX7 (by decide) q268 dX7_setReserve_5 (fun x2 => ?_)
  refine V_cV (As := [.ref x2]) (rest := []) (C := RX4) (N := 1) F M (metX4_copyFrom (Fx_G F) (Fx_l F) x1 x2 μ) rfl q429 q67 q426 q427 q428 ⟨by decide +kernel, by decide +kernel, by decide +kernel⟩ rfl ⟨by decide, by decide⟩ (Nat.le_of_ble_eq_true rfl) dX7_setReserve_8 (by decide) (by decide) (fun x4 μ3 => ?_)
  change V κ ρ 0 0 μ3 _ 11 [(0, .ref a0), (1, .int p1)] []
  refine V_aload_n F dX7_setReserve_11 rfl 0 rfl ?_
  refine V_aload_n F dX7_setReserve_12 rfl 0 rfl ?_
  refine V_gR (ci := 7) (k9 := 1) (C := RX7) (T := TX7) (N := 11) F rfl hinX7 (by decide) q269 dX7_setReserve_13 (fun x5 => ?_)
  refine V_iload_n F dX7_setReserve_16 rfl 1 rfl ?_
  refine V_cV (As := [.int p1]) (rest := [.ref a0]) (C := RX4) (N := 1) F M (metX4_changeReserve (Fx_G F) (Fx_l F) x5 p1 μ3) rfl q678 q67 q675 q676 q677 ⟨by decide +kernel, by decide +kernel, by decide +kernel⟩ rfl ⟨by decide, by decide⟩ (Nat.le_of_ble_eq_true rfl) dX7_setReserve_17 (by decide) (by decide) (fun x7 μ6 => ?_)
  change V κ ρ 0 0 μ6 _ 20 [(0, .ref a0), (1, .int p1)] [.int x7, .ref a0]
  refine V_cV (As := [.int x7]) (rest := []) (C := RX7) (N := 1) F M (metX7_commit (Fx_G F) (Fx_l F) a0 x7 μ6) rfl q545 q66 q542 q544 q5 ⟨by decide +kernel, by decide +kernel, by decide +kernel⟩ rfl ⟨by decide, by decide⟩ (Nat.le_of_ble_eq_true rfl) dX7_setReserve_20 (by decide) (by decide) (fun x9 μ8 => ?_)
  change V κ ρ 1 6 μ8 _ 23 [(0, .ref a0), (1, .int p1)] [.int x9]
  exact V_iret F M dX7_setReserve_23 rfl (by decide) (by decide)
/-! DroneLightShow.addToFormation(II)I -/
abbrev rmX7_addToFormation : Room := { frames := 8, cells := 1, slots := 6, locals := 142 }
def FX7_addToFormation (a0 : Nat) (p1 : Int32) (p2 : Int32) (μ : Me) : Rs Int32 :=
  (gR μ a0 7 1 (fun x1 => (gR μ a0 7 0 (fun x2 => (bnd (vc μ x1 5 (FX4_copyFrom x1 x2 μ)) (fun x4 μ3 => (gR μ3 a0 7 1 (fun x5 => (bnd (vc μ3 x5 5 (FX4_extend x5 p1 p2 μ3)) (fun x7 μ6 => (bnd (vc μ6 a0 7 (FX7_commit a0 x7 μ6)) (fun x9 μ8 => (rt x9 μ8)))))))))))))
set_option maxHeartbeats 4000000 in
set_option maxRecDepth 100000 in
theorem metX7_addToFormation {l : Launch} {s0 : State} {D : va_G} {aC : Nat → ClassId} (hG : Gl s0 D aC) (hl : l.stackTraces = false) (a0 : Nat) (p1 : Int32) (p2 : Int32) (μ : Me) : Ct l yX7_addToFormation (ws_ yX7_addToFormation cX7_addToFormation 3 (some .int)) rmX7_addToFormation s0 D aC (fun r : Int32 => some (.int r)) [.ref a0, .int p1, .int p2] μ (FX7_addToFormation a0 p1 p2 μ) := by
  refine Ct_of hG hl (by decide +kernel) (Nat.le_of_ble_eq_true rfl) (fun κ ρ hNL F M hκ => ?_)
  have F : Fx κ cX7_addToFormation RX7 := F
  change V κ ρ 0 0 μ (FX7_addToFormation a0 p1 p2 μ) 0 [(0, .ref a0), (1, .int p1), (2, .int p2)] []
  unfold FX7_addToFormation
  refine V_aload_n F dX7_addToFormation_0 rfl 0 rfl ?_
  refine V_gR (ci := 7) (k9 := 1) (C := RX7) (T := TX7) (N := 11) F rfl hinX7 (by decide) q269 dX7_addToFormation_1 (fun x1 => ?_)
  refine V_aload_n F dX7_addToFormation_4 rfl 0 rfl ?_
  refine V_gR (ci := 7) (k9 := 0) (C := RX7) (T := TX7) (N := 11) F rfl hinX7 (by decide) q268 dX7_addToFormation_5 (fun x2 => ?_)
  refine V_cV (As := [.ref x2]) (rest := []) (C := RX4) (N := 1) F M (metX4_copyFrom (Fx_G F) (Fx_l F) x1 x2 μ) rfl q429 q67 q426 q427 q428 ⟨by decide +kernel, by decide +kernel, by decide +kernel⟩ rfl ⟨by decide, by decide⟩ (Nat.le_of_ble_eq_true rfl) dX7_addToFormation_8 (by decide) (by decide) (fun x4 μ3 => ?_)
  change V κ ρ 0 0 μ3 _ 11 [(0, .ref a0), (1, .int p1), (2, .int p2)] []
  refine V_aload_n F dX7_addToFormation_11 rfl 0 rfl ?_
  refine V_aload_n F dX7_addToFormation_12 rfl 0 rfl ?_
  refine V_gR (ci := 7) (k9 := 1) (C := RX7) (T := TX7) (N := 11) F rfl hinX7 (by decide) q269 dX7_addToFormation_13 (fun x5 => ?_)
  refine V_iload_n F dX7_addToFormation_16 rfl 1 rfl ?_
  refine V_iload_n F dX7_addToFormation_17 rfl 2 rfl ?_
  refine V_cV (As := [.int p1, .int p2]) (rest := [.ref a0]) (C := RX4) (N := 2) F M (metX4_extend (Fx_G F) (Fx_l F) x5 p1 p2 μ3) rfl q792 q67 q789 q790 q791 ⟨by decide +kernel, by decide +kernel, by decide +kernel⟩ rfl ⟨by decide, by decide⟩ (Nat.le_of_ble_eq_true rfl) dX7_addToFormation_18 (by decide) (by decide) (fun x7 μ6 => ?_)
  change V κ ρ 0 0 μ6 _ 21 [(0, .ref a0), (1, .int p1), (2, .int p2)] [.int x7, .ref a0]
  refine V_cV (As := [.int x7]) (rest := []) (C := RX7) (N := 1) F M (metX7_commit (Fx_G F) (Fx_l F) a0 x7 μ6) rfl q545 q66 q542 q544 q5 ⟨by decide +kernel, by decide +kernel, by decide +kernel⟩ rfl ⟨by decide, by decide⟩ (Nat.le_of_ble_eq_true rfl) dX7_addToFormation_21 (by decide) (by decide) (fun x9 μ8 => ?_)
  change V κ ρ 1 6 μ8 _ 24 [(0, .ref a0), (1, .int p1), (2, .int p2)] [.int x9]
  exact V_iret F M dX7_addToFormation_24 rfl (by decide) (by decide)
/-! DroneLightShow.clearFormation(I)I -/
abbrev rmX7_clearFormation : Room := { frames := 8, cells := 1, slots := 6, locals := 142 }
def FX7_clearFormation (a0 : Nat) (p1 : Int32) (μ : Me) : Rs Int32 :=
  (gR μ a0 7 1 (fun x1 => (gR μ a0 7 0 (fun x2 => (bnd (vc μ x1 5 (FX4_copyFrom x1 x2 μ)) (fun x4 μ3 => (gR μ3 a0 7 1 (fun x5 => (bnd (vc μ3 x5 5 (FX4_empty x5 p1 μ3)) (fun x7 μ6 => (bnd (vc μ6 a0 7 (FX7_commit a0 x7 μ6)) (fun x9 μ8 => (rt x9 μ8)))))))))))))
set_option maxHeartbeats 4000000 in
set_option maxRecDepth 100000 in
theorem metX7_clearFormation {l : Launch} {s0 : State} {D : va_G} {aC : Nat → ClassId} (hG : Gl s0 D aC) (hl : l.stackTraces = false) (a0 : Nat) (p1 : Int32) (μ : Me) : Ct l yX7_clearFormation (ws_ yX7_clearFormation cX7_clearFormation 2 (some .int)) rmX7_clearFormation s0 D aC (fun r : Int32 => some (.int r)) [.ref a0, .int p1] μ (FX7_clearFormation a0 p1 μ) := by
  refine Ct_of hG hl (by decide +kernel) (Nat.le_of_ble_eq_true rfl) (fun κ ρ hNL F M hκ => ?_)
  have F : Fx κ cX7_clearFormation RX7 := F
  change V κ ρ 0 0 μ (FX7_clearFormation a0 p1 μ) 0 [(0, .ref a0), (1, .int p1)] []
  unfold FX7_clearFormation
  refine V_aload_n F dX7_clearFormation_0 rfl 0 rfl ?_
  refine V_gR (ci := 7) (k9 := 1) (C := RX7) (T := TX7) (N := 11) F rfl hinX7 (by decide) q269 dX7_clearFormation_1 (fun x1 => ?_)
  refine V_aload_n F dX7_clearFormation_4 rfl 0 rfl ?_
  refine V_gR (ci := 7) (k9 := 0) (C := RX7) (T := TX7) (N := 11) F rfl hinX7 (by decide) q268 dX7_clearFormation_5 (fun x2 => ?_)
  refine V_cV (As := [.ref x2]) (rest := []) (C := RX4) (N := 1) F M (metX4_copyFrom (Fx_G F) (Fx_l F) x1 x2 μ) rfl q429 q67 q426 q427 q428 ⟨by decide +kernel, by decide +kernel, by decide +kernel⟩ rfl ⟨by decide, by decide⟩ (Nat.le_of_ble_eq_true rfl) dX7_clearFormation_8 (by decide) (by decide) (fun x4 μ3 => ?_)
  change V κ ρ 0 0 μ3 _ 11 [(0, .ref a0), (1, .int p1)] []
  refine V_aload_n F dX7_clearFormation_11 rfl 0 rfl ?_
  refine V_aload_n F dX7_clearFormation_12 rfl 0 rfl ?_
  refine V_gR (ci := 7) (k9 := 1) (C := RX7) (T := TX7) (N := 11) F rfl hinX7 (by decide) q269 dX7_clearFormation_13 (fun x5 => ?_)
  refine V_iload_n F dX7_clearFormation_16 rfl 1 rfl ?_
  refine V_cV (As := [.int p1]) (rest := [.ref a0]) (C := RX4) (N := 1) F M (metX4_empty (Fx_G F) (Fx_l F) x5 p1 μ3) rfl q806 q67 q803 q804 q805 ⟨by decide +kernel, by decide +kernel, by decide +kernel⟩ rfl ⟨by decide, by decide⟩ (Nat.le_of_ble_eq_true rfl) dX7_clearFormation_17 (by decide) (by decide) (fun x7 μ6 => ?_)
  change V κ ρ 0 0 μ6 _ 20 [(0, .ref a0), (1, .int p1)] [.int x7, .ref a0]
  refine V_cV (As := [.int x7]) (rest := []) (C := RX7) (N := 1) F M (metX7_commit (Fx_G F) (Fx_l F) a0 x7 μ6) rfl q545 q66 q542 q544 q5 ⟨by decide +kernel, by decide +kernel, by decide +kernel⟩ rfl ⟨by decide, by decide⟩ (Nat.le_of_ble_eq_true rfl) dX7_clearFormation_20 (by decide) (by decide) (fun x9 μ8 => ?_)
  change V κ ρ 1 6 μ8 _ 23 [(0, .ref a0), (1, .int p1)] [.int x9]
  exact V_iret F M dX7_clearFormation_23 rfl (by decide) (by decide)
/-! DroneLightShow.assign(I)I -/
abbrev rmX7_assign : Room := { frames := 8, cells := 1, slots := 6, locals := 142 }
def FX7_assign (a0 : Nat) (p1 : Int32) (μ : Me) : Rs Int32 :=
  (gR μ a0 7 1 (fun x1 => (gR μ a0 7 0 (fun x2 => (bnd (vc μ x1 5 (FX4_copyFrom x1 x2 μ)) (fun x4 μ3 => (gR μ3 a0 7 1 (fun x5 => (bnd (vc μ3 x5 5 (FX4_distribute x5 p1 μ3)) (fun x7 μ6 => (bnd (vc μ6 a0 7 (FX7_commit a0 x7 μ6)) (fun x9 μ8 => (rt x9 μ8)))))))))))))
set_option maxHeartbeats 4000000 in
set_option maxRecDepth 100000 in
theorem metX7_assign {l : Launch} {s0 : State} {D : va_G} {aC : Nat → ClassId} (hG : Gl s0 D aC) (hl : l.stackTraces = false) (a0 : Nat) (p1 : Int32) (μ : Me) : Ct l yX7_assign (ws_ yX7_assign cX7_assign 2 (some .int)) rmX7_assign s0 D aC (fun r : Int32 => some (.int r)) [.ref a0, .int p1] μ (FX7_assign a0 p1 μ) := by
  refine Ct_of hG hl (by decide +kernel) (Nat.le_of_ble_eq_true rfl) (fun κ ρ hNL F M hκ => ?_)
  have F : Fx κ cX7_assign RX7 := F
  change V κ ρ 0 0 μ (FX7_assign a0 p1 μ) 0 [(0, .ref a0), (1, .int p1)] []
  unfold FX7_assign
  refine V_aload_n F dX7_assign_0 rfl 0 rfl ?_
  refine V_gR (ci := 7) (k9 := 1) (C := RX7) (T := TX7) (N := 11) F rfl hinX7 (by decide) q269 dX7_assign_1 (fun x1 => ?_)
  refine V_aload_n F dX7_assign_4 rfl 0 rfl ?_
  refine V_gR (ci := 7) (k9 := 0) (C := RX7) (T := TX7) (N := 11) F rfl hinX7 (by decide) q268 dX7_assign_5 (fun x2 => ?_)
  refine V_cV (As := [.ref x2]) (rest := []) (C := RX4) (N := 1) F M (metX4_copyFrom (Fx_G F) (Fx_l F) x1 x2 μ) rfl q429 q67 q426 q427 q428 ⟨by decide +kernel, by decide +kernel, by decide +kernel⟩ rfl ⟨by decide, by decide⟩ (Nat.le_of_ble_eq_true rfl) dX7_assign_8 (by decide) (by decide) (fun x4 μ3 => ?_)
  change V κ ρ 0 0 μ3 _ 11 [(0, .ref a0), (1, .int p1)] []
  refine V_aload_n F dX7_assign_11 rfl 0 rfl ?_
  refine V_aload_n F dX7_assign_12 rfl 0 rfl ?_
  refine V_gR (ci := 7) (k9 := 1) (C := RX7) (T := TX7) (N := 11) F rfl hinX7 (by decide) q269 dX7_assign_13 (fun x5 => ?_)
  refine V_iload_n F dX7_assign_16 rfl 1 rfl ?_
  refine V_cV (As := [.int p1]) (rest := [.ref a0]) (C := RX4) (N := 1) F M (metX4_distribute (Fx_G F) (Fx_l F) x5 p1 μ3) rfl q817 q67 q814 q815 q816 ⟨by decide +kernel, by decide +kernel, by decide +kernel⟩ rfl ⟨by decide, by decide⟩ (Nat.le_of_ble_eq_true rfl) dX7_assign_17 (by decide) (by decide) (fun x7 μ6 => ?_)
  change V κ ρ 0 0 μ6 _ 20 [(0, .ref a0), (1, .int p1)] [.int x7, .ref a0]
  refine V_cV (As := [.int x7]) (rest := []) (C := RX7) (N := 1) F M (metX7_commit (Fx_G F) (Fx_l F) a0 x7 μ6) rfl q545 q66 q542 q544 q5 ⟨by decide +kernel, by decide +kernel, by decide +kernel⟩ rfl ⟨by decide, by decide⟩ (Nat.le_of_ble_eq_true rfl) dX7_assign_20 (by decide) (by decide) (fun x9 μ8 => ?_)
  change V κ ρ 1 6 μ8 _ 23 [(0, .ref a0), (1, .int p1)] [.int x9]
  exact V_iret F M dX7_assign_23 rfl (by decide) (by decide)
/-! DroneLightShow.batteryAfter(II)I -/
abbrev rmX7_batteryAfter : Room := { frames := 7, cells := 2, slots := 12, locals := 121 }
def FX7_batteryAfter_B15   (μ : Me) : Rs Int32 :=
  (thr "java/lang/IllegalArgumentException" μ)
set_option maxHeartbeats 4000000 in
set_option maxRecDepth 100000 in
theorem VX7_batteryAfter_B15 {κ : Cx} {ρ : (Int32 ⊕ String) × Me} (F : Fx κ cX7_batteryAfter RX7) (M : Mx κ (fun r : Int32 => some (.int r)) ρ rmX7_batteryAfter (some .int) [] "batteryAfter") (hNL : κ.2.2.2.2.2.2.2.2.2.2.2.2.2.2 = 4)    (μ : Me) : V κ ρ 1 6 μ (FX7_batteryAfter_B15   μ) 15 [] [] := by
  unfold FX7_batteryAfter_B15
  exact V_throw F M q562 q79 (List.mem_of_getElem? (i := 9) rfl) th_IllegalArgumentException (by decide) dX7_batteryAfter_15 dX7_batteryAfter_18 dX7_batteryAfter_19 dX7_batteryAfter_21 dX7_batteryAfter_24 (by decide) (by decide) (by decide) (by decide)
def FX7_batteryAfter_B38 (k38 : Nat → Int32 → Int32 → Int32 → Me → Rs Int32) (v0 : Nat) (v1 : Int32) (v2 : Int32) (v3 : Int32) (μ : Me) : Rs Int32 :=
  (if v2 ≤ v3 then (gR μ v0 7 1 (fun x13 => (gR μ x13 5 0 (fun x14 => (gR μ x14 3 1 (fun x15 => (aI μ x15 v1 (fun x16 => (rt x16 μ))))))))) else (gR μ v0 7 1 (fun x17 => (bnd (vc μ x17 5 (FX4_tick x17  μ)) (fun x19 μ18 => (k38 v0 v1 v2 (v3 + 1) μ18))))))
set_option maxHeartbeats 4000000 in
set_option maxRecDepth 100000 in
theorem VX7_batteryAfter_B38 {κ : Cx} {ρ : (Int32 ⊕ String) × Me} (F : Fx κ cX7_batteryAfter RX7) (M : Mx κ (fun r : Int32 => some (.int r)) ρ rmX7_batteryAfter (some .int) [] "batteryAfter") (hNL : κ.2.2.2.2.2.2.2.2.2.2.2.2.2.2 = 4) {k38 : Nat → Int32 → Int32 → Int32 → Me → Rs Int32} (hk38 : ∀ (v0 : Nat) (v1 : Int32) (v2 : Int32) (v3 : Int32) (μ : Me), V κ ρ 1 6 μ (k38 v0 v1 v2 v3 μ) 38 [(0, .ref v0), (1, .int v1), (2, .int v2), (3, .int v3)] []) (v0 : Nat) (v1 : Int32) (v2 : Int32) (v3 : Int32) (μ : Me) : V κ ρ 1 6 μ (FX7_batteryAfter_B38 k38 v0 v1 v2 v3 μ) 38 [(0, .ref v0), (1, .int v1), (2, .int v2), (3, .int v3)] [] := by
  unfold FX7_batteryAfter_B38
  refine V_iload_n F dX7_batteryAfter_38 rfl 3 rfl ?_
  refine V_iload_n F dX7_batteryAfter_39 rfl 2 rfl ?_
  refine V_icmp_ge (tgt := 56) F dX7_batteryAfter_40 (by decide) (fun c11 => ?_) (fun c12 => ?_)
  · refine V_aload_n F dX7_batteryAfter_56 rfl 0 rfl ?_
    refine V_gR (ci := 7) (k9 := 1) (C := RX7) (T := TX7) (N := 11) F rfl hinX7 (by decide) q269 dX7_batteryAfter_57 (fun x13 => ?_)
    refine V_gR (ci := 5) (k9 := 0) (C := RX4) (T := TX4) (N := 10) F rfl hinX4 (by decide) q173 dX7_batteryAfter_60 (fun x14 => ?_)
    refine V_gR (ci := 3) (k9 := 1) (C := RX2) (T := TX2) (N := 7) F rfl hinX2 (by decide) q117 dX7_batteryAfter_63 (fun x15 => ?_)
    refine V_iload_n F dX7_batteryAfter_66 rfl 1 rfl ?_
    refine V_aI F dX7_batteryAfter_67 (fun x16 => ?_)
    exact V_iret F M dX7_batteryAfter_68 rfl (by decide) (by decide)
  · refine V_aload_n F dX7_batteryAfter_43 rfl 0 rfl ?_
    refine V_gR (ci := 7) (k9 := 1) (C := RX7) (T := TX7) (N := 11) F rfl hinX7 (by decide) q269 dX7_batteryAfter_44 (fun x17 => ?_)
    refine V_cV (As := []) (rest := []) (C := RX4) (N := 0) F M (metX4_tick (Fx_G F) (Fx_l F) x17  μ) rfl q895 q67 q968 q893 q894 ⟨by decide +kernel, by decide +kernel, by decide +kernel⟩ rfl ⟨by decide, by decide⟩ (Nat.le_of_ble_eq_true rfl) dX7_batteryAfter_47 (by decide) (by decide) (fun x19 μ18 => ?_)
    change V κ ρ 1 6 μ18 _ 50 [(0, .ref v0), (1, .int v1), (2, .int v2), (3, .int v3)] []
    refine V_iinc (lv' := [(3, .int (v3 + 1)), (0, .ref v0), (1, .int v1), (2, .int v2)]) F dX7_batteryAfter_50 3 rfl rfl (lt_L hNL (by decide)) rfl ?_
    refine V_goto (tgt := 38) F dX7_batteryAfter_53 (by decide) ?_
    refine V_sub [1, 2, 3, 0] rfl ?_
    exact hk38 v0 v1 v2 (v3 + 1) μ18
def FX7_batteryAfter_L38  : Nat → Nat → Int32 → Int32 → Int32 → Me → Rs Int32
  | 0, _, _, _, _, _ => none
  | f + 1, v0, v1, v2, v3, μ => FX7_batteryAfter_B38 (FX7_batteryAfter_L38  f) v0 v1 v2 v3 μ
theorem VX7_batteryAfter_L38 {κ : Cx} {ρ : (Int32 ⊕ String) × Me} (F : Fx κ cX7_batteryAfter RX7) (M : Mx κ (fun r : Int32 => some (.int r)) ρ rmX7_batteryAfter (some .int) [] "batteryAfter") (hNL : κ.2.2.2.2.2.2.2.2.2.2.2.2.2.2 = 4)   : ∀ (f : Nat) (v0 : Nat) (v1 : Int32) (v2 : Int32) (v3 : Int32) (μ : Me), V κ ρ 1 6 μ (FX7_batteryAfter_L38  f v0 v1 v2 v3 μ) 38 [(0, .ref v0), (1, .int v1), (2, .int v2), (3, .int v3)] [] := by
  intro f
  induction f with
  | zero => intros; exact V_none
  | succ f ih => intro v0 v1 v2 v3 μ; exact VX7_batteryAfter_B38 F M hNL (fun v0 v1 v2 v3 μ => ih v0 v1 v2 v3 μ) v0 v1 v2 v3 μ
def FX7_batteryAfter (a0 : Nat) (p1 : Int32) (p2 : Int32) (μ : Me) : Rs Int32 :=
  (bnd (vc μ a0 7 (FX7_demandDrone a0 p1 μ)) (fun x2 μ1 => (if p2 < 0 then (FX7_batteryAfter_B15  μ1) else (if p2 ≤ 30 then (gR μ1 a0 7 1 (fun x7 => (gR μ1 a0 7 0 (fun x8 => (bnd (vc μ1 x7 5 (FX4_copyFrom x7 x8 μ1)) (fun x10 μ9 => (FX7_batteryAfter_L38  FU a0 p1 p2 0 μ9))))))) else (FX7_batteryAfter_B15  μ1)))))
set_option maxHeartbeats 4000000 in
set_option maxRecDepth 100000 in
theorem metX7_batteryAfter {l : Launch} {s0 : State} {D : va_G} {aC : Nat → ClassId} (hG : Gl s0 D aC) (hl : l.stackTraces = false) (a0 : Nat) (p1 : Int32) (p2 : Int32) (μ : Me) : Ct l yX7_batteryAfter (ws_ yX7_batteryAfter cX7_batteryAfter 4 (some .int)) rmX7_batteryAfter s0 D aC (fun r : Int32 => some (.int r)) [.ref a0, .int p1, .int p2] μ (FX7_batteryAfter a0 p1 p2 μ) := by
  refine Ct_of hG hl (by decide +kernel) (Nat.le_of_ble_eq_true rfl) (fun κ ρ hNL F M hκ => ?_)
  have F : Fx κ cX7_batteryAfter RX7 := F
  change V κ ρ 0 0 μ (FX7_batteryAfter a0 p1 p2 μ) 0 [(0, .ref a0), (1, .int p1), (2, .int p2)] []
  unfold FX7_batteryAfter
  refine V_aload_n F dX7_batteryAfter_0 rfl 0 rfl ?_
  refine V_iload_n F dX7_batteryAfter_1 rfl 1 rfl ?_
  refine V_cV (As := [.int p1]) (rest := []) (C := RX7) (N := 1) F M (metX7_demandDrone (Fx_G F) (Fx_l F) a0 p1 μ) rfl q689 q66 q686 q688 q6 ⟨by decide +kernel, by decide +kernel, by decide +kernel⟩ rfl ⟨by decide, by decide⟩ (Nat.le_of_ble_eq_true rfl) dX7_batteryAfter_2 (by decide) (by decide) (fun x2 μ1 => ?_)
  change V κ ρ 1 6 μ1 _ 5 [(0, .ref a0), (1, .int p1), (2, .int p2)] []
  refine V_iload_n F dX7_batteryAfter_5 rfl 2 rfl ?_
  refine V_if_lt (tgt := 15) F dX7_batteryAfter_6 (by decide) (fun c3 => ?_) (fun c4 => ?_)
  · refine V_sub [] rfl ?_
    exact VX7_batteryAfter_B15 F M hNL  μ1
  · refine V_iload_n F dX7_batteryAfter_9 rfl 2 rfl ?_
    refine V_bipush (v := 30) F dX7_batteryAfter_10 (by decide) ?_
    refine V_icmp_le (tgt := 25) F dX7_batteryAfter_12 (by decide) (fun c5 => ?_) (fun c6 => ?_)
    · refine V_aload_n F dX7_batteryAfter_25 rfl 0 rfl ?_
      refine V_gR (ci := 7) (k9 := 1) (C := RX7) (T := TX7) (N := 11) F rfl hinX7 (by decide) q269 dX7_batteryAfter_26 (fun x7 => ?_)
      refine V_aload_n F dX7_batteryAfter_29 rfl 0 rfl ?_
      refine V_gR (ci := 7) (k9 := 0) (C := RX7) (T := TX7) (N := 11) F rfl hinX7 (by decide) q268 dX7_batteryAfter_30 (fun x8 => ?_)
      refine V_cV (As := [.ref x8]) (rest := []) (C := RX4) (N := 1) F M (metX4_copyFrom (Fx_G F) (Fx_l F) x7 x8 μ1) rfl q429 q67 q426 q427 q428 ⟨by decide +kernel, by decide +kernel, by decide +kernel⟩ rfl ⟨by decide, by decide⟩ (Nat.le_of_ble_eq_true rfl) dX7_batteryAfter_33 (by decide) (by decide) (fun x10 μ9 => ?_)
      change V κ ρ 1 6 μ9 _ 36 [(0, .ref a0), (1, .int p1), (2, .int p2)] []
      refine V_iconst (v := 0) F dX7_batteryAfter_36 (by decide) ?_
      refine V_istore_n (lv' := [(3, .int 0), (0, .ref a0), (1, .int p1), (2, .int p2)]) F dX7_batteryAfter_37 rfl (lt_L hNL (by decide)) rfl ?_
      refine V_sub [1, 2, 3, 0] rfl ?_
      exact VX7_batteryAfter_L38 F M hNL  FU a0 p1 p2 0 μ9
    · refine V_sub [] rfl ?_
      exact VX7_batteryAfter_B15 F M hNL  μ1
/-! DroneLightShow.cueColour(III)I -/
abbrev rmX7_cueColour : Room := { frames := 8, cells := 1, slots := 6, locals := 142 }
def FX7_cueColour (a0 : Nat) (p1 : Int32) (p2 : Int32) (p3 : Int32) (μ : Me) : Rs Int32 :=
  (gR μ a0 7 1 (fun x1 => (gR μ a0 7 0 (fun x2 => (bnd (vc μ x1 5 (FX4_copyFrom x1 x2 μ)) (fun x4 μ3 => (gR μ3 a0 7 1 (fun x5 => (bnd (vc μ3 x5 5 (FX4_schedule x5 p1 p2 p3 μ3)) (fun x7 μ6 => (bnd (vc μ6 a0 7 (FX7_commit a0 x7 μ6)) (fun x9 μ8 => (rt x9 μ8)))))))))))))
set_option maxHeartbeats 4000000 in
set_option maxRecDepth 100000 in
theorem metX7_cueColour {l : Launch} {s0 : State} {D : va_G} {aC : Nat → ClassId} (hG : Gl s0 D aC) (hl : l.stackTraces = false) (a0 : Nat) (p1 : Int32) (p2 : Int32) (p3 : Int32) (μ : Me) : Ct l yX7_cueColour (ws_ yX7_cueColour cX7_cueColour 4 (some .int)) rmX7_cueColour s0 D aC (fun r : Int32 => some (.int r)) [.ref a0, .int p1, .int p2, .int p3] μ (FX7_cueColour a0 p1 p2 p3 μ) := by
  refine Ct_of hG hl (by decide +kernel) (Nat.le_of_ble_eq_true rfl) (fun κ ρ hNL F M hκ => ?_)
  have F : Fx κ cX7_cueColour RX7 := F
  change V κ ρ 0 0 μ (FX7_cueColour a0 p1 p2 p3 μ) 0 [(0, .ref a0), (1, .int p1), (2, .int p2), (3, .int p3)] []
  unfold FX7_cueColour
  refine V_aload_n F dX7_cueColour_0 rfl 0 rfl ?_
  refine V_gR (ci := 7) (k9 := 1) (C := RX7) (T := TX7) (N := 11) F rfl hinX7 (by decide) q269 dX7_cueColour_1 (fun x1 => ?_)
  refine V_aload_n F dX7_cueColour_4 rfl 0 rfl ?_
  refine V_gR (ci := 7) (k9 := 0) (C := RX7) (T := TX7) (N := 11) F rfl hinX7 (by decide) q268 dX7_cueColour_5 (fun x2 => ?_)
  refine V_cV (As := [.ref x2]) (rest := []) (C := RX4) (N := 1) F M (metX4_copyFrom (Fx_G F) (Fx_l F) x1 x2 μ) rfl q429 q67 q426 q427 q428 ⟨by decide +kernel, by decide +kernel, by decide +kernel⟩ rfl ⟨by decide, by decide⟩ (Nat.le_of_ble_eq_true rfl) dX7_cueColour_8 (by decide) (by decide) (fun x4 μ3 => ?_)
  change V κ ρ 0 0 μ3 _ 11 [(0, .ref a0), (1, .int p1), (2, .int p2), (3, .int p3)] []
  refine V_aload_n F dX7_cueColour_11 rfl 0 rfl ?_
  refine V_aload_n F dX7_cueColour_12 rfl 0 rfl ?_
  refine V_gR (ci := 7) (k9 := 1) (C := RX7) (T := TX7) (N := 11) F rfl hinX7 (by decide) q269 dX7_cueColour_13 (fun x5 => ?_)
  refine V_iload_n F dX7_cueColour_16 rfl 1 rfl ?_
  refine V_iload_n F dX7_cueColour_17 rfl 2 rfl ?_
  refine V_iload_n F dX7_cueColour_18 rfl 3 rfl ?_
  refine V_cV (As := [.int p1, .int p2, .int p3]) (rest := [.ref a0]) (C := RX4) (N := 3) F M (metX4_schedule (Fx_G F) (Fx_l F) x5 p1 p2 p3 μ3) rfl q979 q67 q976 q977 q978 ⟨by decide +kernel, by decide +kernel, by decide +kernel⟩ rfl ⟨by decide, by decide⟩ (Nat.le_of_ble_eq_true rfl) dX7_cueColour_19 (by decide) (by decide) (fun x7 μ6 => ?_)
  change V κ ρ 0 0 μ6 _ 22 [(0, .ref a0), (1, .int p1), (2, .int p2), (3, .int p3)] [.int x7, .ref a0]
  refine V_cV (As := [.int x7]) (rest := []) (C := RX7) (N := 1) F M (metX7_commit (Fx_G F) (Fx_l F) a0 x7 μ6) rfl q545 q66 q542 q544 q5 ⟨by decide +kernel, by decide +kernel, by decide +kernel⟩ rfl ⟨by decide, by decide⟩ (Nat.le_of_ble_eq_true rfl) dX7_cueColour_22 (by decide) (by decide) (fun x9 μ8 => ?_)
  change V κ ρ 1 6 μ8 _ 25 [(0, .ref a0), (1, .int p1), (2, .int p2), (3, .int p3)] [.int x9]
  exact V_iret F M dX7_cueColour_25 rfl (by decide) (by decide)
/-! DroneLightShow.isConsistent()Z -/
abbrev rmX7_isConsistent : Room := { frames := 4, cells := 0, slots := 0, locals := 96 }
def FX7_isConsistent (a0 : Nat) (μ : Me) : Rs Int32 :=
  (gR μ a0 7 0 (fun x1 => (gR μ x1 5 0 (fun x2 => (bnd (vc μ x2 3 (FX2_allCells x2  μ)) (fun x4 μ3 => (bnd (FJ13_bitCount_95d88 x4 μ3) (fun x6 μ5 => (gR μ5 a0 7 0 (fun x7 => (gR μ5 x7 5 0 (fun x8 => (gI μ5 x8 3 6 (fun x9 => (if x6 = x9 then (gR μ5 a0 7 0 (fun x12 => (gR μ5 x12 5 0 (fun x13 => (bnd (vc μ5 x13 3 (FX2_conflictingPairs x13  μ5)) (fun x15 μ14 => (bnd (vc μ14 a0 7 (FX7_pairsByCell a0  μ14)) (fun x17 μ16 => (if x15 = x17 then (bnd (vc μ16 a0 7 (FX7_matchCountsAgree a0  μ16)) (fun x21 μ20 => (if x21 = 0 then (rt 0 μ20) else (bnd (vc μ20 a0 7 (FX7_nearestPadsAgree a0  μ20)) (fun x25 μ24 => (if x25 = 0 then (rt 0 μ24) else (rt 1 μ24))))))) else (rt 0 μ16)))))))))) else (rt 0 μ5))))))))))))))))
set_option maxHeartbeats 4000000 in
set_option maxRecDepth 100000 in
theorem metX7_isConsistent {l : Launch} {s0 : State} {D : va_G} {aC : Nat → ClassId} (hG : Gl s0 D aC) (hl : l.stackTraces = false) (a0 : Nat) (μ : Me) : Ct l yX7_isConsistent (ws_ yX7_isConsistent cX7_isConsistent 1 (some .boolean)) rmX7_isConsistent s0 D aC (fun r : Int32 => some (.int r)) [.ref a0] μ (FX7_isConsistent a0 μ) := by
  refine Ct_of hG hl (by decide +kernel) (Nat.le_of_ble_eq_true rfl) (fun κ ρ hNL F M hκ => ?_)
  have F : Fx κ cX7_isConsistent RX7 := F
  change V κ ρ 0 0 μ (FX7_isConsistent a0 μ) 0 [(0, .ref a0)] []
  unfold FX7_isConsistent
  refine V_aload_n F dX7_isConsistent_0 rfl 0 rfl ?_
  refine V_gR (ci := 7) (k9 := 0) (C := RX7) (T := TX7) (N := 11) F rfl hinX7 (by decide) q268 dX7_isConsistent_1 (fun x1 => ?_)
  refine V_gR (ci := 5) (k9 := 0) (C := RX4) (T := TX4) (N := 10) F rfl hinX4 (by decide) q173 dX7_isConsistent_4 (fun x2 => ?_)
  refine V_cV (As := []) (rest := []) (C := RX2) (N := 0) F M (metX2_allCells (Fx_G F) (Fx_l F) x2  μ) rfl q313 q68 q310 q311 q312 ⟨by decide +kernel, by decide +kernel, by decide +kernel⟩ rfl ⟨by decide, by decide⟩ (Nat.le_of_ble_eq_true rfl) dX7_isConsistent_7 (by decide) (by decide) (fun x4 μ3 => ?_)
  change V κ ρ 0 0 μ3 _ 10 [(0, .ref a0)] [.long x4]
  refine V_cS (As := [.long x4]) (rest := []) (N := 1) F M (metJ13_bitCount_95d88 (Fx_G F) (Fx_l F) x4 μ3) q371 q83 q369 q370 ⟨by decide +kernel, by decide +kernel, by decide +kernel⟩ rfl ⟨by decide, by decide⟩ (Nat.le_of_ble_eq_true rfl) dX7_isConsistent_10 (by decide) (by decide) (fun x6 μ5 => ?_)
  change V κ ρ 0 0 μ5 _ 13 [(0, .ref a0)] [.int x6]
  refine V_aload_n F dX7_isConsistent_13 rfl 0 rfl ?_
  refine V_gR (ci := 7) (k9 := 0) (C := RX7) (T := TX7) (N := 11) F rfl hinX7 (by decide) q268 dX7_isConsistent_14 (fun x7 => ?_)
  refine V_gR (ci := 5) (k9 := 0) (C := RX4) (T := TX4) (N := 10) F rfl hinX4 (by decide) q173 dX7_isConsistent_17 (fun x8 => ?_)
  refine V_gI (ci := 3) (k9 := 6) (C := RX2) (T := TX2) (N := 7) F rfl hinX2 (by decide) q133 dX7_isConsistent_20 (fun x9 => ?_)
  refine V_icmp_ne (tgt := 61) F dX7_isConsistent_23 (by decide) (fun c10 => ?_) (fun c11 => ?_)
  · refine V_iconst (v := 0) F dX7_isConsistent_61 (by decide) ?_
    exact V_zret F M dX7_isConsistent_62 rfl (by decide) (by decide) (by decide)
  · refine V_aload_n F dX7_isConsistent_26 rfl 0 rfl ?_
    refine V_gR (ci := 7) (k9 := 0) (C := RX7) (T := TX7) (N := 11) F rfl hinX7 (by decide) q268 dX7_isConsistent_27 (fun x12 => ?_)
    refine V_gR (ci := 5) (k9 := 0) (C := RX4) (T := TX4) (N := 10) F rfl hinX4 (by decide) q173 dX7_isConsistent_30 (fun x13 => ?_)
    refine V_cV (As := []) (rest := []) (C := RX2) (N := 0) F M (metX2_conflictingPairs (Fx_G F) (Fx_l F) x13  μ5) rfl q325 q68 q322 q323 q324 ⟨by decide +kernel, by decide +kernel, by decide +kernel⟩ rfl ⟨by decide, by decide⟩ (Nat.le_of_ble_eq_true rfl) dX7_isConsistent_33 (by decide) (by decide) (fun x15 μ14 => ?_)
    change V κ ρ 0 0 μ14 _ 36 [(0, .ref a0)] [.int x15]
    refine V_aload_n F dX7_isConsistent_36 rfl 0 rfl ?_
    refine V_cV (As := []) (rest := [.int x15]) (C := RX7) (N := 0) F M (metX7_pairsByCell (Fx_G F) (Fx_l F) a0  μ14) rfl q343 q66 q340 q342 q0 ⟨by decide +kernel, by decide +kernel, by decide +kernel⟩ rfl ⟨by decide, by decide⟩ (Nat.le_of_ble_eq_true rfl) dX7_isConsistent_37 (by decide) (by decide) (fun x17 μ16 => ?_)
    change V κ ρ 0 0 μ16 _ 40 [(0, .ref a0)] [.int x17, .int x15]
    refine V_icmp_ne (tgt := 61) F dX7_isConsistent_40 (by decide) (fun c18 => ?_) (fun c19 => ?_)
    · refine V_iconst (v := 0) F dX7_isConsistent_61 (by decide) ?_
      exact V_zret F M dX7_isConsistent_62 rfl (by decide) (by decide) (by decide)
    · refine V_aload_n F dX7_isConsistent_43 rfl 0 rfl ?_
      refine V_cV (As := []) (rest := []) (C := RX7) (N := 0) F M (metX7_matchCountsAgree (Fx_G F) (Fx_l F) a0  μ16) rfl q378 q66 q375 q377 q1 ⟨by decide +kernel, by decide +kernel, by decide +kernel⟩ rfl ⟨by decide, by decide⟩ (Nat.le_of_ble_eq_true rfl) dX7_isConsistent_44 (by decide) (by decide) (fun x21 μ20 => ?_)
      change V κ ρ 0 0 μ20 _ 47 [(0, .ref a0)] [.int x21]
      refine V_if_eq (tgt := 61) F dX7_isConsistent_47 (by decide) (fun c22 => ?_) (fun c23 => ?_)
      · refine V_iconst (v := 0) F dX7_isConsistent_61 (by decide) ?_
        exact V_zret F M dX7_isConsistent_62 rfl (by decide) (by decide) (by decide)
      · refine V_aload_n F dX7_isConsistent_50 rfl 0 rfl ?_
        refine V_cV (As := []) (rest := []) (C := RX7) (N := 0) F M (metX7_nearestPadsAgree (Fx_G F) (Fx_l F) a0  μ20) rfl q402 q66 q399 q401 q2 ⟨by decide +kernel, by decide +kernel, by decide +kernel⟩ rfl ⟨by decide, by decide⟩ (Nat.le_of_ble_eq_true rfl) dX7_isConsistent_51 (by decide) (by decide) (fun x25 μ24 => ?_)
        change V κ ρ 0 0 μ24 _ 54 [(0, .ref a0)] [.int x25]
        refine V_if_eq (tgt := 61) F dX7_isConsistent_54 (by decide) (fun c26 => ?_) (fun c27 => ?_)
        · refine V_iconst (v := 0) F dX7_isConsistent_61 (by decide) ?_
          exact V_zret F M dX7_isConsistent_62 rfl (by decide) (by decide) (by decide)
        · refine V_iconst (v := 1) F dX7_isConsistent_57 (by decide) ?_
          refine V_goto (tgt := 62) F dX7_isConsistent_58 (by decide) ?_
          exact V_zret F M dX7_isConsistent_62 rfl (by decide) (by decide) (by decide)
/-! DroneLightShow$Scene.pass(I)I -/
abbrev rmX4_pass : Room := { frames := 5, cells := 0, slots := 0, locals := 111 }
def FX4_pass_B21 (k21 : Nat → Int32 → Int32 → Int32 → Me → Rs Int32) (v0 : Nat) (v1 : Int32) (v2 : Int32) (v3 : Int32) (μ : Me) : Rs Int32 :=
  (if v1 ≤ v3 then (gI μ v0 5 6 (fun x8 => (rt (x8 - v2) μ))) else (bnd (vc μ v0 5 (FX4_tick v0  μ)) (fun x10 μ9 => (k21 v0 v1 v2 (v3 + 1) μ9))))
set_option maxHeartbeats 4000000 in
set_option maxRecDepth 100000 in
theorem VX4_pass_B21 {κ : Cx} {ρ : (Int32 ⊕ String) × Me} (F : Fx κ cX4_pass RX4) (M : Mx κ (fun r : Int32 => some (.int r)) ρ rmX4_pass (some .int) [] "pass") (hNL : κ.2.2.2.2.2.2.2.2.2.2.2.2.2.2 = 4) {k21 : Nat → Int32 → Int32 → Int32 → Me → Rs Int32} (hk21 : ∀ (v0 : Nat) (v1 : Int32) (v2 : Int32) (v3 : Int32) (μ : Me), V κ ρ 0 0 μ (k21 v0 v1 v2 v3 μ) 21 [(0, .ref v0), (1, .int v1), (2, .int v2), (3, .int v3)] []) (v0 : Nat) (v1 : Int32) (v2 : Int32) (v3 : Int32) (μ : Me) : V κ ρ 0 0 μ (FX4_pass_B21 k21 v0 v1 v2 v3 μ) 21 [(0, .ref v0), (1, .int v1), (2, .int v2), (3, .int v3)] [] := by
  unfold FX4_pass_B21
  refine V_iload_n F dX4_pass_21 rfl 3 rfl ?_
  refine V_iload_n F dX4_pass_22 rfl 1 rfl ?_
  refine V_icmp_ge (tgt := 36) F dX4_pass_23 (by decide) (fun c6 => ?_) (fun c7 => ?_)
  · refine V_aload_n F dX4_pass_36 rfl 0 rfl ?_
    refine V_gI (ci := 5) (k9 := 6) (C := RX4) (T := TX4) (N := 10) F rfl hinX4 (by decide) q183 dX4_pass_37 (fun x8 => ?_)
    refine V_iload_n F dX4_pass_40 rfl 2 rfl ?_
    refine V_isub F dX4_pass_41 ?_
    exact V_iret F M dX4_pass_42 rfl (by decide) (by decide)
  · refine V_aload_n F dX4_pass_26 rfl 0 rfl ?_
    refine V_cV (As := []) (rest := []) (C := RX4) (N := 0) F M (metX4_tick (Fx_G F) (Fx_l F) v0  μ) rfl q895 q67 q892 q893 q894 ⟨by decide +kernel, by decide +kernel, by decide +kernel⟩ rfl ⟨by decide, by decide⟩ (Nat.le_of_ble_eq_true rfl) dX4_pass_27 (by decide) (by decide) (fun x10 μ9 => ?_)
    change V κ ρ 0 0 μ9 _ 30 [(0, .ref v0), (1, .int v1), (2, .int v2), (3, .int v3)] []
    refine V_iinc (lv' := [(3, .int (v3 + 1)), (0, .ref v0), (1, .int v1), (2, .int v2)]) F dX4_pass_30 3 rfl rfl (lt_L hNL (by decide)) rfl ?_
    refine V_goto (tgt := 21) F dX4_pass_33 (by decide) ?_
    refine V_sub [1, 2, 3, 0] rfl ?_
    exact hk21 v0 v1 v2 (v3 + 1) μ9
def FX4_pass_L21  : Nat → Nat → Int32 → Int32 → Int32 → Me → Rs Int32
  | 0, _, _, _, _, _ => none
  | f + 1, v0, v1, v2, v3, μ => FX4_pass_B21 (FX4_pass_L21  f) v0 v1 v2 v3 μ
theorem VX4_pass_L21 {κ : Cx} {ρ : (Int32 ⊕ String) × Me} (F : Fx κ cX4_pass RX4) (M : Mx κ (fun r : Int32 => some (.int r)) ρ rmX4_pass (some .int) [] "pass") (hNL : κ.2.2.2.2.2.2.2.2.2.2.2.2.2.2 = 4)   : ∀ (f : Nat) (v0 : Nat) (v1 : Int32) (v2 : Int32) (v3 : Int32) (μ : Me), V κ ρ 0 0 μ (FX4_pass_L21  f v0 v1 v2 v3 μ) 21 [(0, .ref v0), (1, .int v1), (2, .int v2), (3, .int v3)] [] := by
  intro f
  induction f with
  | zero => intros; exact V_none
  | succ f ih => intro v0 v1 v2 v3 μ; exact VX4_pass_B21 F M hNL (fun v0 v1 v2 v3 μ => ih v0 v1 v2 v3 μ) v0 v1 v2 v3 μ
def FX4_pass (a0 : Nat) (p1 : Int32) (μ : Me) : Rs Int32 :=
  (if p1 < 1 then (rt (-2) μ) else (if p1 ≤ 30 then (gI μ a0 5 6 (fun x5 => (FX4_pass_L21  FU a0 p1 x5 0 μ))) else (rt (-2) μ)))
set_option maxHeartbeats 4000000 in
set_option maxRecDepth 100000 in
theorem metX4_pass {l : Launch} {s0 : State} {D : va_G} {aC : Nat → ClassId} (hG : Gl s0 D aC) (hl : l.stackTraces = false) (a0 : Nat) (p1 : Int32) (μ : Me) : Ct l yX4_pass (ws_ yX4_pass cX4_pass 4 (some .int)) rmX4_pass s0 D aC (fun r : Int32 => some (.int r)) [.ref a0, .int p1] μ (FX4_pass a0 p1 μ) := by
  refine Ct_of hG hl (by decide +kernel) (Nat.le_of_ble_eq_true rfl) (fun κ ρ hNL F M hκ => ?_)
  have F : Fx κ cX4_pass RX4 := F
  change V κ ρ 0 0 μ (FX4_pass a0 p1 μ) 0 [(0, .ref a0), (1, .int p1)] []
  unfold FX4_pass
  refine V_iload_n F dX4_pass_0 rfl 1 rfl ?_
  refine V_iconst (v := 1) F dX4_pass_1 (by decide) ?_
  refine V_icmp_lt (tgt := 11) F dX4_pass_2 (by decide) (fun c1 => ?_) (fun c2 => ?_)
  · refine V_bipush (v := (-2)) F dX4_pass_11 (by decide) ?_
    exact V_iret F M dX4_pass_13 rfl (by decide) (by decide)
  · refine V_iload_n F dX4_pass_5 rfl 1 rfl ?_
    refine V_bipush (v := 30) F dX4_pass_6 (by decide) ?_
    refine V_icmp_le (tgt := 14) F dX4_pass_8 (by decide) (fun c3 => ?_) (fun c4 => ?_)
    · refine V_aload_n F dX4_pass_14 rfl 0 rfl ?_
      refine V_gI (ci := 5) (k9 := 6) (C := RX4) (T := TX4) (N := 10) F rfl hinX4 (by decide) q183 dX4_pass_15 (fun x5 => ?_)
      refine V_istore_n (lv' := [(2, .int x5), (0, .ref a0), (1, .int p1)]) F dX4_pass_18 rfl (lt_L hNL (by decide)) rfl ?_
      refine V_iconst (v := 0) F dX4_pass_19 (by decide) ?_
      refine V_istore_n (lv' := [(3, .int 0), (2, .int x5), (0, .ref a0), (1, .int p1)]) F dX4_pass_20 rfl (lt_L hNL (by decide)) rfl ?_
      refine V_sub [2, 3, 1, 0] rfl ?_
      exact VX4_pass_L21 F M hNL  FU a0 p1 x5 0 μ
    · refine V_bipush (v := (-2)) F dX4_pass_11 (by decide) ?_
      exact V_iret F M dX4_pass_13 rfl (by decide) (by decide)
/-! DroneLightShow.advance(I)I -/
abbrev rmX7_advance : Room := { frames := 8, cells := 1, slots := 6, locals := 142 }
def FX7_advance (a0 : Nat) (p1 : Int32) (μ : Me) : Rs Int32 :=
  (gR μ a0 7 1 (fun x1 => (gR μ a0 7 0 (fun x2 => (bnd (vc μ x1 5 (FX4_copyFrom x1 x2 μ)) (fun x4 μ3 => (gR μ3 a0 7 1 (fun x5 => (bnd (vc μ3 x5 5 (FX4_pass x5 p1 μ3)) (fun x7 μ6 => (bnd (vc μ6 a0 7 (FX7_commit a0 x7 μ6)) (fun x9 μ8 => (rt x9 μ8)))))))))))))
set_option maxHeartbeats 4000000 in
set_option maxRecDepth 100000 in
theorem metX7_advance {l : Launch} {s0 : State} {D : va_G} {aC : Nat → ClassId} (hG : Gl s0 D aC) (hl : l.stackTraces = false) (a0 : Nat) (p1 : Int32) (μ : Me) : Ct l yX7_advance (ws_ yX7_advance cX7_advance 2 (some .int)) rmX7_advance s0 D aC (fun r : Int32 => some (.int r)) [.ref a0, .int p1] μ (FX7_advance a0 p1 μ) := by
  refine Ct_of hG hl (by decide +kernel) (Nat.le_of_ble_eq_true rfl) (fun κ ρ hNL F M hκ => ?_)
  have F : Fx κ cX7_advance RX7 := F
  change V κ ρ 0 0 μ (FX7_advance a0 p1 μ) 0 [(0, .ref a0), (1, .int p1)] []
  unfold FX7_advance
  refine V_aload_n F dX7_advance_0 rfl 0 rfl ?_
  refine V_gR (ci := 7) (k9 := 1) (C := RX7) (T := TX7) (N := 11) F rfl hinX7 (by decide) q269 dX7_advance_1 (fun x1 => ?_)
  refine V_aload_n F dX7_advance_4 rfl 0 rfl ?_
  refine V_gR (ci := 7) (k9 := 0) (C := RX7) (T := TX7) (N := 11) F rfl hinX7 (by decide) q268 dX7_advance_5 (fun x2 => ?_)
  refine V_cV (As := [.ref x2]) (rest := []) (C := RX4) (N := 1) F M (metX4_copyFrom (Fx_G F) (Fx_l F) x1 x2 μ) rfl q429 q67 q426 q427 q428 ⟨by decide +kernel, by decide +kernel, by decide +kernel⟩ rfl ⟨by decide, by decide⟩ (Nat.le_of_ble_eq_true rfl) dX7_advance_8 (by decide) (by decide) (fun x4 μ3 => ?_)
  change V κ ρ 0 0 μ3 _ 11 [(0, .ref a0), (1, .int p1)] []
  refine V_aload_n F dX7_advance_11 rfl 0 rfl ?_
  refine V_aload_n F dX7_advance_12 rfl 0 rfl ?_
  refine V_gR (ci := 7) (k9 := 1) (C := RX7) (T := TX7) (N := 11) F rfl hinX7 (by decide) q269 dX7_advance_13 (fun x5 => ?_)
  refine V_iload_n F dX7_advance_16 rfl 1 rfl ?_
  refine V_cV (As := [.int p1]) (rest := [.ref a0]) (C := RX4) (N := 1) F M (metX4_pass (Fx_G F) (Fx_l F) x5 p1 μ3) rfl q891 q67 q888 q889 q890 ⟨by decide +kernel, by decide +kernel, by decide +kernel⟩ rfl ⟨by decide, by decide⟩ (Nat.le_of_ble_eq_true rfl) dX7_advance_17 (by decide) (by decide) (fun x7 μ6 => ?_)
  change V κ ρ 0 0 μ6 _ 20 [(0, .ref a0), (1, .int p1)] [.int x7, .ref a0]
  refine V_cV (As := [.int x7]) (rest := []) (C := RX7) (N := 1) F M (metX7_commit (Fx_G F) (Fx_l F) a0 x7 μ6) rfl q545 q66 q542 q544 q5 ⟨by decide +kernel, by decide +kernel, by decide +kernel⟩ rfl ⟨by decide, by decide⟩ (Nat.le_of_ble_eq_true rfl) dX7_advance_20 (by decide) (by decide) (fun x9 μ8 => ?_)
  change V κ ρ 1 6 μ8 _ 23 [(0, .ref a0), (1, .int p1)] [.int x9]
  exact V_iret F M dX7_advance_23 rfl (by decide) (by decide)
/-! DroneLightShow$Scene.carryOut(LDroneLightShow$Verb;[I)I -/
abbrev rmX4_carryOut : Room := { frames := 6, cells := 0, slots := 0, locals := 134 }
def FX4_carryOut (aC : Nat → Nat) (a0 : Nat) (p1 : Nat) (p2 : Nat) (μ : Me) : Rs Int32 :=
  (al μ p2 0 (fun x1 => (if 3 ≤ x1 then (gd (p1 < 11) (gd (inb (nI p1) 11 = true) (if (swm (nI p1).toNatClampNeg).toInt < 1 ∨ 10 < (swm (nI p1).toNatClampNeg).toInt then (aI μ p2 0 (fun x7 => (aI μ p2 1 (fun x8 => (aI μ p2 2 (fun x9 => (bnd (vc μ a0 5 (FX4_schedule a0 x7 x8 x9 μ)) (fun x11 μ10 => (rt x11 μ10))))))))) else (if (swm (nI p1).toNatClampNeg).toInt = 1 then (aI μ p2 0 (fun x14 => (bnd (vc μ a0 5 (FX4_enlist a0 x14 μ)) (fun x16 μ15 => (rt x16 μ15))))) else (if (swm (nI p1).toNatClampNeg).toInt = 2 then (aI μ p2 0 (fun x19 => (bnd (vc μ a0 5 (FX4_markPad a0 x19 μ)) (fun x21 μ20 => (rt x21 μ20))))) else (if (swm (nI p1).toNatClampNeg).toInt = 3 then (aI μ p2 0 (fun x24 => (bnd (vc μ a0 5 (FX4_lift a0 x24 μ)) (fun x26 μ25 => (rt x26 μ25))))) else (if (swm (nI p1).toNatClampNeg).toInt = 4 then (aI μ p2 0 (fun x29 => (bnd (vc μ a0 5 (FX4_setDown a0 x29 μ)) (fun x31 μ30 => (rt x31 μ30))))) else (if (swm (nI p1).toNatClampNeg).toInt = 5 then (aI μ p2 0 (fun x34 => (aI μ p2 1 (fun x35 => (bnd (vc μ a0 5 (FX4_aim a0 x34 x35 μ)) (fun x37 μ36 => (rt x37 μ36))))))) else (if (swm (nI p1).toNatClampNeg).toInt = 6 then (aI μ p2 0 (fun x40 => (bnd (vc μ a0 5 (FX4_changeReserve a0 x40 μ)) (fun x42 μ41 => (rt x42 μ41))))) else (if (swm (nI p1).toNatClampNeg).toInt = 7 then (aI μ p2 0 (fun x45 => (aI μ p2 1 (fun x46 => (bnd (vc μ a0 5 (FX4_extend a0 x45 x46 μ)) (fun x48 μ47 => (rt x48 μ47))))))) else (if (swm (nI p1).toNatClampNeg).toInt = 8 then (aI μ p2 0 (fun x51 => (bnd (vc μ a0 5 (FX4_empty a0 x51 μ)) (fun x53 μ52 => (rt x53 μ52))))) else (if (swm (nI p1).toNatClampNeg).toInt = 9 then (aI μ p2 0 (fun x56 => (bnd (vc μ a0 5 (FX4_distribute a0 x56 μ)) (fun x58 μ57 => (rt x58 μ57))))) else (if (swm (nI p1).toNatClampNeg).toInt = 10 then (aI μ p2 0 (fun x61 => (bnd (vc μ a0 5 (FX4_pass a0 x61 μ)) (fun x63 μ62 => (rt x63 μ62))))) else none))))))))))))) else (rt (-2) μ))))
set_option maxHeartbeats 4000000 in
set_option maxRecDepth 100000 in
theorem metX4_carryOut {l : Launch} {s0 : State} {D : va_G} {aC aC9 : Nat → ClassId} (hG : Gl s0 D aC9) (hl : l.stackTraces = false) (e9 : aC9 = aC) (a0 : Nat) (p1 : Nat) (p2 : Nat) (μ : Me) : Ct l yX4_carryOut (ws_ yX4_carryOut cX4_carryOut 3 (some .int)) rmX4_carryOut s0 D aC9 (fun r : Int32 => some (.int r)) [.ref a0, .ref (aC (110 + p1)), .ref p2] μ (FX4_carryOut aC a0 p1 p2 μ) := by
  refine Ct_of hG hl (by decide +kernel) (Nat.le_of_ble_eq_true rfl) (fun κ ρ hNL F M hκ => ?_)
  have hκ := hκ.trans e9
  have F : Fx κ cX4_carryOut RX4 := F
  change V κ ρ 0 0 μ (FX4_carryOut aC a0 p1 p2 μ) 0 [(0, .ref a0), (1, .ref (aC (110 + p1))), (2, .ref p2)] []
  have SGa := Fx_SGa F hκ _ rfl
  unfold FX4_carryOut
  refine V_aload_n F dX4_carryOut_0 rfl 1 rfl ?_
  refine V_ifnull F dX4_carryOut_1 ?_
  refine V_aload_n F dX4_carryOut_4 rfl 2 rfl ?_
  refine V_ifnull F dX4_carryOut_5 ?_
  refine V_aload_n F dX4_carryOut_8 rfl 2 rfl ?_
  refine V_al (c9 := 0) F (by decide) dX4_carryOut_9 (fun x1 => ?_)
  refine V_iconst (v := 3) F dX4_carryOut_10 (by decide) ?_
  refine V_icmp_ge (tgt := 17) F dX4_carryOut_11 (by decide) (fun c2 => ?_) (fun c3 => ?_)
  · refine V_gst F SGa.2.2.1 q1096 dX4_carryOut_17 ?_
    refine V_aload_n F dX4_carryOut_20 rfl 1 rfl ?_
    refine V_gd (fun g4 => ?_)
    refine V_ord F M hκ g4 q1098 dX4_carryOut_21 (by decide) (Nat.le_of_ble_eq_true rfl) (by decide) (by decide) ?_
    refine V_gd (fun g5 => ?_)
    refine V_ti F SGa.2.2.2.1 g5 dX4_carryOut_24 ?_
    change V κ ρ 0 0 μ _ 25 [(0, .ref a0), (1, .ref (aC (110 + p1))), (2, .ref p2)] [.int (swm (nI p1).toNatClampNeg)]
    refine V_out (tgt := 166) F dX4_carryOut_25 (by decide) ?_ (fun c6 => ?_)
    · refine V_aload_n F dX4_carryOut_166 rfl 0 rfl ?_
      refine V_aload_n F dX4_carryOut_167 rfl 2 rfl ?_
      refine V_iconst (v := 0) F dX4_carryOut_168 (by decide) ?_
      refine V_aI F dX4_carryOut_169 (fun x7 => ?_)
      refine V_aload_n F dX4_carryOut_170 rfl 2 rfl ?_
      refine V_iconst (v := 1) F dX4_carryOut_171 (by decide) ?_
      refine V_aI F dX4_carryOut_172 (fun x8 => ?_)
      refine V_aload_n F dX4_carryOut_173 rfl 2 rfl ?_
      refine V_iconst (v := 2) F dX4_carryOut_174 (by decide) ?_
      refine V_aI F dX4_carryOut_175 (fun x9 => ?_)
      refine V_cV (As := [.int x7, .int x8, .int x9]) (rest := []) (C := RX4) (N := 3) F M (metX4_schedule (Fx_G F) (Fx_l F) a0 x7 x8 x9 μ) rfl q979 q67 q1114 q977 q978 ⟨by decide +kernel, by decide +kernel, by decide +kernel⟩ rfl ⟨by decide, by decide⟩ (Nat.le_of_ble_eq_true rfl) dX4_carryOut_176 (by decide) (by decide) (fun x11 μ10 => ?_)
      change V κ ρ 0 0 μ10 _ 179 [(0, .ref a0), (1, .ref (aC (110 + p1))), (2, .ref p2)] [.int x11]
      exact V_iret F M dX4_carryOut_179 rfl (by decide) (by decide)
    · skip
      refine V_case (z := 1) (tgt := 80) F dX4_carryOut_25 (by decide) rfl (by decide) (fun c12 => ?_) (fun c13 => ?_)
      · refine V_aload_n F dX4_carryOut_80 rfl 0 rfl ?_
        refine V_aload_n F dX4_carryOut_81 rfl 2 rfl ?_
        refine V_iconst (v := 0) F dX4_carryOut_82 (by decide) ?_
        refine V_aI F dX4_carryOut_83 (fun x14 => ?_)
        refine V_cV (As := [.int x14]) (rest := []) (C := RX4) (N := 1) F M (metX4_enlist (Fx_G F) (Fx_l F) a0 x14 μ) rfl q534 q67 q1104 q532 q533 ⟨by decide +kernel, by decide +kernel, by decide +kernel⟩ rfl ⟨by decide, by decide⟩ (Nat.le_of_ble_eq_true rfl) dX4_carryOut_84 (by decide) (by decide) (fun x16 μ15 => ?_)
        change V κ ρ 0 0 μ15 _ 87 [(0, .ref a0), (1, .ref (aC (110 + p1))), (2, .ref p2)] [.int x16]
        exact V_iret F M dX4_carryOut_87 rfl (by decide) (by decide)
      refine V_case (z := 2) (tgt := 88) F dX4_carryOut_25 (by decide) rfl (by decide) (fun c17 => ?_) (fun c18 => ?_)
      · refine V_aload_n F dX4_carryOut_88 rfl 0 rfl ?_
        refine V_aload_n F dX4_carryOut_89 rfl 2 rfl ?_
        refine V_iconst (v := 0) F dX4_carryOut_90 (by decide) ?_
        refine V_aI F dX4_carryOut_91 (fun x19 => ?_)
        refine V_cV (As := [.int x19]) (rest := []) (C := RX4) (N := 1) F M (metX4_markPad (Fx_G F) (Fx_l F) a0 x19 μ) rfl q626 q67 q1105 q624 q625 ⟨by decide +kernel, by decide +kernel, by decide +kernel⟩ rfl ⟨by decide, by decide⟩ (Nat.le_of_ble_eq_true rfl) dX4_carryOut_92 (by decide) (by decide) (fun x21 μ20 => ?_)
        change V κ ρ 0 0 μ20 _ 95 [(0, .ref a0), (1, .ref (aC (110 + p1))), (2, .ref p2)] [.int x21]
        exact V_iret F M dX4_carryOut_95 rfl (by decide) (by decide)
      refine V_case (z := 3) (tgt := 96) F dX4_carryOut_25 (by decide) rfl (by decide) (fun c22 => ?_) (fun c23 => ?_)
      · refine V_aload_n F dX4_carryOut_96 rfl 0 rfl ?_
        refine V_aload_n F dX4_carryOut_97 rfl 2 rfl ?_
        refine V_iconst (v := 0) F dX4_carryOut_98 (by decide) ?_
        refine V_aI F dX4_carryOut_99 (fun x24 => ?_)
        refine V_cV (As := [.int x24]) (rest := []) (C := RX4) (N := 1) F M (metX4_lift (Fx_G F) (Fx_l F) a0 x24 μ) rfl q637 q67 q1106 q635 q636 ⟨by decide +kernel, by decide +kernel, by decide +kernel⟩ rfl ⟨by decide, by decide⟩ (Nat.le_of_ble_eq_true rfl) dX4_carryOut_100 (by decide) (by decide) (fun x26 μ25 => ?_)
        change V κ ρ 0 0 μ25 _ 103 [(0, .ref a0), (1, .ref (aC (110 + p1))), (2, .ref p2)] [.int x26]
        exact V_iret F M dX4_carryOut_103 rfl (by decide) (by decide)
      refine V_case (z := 4) (tgt := 104) F dX4_carryOut_25 (by decide) rfl (by decide) (fun c27 => ?_) (fun c28 => ?_)
      · refine V_aload_n F dX4_carryOut_104 rfl 0 rfl ?_
        refine V_aload_n F dX4_carryOut_105 rfl 2 rfl ?_
        refine V_iconst (v := 0) F dX4_carryOut_106 (by decide) ?_
        refine V_aI F dX4_carryOut_107 (fun x29 => ?_)
        refine V_cV (As := [.int x29]) (rest := []) (C := RX4) (N := 1) F M (metX4_setDown (Fx_G F) (Fx_l F) a0 x29 μ) rfl q656 q67 q1107 q654 q655 ⟨by decide +kernel, by decide +kernel, by decide +kernel⟩ rfl ⟨by decide, by decide⟩ (Nat.le_of_ble_eq_true rfl) dX4_carryOut_108 (by decide) (by decide) (fun x31 μ30 => ?_)
        change V κ ρ 0 0 μ30 _ 111 [(0, .ref a0), (1, .ref (aC (110 + p1))), (2, .ref p2)] [.int x31]
        exact V_iret F M dX4_carryOut_111 rfl (by decide) (by decide)
      refine V_case (z := 5) (tgt := 112) F dX4_carryOut_25 (by decide) rfl (by decide) (fun c32 => ?_) (fun c33 => ?_)
      · refine V_aload_n F dX4_carryOut_112 rfl 0 rfl ?_
        refine V_aload_n F dX4_carryOut_113 rfl 2 rfl ?_
        refine V_iconst (v := 0) F dX4_carryOut_114 (by decide) ?_
        refine V_aI F dX4_carryOut_115 (fun x34 => ?_)
        refine V_aload_n F dX4_carryOut_116 rfl 2 rfl ?_
        refine V_iconst (v := 1) F dX4_carryOut_117 (by decide) ?_
        refine V_aI F dX4_carryOut_118 (fun x35 => ?_)
        refine V_cV (As := [.int x34, .int x35]) (rest := []) (C := RX4) (N := 2) F M (metX4_aim (Fx_G F) (Fx_l F) a0 x34 x35 μ) rfl q667 q67 q1108 q665 q666 ⟨by decide +kernel, by decide +kernel, by decide +kernel⟩ rfl ⟨by decide, by decide⟩ (Nat.le_of_ble_eq_true rfl) dX4_carryOut_119 (by decide) (by decide) (fun x37 μ36 => ?_)
        change V κ ρ 0 0 μ36 _ 122 [(0, .ref a0), (1, .ref (aC (110 + p1))), (2, .ref p2)] [.int x37]
        exact V_iret F M dX4_carryOut_122 rfl (by decide) (by decide)
      refine V_case (z := 6) (tgt := 123) F dX4_carryOut_25 (by decide) rfl (by decide) (fun c38 => ?_) (fun c39 => ?_)
      · refine V_aload_n F dX4_carryOut_123 rfl 0 rfl ?_
        refine V_aload_n F dX4_carryOut_124 rfl 2 rfl ?_
        refine V_iconst (v := 0) F dX4_carryOut_125 (by decide) ?_
        refine V_aI F dX4_carryOut_126 (fun x40 => ?_)
        refine V_cV (As := [.int x40]) (rest := []) (C := RX4) (N := 1) F M (metX4_changeReserve (Fx_G F) (Fx_l F) a0 x40 μ) rfl q678 q67 q1109 q676 q677 ⟨by decide +kernel, by decide +kernel, by decide +kernel⟩ rfl ⟨by decide, by decide⟩ (Nat.le_of_ble_eq_true rfl) dX4_carryOut_127 (by decide) (by decide) (fun x42 μ41 => ?_)
        change V κ ρ 0 0 μ41 _ 130 [(0, .ref a0), (1, .ref (aC (110 + p1))), (2, .ref p2)] [.int x42]
        exact V_iret F M dX4_carryOut_130 rfl (by decide) (by decide)
      refine V_case (z := 7) (tgt := 131) F dX4_carryOut_25 (by decide) rfl (by decide) (fun c43 => ?_) (fun c44 => ?_)
      · refine V_aload_n F dX4_carryOut_131 rfl 0 rfl ?_
        refine V_aload_n F dX4_carryOut_132 rfl 2 rfl ?_
        refine V_iconst (v := 0) F dX4_carryOut_133 (by decide) ?_
        refine V_aI F dX4_carryOut_134 (fun x45 => ?_)
        refine V_aload_n F dX4_carryOut_135 rfl 2 rfl ?_
        refine V_iconst (v := 1) F dX4_carryOut_136 (by decide) ?_
        refine V_aI F dX4_carryOut_137 (fun x46 => ?_)
        refine V_cV (As := [.int x45, .int x46]) (rest := []) (C := RX4) (N := 2) F M (metX4_extend (Fx_G F) (Fx_l F) a0 x45 x46 μ) rfl q792 q67 q1110 q790 q791 ⟨by decide +kernel, by decide +kernel, by decide +kernel⟩ rfl ⟨by decide, by decide⟩ (Nat.le_of_ble_eq_true rfl) dX4_carryOut_138 (by decide) (by decide) (fun x48 μ47 => ?_)
        change V κ ρ 0 0 μ47 _ 141 [(0, .ref a0), (1, .ref (aC (110 + p1))), (2, .ref p2)] [.int x48]
        exact V_iret F M dX4_carryOut_141 rfl (by decide) (by decide)
      refine V_case (z := 8) (tgt := 142) F dX4_carryOut_25 (by decide) rfl (by decide) (fun c49 => ?_) (fun c50 => ?_)
      · refine V_aload_n F dX4_carryOut_142 rfl 0 rfl ?_
        refine V_aload_n F dX4_carryOut_143 rfl 2 rfl ?_
        refine V_iconst (v := 0) F dX4_carryOut_144 (by decide) ?_
        refine V_aI F dX4_carryOut_145 (fun x51 => ?_)
        refine V_cV (As := [.int x51]) (rest := []) (C := RX4) (N := 1) F M (metX4_empty (Fx_G F) (Fx_l F) a0 x51 μ) rfl q806 q67 q1111 q804 q805 ⟨by decide +kernel, by decide +kernel, by decide +kernel⟩ rfl ⟨by decide, by decide⟩ (Nat.le_of_ble_eq_true rfl) dX4_carryOut_146 (by decide) (by decide) (fun x53 μ52 => ?_)
        change V κ ρ 0 0 μ52 _ 149 [(0, .ref a0), (1, .ref (aC (110 + p1))), (2, .ref p2)] [.int x53]
        exact V_iret F M dX4_carryOut_149 rfl (by decide) (by decide)
      refine V_case (z := 9) (tgt := 150) F dX4_carryOut_25 (by decide) rfl (by decide) (fun c54 => ?_) (fun c55 => ?_)
      · refine V_aload_n F dX4_carryOut_150 rfl 0 rfl ?_
        refine V_aload_n F dX4_carryOut_151 rfl 2 rfl ?_
        refine V_iconst (v := 0) F dX4_carryOut_152 (by decide) ?_
        refine V_aI F dX4_carryOut_153 (fun x56 => ?_)
        refine V_cV (As := [.int x56]) (rest := []) (C := RX4) (N := 1) F M (metX4_distribute (Fx_G F) (Fx_l F) a0 x56 μ) rfl q817 q67 q1112 q815 q816 ⟨by decide +kernel, by decide +kernel, by decide +kernel⟩ rfl ⟨by decide, by decide⟩ (Nat.le_of_ble_eq_true rfl) dX4_carryOut_154 (by decide) (by decide) (fun x58 μ57 => ?_)
        change V κ ρ 0 0 μ57 _ 157 [(0, .ref a0), (1, .ref (aC (110 + p1))), (2, .ref p2)] [.int x58]
        exact V_iret F M dX4_carryOut_157 rfl (by decide) (by decide)
      refine V_case (z := 10) (tgt := 158) F dX4_carryOut_25 (by decide) rfl (by decide) (fun c59 => ?_) (fun c60 => ?_)
      · refine V_aload_n F dX4_carryOut_158 rfl 0 rfl ?_
        refine V_aload_n F dX4_carryOut_159 rfl 2 rfl ?_
        refine V_iconst (v := 0) F dX4_carryOut_160 (by decide) ?_
        refine V_aI F dX4_carryOut_161 (fun x61 => ?_)
        refine V_cV (As := [.int x61]) (rest := []) (C := RX4) (N := 1) F M (metX4_pass (Fx_G F) (Fx_l F) a0 x61 μ) rfl q891 q67 q1113 q889 q890 ⟨by decide +kernel, by decide +kernel, by decide +kernel⟩ rfl ⟨by decide, by decide⟩ (Nat.le_of_ble_eq_true rfl) dX4_carryOut_162 (by decide) (by decide) (fun x63 μ62 => ?_)
        change V κ ρ 0 0 μ62 _ 165 [(0, .ref a0), (1, .ref (aC (110 + p1))), (2, .ref p2)] [.int x63]
        exact V_iret F M dX4_carryOut_165 rfl (by decide) (by decide)
      exact V_none
  · refine V_bipush (v := (-2)) F dX4_carryOut_14 (by decide) ?_
    exact V_iret F M dX4_carryOut_16 rfl (by decide) (by decide)
/-! DroneLightShow.run()I -/
abbrev rmX7_run : Room := { frames := 8, cells := 1, slots := 6, locals := 176 }
def FX7_run_B54 (aC : Nat → Nat) (k54 : Nat → Int32 → Me → Rs Int32) (v0 : Nat) (v2 : Int32) (μ : Me) : Rs Int32 :=
  (gR μ v0 7 5 (fun x12 => (gI μ x12 6 4 (fun x13 => (if x13 ≤ v2 then (gR μ v0 7 5 (fun x16 => (gI μ x16 6 4 (fun x17 => (bnd (vc μ v0 7 (FX7_commit v0 x17 μ)) (fun x19 μ18 => (rt x19 μ18))))))) else (gR μ v0 7 1 (fun x20 => (gR μ v0 7 5 (fun x21 => (gR μ x21 6 2 (fun x22 => (aW aC μ x22 v2 (fun x23 => (gR μ v0 7 5 (fun x24 => (gR μ x24 6 3 (fun x25 => (aR μ 7 x25 v2 (fun x26 => (bnd (vc μ x20 5 (FX4_carryOut aC x20 x23 x26 μ)) (fun x28 μ27 => (if 0 ≤ x28 then (k54 v0 (v2 + 1) μ27) else (pf μ27 v0 7 7 (.int v2) (fun μ31 => (thr "java/lang/IllegalStateException" μ31)))))))))))))))))))))))))
set_option maxHeartbeats 4000000 in
set_option maxRecDepth 100000 in
theorem VX7_run_B54 {aC : Nat → Nat} {κ : Cx} {ρ : (Int32 ⊕ String) × Me} (F : Fx κ cX7_run RX7) (M : Mx κ (fun r : Int32 => some (.int r)) ρ rmX7_run (some .int) [] "run") (hNL : κ.2.2.2.2.2.2.2.2.2.2.2.2.2.2 = 3) (hκ : κ.2.2.2.2.2.2.2.2.2.2.2.2.2.1 = aC) {k54 : Nat → Int32 → Me → Rs Int32} (hk54 : ∀ (v0 : Nat) (v2 : Int32) (μ : Me), V κ ρ 0 0 μ (k54 v0 v2 μ) 54 [(0, .ref v0), (2, .int v2)] []) (v0 : Nat) (v2 : Int32) (μ : Me) : V κ ρ 0 0 μ (FX7_run_B54 aC k54 v0 v2 μ) 54 [(0, .ref v0), (2, .int v2)] [] := by
  have SGa := Fx_SGa F hκ _ rfl
  unfold FX7_run_B54
  refine V_iload_n F dX7_run_54 rfl 1 rfl ?_
  refine V_aload_n F dX7_run_55 rfl 0 rfl ?_
  refine V_gR (ci := 7) (k9 := 5) (C := RX7) (T := TX7) (N := 11) F rfl hinX7 (by decide) q273 dX7_run_56 (fun x12 => ?_)
  refine V_gI (ci := 6) (k9 := 4) (C := RX5) (T := TX5) (N := 6) F rfl hinX5 (by decide) q251 dX7_run_59 (fun x13 => ?_)
  refine V_icmp_ge (tgt := 115) F dX7_run_62 (by decide) (fun c14 => ?_) (fun c15 => ?_)
  · refine V_aload_n F dX7_run_115 rfl 0 rfl ?_
    refine V_aload_n F dX7_run_116 rfl 0 rfl ?_
    refine V_gR (ci := 7) (k9 := 5) (C := RX7) (T := TX7) (N := 11) F rfl hinX7 (by decide) q273 dX7_run_117 (fun x16 => ?_)
    refine V_gI (ci := 6) (k9 := 4) (C := RX5) (T := TX5) (N := 6) F rfl hinX5 (by decide) q251 dX7_run_120 (fun x17 => ?_)
    refine V_cV (As := [.int x17]) (rest := []) (C := RX7) (N := 1) F M (metX7_commit (Fx_G F) (Fx_l F) v0 x17 μ) rfl q545 q66 q542 q544 q5 ⟨by decide +kernel, by decide +kernel, by decide +kernel⟩ rfl ⟨by decide, by decide⟩ (Nat.le_of_ble_eq_true rfl) dX7_run_123 (by decide) (by decide) (fun x19 μ18 => ?_)
    change V κ ρ 1 6 μ18 _ 126 [(0, .ref v0), (2, .int v2)] [.int x19]
    exact V_iret F M dX7_run_126 rfl (by decide) (by decide)
  · refine V_aload_n F dX7_run_65 rfl 0 rfl ?_
    refine V_gR (ci := 7) (k9 := 1) (C := RX7) (T := TX7) (N := 11) F rfl hinX7 (by decide) q269 dX7_run_66 (fun x20 => ?_)
    refine V_aload_n F dX7_run_69 rfl 0 rfl ?_
    refine V_gR (ci := 7) (k9 := 5) (C := RX7) (T := TX7) (N := 11) F rfl hinX7 (by decide) q273 dX7_run_70 (fun x21 => ?_)
    refine V_gR (ci := 6) (k9 := 2) (C := RX5) (T := TX5) (N := 6) F rfl hinX5 (by decide) q247 dX7_run_73 (fun x22 => ?_)
    refine V_iload_n F dX7_run_76 rfl 1 rfl ?_
    refine V_aW (aC := aC) F dX7_run_77 (fun x23 => ?_)
    refine V_aload_n F dX7_run_78 rfl 0 rfl ?_
    refine V_gR (ci := 7) (k9 := 5) (C := RX7) (T := TX7) (N := 11) F rfl hinX7 (by decide) q273 dX7_run_79 (fun x24 => ?_)
    refine V_gR (ci := 6) (k9 := 3) (C := RX5) (T := TX5) (N := 6) F rfl hinX5 (by decide) q249 dX7_run_82 (fun x25 => ?_)
    refine V_iload_n F dX7_run_85 rfl 1 rfl ?_
    refine V_aR F (by decide) dX7_run_86 (fun x26 => ?_)
    refine V_cV (As := [.ref (aC (110 + x23)), .ref x26]) (rest := []) (C := RX4) (N := 2) F M (metX4_carryOut (Fx_G F) (Fx_l F) hκ x20 x23 x26 μ) rfl q1095 q67 q1092 q1093 q1094 ⟨by decide +kernel, by decide +kernel, by decide +kernel⟩ rfl ⟨by decide, by decide⟩ (Nat.le_of_ble_eq_true rfl) dX7_run_87 (by decide) (by decide) (fun x28 μ27 => ?_)
    change V κ ρ 0 0 μ27 _ 90 [(0, .ref v0), (2, .int v2)] [.int x28]
    refine V_if_ge (tgt := 109) F dX7_run_90 (by decide) (fun c29 => ?_) (fun c30 => ?_)
    · refine V_iinc (lv' := [(2, .int (v2 + 1)), (0, .ref v0)]) F dX7_run_109 1 rfl rfl (lt_L hNL (by decide)) rfl ?_
      refine V_goto (tgt := 54) F dX7_run_112 (by decide) ?_
      refine V_sub [1, 0] rfl ?_
      exact hk54 v0 (v2 + 1) μ27
    · refine V_aload_n F dX7_run_93 rfl 0 rfl ?_
      refine V_iload_n F dX7_run_94 rfl 1 rfl ?_
      refine V_pf (ci := 7) (k9 := 7) (C := RX7) (T := TX7) (N := 11) (ty := tyX7) F rfl hinX7 tyX7_ok nmX7 (by decide) q275 rfl rfl rfl dX7_run_95 (fun μ31 => ?_)
      exact V_throwW F M q578 q80 (List.mem_of_getElem? (i := 13) rfl) th_IllegalStateException (by decide) dX7_run_98 dX7_run_101 dX7_run_102 dX7_run_105 dX7_run_108 (by decide) (by decide) (by decide) (by decide)
def FX7_run_L54 (aC : Nat → Nat)  : Nat → Nat → Int32 → Me → Rs Int32
  | 0, _, _, _ => none
  | f + 1, v0, v2, μ => FX7_run_B54 aC (FX7_run_L54 aC  f) v0 v2 μ
theorem VX7_run_L54 {aC : Nat → Nat} {κ : Cx} {ρ : (Int32 ⊕ String) × Me} (F : Fx κ cX7_run RX7) (M : Mx κ (fun r : Int32 => some (.int r)) ρ rmX7_run (some .int) [] "run") (hNL : κ.2.2.2.2.2.2.2.2.2.2.2.2.2.2 = 3) (hκ : κ.2.2.2.2.2.2.2.2.2.2.2.2.2.1 = aC)   : ∀ (f : Nat) (v0 : Nat) (v2 : Int32) (μ : Me), V κ ρ 0 0 μ (FX7_run_L54 aC  f v0 v2 μ) 54 [(0, .ref v0), (2, .int v2)] [] := by
  intro f
  induction f with
  | zero => intros; exact V_none
  | succ f ih => intro v0 v2 μ; exact VX7_run_B54 F M hNL hκ (fun v0 v2 μ => ih v0 v2 μ) v0 v2 μ
def FX7_run (aC : Nat → Nat) (a0 : Nat) (μ : Me) : Rs Int32 :=
  (gR μ a0 7 5 (fun x1 => (bnd (vc μ x1 6 (FX5_parse aC x1  μ)) (fun x3 μ2 => (gR μ2 a0 7 5 (fun x4 => (pf μ2 x4 6 1 (.int 0) (fun μ5 => (if x3 = 0 then (gR μ5 a0 7 5 (fun x32 => (gI μ5 x32 6 5 (fun x33 => (pf μ5 a0 7 6 (.int x33) (fun μ34 => (thr "java/lang/IllegalArgumentException" μ34))))))) else (gR μ5 a0 7 1 (fun x8 => (gR μ5 a0 7 0 (fun x9 => (bnd (vc μ5 x8 5 (FX4_copyFrom x8 x9 μ5)) (fun x11 μ10 => (FX7_run_L54 aC  FU a0 0 μ10))))))))))))))))
set_option maxHeartbeats 4000000 in
set_option maxRecDepth 100000 in
theorem metX7_run {l : Launch} {s0 : State} {D : va_G} {aC aC9 : Nat → ClassId} (hG : Gl s0 D aC9) (hl : l.stackTraces = false) (e9 : aC9 = aC) (a0 : Nat) (μ : Me) : Ct l yX7_run (ws_ yX7_run cX7_run 3 (some .int)) rmX7_run s0 D aC9 (fun r : Int32 => some (.int r)) [.ref a0] μ (FX7_run aC a0 μ) := by
  refine Ct_of hG hl (by decide +kernel) (Nat.le_of_ble_eq_true rfl) (fun κ ρ hNL F M hκ => ?_)
  have hκ := hκ.trans e9
  have F : Fx κ cX7_run RX7 := F
  change V κ ρ 0 0 μ (FX7_run aC a0 μ) 0 [(0, .ref a0)] []
  have SGa := Fx_SGa F hκ _ rfl
  unfold FX7_run
  refine V_aload_n F dX7_run_0 rfl 0 rfl ?_
  refine V_gR (ci := 7) (k9 := 5) (C := RX7) (T := TX7) (N := 11) F rfl hinX7 (by decide) q273 dX7_run_1 (fun x1 => ?_)
  refine V_cV (As := []) (rest := []) (C := RX5) (N := 0) F M (metX5_parse (Fx_G F) (Fx_l F) hκ x1  μ) rfl q1015 q71 q1012 q1013 q1014 ⟨by decide +kernel, by decide +kernel, by decide +kernel⟩ rfl ⟨by decide, by decide⟩ (Nat.le_of_ble_eq_true rfl) dX7_run_4 (by decide) (by decide) (fun x3 μ2 => ?_)
  change V κ ρ 0 0 μ2 _ 7 [(0, .ref a0)] [.int x3]
  refine V_istore_n (lv' := [(1, .int x3), (0, .ref a0)]) F dX7_run_7 rfl (lt_L hNL (by decide)) rfl ?_
  refine V_aload_n F dX7_run_8 rfl 1 rfl ?_
  refine V_gR (ci := 7) (k9 := 5) (C := RX7) (T := TX7) (N := 11) F rfl hinX7 (by decide) q273 dX7_run_9 (fun x4 => ?_)
  refine V_iconst (v := 0) F dX7_run_12 (by decide) ?_
  refine V_pf (ci := 6) (k9 := 1) (C := RX5) (T := TX5) (N := 6) (ty := tyX5) F rfl hinX5 tyX5_ok nmX5 (by decide) q245 rfl rfl rfl dX7_run_13 (fun μ5 => ?_)
  refine V_iload_n F dX7_run_16 rfl 0 rfl ?_
  refine V_if_ne (tgt := 41) F dX7_run_17 (by decide) (fun c6 => ?_) (fun c7 => ?_)
  · refine V_aload_n F dX7_run_41 rfl 1 rfl ?_
    refine V_gR (ci := 7) (k9 := 1) (C := RX7) (T := TX7) (N := 11) F rfl hinX7 (by decide) q269 dX7_run_42 (fun x8 => ?_)
    refine V_aload_n F dX7_run_45 rfl 1 rfl ?_
    refine V_gR (ci := 7) (k9 := 0) (C := RX7) (T := TX7) (N := 11) F rfl hinX7 (by decide) q268 dX7_run_46 (fun x9 => ?_)
    refine V_cV (As := [.ref x9]) (rest := []) (C := RX4) (N := 1) F M (metX4_copyFrom (Fx_G F) (Fx_l F) x8 x9 μ5) rfl q429 q67 q426 q427 q428 ⟨by decide +kernel, by decide +kernel, by decide +kernel⟩ rfl ⟨by decide, by decide⟩ (Nat.le_of_ble_eq_true rfl) dX7_run_49 (by decide) (by decide) (fun x11 μ10 => ?_)
    change V κ ρ 0 0 μ10 _ 52 [(1, .int x3), (0, .ref a0)] []
    refine V_iconst (v := 0) F dX7_run_52 (by decide) ?_
    refine V_istore_n (lv' := [(2, .int 0), (1, .int x3), (0, .ref a0)]) F dX7_run_53 rfl (lt_L hNL (by decide)) rfl ?_
    refine V_sub [2, 0] rfl ?_
    exact VX7_run_L54 F M hNL hκ  FU a0 0 μ10
  · refine V_aload_n F dX7_run_20 rfl 1 rfl ?_
    refine V_aload_n F dX7_run_21 rfl 1 rfl ?_
    refine V_gR (ci := 7) (k9 := 5) (C := RX7) (T := TX7) (N := 11) F rfl hinX7 (by decide) q273 dX7_run_22 (fun x32 => ?_)
    refine V_gI (ci := 6) (k9 := 5) (C := RX5) (T := TX5) (N := 6) F rfl hinX5 (by decide) q253 dX7_run_25 (fun x33 => ?_)
    refine V_pf (ci := 7) (k9 := 6) (C := RX7) (T := TX7) (N := 11) (ty := tyX7) F rfl hinX7 tyX7_ok nmX7 (by decide) q274 rfl rfl rfl dX7_run_28 (fun μ34 => ?_)
    exact V_throw F M q562 q79 (List.mem_of_getElem? (i := 12) rfl) th_IllegalArgumentException (by decide) dX7_run_31 dX7_run_34 dX7_run_35 dX7_run_37 dX7_run_40 (by decide) (by decide) (by decide) (by decide)
