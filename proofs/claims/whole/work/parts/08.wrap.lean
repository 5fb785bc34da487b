/-! DroneLightShowLaw.append(LDroneLightShow;C[J)I -/
abbrev rmL_append : Room := { frames := 7, cells := 1, slots := 6, locals := 121 }
def FL_append (p1 : Nat) (p2 : Int32) (p3 : Nat) (μ : Me) : Rs Int32 :=
  (bndc (vc μ p1 7 (FX7_append p1 p2 μ)) (fun x2 μ1 => (sJ μ1 p3 0 ((x2 : Int32).toInt64) (fun μ3 => (rt 0 μ3)))) (fun E μ1 => (if E = "java/lang/IllegalArgumentException" then (rt 1 μ1) else (if E = "java/lang/IllegalStateException" then (rt 2 μ1) else none))))
set_option maxHeartbeats 4000000 in
set_option maxRecDepth 100000 in
theorem metL_append {l : Launch} {s0 : State} {D : va_G} {aC : Nat → ClassId} (hG : Gl s0 D aC) (hl : l.stackTraces = false) (p1 : Nat) (p2 : Int32) (p3 : Nat) (μ : Me) : Ct l yL_append (wsH_ yL_append cL_append 4 (some .int) [(0, 9, 12, 22), (0, 9, 15, 15)]) rmL_append s0 D aC (fun r : Int32 => some (.int r)) [.ref p1, .int p2, .ref p3] μ (FL_append p1 p2 p3 μ) := by
  refine Ct_ofH hG hl (by decide +kernel) (Nat.le_of_ble_eq_true rfl) (fun κ ρ hNL F M hκ => ?_)
  have F : Fx κ cL_append RL := F
  change V κ ρ 0 0 μ (FL_append p1 p2 p3 μ) 0 [(0, .ref p1), (1, .int p2), (2, .ref p3)] []
  unfold FL_append
  refine V_aload_n F dL_append_0 rfl 2 rfl ?_
  refine V_iconst (v := 0) F dL_append_1 (by decide) ?_
  refine V_aload_n F dL_append_2 rfl 0 rfl ?_
  refine V_iload_n F dL_append_3 rfl 1 rfl ?_
  refine V_cVc (As := [.int p2]) (rest := [.int 0, .ref p3]) (C := RX7) (N := 1) F M (metX7_append (Fx_G F) (Fx_l F) p1 p2 μ) rfl q998 q66 q995 q996 q997 ⟨by decide +kernel, by decide +kernel, by decide +kernel⟩ rfl ⟨by decide, by decide⟩ (Nat.le_of_ble_eq_true rfl) dL_append_4 (by decide) (by decide) (fun x2 μ1 => ?_) (fun E μ1 => ?_)
  · change V κ ρ 1 6 μ1 _ 7 [(0, .ref p1), (1, .int p2), (2, .ref p3)] [.int x2, .int 0, .ref p3]
    refine V_i2l F dL_append_7 ?_
    refine V_sJ F dL_append_8 (fun μ3 => ?_)
    refine V_goto (tgt := 18) F dL_append_9 (by decide) ?_
    refine V_iconst (v := 0) F dL_append_18 (by decide) ?_
    exact V_iret F M dL_append_19 rfl (by decide) (by decide)
  · refine VX_if (E0 := "java/lang/IllegalArgumentException") (fun hE => ?_) ?_
    · subst hE
      refine VX_catch F M [] [⟨0, 9, 15, 15⟩] ⟨0, 9, 12, 22⟩ rfl (by decide) (fun z hz => nomatch hz) (by decide) (by decide) q618 q564 (fun q4 => ?_)
      change V κ ρ 1 6 μ1 _ 12 [(0, .ref p1), (1, .int p2), (2, .ref p3)] [.ref q4]
      refine V_astore_n (lv' := [(3, .ref q4), (0, .ref p1), (1, .int p2), (2, .ref p3)]) F dL_append_12 rfl (lt_L hNL (by decide)) rfl ?_
      refine V_iconst (v := 1) F dL_append_13 (by decide) ?_
      exact V_iret F M dL_append_14 rfl (by decide) (by decide)
    refine VX_if (E0 := "java/lang/IllegalStateException") (fun hE => ?_) ?_
    · subst hE
      refine VX_catch F M [⟨0, 9, 12, 22⟩] [] ⟨0, 9, 15, 15⟩ rfl (by decide) (List.forall_mem_cons.mpr ⟨⟨by decide, "java/lang/IllegalArgumentException", by decide, by decide, q618⟩, fun z hz => nomatch hz⟩) (by decide) (by decide) q525 q580 (fun q5 => ?_)
      change V κ ρ 1 6 μ1 _ 15 [(0, .ref p1), (1, .int p2), (2, .ref p3)] [.ref q5]
      refine V_astore_n (lv' := [(3, .ref q5), (0, .ref p1), (1, .int p2), (2, .ref p3)]) F dL_append_15 rfl (lt_L hNL (by decide)) rfl ?_
      refine V_iconst (v := 2) F dL_append_16 (by decide) ?_
      exact V_iret F M dL_append_17 rfl (by decide) (by decide)
    exact VX_none
/-! DroneLightShowLaw.lineAt(LDroneLightShow;I[J)I -/
abbrev rmL_lineAt : Room := { frames := 7, cells := 1, slots := 6, locals := 121 }
def FL_lineAt (p1 : Nat) (p2 : Int32) (p3 : Nat) (μ : Me) : Rs Int32 :=
  (bndc (vc μ p1 7 (FX7_lineAt p1 p2 μ)) (fun x2 μ1 => (sJ μ1 p3 0 ((x2 : Int32).toInt64) (fun μ3 => (rt 0 μ3)))) (fun E μ1 => (if E = "java/lang/IndexOutOfBoundsException" then (rt 1 μ1) else none)))
set_option maxHeartbeats 4000000 in
set_option maxRecDepth 100000 in
theorem metL_lineAt {l : Launch} {s0 : State} {D : va_G} {aC : Nat → ClassId} (hG : Gl s0 D aC) (hl : l.stackTraces = false) (p1 : Nat) (p2 : Int32) (p3 : Nat) (μ : Me) : Ct l yL_lineAt (wsH_ yL_lineAt cL_lineAt 4 (some .int) [(0, 9, 12, 13)]) rmL_lineAt s0 D aC (fun r : Int32 => some (.int r)) [.ref p1, .int p2, .ref p3] μ (FL_lineAt p1 p2 p3 μ) := by
  refine Ct_ofH hG hl (by decide +kernel) (Nat.le_of_ble_eq_true rfl) (fun κ ρ hNL F M hκ => ?_)
  have F : Fx κ cL_lineAt RL := F
  change V κ ρ 0 0 μ (FL_lineAt p1 p2 p3 μ) 0 [(0, .ref p1), (1, .int p2), (2, .ref p3)] []
  unfold FL_lineAt
  refine V_aload_n F dL_lineAt_0 rfl 2 rfl ?_
  refine V_iconst (v := 0) F dL_lineAt_1 (by decide) ?_
  refine V_aload_n F dL_lineAt_2 rfl 0 rfl ?_
  refine V_iload_n F dL_lineAt_3 rfl 1 rfl ?_
  refine V_cVc (As := [.int p2]) (rest := [.int 0, .ref p3]) (C := RX7) (N := 1) F M (metX7_lineAt (Fx_G F) (Fx_l F) p1 p2 μ) rfl q1148 q66 q1145 q1146 q1147 ⟨by decide +kernel, by decide +kernel, by decide +kernel⟩ rfl ⟨by decide, by decide⟩ (Nat.le_of_ble_eq_true rfl) dL_lineAt_4 (by decide) (by decide) (fun x2 μ1 => ?_) (fun E μ1 => ?_)
  · change V κ ρ 1 6 μ1 _ 7 [(0, .ref p1), (1, .int p2), (2, .ref p3)] [.int x2, .int 0, .ref p3]
    refine V_i2l F dL_lineAt_7 ?_
    refine V_sJ F dL_lineAt_8 (fun μ3 => ?_)
    refine V_goto (tgt := 15) F dL_lineAt_9 (by decide) ?_
    refine V_iconst (v := 0) F dL_lineAt_15 (by decide) ?_
    exact V_iret F M dL_lineAt_16 rfl (by decide) (by decide)
  · refine VX_if (E0 := "java/lang/IndexOutOfBoundsException") (fun hE => ?_) ?_
    · subst hE
      refine VX_catch F M [] [] ⟨0, 9, 12, 13⟩ rfl (by decide) (fun z hz => nomatch hz) (by decide) (by decide) q445 q551 (fun q4 => ?_)
      change V κ ρ 1 6 μ1 _ 12 [(0, .ref p1), (1, .int p2), (2, .ref p3)] [.ref q4]
      refine V_astore_n (lv' := [(3, .ref q4), (0, .ref p1), (1, .int p2), (2, .ref p3)]) F dL_lineAt_12 rfl (lt_L hNL (by decide)) rfl ?_
      refine V_iconst (v := 1) F dL_lineAt_13 (by decide) ?_
      exact V_iret F M dL_lineAt_14 rfl (by decide) (by decide)
    exact VX_none
/-! DroneLightShowLaw.cellOf(LDroneLightShow;I[J)I -/
abbrev rmL_cellOf : Room := { frames := 8, cells := 1, slots := 6, locals := 142 }
def FL_cellOf (p1 : Nat) (p2 : Int32) (p3 : Nat) (μ : Me) : Rs Int32 :=
  (bndc (vc μ p1 7 (FX7_cellOf p1 p2 μ)) (fun x2 μ1 => (sJ μ1 p3 0 ((x2 : Int32).toInt64) (fun μ3 => (rt 0 μ3)))) (fun E μ1 => (if E = "java/lang/IndexOutOfBoundsException" then (rt 1 μ1) else none)))
set_option maxHeartbeats 4000000 in
set_option maxRecDepth 100000 in
theorem metL_cellOf {l : Launch} {s0 : State} {D : va_G} {aC : Nat → ClassId} (hG : Gl s0 D aC) (hl : l.stackTraces = false) (p1 : Nat) (p2 : Int32) (p3 : Nat) (μ : Me) : Ct l yL_cellOf (wsH_ yL_cellOf cL_cellOf 4 (some .int) [(0, 9, 12, 13)]) rmL_cellOf s0 D aC (fun r : Int32 => some (.int r)) [.ref p1, .int p2, .ref p3] μ (FL_cellOf p1 p2 p3 μ) := by
  refine Ct_ofH hG hl (by decide +kernel) (Nat.le_of_ble_eq_true rfl) (fun κ ρ hNL F M hκ => ?_)
  have F : Fx κ cL_cellOf RL := F
  change V κ ρ 0 0 μ (FL_cellOf p1 p2 p3 μ) 0 [(0, .ref p1), (1, .int p2), (2, .ref p3)] []
  unfold FL_cellOf
  refine V_aload_n F dL_cellOf_0 rfl 2 rfl ?_
  refine V_iconst (v := 0) F dL_cellOf_1 (by decide) ?_
  refine V_aload_n F dL_cellOf_2 rfl 0 rfl ?_
  refine V_iload_n F dL_cellOf_3 rfl 1 rfl ?_
  refine V_cVc (As := [.int p2]) (rest := [.int 0, .ref p3]) (C := RX7) (N := 1) F M (metX7_cellOf (Fx_G F) (Fx_l F) p1 p2 μ) rfl q685 q66 q682 q683 q684 ⟨by decide +kernel, by decide +kernel, by decide +kernel⟩ rfl ⟨by decide, by decide⟩ (Nat.le_of_ble_eq_true rfl) dL_cellOf_4 (by decide) (by decide) (fun x2 μ1 => ?_) (fun E μ1 => ?_)
  · change V κ ρ 1 6 μ1 _ 7 [(0, .ref p1), (1, .int p2), (2, .ref p3)] [.int x2, .int 0, .ref p3]
    refine V_i2l F dL_cellOf_7 ?_
    refine V_sJ F dL_cellOf_8 (fun μ3 => ?_)
    refine V_goto (tgt := 15) F dL_cellOf_9 (by decide) ?_
    refine V_iconst (v := 0) F dL_cellOf_15 (by decide) ?_
    exact V_iret F M dL_cellOf_16 rfl (by decide) (by decide)
  · refine VX_if (E0 := "java/lang/IndexOutOfBoundsException") (fun hE => ?_) ?_
    · subst hE
      refine VX_catch F M [] [] ⟨0, 9, 12, 13⟩ rfl (by decide) (fun z hz => nomatch hz) (by decide) (by decide) q445 q551 (fun q4 => ?_)
      change V κ ρ 1 6 μ1 _ 12 [(0, .ref p1), (1, .int p2), (2, .ref p3)] [.ref q4]
      refine V_astore_n (lv' := [(3, .ref q4), (0, .ref p1), (1, .int p2), (2, .ref p3)]) F dL_cellOf_12 rfl (lt_L hNL (by decide)) rfl ?_
      refine V_iconst (v := 1) F dL_cellOf_13 (by decide) ?_
      exact V_iret F M dL_cellOf_14 rfl (by decide) (by decide)
    exact VX_none
/-! DroneLightShowLaw.battery(LDroneLightShow;I[J)I -/
abbrev rmL_battery : Room := { frames := 8, cells := 1, slots := 6, locals := 142 }
def FL_battery (p1 : Nat) (p2 : Int32) (p3 : Nat) (μ : Me) : Rs Int32 :=
  (bndc (vc μ p1 7 (FX7_battery p1 p2 μ)) (fun x2 μ1 => (sJ μ1 p3 0 ((x2 : Int32).toInt64) (fun μ3 => (rt 0 μ3)))) (fun E μ1 => (if E = "java/lang/IndexOutOfBoundsException" then (rt 1 μ1) else none)))
set_option maxHeartbeats 4000000 in
set_option maxRecDepth 100000 in
theorem metL_battery {l : Launch} {s0 : State} {D : va_G} {aC : Nat → ClassId} (hG : Gl s0 D aC) (hl : l.stackTraces = false) (p1 : Nat) (p2 : Int32) (p3 : Nat) (μ : Me) : Ct l yL_battery (wsH_ yL_battery cL_battery 4 (some .int) [(0, 9, 12, 13)]) rmL_battery s0 D aC (fun r : Int32 => some (.int r)) [.ref p1, .int p2, .ref p3] μ (FL_battery p1 p2 p3 μ) := by
  refine Ct_ofH hG hl (by decide +kernel) (Nat.le_of_ble_eq_true rfl) (fun κ ρ hNL F M hκ => ?_)
  have F : Fx κ cL_battery RL := F
  change V κ ρ 0 0 μ (FL_battery p1 p2 p3 μ) 0 [(0, .ref p1), (1, .int p2), (2, .ref p3)] []
  unfold FL_battery
  refine V_aload_n F dL_battery_0 rfl 2 rfl ?_
  refine V_iconst (v := 0) F dL_battery_1 (by decide) ?_
  refine V_aload_n F dL_battery_2 rfl 0 rfl ?_
  refine V_iload_n F dL_battery_3 rfl 1 rfl ?_
  refine V_cVc (As := [.int p2]) (rest := [.int 0, .ref p3]) (C := RX7) (N := 1) F M (metX7_battery (Fx_G F) (Fx_l F) p1 p2 μ) rfl q698 q66 q695 q696 q697 ⟨by decide +kernel, by decide +kernel, by decide +kernel⟩ rfl ⟨by decide, by decide⟩ (Nat.le_of_ble_eq_true rfl) dL_battery_4 (by decide) (by decide) (fun x2 μ1 => ?_) (fun E μ1 => ?_)
  · change V κ ρ 1 6 μ1 _ 7 [(0, .ref p1), (1, .int p2), (2, .ref p3)] [.int x2, .int 0, .ref p3]
    refine V_i2l F dL_battery_7 ?_
    refine V_sJ F dL_battery_8 (fun μ3 => ?_)
    refine V_goto (tgt := 15) F dL_battery_9 (by decide) ?_
    refine V_iconst (v := 0) F dL_battery_15 (by decide) ?_
    exact V_iret F M dL_battery_16 rfl (by decide) (by decide)
  · refine VX_if (E0 := "java/lang/IndexOutOfBoundsException") (fun hE => ?_) ?_
    · subst hE
      refine VX_catch F M [] [] ⟨0, 9, 12, 13⟩ rfl (by decide) (fun z hz => nomatch hz) (by decide) (by decide) q445 q551 (fun q4 => ?_)
      change V κ ρ 1 6 μ1 _ 12 [(0, .ref p1), (1, .int p2), (2, .ref p3)] [.ref q4]
      refine V_astore_n (lv' := [(3, .ref q4), (0, .ref p1), (1, .int p2), (2, .ref p3)]) F dL_battery_12 rfl (lt_L hNL (by decide)) rfl ?_
      refine V_iconst (v := 1) F dL_battery_13 (by decide) ?_
      exact V_iret F M dL_battery_14 rfl (by decide) (by decide)
    exact VX_none
/-! DroneLightShowLaw.isFlying(LDroneLightShow;I[J)I -/
abbrev rmL_isFlying : Room := { frames := 8, cells := 1, slots := 6, locals := 142 }
def FL_isFlying (p1 : Nat) (p2 : Int32) (p3 : Nat) (μ : Me) : Rs Int32 :=
  (bndc (vc μ p1 7 (FX7_isFlying p1 p2 μ)) (fun x2 μ1 => (if x2 = 0 then (sJ μ1 p3 0 0 (fun μ5 => (rt 0 μ5))) else (sJ μ1 p3 0 1 (fun μ6 => (rt 0 μ6))))) (fun E μ1 => (if E = "java/lang/IndexOutOfBoundsException" then (rt 1 μ1) else none)))
set_option maxHeartbeats 4000000 in
set_option maxRecDepth 100000 in
theorem metL_isFlying {l : Launch} {s0 : State} {D : va_G} {aC : Nat → ClassId} (hG : Gl s0 D aC) (hl : l.stackTraces = false) (p1 : Nat) (p2 : Int32) (p3 : Nat) (μ : Me) : Ct l yL_isFlying (wsH_ yL_isFlying cL_isFlying 4 (some .int) [(0, 16, 19, 13)]) rmL_isFlying s0 D aC (fun r : Int32 => some (.int r)) [.ref p1, .int p2, .ref p3] μ (FL_isFlying p1 p2 p3 μ) := by
  refine Ct_ofH hG hl (by decide +kernel) (Nat.le_of_ble_eq_true rfl) (fun κ ρ hNL F M hκ => ?_)
  have F : Fx κ cL_isFlying RL := F
  change V κ ρ 0 0 μ (FL_isFlying p1 p2 p3 μ) 0 [(0, .ref p1), (1, .int p2), (2, .ref p3)] []
  unfold FL_isFlying
  refine V_aload_n F dL_isFlying_0 rfl 2 rfl ?_
  refine V_iconst (v := 0) F dL_isFlying_1 (by decide) ?_
  refine V_aload_n F dL_isFlying_2 rfl 0 rfl ?_
  refine V_iload_n F dL_isFlying_3 rfl 1 rfl ?_
  refine V_cVc (As := [.int p2]) (rest := [.int 0, .ref p3]) (C := RX7) (N := 1) F M (metX7_isFlying (Fx_G F) (Fx_l F) p1 p2 μ) rfl q705 q66 q702 q703 q704 ⟨by decide +kernel, by decide +kernel, by decide +kernel⟩ rfl ⟨by decide, by decide⟩ (Nat.le_of_ble_eq_true rfl) dL_isFlying_4 (by decide) (by decide) (fun x2 μ1 => ?_) (fun E μ1 => ?_)
  · change V κ ρ 1 6 μ1 _ 7 [(0, .ref p1), (1, .int p2), (2, .ref p3)] [.int x2, .int 0, .ref p3]
    refine V_if_eq (tgt := 14) F dL_isFlying_7 (by decide) (fun c3 => ?_) (fun c4 => ?_)
    · refine V_lconst (v := 0) F dL_isFlying_14 (by decide) ?_
      refine V_sJ F dL_isFlying_15 (fun μ5 => ?_)
      refine V_goto (tgt := 22) F dL_isFlying_16 (by decide) ?_
      refine V_iconst (v := 0) F dL_isFlying_22 (by decide) ?_
      exact V_iret F M dL_isFlying_23 rfl (by decide) (by decide)
    · refine V_lconst (v := 1) F dL_isFlying_10 (by decide) ?_
      refine V_goto (tgt := 15) F dL_isFlying_11 (by decide) ?_
      refine V_sJ F dL_isFlying_15 (fun μ6 => ?_)
      refine V_goto (tgt := 22) F dL_isFlying_16 (by decide) ?_
      refine V_iconst (v := 0) F dL_isFlying_22 (by decide) ?_
      exact V_iret F M dL_isFlying_23 rfl (by decide) (by decide)
  · refine VX_if (E0 := "java/lang/IndexOutOfBoundsException") (fun hE => ?_) ?_
    · subst hE
      refine VX_catch F M [] [] ⟨0, 16, 19, 13⟩ rfl (by decide) (fun z hz => nomatch hz) (by decide) (by decide) q445 q551 (fun q7 => ?_)
      change V κ ρ 1 6 μ1 _ 19 [(0, .ref p1), (1, .int p2), (2, .ref p3)] [.ref q7]
      refine V_astore_n (lv' := [(3, .ref q7), (0, .ref p1), (1, .int p2), (2, .ref p3)]) F dL_isFlying_19 rfl (lt_L hNL (by decide)) rfl ?_
      refine V_iconst (v := 1) F dL_isFlying_20 (by decide) ?_
      exact V_iret F M dL_isFlying_21 rfl (by decide) (by decide)
    exact VX_none
/-! DroneLightShowLaw.isInEmergency(LDroneLightShow;I[J)I -/
abbrev rmL_isInEmergency : Room := { frames := 8, cells := 1, slots := 6, locals := 142 }
def FL_isInEmergency (p1 : Nat) (p2 : Int32) (p3 : Nat) (μ : Me) : Rs Int32 :=
  (bndc (vc μ p1 7 (FX7_isInEmergency p1 p2 μ)) (fun x2 μ1 => (if x2 = 0 then (sJ μ1 p3 0 0 (fun μ5 => (rt 0 μ5))) else (sJ μ1 p3 0 1 (fun μ6 => (rt 0 μ6))))) (fun E μ1 => (if E = "java/lang/IndexOutOfBoundsException" then (rt 1 μ1) else none)))
set_option maxHeartbeats 4000000 in
set_option maxRecDepth 100000 in
theorem metL_isInEmergency {l : Launch} {s0 : State} {D : va_G} {aC : Nat → ClassId} (hG : Gl s0 D aC) (hl : l.stackTraces = false) (p1 : Nat) (p2 : Int32) (p3 : Nat) (μ : Me) : Ct l yL_isInEmergency (wsH_ yL_isInEmergency cL_isInEmergency 4 (some .int) [(0, 16, 19, 13)]) rmL_isInEmergency s0 D aC (fun r : Int32 => some (.int r)) [.ref p1, .int p2, .ref p3] μ (FL_isInEmergency p1 p2 p3 μ) := by
  refine Ct_ofH hG hl (by decide +kernel) (Nat.le_of_ble_eq_true rfl) (fun κ ρ hNL F M hκ => ?_)
  have F : Fx κ cL_isInEmergency RL := F
  change V κ ρ 0 0 μ (FL_isInEmergency p1 p2 p3 μ) 0 [(0, .ref p1), (1, .int p2), (2, .ref p3)] []
  unfold FL_isInEmergency
  refine V_aload_n F dL_isInEmergency_0 rfl 2 rfl ?_
  refine V_iconst (v := 0) F dL_isInEmergency_1 (by decide) ?_
  refine V_aload_n F dL_isInEmergency_2 rfl 0 rfl ?_
  refine V_iload_n F dL_isInEmergency_3 rfl 1 rfl ?_
  refine V_cVc (As := [.int p2]) (rest := [.int 0, .ref p3]) (C := RX7) (N := 1) F M (metX7_isInEmergency (Fx_G F) (Fx_l F) p1 p2 μ) rfl q712 q66 q709 q710 q711 ⟨by decide +kernel, by decide +kernel, by decide +kernel⟩ rfl ⟨by decide, by decide⟩ (Nat.le_of_ble_eq_true rfl) dL_isInEmergency_4 (by decide) (by decide) (fun x2 μ1 => ?_) (fun E μ1 => ?_)
  · change V κ ρ 1 6 μ1 _ 7 [(0, .ref p1), (1, .int p2), (2, .ref p3)] [.int x2, .int 0, .ref p3]
    refine V_if_eq (tgt := 14) F dL_isInEmergency_7 (by decide) (fun c3 => ?_) (fun c4 => ?_)
    · refine V_lconst (v := 0) F dL_isInEmergency_14 (by decide) ?_
      refine V_sJ F dL_isInEmergency_15 (fun μ5 => ?_)
      refine V_goto (tgt := 22) F dL_isInEmergency_16 (by decide) ?_
      refine V_iconst (v := 0) F dL_isInEmergency_22 (by decide) ?_
      exact V_iret F M dL_isInEmergency_23 rfl (by decide) (by decide)
    · refine V_lconst (v := 1) F dL_isInEmergency_10 (by decide) ?_
      refine V_goto (tgt := 15) F dL_isInEmergency_11 (by decide) ?_
      refine V_sJ F dL_isInEmergency_15 (fun μ6 => ?_)
      refine V_goto (tgt := 22) F dL_isInEmergency_16 (by decide) ?_
      refine V_iconst (v := 0) F dL_isInEmergency_22 (by decide) ?_
      exact V_iret F M dL_isInEmergency_23 rfl (by decide) (by decide)
  · refine VX_if (E0 := "java/lang/IndexOutOfBoundsException") (fun hE => ?_) ?_
    · subst hE
      refine VX_catch F M [] [] ⟨0, 16, 19, 13⟩ rfl (by decide) (fun z hz => nomatch hz) (by decide) (by decide) q445 q551 (fun q7 => ?_)
      change V κ ρ 1 6 μ1 _ 19 [(0, .ref p1), (1, .int p2), (2, .ref p3)] [.ref q7]
      refine V_astore_n (lv' := [(3, .ref q7), (0, .ref p1), (1, .int p2), (2, .ref p3)]) F dL_isInEmergency_19 rfl (lt_L hNL (by decide)) rfl ?_
      refine V_iconst (v := 1) F dL_isInEmergency_20 (by decide) ?_
      exact V_iret F M dL_isInEmergency_21 rfl (by decide) (by decide)
    exact VX_none
/-! DroneLightShowLaw.target(LDroneLightShow;I[J)I -/
abbrev rmL_target : Room := { frames := 8, cells := 2, slots := 12, locals := 142 }
def FL_target (p1 : Nat) (p2 : Int32) (p3 : Nat) (μ : Me) : Rs Int32 :=
  (bndc (vc μ p1 7 (FX7_target p1 p2 μ)) (fun x2 μ1 => (sJ μ1 p3 0 ((x2 : Int32).toInt64) (fun μ3 => (rt 0 μ3)))) (fun E μ1 => (if E = "java/lang/IndexOutOfBoundsException" then (rt 1 μ1) else (if E = "java/util/NoSuchElementException" then (rt 2 μ1) else none))))
set_option maxHeartbeats 4000000 in
set_option maxRecDepth 100000 in
theorem metL_target {l : Launch} {s0 : State} {D : va_G} {aC : Nat → ClassId} (hG : Gl s0 D aC) (hl : l.stackTraces = false) (p1 : Nat) (p2 : Int32) (p3 : Nat) (μ : Me) : Ct l yL_target (wsH_ yL_target cL_target 4 (some .int) [(0, 9, 12, 13), (0, 9, 15, 53)]) rmL_target s0 D aC (fun r : Int32 => some (.int r)) [.ref p1, .int p2, .ref p3] μ (FL_target p1 p2 p3 μ) := by
  refine Ct_ofH hG hl (by decide +kernel) (Nat.le_of_ble_eq_true rfl) (fun κ ρ hNL F M hκ => ?_)
  have F : Fx κ cL_target RL := F
  change V κ ρ 0 0 μ (FL_target p1 p2 p3 μ) 0 [(0, .ref p1), (1, .int p2), (2, .ref p3)] []
  unfold FL_target
  refine V_aload_n F dL_target_0 rfl 2 rfl ?_
  refine V_iconst (v := 0) F dL_target_1 (by decide) ?_
  refine V_aload_n F dL_target_2 rfl 0 rfl ?_
  refine V_iload_n F dL_target_3 rfl 1 rfl ?_
  refine V_cVc (As := [.int p2]) (rest := [.int 0, .ref p3]) (C := RX7) (N := 1) F M (metX7_target (Fx_G F) (Fx_l F) p1 p2 μ) rfl q720 q66 q717 q718 q719 ⟨by decide +kernel, by decide +kernel, by decide +kernel⟩ rfl ⟨by decide, by decide⟩ (Nat.le_of_ble_eq_true rfl) dL_target_4 (by decide) (by decide) (fun x2 μ1 => ?_) (fun E μ1 => ?_)
  · change V κ ρ 2 12 μ1 _ 7 [(0, .ref p1), (1, .int p2), (2, .ref p3)] [.int x2, .int 0, .ref p3]
    refine V_i2l F dL_target_7 ?_
    refine V_sJ F dL_target_8 (fun μ3 => ?_)
    refine V_goto (tgt := 18) F dL_target_9 (by decide) ?_
    refine V_iconst (v := 0) F dL_target_18 (by decide) ?_
    exact V_iret F M dL_target_19 rfl (by decide) (by decide)
  · refine VX_if (E0 := "java/lang/IndexOutOfBoundsException") (fun hE => ?_) ?_
    · subst hE
      refine VX_catch F M [] [⟨0, 9, 15, 53⟩] ⟨0, 9, 12, 13⟩ rfl (by decide) (fun z hz => nomatch hz) (by decide) (by decide) q445 q551 (fun q4 => ?_)
      change V κ ρ 2 12 μ1 _ 12 [(0, .ref p1), (1, .int p2), (2, .ref p3)] [.ref q4]
      refine V_astore_n (lv' := [(3, .ref q4), (0, .ref p1), (1, .int p2), (2, .ref p3)]) F dL_target_12 rfl (lt_L hNL (by decide)) rfl ?_
      refine V_iconst (v := 1) F dL_target_13 (by decide) ?_
      exact V_iret F M dL_target_14 rfl (by decide) (by decide)
    refine VX_if (E0 := "java/util/NoSuchElementException") (fun hE => ?_) ?_
    · subst hE
      refine VX_catch F M [⟨0, 9, 12, 13⟩] [] ⟨0, 9, 15, 53⟩ rfl (by decide) (List.forall_mem_cons.mpr ⟨⟨by decide, "java/lang/IndexOutOfBoundsException", by decide, by decide, q445⟩, fun z hz => nomatch hz⟩) (by decide) (by decide) q716 q726 (fun q5 => ?_)
      change V κ ρ 2 12 μ1 _ 15 [(0, .ref p1), (1, .int p2), (2, .ref p3)] [.ref q5]
      refine V_astore_n (lv' := [(3, .ref q5), (0, .ref p1), (1, .int p2), (2, .ref p3)]) F dL_target_15 rfl (lt_L hNL (by decide)) rfl ?_
      refine V_iconst (v := 2) F dL_target_16 (by decide) ?_
      exact V_iret F M dL_target_17 rfl (by decide) (by decide)
    exact VX_none
/-! DroneLightShowLaw.colour(LDroneLightShow;I[J)I -/
abbrev rmL_colour : Room := { frames := 8, cells := 1, slots := 6, locals := 142 }
def FL_colour (p1 : Nat) (p2 : Int32) (p3 : Nat) (μ : Me) : Rs Int32 :=
  (bndc (vc μ p1 7 (FX7_colour p1 p2 μ)) (fun x2 μ1 => (sJ μ1 p3 0 ((x2 : Int32).toInt64) (fun μ3 => (rt 0 μ3)))) (fun E μ1 => (if E = "java/lang/IndexOutOfBoundsException" then (rt 1 μ1) else none)))
set_option maxHeartbeats 4000000 in
set_option maxRecDepth 100000 in
theorem metL_colour {l : Launch} {s0 : State} {D : va_G} {aC : Nat → ClassId} (hG : Gl s0 D aC) (hl : l.stackTraces = false) (p1 : Nat) (p2 : Int32) (p3 : Nat) (μ : Me) : Ct l yL_colour (wsH_ yL_colour cL_colour 4 (some .int) [(0, 9, 12, 13)]) rmL_colour s0 D aC (fun r : Int32 => some (.int r)) [.ref p1, .int p2, .ref p3] μ (FL_colour p1 p2 p3 μ) := by
  refine Ct_ofH hG hl (by decide +kernel) (Nat.le_of_ble_eq_true rfl) (fun κ ρ hNL F M hκ => ?_)
  have F : Fx κ cL_colour RL := F
  change V κ ρ 0 0 μ (FL_colour p1 p2 p3 μ) 0 [(0, .ref p1), (1, .int p2), (2, .ref p3)] []
  unfold FL_colour
  refine V_aload_n F dL_colour_0 rfl 2 rfl ?_
  refine V_iconst (v := 0) F dL_colour_1 (by decide) ?_
  refine V_aload_n F dL_colour_2 rfl 0 rfl ?_
  refine V_iload_n F dL_colour_3 rfl 1 rfl ?_
  refine V_cVc (As := [.int p2]) (rest := [.int 0, .ref p3]) (C := RX7) (N := 1) F M (metX7_colour (Fx_G F) (Fx_l F) p1 p2 μ) rfl q746 q66 q743 q744 q745 ⟨by decide +kernel, by decide +kernel, by decide +kernel⟩ rfl ⟨by decide, by decide⟩ (Nat.le_of_ble_eq_true rfl) dL_colour_4 (by decide) (by decide) (fun x2 μ1 => ?_) (fun E μ1 => ?_)
  · change V κ ρ 1 6 μ1 _ 7 [(0, .ref p1), (1, .int p2), (2, .ref p3)] [.int x2, .int 0, .ref p3]
    refine V_i2l F dL_colour_7 ?_
    refine V_sJ F dL_colour_8 (fun μ3 => ?_)
    refine V_goto (tgt := 15) F dL_colour_9 (by decide) ?_
    refine V_iconst (v := 0) F dL_colour_15 (by decide) ?_
    exact V_iret F M dL_colour_16 rfl (by decide) (by decide)
  · refine VX_if (E0 := "java/lang/IndexOutOfBoundsException") (fun hE => ?_) ?_
    · subst hE
      refine VX_catch F M [] [] ⟨0, 9, 12, 13⟩ rfl (by decide) (fun z hz => nomatch hz) (by decide) (by decide) q445 q551 (fun q4 => ?_)
      change V κ ρ 1 6 μ1 _ 12 [(0, .ref p1), (1, .int p2), (2, .ref p3)] [.ref q4]
      refine V_astore_n (lv' := [(3, .ref q4), (0, .ref p1), (1, .int p2), (2, .ref p3)]) F dL_colour_12 rfl (lt_L hNL (by decide)) rfl ?_
      refine V_iconst (v := 1) F dL_colour_13 (by decide) ?_
      exact V_iret F M dL_colour_14 rfl (by decide) (by decide)
    exact VX_none
/-! DroneLightShowLaw.nearestPad(LDroneLightShow;I[J)I -/
abbrev rmL_nearestPad : Room := { frames := 8, cells := 2, slots := 12, locals := 142 }
def FL_nearestPad (p1 : Nat) (p2 : Int32) (p3 : Nat) (μ : Me) : Rs Int32 :=
  (bndc (vc μ p1 7 (FX7_nearestPad p1 p2 μ)) (fun x2 μ1 => (sJ μ1 p3 0 ((x2 : Int32).toInt64) (fun μ3 => (rt 0 μ3)))) (fun E μ1 => (if E = "java/lang/IndexOutOfBoundsException" then (rt 1 μ1) else (if E = "java/util/NoSuchElementException" then (rt 2 μ1) else none))))
set_option maxHeartbeats 4000000 in
set_option maxRecDepth 100000 in
theorem metL_nearestPad {l : Launch} {s0 : State} {D : va_G} {aC : Nat → ClassId} (hG : Gl s0 D aC) (hl : l.stackTraces = false) (p1 : Nat) (p2 : Int32) (p3 : Nat) (μ : Me) : Ct l yL_nearestPad (wsH_ yL_nearestPad cL_nearestPad 4 (some .int) [(0, 9, 12, 13), (0, 9, 15, 53)]) rmL_nearestPad s0 D aC (fun r : Int32 => some (.int r)) [.ref p1, .int p2, .ref p3] μ (FL_nearestPad p1 p2 p3 μ) := by
  refine Ct_ofH hG hl (by decide +kernel) (Nat.le_of_ble_eq_true rfl) (fun κ ρ hNL F M hκ => ?_)
  have F : Fx κ cL_nearestPad RL := F
  change V κ ρ 0 0 μ (FL_nearestPad p1 p2 p3 μ) 0 [(0, .ref p1), (1, .int p2), (2, .ref p3)] []
  unfold FL_nearestPad
  refine V_aload_n F dL_nearestPad_0 rfl 2 rfl ?_
  refine V_iconst (v := 0) F dL_nearestPad_1 (by decide) ?_
  refine V_aload_n F dL_nearestPad_2 rfl 0 rfl ?_
  refine V_iload_n F dL_nearestPad_3 rfl 1 rfl ?_
  refine V_cVc (As := [.int p2]) (rest := [.int 0, .ref p3]) (C := RX7) (N := 1) F M (metX7_nearestPad (Fx_G F) (Fx_l F) p1 p2 μ) rfl q774 q66 q771 q772 q773 ⟨by decide +kernel, by decide +kernel, by decide +kernel⟩ rfl ⟨by decide, by decide⟩ (Nat.le_of_ble_eq_true rfl) dL_nearestPad_4 (by decide) (by decide) (fun x2 μ1 => ?_) (fun E μ1 => ?_)
  · change V κ ρ 2 12 μ1 _ 7 [(0, .ref p1), (1, .int p2), (2, .ref p3)] [.int x2, .int 0, .ref p3]
    refine V_i2l F dL_nearestPad_7 ?_
    refine V_sJ F dL_nearestPad_8 (fun μ3 => ?_)
    refine V_goto (tgt := 18) F dL_nearestPad_9 (by decide) ?_
    refine V_iconst (v := 0) F dL_nearestPad_18 (by decide) ?_
    exact V_iret F M dL_nearestPad_19 rfl (by decide) (by decide)
  · refine VX_if (E0 := "java/lang/IndexOutOfBoundsException") (fun hE => ?_) ?_
    · subst hE
      refine VX_catch F M [] [⟨0, 9, 15, 53⟩] ⟨0, 9, 12, 13⟩ rfl (by decide) (fun z hz => nomatch hz) (by decide) (by decide) q445 q551 (fun q4 => ?_)
      change V κ ρ 2 12 μ1 _ 12 [(0, .ref p1), (1, .int p2), (2, .ref p3)] [.ref q4]
      refine V_astore_n (lv' := [(3, .ref q4), (0, .ref p1), (1, .int p2), (2, .ref p3)]) F dL_nearestPad_12 rfl (lt_L hNL (by decide)) rfl ?_
      refine V_iconst (v := 1) F dL_nearestPad_13 (by decide) ?_
      exact V_iret F M dL_nearestPad_14 rfl (by decide) (by decide)
    refine VX_if (E0 := "java/util/NoSuchElementException") (fun hE => ?_) ?_
    · subst hE
      refine VX_catch F M [⟨0, 9, 12, 13⟩] [] ⟨0, 9, 15, 53⟩ rfl (by decide) (List.forall_mem_cons.mpr ⟨⟨by decide, "java/lang/IndexOutOfBoundsException", by decide, by decide, q445⟩, fun z hz => nomatch hz⟩) (by decide) (by decide) q716 q726 (fun q5 => ?_)
      change V κ ρ 2 12 μ1 _ 15 [(0, .ref p1), (1, .int p2), (2, .ref p3)] [.ref q5]
      refine V_astore_n (lv' := [(3, .ref q5), (0, .ref p1), (1, .int p2), (2, .ref p3)]) F dL_nearestPad_15 rfl (lt_L hNL (by decide)) rfl ?_
      refine V_iconst (v := 2) F dL_nearestPad_16 (by decide) ?_
      exact V_iret F M dL_nearestPad_17 rfl (by decide) (by decide)
    exact VX_none
/-! DroneLightShowLaw.wantedCell(LDroneLightShow;I[J)I -/
abbrev rmL_wantedCell : Room := { frames := 8, cells := 2, slots := 12, locals := 142 }
def FL_wantedCell (p1 : Nat) (p2 : Int32) (p3 : Nat) (μ : Me) : Rs Int32 :=
  (bndc (vc μ p1 7 (FX7_wantedCell p1 p2 μ)) (fun x2 μ1 => (sJ μ1 p3 0 ((x2 : Int32).toInt64) (fun μ3 => (rt 0 μ3)))) (fun E μ1 => (if E = "java/lang/IndexOutOfBoundsException" then (rt 1 μ1) else (if E = "java/util/NoSuchElementException" then (rt 2 μ1) else none))))
set_option maxHeartbeats 4000000 in
set_option maxRecDepth 100000 in
theorem metL_wantedCell {l : Launch} {s0 : State} {D : va_G} {aC : Nat → ClassId} (hG : Gl s0 D aC) (hl : l.stackTraces = false) (p1 : Nat) (p2 : Int32) (p3 : Nat) (μ : Me) : Ct l yL_wantedCell (wsH_ yL_wantedCell cL_wantedCell 4 (some .int) [(0, 9, 12, 13), (0, 9, 15, 53)]) rmL_wantedCell s0 D aC (fun r : Int32 => some (.int r)) [.ref p1, .int p2, .ref p3] μ (FL_wantedCell p1 p2 p3 μ) := by
  refine Ct_ofH hG hl (by decide +kernel) (Nat.le_of_ble_eq_true rfl) (fun κ ρ hNL F M hκ => ?_)
  have F : Fx κ cL_wantedCell RL := F
  change V κ ρ 0 0 μ (FL_wantedCell p1 p2 p3 μ) 0 [(0, .ref p1), (1, .int p2), (2, .ref p3)] []
  unfold FL_wantedCell
  refine V_aload_n F dL_wantedCell_0 rfl 2 rfl ?_
  refine V_iconst (v := 0) F dL_wantedCell_1 (by decide) ?_
  refine V_aload_n F dL_wantedCell_2 rfl 0 rfl ?_
  refine V_iload_n F dL_wantedCell_3 rfl 1 rfl ?_
  refine V_cVc (As := [.int p2]) (rest := [.int 0, .ref p3]) (C := RX7) (N := 1) F M (metX7_wantedCell (Fx_G F) (Fx_l F) p1 p2 μ) rfl q940 q66 q937 q938 q939 ⟨by decide +kernel, by decide +kernel, by decide +kernel⟩ rfl ⟨by decide, by decide⟩ (Nat.le_of_ble_eq_true rfl) dL_wantedCell_4 (by decide) (by decide) (fun x2 μ1 => ?_) (fun E μ1 => ?_)
  · change V κ ρ 2 12 μ1 _ 7 [(0, .ref p1), (1, .int p2), (2, .ref p3)] [.int x2, .int 0, .ref p3]
    refine V_i2l F dL_wantedCell_7 ?_
    refine V_sJ F dL_wantedCell_8 (fun μ3 => ?_)
    refine V_goto (tgt := 18) F dL_wantedCell_9 (by decide) ?_
    refine V_iconst (v := 0) F dL_wantedCell_18 (by decide) ?_
    exact V_iret F M dL_wantedCell_19 rfl (by decide) (by decide)
  · refine VX_if (E0 := "java/lang/IndexOutOfBoundsException") (fun hE => ?_) ?_
    · subst hE
      refine VX_catch F M [] [⟨0, 9, 15, 53⟩] ⟨0, 9, 12, 13⟩ rfl (by decide) (fun z hz => nomatch hz) (by decide) (by decide) q445 q551 (fun q4 => ?_)
      change V κ ρ 2 12 μ1 _ 12 [(0, .ref p1), (1, .int p2), (2, .ref p3)] [.ref q4]
      refine V_astore_n (lv' := [(3, .ref q4), (0, .ref p1), (1, .int p2), (2, .ref p3)]) F dL_wantedCell_12 rfl (lt_L hNL (by decide)) rfl ?_
      refine V_iconst (v := 1) F dL_wantedCell_13 (by decide) ?_
      exact V_iret F M dL_wantedCell_14 rfl (by decide) (by decide)
    refine VX_if (E0 := "java/util/NoSuchElementException") (fun hE => ?_) ?_
    · subst hE
      refine VX_catch F M [⟨0, 9, 12, 13⟩] [] ⟨0, 9, 15, 53⟩ rfl (by decide) (List.forall_mem_cons.mpr ⟨⟨by decide, "java/lang/IndexOutOfBoundsException", by decide, by decide, q445⟩, fun z hz => nomatch hz⟩) (by decide) (by decide) q716 q726 (fun q5 => ?_)
      change V κ ρ 2 12 μ1 _ 15 [(0, .ref p1), (1, .int p2), (2, .ref p3)] [.ref q5]
      refine V_astore_n (lv' := [(3, .ref q5), (0, .ref p1), (1, .int p2), (2, .ref p3)]) F dL_wantedCell_15 rfl (lt_L hNL (by decide)) rfl ?_
      refine V_iconst (v := 2) F dL_wantedCell_16 (by decide) ?_
      exact V_iret F M dL_wantedCell_17 rfl (by decide) (by decide)
    exact VX_none
/-! DroneLightShowLaw.nextCueTime(LDroneLightShow;[J)I -/
abbrev rmL_nextCueTime : Room := { frames := 8, cells := 1, slots := 6, locals := 140 }
def FL_nextCueTime (p1 : Nat) (p2 : Nat) (μ : Me) : Rs Int32 :=
  (bndc (vc μ p1 7 (FX7_nextCueTime p1  μ)) (fun x2 μ1 => (sJ μ1 p2 0 ((x2 : Int32).toInt64) (fun μ3 => (rt 0 μ3)))) (fun E μ1 => (if E = "java/util/NoSuchElementException" then (rt 1 μ1) else none)))
set_option maxHeartbeats 4000000 in
set_option maxRecDepth 100000 in
theorem metL_nextCueTime {l : Launch} {s0 : State} {D : va_G} {aC : Nat → ClassId} (hG : Gl s0 D aC) (hl : l.stackTraces = false) (p1 : Nat) (p2 : Nat) (μ : Me) : Ct l yL_nextCueTime (wsH_ yL_nextCueTime cL_nextCueTime 3 (some .int) [(0, 8, 11, 53)]) rmL_nextCueTime s0 D aC (fun r : Int32 => some (.int r)) [.ref p1, .ref p2] μ (FL_nextCueTime p1 p2 μ) := by
  refine Ct_ofH hG hl (by decide +kernel) (Nat.le_of_ble_eq_true rfl) (fun κ ρ hNL F M hκ => ?_)
  have F : Fx κ cL_nextCueTime RL := F
  change V κ ρ 0 0 μ (FL_nextCueTime p1 p2 μ) 0 [(0, .ref p1), (1, .ref p2)] []
  unfold FL_nextCueTime
  refine V_aload_n F dL_nextCueTime_0 rfl 1 rfl ?_
  refine V_iconst (v := 0) F dL_nextCueTime_1 (by decide) ?_
  refine V_aload_n F dL_nextCueTime_2 rfl 0 rfl ?_
  refine V_cVc (As := []) (rest := [.int 0, .ref p2]) (C := RX7) (N := 0) F M (metX7_nextCueTime (Fx_G F) (Fx_l F) p1  μ) rfl q987 q66 q984 q985 q986 ⟨by decide +kernel, by decide +kernel, by decide +kernel⟩ rfl ⟨by decide, by decide⟩ (Nat.le_of_ble_eq_true rfl) dL_nextCueTime_3 (by decide) (by decide) (fun x2 μ1 => ?_) (fun E μ1 => ?_)
  · change V κ ρ 1 6 μ1 _ 6 [(0, .ref p1), (1, .ref p2)] [.int x2, .int 0, .ref p2]
    refine V_i2l F dL_nextCueTime_6 ?_
    refine V_sJ F dL_nextCueTime_7 (fun μ3 => ?_)
    refine V_goto (tgt := 14) F dL_nextCueTime_8 (by decide) ?_
    refine V_iconst (v := 0) F dL_nextCueTime_14 (by decide) ?_
    exact V_iret F M dL_nextCueTime_15 rfl (by decide) (by decide)
  · refine VX_if (E0 := "java/util/NoSuchElementException") (fun hE => ?_) ?_
    · subst hE
      refine VX_catch F M [] [] ⟨0, 8, 11, 53⟩ rfl (by decide) (fun z hz => nomatch hz) (by decide) (by decide) q716 q726 (fun q4 => ?_)
      change V κ ρ 1 6 μ1 _ 11 [(0, .ref p1), (1, .ref p2)] [.ref q4]
      refine V_astore_n (lv' := [(2, .ref q4), (0, .ref p1), (1, .ref p2)]) F dL_nextCueTime_11 rfl (lt_L hNL (by decide)) rfl ?_
      refine V_iconst (v := 1) F dL_nextCueTime_12 (by decide) ?_
      exact V_iret F M dL_nextCueTime_13 rfl (by decide) (by decide)
    exact VX_none
/-! DroneLightShowLaw.errorPosition(LDroneLightShow;[J)I -/
abbrev rmL_errorPosition : Room := { frames := 8, cells := 1, slots := 6, locals := 140 }
def FL_errorPosition (p1 : Nat) (p2 : Nat) (μ : Me) : Rs Int32 :=
  (bndc (vc μ p1 7 (FX7_errorPosition p1  μ)) (fun x2 μ1 => (sJ μ1 p2 0 ((x2 : Int32).toInt64) (fun μ3 => (rt 0 μ3)))) (fun E μ1 => (if E = "java/util/NoSuchElementException" then (rt 1 μ1) else none)))
set_option maxHeartbeats 4000000 in
set_option maxRecDepth 100000 in
theorem metL_errorPosition {l : Launch} {s0 : State} {D : va_G} {aC : Nat → ClassId} (hG : Gl s0 D aC) (hl : l.stackTraces = false) (p1 : Nat) (p2 : Nat) (μ : Me) : Ct l yL_errorPosition (wsH_ yL_errorPosition cL_errorPosition 3 (some .int) [(0, 8, 11, 53)]) rmL_errorPosition s0 D aC (fun r : Int32 => some (.int r)) [.ref p1, .ref p2] μ (FL_errorPosition p1 p2 μ) := by
  refine Ct_ofH hG hl (by decide +kernel) (Nat.le_of_ble_eq_true rfl) (fun κ ρ hNL F M hκ => ?_)
  have F : Fx κ cL_errorPosition RL := F
  change V κ ρ 0 0 μ (FL_errorPosition p1 p2 μ) 0 [(0, .ref p1), (1, .ref p2)] []
  unfold FL_errorPosition
  refine V_aload_n F dL_errorPosition_0 rfl 1 rfl ?_
  refine V_iconst (v := 0) F dL_errorPosition_1 (by decide) ?_
  refine V_aload_n F dL_errorPosition_2 rfl 0 rfl ?_
  refine V_cVc (As := []) (rest := [.int 0, .ref p2]) (C := RX7) (N := 0) F M (metX7_errorPosition (Fx_G F) (Fx_l F) p1  μ) rfl q1122 q66 q1119 q1120 q1121 ⟨by decide +kernel, by decide +kernel, by decide +kernel⟩ rfl ⟨by decide, by decide⟩ (Nat.le_of_ble_eq_true rfl) dL_errorPosition_3 (by decide) (by decide) (fun x2 μ1 => ?_) (fun E μ1 => ?_)
  · change V κ ρ 1 6 μ1 _ 6 [(0, .ref p1), (1, .ref p2)] [.int x2, .int 0, .ref p2]
    refine V_i2l F dL_errorPosition_6 ?_
    refine V_sJ F dL_errorPosition_7 (fun μ3 => ?_)
    refine V_goto (tgt := 14) F dL_errorPosition_8 (by decide) ?_
    refine V_iconst (v := 0) F dL_errorPosition_14 (by decide) ?_
    exact V_iret F M dL_errorPosition_15 rfl (by decide) (by decide)
  · refine VX_if (E0 := "java/util/NoSuchElementException") (fun hE => ?_) ?_
    · subst hE
      refine VX_catch F M [] [] ⟨0, 8, 11, 53⟩ rfl (by decide) (fun z hz => nomatch hz) (by decide) (by decide) q716 q726 (fun q4 => ?_)
      change V κ ρ 1 6 μ1 _ 11 [(0, .ref p1), (1, .ref p2)] [.ref q4]
      refine V_astore_n (lv' := [(2, .ref q4), (0, .ref p1), (1, .ref p2)]) F dL_errorPosition_11 rfl (lt_L hNL (by decide)) rfl ?_
      refine V_iconst (v := 1) F dL_errorPosition_12 (by decide) ?_
      exact V_iret F M dL_errorPosition_13 rfl (by decide) (by decide)
    exact VX_none
/-! DroneLightShowLaw.failedCommand(LDroneLightShow;[J)I -/
abbrev rmL_failedCommand : Room := { frames := 8, cells := 1, slots := 6, locals := 140 }
def FL_failedCommand (p1 : Nat) (p2 : Nat) (μ : Me) : Rs Int32 :=
  (bndc (vc μ p1 7 (FX7_failedCommand p1  μ)) (fun x2 μ1 => (sJ μ1 p2 0 ((x2 : Int32).toInt64) (fun μ3 => (rt 0 μ3)))) (fun E μ1 => (if E = "java/util/NoSuchElementException" then (rt 1 μ1) else none)))
set_option maxHeartbeats 4000000 in
set_option maxRecDepth 100000 in
theorem metL_failedCommand {l : Launch} {s0 : State} {D : va_G} {aC : Nat → ClassId} (hG : Gl s0 D aC) (hl : l.stackTraces = false) (p1 : Nat) (p2 : Nat) (μ : Me) : Ct l yL_failedCommand (wsH_ yL_failedCommand cL_failedCommand 3 (some .int) [(0, 8, 11, 53)]) rmL_failedCommand s0 D aC (fun r : Int32 => some (.int r)) [.ref p1, .ref p2] μ (FL_failedCommand p1 p2 μ) := by
  refine Ct_ofH hG hl (by decide +kernel) (Nat.le_of_ble_eq_true rfl) (fun κ ρ hNL F M hκ => ?_)
  have F : Fx κ cL_failedCommand RL := F
  change V κ ρ 0 0 μ (FL_failedCommand p1 p2 μ) 0 [(0, .ref p1), (1, .ref p2)] []
  unfold FL_failedCommand
  refine V_aload_n F dL_failedCommand_0 rfl 1 rfl ?_
  refine V_iconst (v := 0) F dL_failedCommand_1 (by decide) ?_
  refine V_aload_n F dL_failedCommand_2 rfl 0 rfl ?_
  refine V_cVc (As := []) (rest := [.int 0, .ref p2]) (C := RX7) (N := 0) F M (metX7_failedCommand (Fx_G F) (Fx_l F) p1  μ) rfl q1129 q66 q1126 q1127 q1128 ⟨by decide +kernel, by decide +kernel, by decide +kernel⟩ rfl ⟨by decide, by decide⟩ (Nat.le_of_ble_eq_true rfl) dL_failedCommand_3 (by decide) (by decide) (fun x2 μ1 => ?_) (fun E μ1 => ?_)
  · change V κ ρ 1 6 μ1 _ 6 [(0, .ref p1), (1, .ref p2)] [.int x2, .int 0, .ref p2]
    refine V_i2l F dL_failedCommand_6 ?_
    refine V_sJ F dL_failedCommand_7 (fun μ3 => ?_)
    refine V_goto (tgt := 14) F dL_failedCommand_8 (by decide) ?_
    refine V_iconst (v := 0) F dL_failedCommand_14 (by decide) ?_
    exact V_iret F M dL_failedCommand_15 rfl (by decide) (by decide)
  · refine VX_if (E0 := "java/util/NoSuchElementException") (fun hE => ?_) ?_
    · subst hE
      refine VX_catch F M [] [] ⟨0, 8, 11, 53⟩ rfl (by decide) (fun z hz => nomatch hz) (by decide) (by decide) q716 q726 (fun q4 => ?_)
      change V κ ρ 1 6 μ1 _ 11 [(0, .ref p1), (1, .ref p2)] [.ref q4]
      refine V_astore_n (lv' := [(2, .ref q4), (0, .ref p1), (1, .ref p2)]) F dL_failedCommand_11 rfl (lt_L hNL (by decide)) rfl ?_
      refine V_iconst (v := 1) F dL_failedCommand_12 (by decide) ?_
      exact V_iret F M dL_failedCommand_13 rfl (by decide) (by decide)
    exact VX_none
/-! DroneLightShowLaw.describeRow(LDroneLightShow;I[J)I -/
abbrev rmL_describeRow : Room := { frames := 7, cells := 1, slots := 6, locals := 122 }
def FL_describeRow (p1 : Nat) (p2 : Int32) (p3 : Nat) (μ : Me) : Rs Int32 :=
  (bndc (vc μ p1 7 (FX7_describeRow p1 p2 μ)) (fun x2 μ1 => (sJ μ1 p3 0 ((x2 : Int32).toInt64) (fun μ3 => (rt 0 μ3)))) (fun E μ1 => (if E = "java/lang/IndexOutOfBoundsException" then (rt 1 μ1) else none)))
set_option maxHeartbeats 4000000 in
set_option maxRecDepth 100000 in
theorem metL_describeRow {l : Launch} {s0 : State} {D : va_G} {aC : Nat → ClassId} (hG : Gl s0 D aC) (hl : l.stackTraces = false) (p1 : Nat) (p2 : Int32) (p3 : Nat) (μ : Me) : Ct l yL_describeRow (wsH_ yL_describeRow cL_describeRow 4 (some .int) [(0, 9, 12, 13)]) rmL_describeRow s0 D aC (fun r : Int32 => some (.int r)) [.ref p1, .int p2, .ref p3] μ (FL_describeRow p1 p2 p3 μ) := by
  refine Ct_ofH hG hl (by decide +kernel) (Nat.le_of_ble_eq_true rfl) (fun κ ρ hNL F M hκ => ?_)
  have F : Fx κ cL_describeRow RL := F
  change V κ ρ 0 0 μ (FL_describeRow p1 p2 p3 μ) 0 [(0, .ref p1), (1, .int p2), (2, .ref p3)] []
  unfold FL_describeRow
  refine V_aload_n F dL_describeRow_0 rfl 2 rfl ?_
  refine V_iconst (v := 0) F dL_describeRow_1 (by decide) ?_
  refine V_aload_n F dL_describeRow_2 rfl 0 rfl ?_
  refine V_iload_n F dL_describeRow_3 rfl 1 rfl ?_
  refine V_cVc (As := [.int p2]) (rest := [.int 0, .ref p3]) (C := RX7) (N := 1) F M (metX7_describeRow (Fx_G F) (Fx_l F) p1 p2 μ) rfl q1136 q66 q1133 q1134 q1135 ⟨by decide +kernel, by decide +kernel, by decide +kernel⟩ rfl ⟨by decide, by decide⟩ (Nat.le_of_ble_eq_true rfl) dL_describeRow_4 (by decide) (by decide) (fun x2 μ1 => ?_) (fun E μ1 => ?_)
  · change V κ ρ 1 6 μ1 _ 7 [(0, .ref p1), (1, .int p2), (2, .ref p3)] [.int x2, .int 0, .ref p3]
    refine V_i2l F dL_describeRow_7 ?_
    refine V_sJ F dL_describeRow_8 (fun μ3 => ?_)
    refine V_goto (tgt := 15) F dL_describeRow_9 (by decide) ?_
    refine V_iconst (v := 0) F dL_describeRow_15 (by decide) ?_
    exact V_iret F M dL_describeRow_16 rfl (by decide) (by decide)
  · refine VX_if (E0 := "java/lang/IndexOutOfBoundsException") (fun hE => ?_) ?_
    · subst hE
      refine VX_catch F M [] [] ⟨0, 9, 12, 13⟩ rfl (by decide) (fun z hz => nomatch hz) (by decide) (by decide) q445 q551 (fun q4 => ?_)
      change V κ ρ 1 6 μ1 _ 12 [(0, .ref p1), (1, .int p2), (2, .ref p3)] [.ref q4]
      refine V_astore_n (lv' := [(3, .ref q4), (0, .ref p1), (1, .int p2), (2, .ref p3)]) F dL_describeRow_12 rfl (lt_L hNL (by decide)) rfl ?_
      refine V_iconst (v := 1) F dL_describeRow_13 (by decide) ?_
      exact V_iret F M dL_describeRow_14 rfl (by decide) (by decide)
    exact VX_none
/-! DroneLightShowLaw.meanBatteryBits(LDroneLightShow;[J)I -/
abbrev rmL_meanBatteryBits : Room := { frames := 7, cells := 1, slots := 6, locals := 121 }
def FL_meanBatteryBits (p1 : Nat) (p2 : Nat) (μ : Me) : Rs Int32 :=
  (bndc (vc μ p1 7 (FX7_meanBatteryBits p1  μ)) (fun x2 μ1 => (sJ μ1 p2 0 ((x2 : Int32).toInt64) (fun μ3 => (rt 0 μ3)))) (fun E μ1 => (if E = "java/lang/ArithmeticException" then (rt 1 μ1) else none)))
set_option maxHeartbeats 4000000 in
set_option maxRecDepth 100000 in
theorem metL_meanBatteryBits {l : Launch} {s0 : State} {D : va_G} {aC : Nat → ClassId} (hG : Gl s0 D aC) (hl : l.stackTraces = false) (p1 : Nat) (p2 : Nat) (μ : Me) : Ct l yL_meanBatteryBits (wsH_ yL_meanBatteryBits cL_meanBatteryBits 3 (some .int) [(0, 8, 11, 93)]) rmL_meanBatteryBits s0 D aC (fun r : Int32 => some (.int r)) [.ref p1, .ref p2] μ (FL_meanBatteryBits p1 p2 μ) := by
  refine Ct_ofH hG hl (by decide +kernel) (Nat.le_of_ble_eq_true rfl) (fun κ ρ hNL F M hκ => ?_)
  have F : Fx κ cL_meanBatteryBits RL := F
  change V κ ρ 0 0 μ (FL_meanBatteryBits p1 p2 μ) 0 [(0, .ref p1), (1, .ref p2)] []
  unfold FL_meanBatteryBits
  refine V_aload_n F dL_meanBatteryBits_0 rfl 1 rfl ?_
  refine V_iconst (v := 0) F dL_meanBatteryBits_1 (by decide) ?_
  refine V_aload_n F dL_meanBatteryBits_2 rfl 0 rfl ?_
  refine V_cVc (As := []) (rest := [.int 0, .ref p2]) (C := RX7) (N := 0) F M (metX7_meanBatteryBits (Fx_G F) (Fx_l F) p1  μ) rfl q1156 q66 q1153 q1154 q1155 ⟨by decide +kernel, by decide +kernel, by decide +kernel⟩ rfl ⟨by decide, by decide⟩ (Nat.le_of_ble_eq_true rfl) dL_meanBatteryBits_3 (by decide) (by decide) (fun x2 μ1 => ?_) (fun E μ1 => ?_)
  · change V κ ρ 1 6 μ1 _ 6 [(0, .ref p1), (1, .ref p2)] [.int x2, .int 0, .ref p2]
    refine V_i2l F dL_meanBatteryBits_6 ?_
    refine V_sJ F dL_meanBatteryBits_7 (fun μ3 => ?_)
    refine V_goto (tgt := 14) F dL_meanBatteryBits_8 (by decide) ?_
    refine V_iconst (v := 0) F dL_meanBatteryBits_14 (by decide) ?_
    exact V_iret F M dL_meanBatteryBits_15 rfl (by decide) (by decide)
  · refine VX_if (E0 := "java/lang/ArithmeticException") (fun hE => ?_) ?_
    · subst hE
      refine VX_catch F M [] [] ⟨0, 8, 11, 93⟩ rfl (by decide) (fun z hz => nomatch hz) (by decide) (by decide) q860 q872 (fun q4 => ?_)
      change V κ ρ 1 6 μ1 _ 11 [(0, .ref p1), (1, .ref p2)] [.ref q4]
      refine V_astore_n (lv' := [(2, .ref q4), (0, .ref p1), (1, .ref p2)]) F dL_meanBatteryBits_11 rfl (lt_L hNL (by decide)) rfl ?_
      refine V_iconst (v := 1) F dL_meanBatteryBits_12 (by decide) ?_
      exact V_iret F M dL_meanBatteryBits_13 rfl (by decide) (by decide)
    exact VX_none
/-! DroneLightShowLaw.meanDistance(LDroneLightShow;[D)I -/
abbrev rmL_meanDistance : Room := { frames := 7, cells := 1, slots := 6, locals := 121 }
def FL_meanDistance (p1 : Nat) (p2 : Nat) (μ : Me) : Rs Int32 :=
  (bndc (vc μ p1 7 (FX7_meanDistance p1  μ)) (fun x2 μ1 => (sD μ1 p2 0 x2 (fun μ3 => (rt 0 μ3)))) (fun E μ1 => (if E = "java/lang/ArithmeticException" then (rt 1 μ1) else none)))
set_option maxHeartbeats 4000000 in
set_option maxRecDepth 100000 in
theorem metL_meanDistance {l : Launch} {s0 : State} {D : va_G} {aC : Nat → ClassId} (hG : Gl s0 D aC) (hl : l.stackTraces = false) (p1 : Nat) (p2 : Nat) (μ : Me) : Ct l yL_meanDistance (wsH_ yL_meanDistance cL_meanDistance 3 (some .int) [(0, 7, 10, 93)]) rmL_meanDistance s0 D aC (fun r : Int32 => some (.int r)) [.ref p1, .ref p2] μ (FL_meanDistance p1 p2 μ) := by
  refine Ct_ofH hG hl (by decide +kernel) (Nat.le_of_ble_eq_true rfl) (fun κ ρ hNL F M hκ => ?_)
  have F : Fx κ cL_meanDistance RL := F
  change V κ ρ 0 0 μ (FL_meanDistance p1 p2 μ) 0 [(0, .ref p1), (1, .ref p2)] []
  unfold FL_meanDistance
  refine V_aload_n F dL_meanDistance_0 rfl 1 rfl ?_
  refine V_iconst (v := 0) F dL_meanDistance_1 (by decide) ?_
  refine V_aload_n F dL_meanDistance_2 rfl 0 rfl ?_
  refine V_cVc (As := []) (rest := [.int 0, .ref p2]) (C := RX7) (N := 0) F M (metX7_meanDistance (Fx_G F) (Fx_l F) p1  μ) rfl q1172 q66 q1169 q1170 q1171 ⟨by decide +kernel, by decide +kernel, by decide +kernel⟩ rfl ⟨by decide, by decide⟩ (Nat.le_of_ble_eq_true rfl) dL_meanDistance_3 (by decide) (by decide) (fun x2 μ1 => ?_) (fun E μ1 => ?_)
  · change V κ ρ 1 6 μ1 _ 6 [(0, .ref p1), (1, .ref p2)] [.double x2, .int 0, .ref p2]
    refine V_sD F dL_meanDistance_6 (fun μ3 => ?_)
    refine V_goto (tgt := 13) F dL_meanDistance_7 (by decide) ?_
    refine V_iconst (v := 0) F dL_meanDistance_13 (by decide) ?_
    exact V_iret F M dL_meanDistance_14 rfl (by decide) (by decide)
  · refine VX_if (E0 := "java/lang/ArithmeticException") (fun hE => ?_) ?_
    · subst hE
      refine VX_catch F M [] [] ⟨0, 7, 10, 93⟩ rfl (by decide) (fun z hz => nomatch hz) (by decide) (by decide) q860 q872 (fun q4 => ?_)
      change V κ ρ 1 6 μ1 _ 10 [(0, .ref p1), (1, .ref p2)] [.ref q4]
      refine V_astore_n (lv' := [(2, .ref q4), (0, .ref p1), (1, .ref p2)]) F dL_meanDistance_10 rfl (lt_L hNL (by decide)) rfl ?_
      refine V_iconst (v := 1) F dL_meanDistance_11 (by decide) ?_
      exact V_iret F M dL_meanDistance_12 rfl (by decide) (by decide)
    exact VX_none
/-! DroneLightShowLaw.restore(LDroneLightShow;[J)I -/
abbrev rmL_restore : Room := { frames := 7, cells := 1, slots := 6, locals := 120 }
def FL_restore (p1 : Nat) (p2 : Nat) (μ : Me) : Rs Int32 :=
  (bndc (vc μ p1 7 (FX7_restore p1  μ)) (fun x2 μ1 => (sJ μ1 p2 0 ((x2 : Int32).toInt64) (fun μ3 => (rt 0 μ3)))) (fun E μ1 => (if E = "java/lang/IllegalStateException" then (rt 1 μ1) else none)))
set_option maxHeartbeats 4000000 in
set_option maxRecDepth 100000 in
theorem metL_restore {l : Launch} {s0 : State} {D : va_G} {aC : Nat → ClassId} (hG : Gl s0 D aC) (hl : l.stackTraces = false) (p1 : Nat) (p2 : Nat) (μ : Me) : Ct l yL_restore (wsH_ yL_restore cL_restore 3 (some .int) [(0, 8, 11, 15)]) rmL_restore s0 D aC (fun r : Int32 => some (.int r)) [.ref p1, .ref p2] μ (FL_restore p1 p2 μ) := by
  refine Ct_ofH hG hl (by decide +kernel) (Nat.le_of_ble_eq_true rfl) (fun κ ρ hNL F M hκ => ?_)
  have F : Fx κ cL_restore RL := F
  change V κ ρ 0 0 μ (FL_restore p1 p2 μ) 0 [(0, .ref p1), (1, .ref p2)] []
  unfold FL_restore
  refine V_aload_n F dL_restore_0 rfl 1 rfl ?_
  refine V_iconst (v := 0) F dL_restore_1 (by decide) ?_
  refine V_aload_n F dL_restore_2 rfl 0 rfl ?_
  refine V_cVc (As := []) (rest := [.int 0, .ref p2]) (C := RX7) (N := 0) F M (metX7_restore (Fx_G F) (Fx_l F) p1  μ) rfl q1200 q66 q1197 q1198 q1199 ⟨by decide +kernel, by decide +kernel, by decide +kernel⟩ rfl ⟨by decide, by decide⟩ (Nat.le_of_ble_eq_true rfl) dL_restore_3 (by decide) (by decide) (fun x2 μ1 => ?_) (fun E μ1 => ?_)
  · change V κ ρ 1 6 μ1 _ 6 [(0, .ref p1), (1, .ref p2)] [.int x2, .int 0, .ref p2]
    refine V_i2l F dL_restore_6 ?_
    refine V_sJ F dL_restore_7 (fun μ3 => ?_)
    refine V_goto (tgt := 14) F dL_restore_8 (by decide) ?_
    refine V_iconst (v := 0) F dL_restore_14 (by decide) ?_
    exact V_iret F M dL_restore_15 rfl (by decide) (by decide)
  · refine VX_if (E0 := "java/lang/IllegalStateException") (fun hE => ?_) ?_
    · subst hE
      refine VX_catch F M [] [] ⟨0, 8, 11, 15⟩ rfl (by decide) (fun z hz => nomatch hz) (by decide) (by decide) q525 q580 (fun q4 => ?_)
      change V κ ρ 1 6 μ1 _ 11 [(0, .ref p1), (1, .ref p2)] [.ref q4]
      refine V_astore_n (lv' := [(2, .ref q4), (0, .ref p1), (1, .ref p2)]) F dL_restore_11 rfl (lt_L hNL (by decide)) rfl ?_
      refine V_iconst (v := 1) F dL_restore_12 (by decide) ?_
      exact V_iret F M dL_restore_13 rfl (by decide) (by decide)
    exact VX_none
/-! DroneLightShowLaw.droneAt(LDroneLightShow;I[J)I -/
abbrev rmL_droneAt : Room := { frames := 8, cells := 2, slots := 12, locals := 141 }
def FL_droneAt (p1 : Nat) (p2 : Int32) (p3 : Nat) (μ : Me) : Rs Int32 :=
  (bndc (vc μ p1 7 (FX7_droneAt p1 p2 μ)) (fun x2 μ1 => (sJ μ1 p3 0 ((x2 : Int32).toInt64) (fun μ3 => (rt 0 μ3)))) (fun E μ1 => (if E = "java/lang/IndexOutOfBoundsException" then (rt 1 μ1) else (if E = "java/util/NoSuchElementException" then (rt 2 μ1) else none))))
set_option maxHeartbeats 4000000 in
set_option maxRecDepth 100000 in
theorem metL_droneAt {l : Launch} {s0 : State} {D : va_G} {aC : Nat → ClassId} (hG : Gl s0 D aC) (hl : l.stackTraces = false) (p1 : Nat) (p2 : Int32) (p3 : Nat) (μ : Me) : Ct l yL_droneAt (wsH_ yL_droneAt cL_droneAt 4 (some .int) [(0, 9, 12, 13), (0, 9, 15, 53)]) rmL_droneAt s0 D aC (fun r : Int32 => some (.int r)) [.ref p1, .int p2, .ref p3] μ (FL_droneAt p1 p2 p3 μ) := by
  refine Ct_ofH hG hl (by decide +kernel) (Nat.le_of_ble_eq_true rfl) (fun κ ρ hNL F M hκ => ?_)
  have F : Fx κ cL_droneAt RL := F
  change V κ ρ 0 0 μ (FL_droneAt p1 p2 p3 μ) 0 [(0, .ref p1), (1, .int p2), (2, .ref p3)] []
  unfold FL_droneAt
  refine V_aload_n F dL_droneAt_0 rfl 2 rfl ?_
  refine V_iconst (v := 0) F dL_droneAt_1 (by decide) ?_
  refine V_aload_n F dL_droneAt_2 rfl 0 rfl ?_
  refine V_iload_n F dL_droneAt_3 rfl 1 rfl ?_
  refine V_cVc (As := [.int p2]) (rest := [.int 0, .ref p3]) (C := RX7) (N := 1) F M (metX7_droneAt (Fx_G F) (Fx_l F) p1 p2 μ) rfl q753 q66 q750 q751 q752 ⟨by decide +kernel, by decide +kernel, by decide +kernel⟩ rfl ⟨by decide, by decide⟩ (Nat.le_of_ble_eq_true rfl) dL_droneAt_4 (by decide) (by decide) (fun x2 μ1 => ?_) (fun E μ1 => ?_)
  · change V κ ρ 2 12 μ1 _ 7 [(0, .ref p1), (1, .int p2), (2, .ref p3)] [.int x2, .int 0, .ref p3]
    refine V_i2l F dL_droneAt_7 ?_
    refine V_sJ F dL_droneAt_8 (fun μ3 => ?_)
    refine V_goto (tgt := 18) F dL_droneAt_9 (by decide) ?_
    refine V_iconst (v := 0) F dL_droneAt_18 (by decide) ?_
    exact V_iret F M dL_droneAt_19 rfl (by decide) (by decide)
  · refine VX_if (E0 := "java/lang/IndexOutOfBoundsException") (fun hE => ?_) ?_
    · subst hE
      refine VX_catch F M [] [⟨0, 9, 15, 53⟩] ⟨0, 9, 12, 13⟩ rfl (by decide) (fun z hz => nomatch hz) (by decide) (by decide) q445 q551 (fun q4 => ?_)
      change V κ ρ 2 12 μ1 _ 12 [(0, .ref p1), (1, .int p2), (2, .ref p3)] [.ref q4]
      refine V_astore_n (lv' := [(3, .ref q4), (0, .ref p1), (1, .int p2), (2, .ref p3)]) F dL_droneAt_12 rfl (lt_L hNL (by decide)) rfl ?_
      refine V_iconst (v := 1) F dL_droneAt_13 (by decide) ?_
      exact V_iret F M dL_droneAt_14 rfl (by decide) (by decide)
    refine VX_if (E0 := "java/util/NoSuchElementException") (fun hE => ?_) ?_
    · subst hE
      refine VX_catch F M [⟨0, 9, 12, 13⟩] [] ⟨0, 9, 15, 53⟩ rfl (by decide) (List.forall_mem_cons.mpr ⟨⟨by decide, "java/lang/IndexOutOfBoundsException", by decide, by decide, q445⟩, fun z hz => nomatch hz⟩) (by decide) (by decide) q716 q726 (fun q5 => ?_)
      change V κ ρ 2 12 μ1 _ 15 [(0, .ref p1), (1, .int p2), (2, .ref p3)] [.ref q5]
      refine V_astore_n (lv' := [(3, .ref q5), (0, .ref p1), (1, .int p2), (2, .ref p3)]) F dL_droneAt_15 rfl (lt_L hNL (by decide)) rfl ?_
      refine V_iconst (v := 2) F dL_droneAt_16 (by decide) ?_
      exact V_iret F M dL_droneAt_17 rfl (by decide) (by decide)
    exact VX_none
/-! DroneLightShowLaw.isPad(LDroneLightShow;I[J)I -/
abbrev rmL_isPad : Room := { frames := 8, cells := 1, slots := 6, locals := 141 }
def FL_isPad (p1 : Nat) (p2 : Int32) (p3 : Nat) (μ : Me) : Rs Int32 :=
  (bndc (vc μ p1 7 (FX7_isPad p1 p2 μ)) (fun x2 μ1 => (if x2 = 0 then (sJ μ1 p3 0 0 (fun μ5 => (rt 0 μ5))) else (sJ μ1 p3 0 1 (fun μ6 => (rt 0 μ6))))) (fun E μ1 => (if E = "java/lang/IndexOutOfBoundsException" then (rt 1 μ1) else none)))
set_option maxHeartbeats 4000000 in
set_option maxRecDepth 100000 in
theorem metL_isPad {l : Launch} {s0 : State} {D : va_G} {aC : Nat → ClassId} (hG : Gl s0 D aC) (hl : l.stackTraces = false) (p1 : Nat) (p2 : Int32) (p3 : Nat) (μ : Me) : Ct l yL_isPad (wsH_ yL_isPad cL_isPad 4 (some .int) [(0, 16, 19, 13)]) rmL_isPad s0 D aC (fun r : Int32 => some (.int r)) [.ref p1, .int p2, .ref p3] μ (FL_isPad p1 p2 p3 μ) := by
  refine Ct_ofH hG hl (by decide +kernel) (Nat.le_of_ble_eq_true rfl) (fun κ ρ hNL F M hκ => ?_)
  have F : Fx κ cL_isPad RL := F
  change V κ ρ 0 0 μ (FL_isPad p1 p2 p3 μ) 0 [(0, .ref p1), (1, .int p2), (2, .ref p3)] []
  unfold FL_isPad
  refine V_aload_n F dL_isPad_0 rfl 2 rfl ?_
  refine V_iconst (v := 0) F dL_isPad_1 (by decide) ?_
  refine V_aload_n F dL_isPad_2 rfl 0 rfl ?_
  refine V_iload_n F dL_isPad_3 rfl 1 rfl ?_
  refine V_cVc (As := [.int p2]) (rest := [.int 0, .ref p3]) (C := RX7) (N := 1) F M (metX7_isPad (Fx_G F) (Fx_l F) p1 p2 μ) rfl q766 q66 q763 q764 q765 ⟨by decide +kernel, by decide +kernel, by decide +kernel⟩ rfl ⟨by decide, by decide⟩ (Nat.le_of_ble_eq_true rfl) dL_isPad_4 (by decide) (by decide) (fun x2 μ1 => ?_) (fun E μ1 => ?_)
  · change V κ ρ 1 6 μ1 _ 7 [(0, .ref p1), (1, .int p2), (2, .ref p3)] [.int x2, .int 0, .ref p3]
    refine V_if_eq (tgt := 14) F dL_isPad_7 (by decide) (fun c3 => ?_) (fun c4 => ?_)
    · refine V_lconst (v := 0) F dL_isPad_14 (by decide) ?_
      refine V_sJ F dL_isPad_15 (fun μ5 => ?_)
      refine V_goto (tgt := 22) F dL_isPad_16 (by decide) ?_
      refine V_iconst (v := 0) F dL_isPad_22 (by decide) ?_
      exact V_iret F M dL_isPad_23 rfl (by decide) (by decide)
    · refine V_lconst (v := 1) F dL_isPad_10 (by decide) ?_
      refine V_goto (tgt := 15) F dL_isPad_11 (by decide) ?_
      refine V_sJ F dL_isPad_15 (fun μ6 => ?_)
      refine V_goto (tgt := 22) F dL_isPad_16 (by decide) ?_
      refine V_iconst (v := 0) F dL_isPad_22 (by decide) ?_
      exact V_iret F M dL_isPad_23 rfl (by decide) (by decide)
  · refine VX_if (E0 := "java/lang/IndexOutOfBoundsException") (fun hE => ?_) ?_
    · subst hE
      refine VX_catch F M [] [] ⟨0, 16, 19, 13⟩ rfl (by decide) (fun z hz => nomatch hz) (by decide) (by decide) q445 q551 (fun q7 => ?_)
      change V κ ρ 1 6 μ1 _ 19 [(0, .ref p1), (1, .int p2), (2, .ref p3)] [.ref q7]
      refine V_astore_n (lv' := [(3, .ref q7), (0, .ref p1), (1, .int p2), (2, .ref p3)]) F dL_isPad_19 rfl (lt_L hNL (by decide)) rfl ?_
      refine V_iconst (v := 1) F dL_isPad_20 (by decide) ?_
      exact V_iret F M dL_isPad_21 rfl (by decide) (by decide)
    exact VX_none
/-! DroneLightShowLaw.nearestPadByRings(LDroneLightShow;I[J)I -/
abbrev rmL_nearestPadByRings : Room := { frames := 8, cells := 2, slots := 12, locals := 142 }
def FL_nearestPadByRings (p1 : Nat) (p2 : Int32) (p3 : Nat) (μ : Me) : Rs Int32 :=
  (bndc (vc μ p1 7 (FX7_nearestPadByRings p1 p2 μ)) (fun x2 μ1 => (sJ μ1 p3 0 ((x2 : Int32).toInt64) (fun μ3 => (rt 0 μ3)))) (fun E μ1 => (if E = "java/lang/IndexOutOfBoundsException" then (rt 1 μ1) else (if E = "java/util/NoSuchElementException" then (rt 2 μ1) else none))))
set_option maxHeartbeats 4000000 in
set_option maxRecDepth 100000 in
theorem metL_nearestPadByRings {l : Launch} {s0 : State} {D : va_G} {aC : Nat → ClassId} (hG : Gl s0 D aC) (hl : l.stackTraces = false) (p1 : Nat) (p2 : Int32) (p3 : Nat) (μ : Me) : Ct l yL_nearestPadByRings (wsH_ yL_nearestPadByRings cL_nearestPadByRings 4 (some .int) [(0, 9, 12, 13), (0, 9, 15, 53)]) rmL_nearestPadByRings s0 D aC (fun r : Int32 => some (.int r)) [.ref p1, .int p2, .ref p3] μ (FL_nearestPadByRings p1 p2 p3 μ) := by
  refine Ct_ofH hG hl (by decide +kernel) (Nat.le_of_ble_eq_true rfl) (fun κ ρ hNL F M hκ => ?_)
  have F : Fx κ cL_nearestPadByRings RL := F
  change V κ ρ 0 0 μ (FL_nearestPadByRings p1 p2 p3 μ) 0 [(0, .ref p1), (1, .int p2), (2, .ref p3)] []
  unfold FL_nearestPadByRings
  refine V_aload_n F dL_nearestPadByRings_0 rfl 2 rfl ?_
  refine V_iconst (v := 0) F dL_nearestPadByRings_1 (by decide) ?_
  refine V_aload_n F dL_nearestPadByRings_2 rfl 0 rfl ?_
  refine V_iload_n F dL_nearestPadByRings_3 rfl 1 rfl ?_
  refine V_cVc (As := [.int p2]) (rest := [.int 0, .ref p3]) (C := RX7) (N := 1) F M (metX7_nearestPadByRings (Fx_G F) (Fx_l F) p1 p2 μ) rfl q781 q66 q778 q779 q780 ⟨by decide +kernel, by decide +kernel, by decide +kernel⟩ rfl ⟨by decide, by decide⟩ (Nat.le_of_ble_eq_true rfl) dL_nearestPadByRings_4 (by decide) (by decide) (fun x2 μ1 => ?_) (fun E μ1 => ?_)
  · change V κ ρ 2 12 μ1 _ 7 [(0, .ref p1), (1, .int p2), (2, .ref p3)] [.int x2, .int 0, .ref p3]
    refine V_i2l F dL_nearestPadByRings_7 ?_
    refine V_sJ F dL_nearestPadByRings_8 (fun μ3 => ?_)
    refine V_goto (tgt := 18) F dL_nearestPadByRings_9 (by decide) ?_
    refine V_iconst (v := 0) F dL_nearestPadByRings_18 (by decide) ?_
    exact V_iret F M dL_nearestPadByRings_19 rfl (by decide) (by decide)
  · refine VX_if (E0 := "java/lang/IndexOutOfBoundsException") (fun hE => ?_) ?_
    · subst hE
      refine VX_catch F M [] [⟨0, 9, 15, 53⟩] ⟨0, 9, 12, 13⟩ rfl (by decide) (fun z hz => nomatch hz) (by decide) (by decide) q445 q551 (fun q4 => ?_)
      change V κ ρ 2 12 μ1 _ 12 [(0, .ref p1), (1, .int p2), (2, .ref p3)] [.ref q4]
      refine V_astore_n (lv' := [(3, .ref q4), (0, .ref p1), (1, .int p2), (2, .ref p3)]) F dL_nearestPadByRings_12 rfl (lt_L hNL (by decide)) rfl ?_
      refine V_iconst (v := 1) F dL_nearestPadByRings_13 (by decide) ?_
      exact V_iret F M dL_nearestPadByRings_14 rfl (by decide) (by decide)
    refine VX_if (E0 := "java/util/NoSuchElementException") (fun hE => ?_) ?_
    · subst hE
      refine VX_catch F M [⟨0, 9, 12, 13⟩] [] ⟨0, 9, 15, 53⟩ rfl (by decide) (List.forall_mem_cons.mpr ⟨⟨by decide, "java/lang/IndexOutOfBoundsException", by decide, by decide, q445⟩, fun z hz => nomatch hz⟩) (by decide) (by decide) q716 q726 (fun q5 => ?_)
      change V κ ρ 2 12 μ1 _ 15 [(0, .ref p1), (1, .int p2), (2, .ref p3)] [.ref q5]
      refine V_astore_n (lv' := [(3, .ref q5), (0, .ref p1), (1, .int p2), (2, .ref p3)]) F dL_nearestPadByRings_15 rfl (lt_L hNL (by decide)) rfl ?_
      refine V_iconst (v := 2) F dL_nearestPadByRings_16 (by decide) ?_
      exact V_iret F M dL_nearestPadByRings_17 rfl (by decide) (by decide)
    exact VX_none
/-! DroneLightShowLaw.formationMask(LDroneLightShow;I[J)I -/
abbrev rmL_formationMask : Room := { frames := 8, cells := 1, slots := 6, locals := 141 }
def FL_formationMask (p1 : Nat) (p2 : Int32) (p3 : Nat) (μ : Me) : Rs Int32 :=
  (bndc (vc μ p1 7 (FX7_formationMask p1 p2 μ)) (fun x2 μ1 => (sJ μ1 p3 0 x2 (fun μ3 => (rt 0 μ3)))) (fun E μ1 => (if E = "java/lang/IndexOutOfBoundsException" then (rt 1 μ1) else none)))
set_option maxHeartbeats 4000000 in
set_option maxRecDepth 100000 in
theorem metL_formationMask {l : Launch} {s0 : State} {D : va_G} {aC : Nat → ClassId} (hG : Gl s0 D aC) (hl : l.stackTraces = false) (p1 : Nat) (p2 : Int32) (p3 : Nat) (μ : Me) : Ct l yL_formationMask (wsH_ yL_formationMask cL_formationMask 4 (some .int) [(0, 8, 11, 13)]) rmL_formationMask s0 D aC (fun r : Int32 => some (.int r)) [.ref p1, .int p2, .ref p3] μ (FL_formationMask p1 p2 p3 μ) := by
  refine Ct_ofH hG hl (by decide +kernel) (Nat.le_of_ble_eq_true rfl) (fun κ ρ hNL F M hκ => ?_)
  have F : Fx κ cL_formationMask RL := F
  change V κ ρ 0 0 μ (FL_formationMask p1 p2 p3 μ) 0 [(0, .ref p1), (1, .int p2), (2, .ref p3)] []
  unfold FL_formationMask
  refine V_aload_n F dL_formationMask_0 rfl 2 rfl ?_
  refine V_iconst (v := 0) F dL_formationMask_1 (by decide) ?_
  refine V_aload_n F dL_formationMask_2 rfl 0 rfl ?_
  refine V_iload_n F dL_formationMask_3 rfl 1 rfl ?_
  refine V_cVc (As := [.int p2]) (rest := [.int 0, .ref p3]) (C := RX7) (N := 1) F M (metX7_formationMask (Fx_G F) (Fx_l F) p1 p2 μ) rfl q837 q66 q834 q835 q836 ⟨by decide +kernel, by decide +kernel, by decide +kernel⟩ rfl ⟨by decide, by decide⟩ (Nat.le_of_ble_eq_true rfl) dL_formationMask_4 (by decide) (by decide) (fun x2 μ1 => ?_) (fun E μ1 => ?_)
  · change V κ ρ 1 6 μ1 _ 7 [(0, .ref p1), (1, .int p2), (2, .ref p3)] [.long x2, .int 0, .ref p3]
    refine V_sJ F dL_formationMask_7 (fun μ3 => ?_)
    refine V_goto (tgt := 14) F dL_formationMask_8 (by decide) ?_
    refine V_iconst (v := 0) F dL_formationMask_14 (by decide) ?_
    exact V_iret F M dL_formationMask_15 rfl (by decide) (by decide)
  · refine VX_if (E0 := "java/lang/IndexOutOfBoundsException") (fun hE => ?_) ?_
    · subst hE
      refine VX_catch F M [] [] ⟨0, 8, 11, 13⟩ rfl (by decide) (fun z hz => nomatch hz) (by decide) (by decide) q445 q551 (fun q4 => ?_)
      change V κ ρ 1 6 μ1 _ 11 [(0, .ref p1), (1, .int p2), (2, .ref p3)] [.ref q4]
      refine V_astore_n (lv' := [(3, .ref q4), (0, .ref p1), (1, .int p2), (2, .ref p3)]) F dL_formationMask_11 rfl (lt_L hNL (by decide)) rfl ?_
      refine V_iconst (v := 1) F dL_formationMask_12 (by decide) ?_
      exact V_iret F M dL_formationMask_13 rfl (by decide) (by decide)
    exact VX_none
/-! DroneLightShowLaw.matchCount(LDroneLightShow;I[J)I -/
abbrev rmL_matchCount : Room := { frames := 8, cells := 1, slots := 6, locals := 141 }
def FL_matchCount (p1 : Nat) (p2 : Int32) (p3 : Nat) (μ : Me) : Rs Int32 :=
  (bndc (vc μ p1 7 (FX7_matchCount p1 p2 μ)) (fun x2 μ1 => (sJ μ1 p3 0 ((x2 : Int32).toInt64) (fun μ3 => (rt 0 μ3)))) (fun E μ1 => (if E = "java/lang/IndexOutOfBoundsException" then (rt 1 μ1) else none)))
set_option maxHeartbeats 4000000 in
set_option maxRecDepth 100000 in
theorem metL_matchCount {l : Launch} {s0 : State} {D : va_G} {aC : Nat → ClassId} (hG : Gl s0 D aC) (hl : l.stackTraces = false) (p1 : Nat) (p2 : Int32) (p3 : Nat) (μ : Me) : Ct l yL_matchCount (wsH_ yL_matchCount cL_matchCount 4 (some .int) [(0, 9, 12, 13)]) rmL_matchCount s0 D aC (fun r : Int32 => some (.int r)) [.ref p1, .int p2, .ref p3] μ (FL_matchCount p1 p2 p3 μ) := by
  refine Ct_ofH hG hl (by decide +kernel) (Nat.le_of_ble_eq_true rfl) (fun κ ρ hNL F M hκ => ?_)
  have F : Fx κ cL_matchCount RL := F
  change V κ ρ 0 0 μ (FL_matchCount p1 p2 p3 μ) 0 [(0, .ref p1), (1, .int p2), (2, .ref p3)] []
  unfold FL_matchCount
  refine V_aload_n F dL_matchCount_0 rfl 2 rfl ?_
  refine V_iconst (v := 0) F dL_matchCount_1 (by decide) ?_
  refine V_aload_n F dL_matchCount_2 rfl 0 rfl ?_
  refine V_iload_n F dL_matchCount_3 rfl 1 rfl ?_
  refine V_cVc (As := [.int p2]) (rest := [.int 0, .ref p3]) (C := RX7) (N := 1) F M (metX7_matchCount (Fx_G F) (Fx_l F) p1 p2 μ) rfl q849 q66 q846 q847 q848 ⟨by decide +kernel, by decide +kernel, by decide +kernel⟩ rfl ⟨by decide, by decide⟩ (Nat.le_of_ble_eq_true rfl) dL_matchCount_4 (by decide) (by decide) (fun x2 μ1 => ?_) (fun E μ1 => ?_)
  · change V κ ρ 1 6 μ1 _ 7 [(0, .ref p1), (1, .int p2), (2, .ref p3)] [.int x2, .int 0, .ref p3]
    refine V_i2l F dL_matchCount_7 ?_
    refine V_sJ F dL_matchCount_8 (fun μ3 => ?_)
    refine V_goto (tgt := 15) F dL_matchCount_9 (by decide) ?_
    refine V_iconst (v := 0) F dL_matchCount_15 (by decide) ?_
    exact V_iret F M dL_matchCount_16 rfl (by decide) (by decide)
  · refine VX_if (E0 := "java/lang/IndexOutOfBoundsException") (fun hE => ?_) ?_
    · subst hE
      refine VX_catch F M [] [] ⟨0, 9, 12, 13⟩ rfl (by decide) (fun z hz => nomatch hz) (by decide) (by decide) q445 q551 (fun q4 => ?_)
      change V κ ρ 1 6 μ1 _ 12 [(0, .ref p1), (1, .int p2), (2, .ref p3)] [.ref q4]
      refine V_astore_n (lv' := [(3, .ref q4), (0, .ref p1), (1, .int p2), (2, .ref p3)]) F dL_matchCount_12 rfl (lt_L hNL (by decide)) rfl ?_
      refine V_iconst (v := 1) F dL_matchCount_13 (by decide) ?_
      exact V_iret F M dL_matchCount_14 rfl (by decide) (by decide)
    exact VX_none
/-! DroneLightShowLaw.matchCountByScan(LDroneLightShow;I[J)I -/
abbrev rmL_matchCountByScan : Room := { frames := 8, cells := 1, slots := 6, locals := 141 }
def FL_matchCountByScan (p1 : Nat) (p2 : Int32) (p3 : Nat) (μ : Me) : Rs Int32 :=
  (bndc (vc μ p1 7 (FX7_matchCountByScan p1 p2 μ)) (fun x2 μ1 => (sJ μ1 p3 0 ((x2 : Int32).toInt64) (fun μ3 => (rt 0 μ3)))) (fun E μ1 => (if E = "java/lang/IndexOutOfBoundsException" then (rt 1 μ1) else none)))
set_option maxHeartbeats 4000000 in
set_option maxRecDepth 100000 in
theorem metL_matchCountByScan {l : Launch} {s0 : State} {D : va_G} {aC : Nat → ClassId} (hG : Gl s0 D aC) (hl : l.stackTraces = false) (p1 : Nat) (p2 : Int32) (p3 : Nat) (μ : Me) : Ct l yL_matchCountByScan (wsH_ yL_matchCountByScan cL_matchCountByScan 4 (some .int) [(0, 9, 12, 13)]) rmL_matchCountByScan s0 D aC (fun r : Int32 => some (.int r)) [.ref p1, .int p2, .ref p3] μ (FL_matchCountByScan p1 p2 p3 μ) := by
  refine Ct_ofH hG hl (by decide +kernel) (Nat.le_of_ble_eq_true rfl) (fun κ ρ hNL F M hκ => ?_)
  have F : Fx κ cL_matchCountByScan RL := F
  change V κ ρ 0 0 μ (FL_matchCountByScan p1 p2 p3 μ) 0 [(0, .ref p1), (1, .int p2), (2, .ref p3)] []
  unfold FL_matchCountByScan
  refine V_aload_n F dL_matchCountByScan_0 rfl 2 rfl ?_
  refine V_iconst (v := 0) F dL_matchCountByScan_1 (by decide) ?_
  refine V_aload_n F dL_matchCountByScan_2 rfl 0 rfl ?_
  refine V_iload_n F dL_matchCountByScan_3 rfl 1 rfl ?_
  refine V_cVc (As := [.int p2]) (rest := [.int 0, .ref p3]) (C := RX7) (N := 1) F M (metX7_matchCountByScan (Fx_G F) (Fx_l F) p1 p2 μ) rfl q856 q66 q853 q854 q855 ⟨by decide +kernel, by decide +kernel, by decide +kernel⟩ rfl ⟨by decide, by decide⟩ (Nat.le_of_ble_eq_true rfl) dL_matchCountByScan_4 (by decide) (by decide) (fun x2 μ1 => ?_) (fun E μ1 => ?_)
  · change V κ ρ 1 6 μ1 _ 7 [(0, .ref p1), (1, .int p2), (2, .ref p3)] [.int x2, .int 0, .ref p3]
    refine V_i2l F dL_matchCountByScan_7 ?_
    refine V_sJ F dL_matchCountByScan_8 (fun μ3 => ?_)
    refine V_goto (tgt := 15) F dL_matchCountByScan_9 (by decide) ?_
    refine V_iconst (v := 0) F dL_matchCountByScan_15 (by decide) ?_
    exact V_iret F M dL_matchCountByScan_16 rfl (by decide) (by decide)
  · refine VX_if (E0 := "java/lang/IndexOutOfBoundsException") (fun hE => ?_) ?_
    · subst hE
      refine VX_catch F M [] [] ⟨0, 9, 12, 13⟩ rfl (by decide) (fun z hz => nomatch hz) (by decide) (by decide) q445 q551 (fun q4 => ?_)
      change V κ ρ 1 6 μ1 _ 12 [(0, .ref p1), (1, .int p2), (2, .ref p3)] [.ref q4]
      refine V_astore_n (lv' := [(3, .ref q4), (0, .ref p1), (1, .int p2), (2, .ref p3)]) F dL_matchCountByScan_12 rfl (lt_L hNL (by decide)) rfl ?_
      refine V_iconst (v := 1) F dL_matchCountByScan_13 (by decide) ?_
      exact V_iret F M dL_matchCountByScan_14 rfl (by decide) (by decide)
    exact VX_none
/-! DroneLightShowLaw.coverage(LDroneLightShow;I[D)I -/
abbrev rmL_coverage : Room := { frames := 8, cells := 2, slots := 12, locals := 142 }
def FL_coverage (p1 : Nat) (p2 : Int32) (p3 : Nat) (μ : Me) : Rs Int32 :=
  (bndc (vc μ p1 7 (FX7_coverage p1 p2 μ)) (fun x2 μ1 => (gd (nn64 (FP.f2d x2) = true) (sD μ1 p3 0 (FP.f2d x2) (fun μ4 => (rt 0 μ4))))) (fun E μ1 => (if E = "java/lang/IndexOutOfBoundsException" then (rt 1 μ1) else (if E = "java/lang/ArithmeticException" then (rt 2 μ1) else none))))
set_option maxHeartbeats 4000000 in
set_option maxRecDepth 100000 in
theorem metL_coverage {l : Launch} {s0 : State} {D : va_G} {aC : Nat → ClassId} (hG : Gl s0 D aC) (hl : l.stackTraces = false) (p1 : Nat) (p2 : Int32) (p3 : Nat) (μ : Me) : Ct l yL_coverage (wsH_ yL_coverage cL_coverage 4 (some .int) [(0, 9, 12, 13), (0, 9, 15, 93)]) rmL_coverage s0 D aC (fun r : Int32 => some (.int r)) [.ref p1, .int p2, .ref p3] μ (FL_coverage p1 p2 p3 μ) := by
  refine Ct_ofH hG hl (by decide +kernel) (Nat.le_of_ble_eq_true rfl) (fun κ ρ hNL F M hκ => ?_)
  have F : Fx κ cL_coverage RL := F
  change V κ ρ 0 0 μ (FL_coverage p1 p2 p3 μ) 0 [(0, .ref p1), (1, .int p2), (2, .ref p3)] []
  unfold FL_coverage
  refine V_aload_n F dL_coverage_0 rfl 2 rfl ?_
  refine V_iconst (v := 0) F dL_coverage_1 (by decide) ?_
  refine V_aload_n F dL_coverage_2 rfl 0 rfl ?_
  refine V_iload_n F dL_coverage_3 rfl 1 rfl ?_
  refine V_cVc (As := [.int p2]) (rest := [.int 0, .ref p3]) (C := RX7) (N := 1) F M (metX7_coverage (Fx_G F) (Fx_l F) p1 p2 μ) rfl q877 q66 q874 q875 q876 ⟨by decide +kernel, by decide +kernel, by decide +kernel⟩ rfl ⟨by decide, by decide⟩ (Nat.le_of_ble_eq_true rfl) dL_coverage_4 (by decide) (by decide) (fun x2 μ1 => ?_) (fun E μ1 => ?_)
  · change V κ ρ 2 12 μ1 _ 7 [(0, .ref p1), (1, .int p2), (2, .ref p3)] [.float x2, .int 0, .ref p3]
    refine V_gd (fun g3 => ?_)
    refine V_f2d F dL_coverage_7 g3 ?_
    refine V_sD F dL_coverage_8 (fun μ4 => ?_)
    refine V_goto (tgt := 18) F dL_coverage_9 (by decide) ?_
    refine V_iconst (v := 0) F dL_coverage_18 (by decide) ?_
    exact V_iret F M dL_coverage_19 rfl (by decide) (by decide)
  · refine VX_if (E0 := "java/lang/IndexOutOfBoundsException") (fun hE => ?_) ?_
    · subst hE
      refine VX_catch F M [] [⟨0, 9, 15, 93⟩] ⟨0, 9, 12, 13⟩ rfl (by decide) (fun z hz => nomatch hz) (by decide) (by decide) q445 q551 (fun q5 => ?_)
      change V κ ρ 2 12 μ1 _ 12 [(0, .ref p1), (1, .int p2), (2, .ref p3)] [.ref q5]
      refine V_astore_n (lv' := [(3, .ref q5), (0, .ref p1), (1, .int p2), (2, .ref p3)]) F dL_coverage_12 rfl (lt_L hNL (by decide)) rfl ?_
      refine V_iconst (v := 1) F dL_coverage_13 (by decide) ?_
      exact V_iret F M dL_coverage_14 rfl (by decide) (by decide)
    refine VX_if (E0 := "java/lang/ArithmeticException") (fun hE => ?_) ?_
    · subst hE
      refine VX_catch F M [⟨0, 9, 12, 13⟩] [] ⟨0, 9, 15, 93⟩ rfl (by decide) (List.forall_mem_cons.mpr ⟨⟨by decide, "java/lang/IndexOutOfBoundsException", by decide, by decide, q445⟩, fun z hz => nomatch hz⟩) (by decide) (by decide) q860 q872 (fun q6 => ?_)
      change V κ ρ 2 12 μ1 _ 15 [(0, .ref p1), (1, .int p2), (2, .ref p3)] [.ref q6]
      refine V_astore_n (lv' := [(3, .ref q6), (0, .ref p1), (1, .int p2), (2, .ref p3)]) F dL_coverage_15 rfl (lt_L hNL (by decide)) rfl ?_
      refine V_iconst (v := 2) F dL_coverage_16 (by decide) ?_
      exact V_iret F M dL_coverage_17 rfl (by decide) (by decide)
    exact VX_none
/-! DroneLightShowLaw.droneAtRank(LDroneLightShow;I[J)I -/
abbrev rmL_droneAtRank : Room := { frames := 8, cells := 1, slots := 6, locals := 141 }
def FL_droneAtRank (p1 : Nat) (p2 : Int32) (p3 : Nat) (μ : Me) : Rs Int32 :=
  (bndc (vc μ p1 7 (FX7_droneAtRank p1 p2 μ)) (fun x2 μ1 => (sJ μ1 p3 0 ((x2 : Int32).toInt64) (fun μ3 => (rt 0 μ3)))) (fun E μ1 => (if E = "java/util/NoSuchElementException" then (rt 1 μ1) else none)))
set_option maxHeartbeats 4000000 in
set_option maxRecDepth 100000 in
theorem metL_droneAtRank {l : Launch} {s0 : State} {D : va_G} {aC : Nat → ClassId} (hG : Gl s0 D aC) (hl : l.stackTraces = false) (p1 : Nat) (p2 : Int32) (p3 : Nat) (μ : Me) : Ct l yL_droneAtRank (wsH_ yL_droneAtRank cL_droneAtRank 4 (some .int) [(0, 9, 12, 53)]) rmL_droneAtRank s0 D aC (fun r : Int32 => some (.int r)) [.ref p1, .int p2, .ref p3] μ (FL_droneAtRank p1 p2 p3 μ) := by
  refine Ct_ofH hG hl (by decide +kernel) (Nat.le_of_ble_eq_true rfl) (fun κ ρ hNL F M hκ => ?_)
  have F : Fx κ cL_droneAtRank RL := F
  change V κ ρ 0 0 μ (FL_droneAtRank p1 p2 p3 μ) 0 [(0, .ref p1), (1, .int p2), (2, .ref p3)] []
  unfold FL_droneAtRank
  refine V_aload_n F dL_droneAtRank_0 rfl 2 rfl ?_
  refine V_iconst (v := 0) F dL_droneAtRank_1 (by decide) ?_
  refine V_aload_n F dL_droneAtRank_2 rfl 0 rfl ?_
  refine V_iload_n F dL_droneAtRank_3 rfl 1 rfl ?_
  refine V_cVc (As := [.int p2]) (rest := [.int 0, .ref p3]) (C := RX7) (N := 1) F M (metX7_droneAtRank (Fx_G F) (Fx_l F) p1 p2 μ) rfl q947 q66 q944 q945 q946 ⟨by decide +kernel, by decide +kernel, by decide +kernel⟩ rfl ⟨by decide, by decide⟩ (Nat.le_of_ble_eq_true rfl) dL_droneAtRank_4 (by decide) (by decide) (fun x2 μ1 => ?_) (fun E μ1 => ?_)
  · change V κ ρ 1 6 μ1 _ 7 [(0, .ref p1), (1, .int p2), (2, .ref p3)] [.int x2, .int 0, .ref p3]
    refine V_i2l F dL_droneAtRank_7 ?_
    refine V_sJ F dL_droneAtRank_8 (fun μ3 => ?_)
    refine V_goto (tgt := 15) F dL_droneAtRank_9 (by decide) ?_
    refine V_iconst (v := 0) F dL_droneAtRank_15 (by decide) ?_
    exact V_iret F M dL_droneAtRank_16 rfl (by decide) (by decide)
  · refine VX_if (E0 := "java/util/NoSuchElementException") (fun hE => ?_) ?_
    · subst hE
      refine VX_catch F M [] [] ⟨0, 9, 12, 53⟩ rfl (by decide) (fun z hz => nomatch hz) (by decide) (by decide) q716 q726 (fun q4 => ?_)
      change V κ ρ 1 6 μ1 _ 12 [(0, .ref p1), (1, .int p2), (2, .ref p3)] [.ref q4]
      refine V_astore_n (lv' := [(3, .ref q4), (0, .ref p1), (1, .int p2), (2, .ref p3)]) F dL_droneAtRank_12 rfl (lt_L hNL (by decide)) rfl ?_
      refine V_iconst (v := 1) F dL_droneAtRank_13 (by decide) ?_
      exact V_iret F M dL_droneAtRank_14 rfl (by decide) (by decide)
    exact VX_none
/-! DroneLightShowLaw.undo(LDroneLightShow;[J)I -/
abbrev rmL_undo : Room := { frames := 7, cells := 1, slots := 6, locals := 120 }
def FL_undo (p1 : Nat) (p2 : Nat) (μ : Me) : Rs Int32 :=
  (bndc (vc μ p1 7 (FX7_undo p1  μ)) (fun x2 μ1 => (sJ μ1 p2 0 ((x2 : Int32).toInt64) (fun μ3 => (rt 0 μ3)))) (fun E μ1 => (if E = "java/lang/IllegalStateException" then (rt 1 μ1) else none)))
set_option maxHeartbeats 4000000 in
set_option maxRecDepth 100000 in
theorem metL_undo {l : Launch} {s0 : State} {D : va_G} {aC : Nat → ClassId} (hG : Gl s0 D aC) (hl : l.stackTraces = false) (p1 : Nat) (p2 : Nat) (μ : Me) : Ct l yL_undo (wsH_ yL_undo cL_undo 3 (some .int) [(0, 8, 11, 15)]) rmL_undo s0 D aC (fun r : Int32 => some (.int r)) [.ref p1, .ref p2] μ (FL_undo p1 p2 μ) := by
  refine Ct_ofH hG hl (by decide +kernel) (Nat.le_of_ble_eq_true rfl) (fun κ ρ hNL F M hκ => ?_)
  have F : Fx κ cL_undo RL := F
  change V κ ρ 0 0 μ (FL_undo p1 p2 μ) 0 [(0, .ref p1), (1, .ref p2)] []
  unfold FL_undo
  refine V_aload_n F dL_undo_0 rfl 1 rfl ?_
  refine V_iconst (v := 0) F dL_undo_1 (by decide) ?_
  refine V_aload_n F dL_undo_2 rfl 0 rfl ?_
  refine V_cVc (As := []) (rest := [.int 0, .ref p2]) (C := RX7) (N := 0) F M (metX7_undo (Fx_G F) (Fx_l F) p1  μ) rfl q1188 q66 q1185 q1186 q1187 ⟨by decide +kernel, by decide +kernel, by decide +kernel⟩ rfl ⟨by decide, by decide⟩ (Nat.le_of_ble_eq_true rfl) dL_undo_3 (by decide) (by decide) (fun x2 μ1 => ?_) (fun E μ1 => ?_)
  · change V κ ρ 1 6 μ1 _ 6 [(0, .ref p1), (1, .ref p2)] [.int x2, .int 0, .ref p2]
    refine V_i2l F dL_undo_6 ?_
    refine V_sJ F dL_undo_7 (fun μ3 => ?_)
    refine V_goto (tgt := 14) F dL_undo_8 (by decide) ?_
    refine V_iconst (v := 0) F dL_undo_14 (by decide) ?_
    exact V_iret F M dL_undo_15 rfl (by decide) (by decide)
  · refine VX_if (E0 := "java/lang/IllegalStateException") (fun hE => ?_) ?_
    · subst hE
      refine VX_catch F M [] [] ⟨0, 8, 11, 15⟩ rfl (by decide) (fun z hz => nomatch hz) (by decide) (by decide) q525 q580 (fun q4 => ?_)
      change V κ ρ 1 6 μ1 _ 11 [(0, .ref p1), (1, .ref p2)] [.ref q4]
      refine V_astore_n (lv' := [(2, .ref q4), (0, .ref p1), (1, .ref p2)]) F dL_undo_11 rfl (lt_L hNL (by decide)) rfl ?_
      refine V_iconst (v := 1) F dL_undo_12 (by decide) ?_
      exact V_iret F M dL_undo_13 rfl (by decide) (by decide)
    exact VX_none
/-! DroneLightShowLaw.addDrone(LDroneLightShow;I[J)I -/
abbrev rmL_addDrone : Room := { frames := 9, cells := 1, slots := 6, locals := 163 }
def FL_addDrone (p1 : Nat) (p2 : Int32) (p3 : Nat) (μ : Me) : Rs Int32 :=
  (bndc (vc μ p1 7 (FX7_addDrone p1 p2 μ)) (fun x2 μ1 => (sJ μ1 p3 0 ((x2 : Int32).toInt64) (fun μ3 => (rt 0 μ3)))) (fun E μ1 => (if E = "java/lang/IndexOutOfBoundsException" then (rt 1 μ1) else (if E = "java/lang/IllegalStateException" then (rt 2 μ1) else (if E = "java/lang/UnsupportedOperationException" then (rt 3 μ1) else none)))))
set_option maxHeartbeats 4000000 in
set_option maxRecDepth 100000 in
theorem metL_addDrone {l : Launch} {s0 : State} {D : va_G} {aC : Nat → ClassId} (hG : Gl s0 D aC) (hl : l.stackTraces = false) (p1 : Nat) (p2 : Int32) (p3 : Nat) (μ : Me) : Ct l yL_addDrone (wsH_ yL_addDrone cL_addDrone 4 (some .int) [(0, 9, 12, 13), (0, 9, 15, 15), (0, 9, 18, 17)]) rmL_addDrone s0 D aC (fun r : Int32 => some (.int r)) [.ref p1, .int p2, .ref p3] μ (FL_addDrone p1 p2 p3 μ) := by
  refine Ct_ofH hG hl (by decide +kernel) (Nat.le_of_ble_eq_true rfl) (fun κ ρ hNL F M hκ => ?_)
  have F : Fx κ cL_addDrone RL := F
  change V κ ρ 0 0 μ (FL_addDrone p1 p2 p3 μ) 0 [(0, .ref p1), (1, .int p2), (2, .ref p3)] []
  unfold FL_addDrone
  refine V_aload_n F dL_addDrone_0 rfl 2 rfl ?_
  refine V_iconst (v := 0) F dL_addDrone_1 (by decide) ?_
  refine V_aload_n F dL_addDrone_2 rfl 0 rfl ?_
  refine V_iload_n F dL_addDrone_3 rfl 1 rfl ?_
  refine V_cVc (As := [.int p2]) (rest := [.int 0, .ref p3]) (C := RX7) (N := 1) F M (metX7_addDrone (Fx_G F) (Fx_l F) p1 p2 μ) rfl q530 q66 q527 q528 q529 ⟨by decide +kernel, by decide +kernel, by decide +kernel⟩ rfl ⟨by decide, by decide⟩ (Nat.le_of_ble_eq_true rfl) dL_addDrone_4 (by decide) (by decide) (fun x2 μ1 => ?_) (fun E μ1 => ?_)
  · change V κ ρ 1 6 μ1 _ 7 [(0, .ref p1), (1, .int p2), (2, .ref p3)] [.int x2, .int 0, .ref p3]
    refine V_i2l F dL_addDrone_7 ?_
    refine V_sJ F dL_addDrone_8 (fun μ3 => ?_)
    refine V_goto (tgt := 21) F dL_addDrone_9 (by decide) ?_
    refine V_iconst (v := 0) F dL_addDrone_21 (by decide) ?_
    exact V_iret F M dL_addDrone_22 rfl (by decide) (by decide)
  · refine VX_if (E0 := "java/lang/IndexOutOfBoundsException") (fun hE => ?_) ?_
    · subst hE
      refine VX_catch F M [] [⟨0, 9, 15, 15⟩, ⟨0, 9, 18, 17⟩] ⟨0, 9, 12, 13⟩ rfl (by decide) (fun z hz => nomatch hz) (by decide) (by decide) q445 q551 (fun q4 => ?_)
      change V κ ρ 1 6 μ1 _ 12 [(0, .ref p1), (1, .int p2), (2, .ref p3)] [.ref q4]
      refine V_astore_n (lv' := [(3, .ref q4), (0, .ref p1), (1, .int p2), (2, .ref p3)]) F dL_addDrone_12 rfl (lt_L hNL (by decide)) rfl ?_
      refine V_iconst (v := 1) F dL_addDrone_13 (by decide) ?_
      exact V_iret F M dL_addDrone_14 rfl (by decide) (by decide)
    refine VX_if (E0 := "java/lang/IllegalStateException") (fun hE => ?_) ?_
    · subst hE
      refine VX_catch F M [⟨0, 9, 12, 13⟩] [⟨0, 9, 18, 17⟩] ⟨0, 9, 15, 15⟩ rfl (by decide) (List.forall_mem_cons.mpr ⟨⟨by decide, "java/lang/IndexOutOfBoundsException", by decide, by decide, q445⟩, fun z hz => nomatch hz⟩) (by decide) (by decide) q525 q580 (fun q5 => ?_)
      change V κ ρ 1 6 μ1 _ 15 [(0, .ref p1), (1, .int p2), (2, .ref p3)] [.ref q5]
      refine V_astore_n (lv' := [(3, .ref q5), (0, .ref p1), (1, .int p2), (2, .ref p3)]) F dL_addDrone_15 rfl (lt_L hNL (by decide)) rfl ?_
      refine V_iconst (v := 2) F dL_addDrone_16 (by decide) ?_
      exact V_iret F M dL_addDrone_17 rfl (by decide) (by decide)
    refine VX_if (E0 := "java/lang/UnsupportedOperationException") (fun hE => ?_) ?_
    · subst hE
      refine VX_catch F M [⟨0, 9, 12, 13⟩, ⟨0, 9, 15, 15⟩] [] ⟨0, 9, 18, 17⟩ rfl (by decide) (List.forall_mem_cons.mpr ⟨⟨by decide, "java/lang/IndexOutOfBoundsException", by decide, by decide, q445⟩, List.forall_mem_cons.mpr ⟨⟨by decide, "java/lang/IllegalStateException", by decide, by decide, q525⟩, fun z hz => nomatch hz⟩⟩) (by decide) (by decide) q526 q596 (fun q6 => ?_)
      change V κ ρ 1 6 μ1 _ 18 [(0, .ref p1), (1, .int p2), (2, .ref p3)] [.ref q6]
      refine V_astore_n (lv' := [(3, .ref q6), (0, .ref p1), (1, .int p2), (2, .ref p3)]) F dL_addDrone_18 rfl (lt_L hNL (by decide)) rfl ?_
      refine V_iconst (v := 3) F dL_addDrone_19 (by decide) ?_
      exact V_iret F M dL_addDrone_20 rfl (by decide) (by decide)
    exact VX_none
/-! DroneLightShowLaw.addPad(LDroneLightShow;I[J)I -/
abbrev rmL_addPad : Room := { frames := 9, cells := 1, slots := 6, locals := 163 }
def FL_addPad (p1 : Nat) (p2 : Int32) (p3 : Nat) (μ : Me) : Rs Int32 :=
  (bndc (vc μ p1 7 (FX7_addPad p1 p2 μ)) (fun x2 μ1 => (sJ μ1 p3 0 ((x2 : Int32).toInt64) (fun μ3 => (rt 0 μ3)))) (fun E μ1 => (if E = "java/lang/IndexOutOfBoundsException" then (rt 1 μ1) else (if E = "java/lang/IllegalArgumentException" then (rt 2 μ1) else (if E = "java/lang/IllegalStateException" then (rt 3 μ1) else none)))))
set_option maxHeartbeats 4000000 in
set_option maxRecDepth 100000 in
theorem metL_addPad {l : Launch} {s0 : State} {D : va_G} {aC : Nat → ClassId} (hG : Gl s0 D aC) (hl : l.stackTraces = false) (p1 : Nat) (p2 : Int32) (p3 : Nat) (μ : Me) : Ct l yL_addPad (wsH_ yL_addPad cL_addPad 4 (some .int) [(0, 9, 12, 13), (0, 9, 15, 22), (0, 9, 18, 15)]) rmL_addPad s0 D aC (fun r : Int32 => some (.int r)) [.ref p1, .int p2, .ref p3] μ (FL_addPad p1 p2 p3 μ) := by
  refine Ct_ofH hG hl (by decide +kernel) (Nat.le_of_ble_eq_true rfl) (fun κ ρ hNL F M hκ => ?_)
  have F : Fx κ cL_addPad RL := F
  change V κ ρ 0 0 μ (FL_addPad p1 p2 p3 μ) 0 [(0, .ref p1), (1, .int p2), (2, .ref p3)] []
  unfold FL_addPad
  refine V_aload_n F dL_addPad_0 rfl 2 rfl ?_
  refine V_iconst (v := 0) F dL_addPad_1 (by decide) ?_
  refine V_aload_n F dL_addPad_2 rfl 0 rfl ?_
  refine V_iload_n F dL_addPad_3 rfl 1 rfl ?_
  refine V_cVc (As := [.int p2]) (rest := [.int 0, .ref p3]) (C := RX7) (N := 1) F M (metX7_addPad (Fx_G F) (Fx_l F) p1 p2 μ) rfl q622 q66 q619 q620 q621 ⟨by decide +kernel, by decide +kernel, by decide +kernel⟩ rfl ⟨by decide, by decide⟩ (Nat.le_of_ble_eq_true rfl) dL_addPad_4 (by decide) (by decide) (fun x2 μ1 => ?_) (fun E μ1 => ?_)
  · change V κ ρ 1 6 μ1 _ 7 [(0, .ref p1), (1, .int p2), (2, .ref p3)] [.int x2, .int 0, .ref p3]
    refine V_i2l F dL_addPad_7 ?_
    refine V_sJ F dL_addPad_8 (fun μ3 => ?_)
    refine V_goto (tgt := 21) F dL_addPad_9 (by decide) ?_
    refine V_iconst (v := 0) F dL_addPad_21 (by decide) ?_
    exact V_iret F M dL_addPad_22 rfl (by decide) (by decide)
  · refine VX_if (E0 := "java/lang/IndexOutOfBoundsException") (fun hE => ?_) ?_
    · subst hE
      refine VX_catch F M [] [⟨0, 9, 15, 22⟩, ⟨0, 9, 18, 15⟩] ⟨0, 9, 12, 13⟩ rfl (by decide) (fun z hz => nomatch hz) (by decide) (by decide) q445 q551 (fun q4 => ?_)
      change V κ ρ 1 6 μ1 _ 12 [(0, .ref p1), (1, .int p2), (2, .ref p3)] [.ref q4]
      refine V_astore_n (lv' := [(3, .ref q4), (0, .ref p1), (1, .int p2), (2, .ref p3)]) F dL_addPad_12 rfl (lt_L hNL (by decide)) rfl ?_
      refine V_iconst (v := 1) F dL_addPad_13 (by decide) ?_
      exact V_iret F M dL_addPad_14 rfl (by decide) (by decide)
    refine VX_if (E0 := "java/lang/IllegalArgumentException") (fun hE => ?_) ?_
    · subst hE
      refine VX_catch F M [⟨0, 9, 12, 13⟩] [⟨0, 9, 18, 15⟩] ⟨0, 9, 15, 22⟩ rfl (by decide) (List.forall_mem_cons.mpr ⟨⟨by decide, "java/lang/IndexOutOfBoundsException", by decide, by decide, q445⟩, fun z hz => nomatch hz⟩) (by decide) (by decide) q618 q564 (fun q5 => ?_)
      change V κ ρ 1 6 μ1 _ 15 [(0, .ref p1), (1, .int p2), (2, .ref p3)] [.ref q5]
      refine V_astore_n (lv' := [(3, .ref q5), (0, .ref p1), (1, .int p2), (2, .ref p3)]) F dL_addPad_15 rfl (lt_L hNL (by decide)) rfl ?_
      refine V_iconst (v := 2) F dL_addPad_16 (by decide) ?_
      exact V_iret F M dL_addPad_17 rfl (by decide) (by decide)
    refine VX_if (E0 := "java/lang/IllegalStateException") (fun hE => ?_) ?_
    · subst hE
      refine VX_catch F M [⟨0, 9, 12, 13⟩, ⟨0, 9, 15, 22⟩] [] ⟨0, 9, 18, 15⟩ rfl (by decide) (List.forall_mem_cons.mpr ⟨⟨by decide, "java/lang/IndexOutOfBoundsException", by decide, by decide, q445⟩, List.forall_mem_cons.mpr ⟨⟨by decide, "java/lang/IllegalArgumentException", by decide, by decide, q618⟩, fun z hz => nomatch hz⟩⟩) (by decide) (by decide) q525 q580 (fun q6 => ?_)
      change V κ ρ 1 6 μ1 _ 18 [(0, .ref p1), (1, .int p2), (2, .ref p3)] [.ref q6]
      refine V_astore_n (lv' := [(3, .ref q6), (0, .ref p1), (1, .int p2), (2, .ref p3)]) F dL_addPad_18 rfl (lt_L hNL (by decide)) rfl ?_
      refine V_iconst (v := 3) F dL_addPad_19 (by decide) ?_
      exact V_iret F M dL_addPad_20 rfl (by decide) (by decide)
    exact VX_none
/-! DroneLightShowLaw.takeOff(LDroneLightShow;I[J)I -/
abbrev rmL_takeOff : Room := { frames := 9, cells := 1, slots := 6, locals := 163 }
def FL_takeOff (p1 : Nat) (p2 : Int32) (p3 : Nat) (μ : Me) : Rs Int32 :=
  (bndc (vc μ p1 7 (FX7_takeOff p1 p2 μ)) (fun x2 μ1 => (sJ μ1 p3 0 ((x2 : Int32).toInt64) (fun μ3 => (rt 0 μ3)))) (fun E μ1 => (if E = "java/lang/IndexOutOfBoundsException" then (rt 1 μ1) else (if E = "java/lang/IllegalStateException" then (rt 2 μ1) else (if E = "java/lang/UnsupportedOperationException" then (rt 3 μ1) else none)))))
set_option maxHeartbeats 4000000 in
set_option maxRecDepth 100000 in
theorem metL_takeOff {l : Launch} {s0 : State} {D : va_G} {aC : Nat → ClassId} (hG : Gl s0 D aC) (hl : l.stackTraces = false) (p1 : Nat) (p2 : Int32) (p3 : Nat) (μ : Me) : Ct l yL_takeOff (wsH_ yL_takeOff cL_takeOff 4 (some .int) [(0, 9, 12, 13), (0, 9, 15, 15), (0, 9, 18, 17)]) rmL_takeOff s0 D aC (fun r : Int32 => some (.int r)) [.ref p1, .int p2, .ref p3] μ (FL_takeOff p1 p2 p3 μ) := by
  refine Ct_ofH hG hl (by decide +kernel) (Nat.le_of_ble_eq_true rfl) (fun κ ρ hNL F M hκ => ?_)
  have F : Fx κ cL_takeOff RL := F
  change V κ ρ 0 0 μ (FL_takeOff p1 p2 p3 μ) 0 [(0, .ref p1), (1, .int p2), (2, .ref p3)] []
  unfold FL_takeOff
  refine V_aload_n F dL_takeOff_0 rfl 2 rfl ?_
  refine V_iconst (v := 0) F dL_takeOff_1 (by decide) ?_
  refine V_aload_n F dL_takeOff_2 rfl 0 rfl ?_
  refine V_iload_n F dL_takeOff_3 rfl 1 rfl ?_
  refine V_cVc (As := [.int p2]) (rest := [.int 0, .ref p3]) (C := RX7) (N := 1) F M (metX7_takeOff (Fx_G F) (Fx_l F) p1 p2 μ) rfl q633 q66 q630 q631 q632 ⟨by decide +kernel, by decide +kernel, by decide +kernel⟩ rfl ⟨by decide, by decide⟩ (Nat.le_of_ble_eq_true rfl) dL_takeOff_4 (by decide) (by decide) (fun x2 μ1 => ?_) (fun E μ1 => ?_)
  · change V κ ρ 1 6 μ1 _ 7 [(0, .ref p1), (1, .int p2), (2, .ref p3)] [.int x2, .int 0, .ref p3]
    refine V_i2l F dL_takeOff_7 ?_
    refine V_sJ F dL_takeOff_8 (fun μ3 => ?_)
    refine V_goto (tgt := 21) F dL_takeOff_9 (by decide) ?_
    refine V_iconst (v := 0) F dL_takeOff_21 (by decide) ?_
    exact V_iret F M dL_takeOff_22 rfl (by decide) (by decide)
  · refine VX_if (E0 := "java/lang/IndexOutOfBoundsException") (fun hE => ?_) ?_
    · subst hE
      refine VX_catch F M [] [⟨0, 9, 15, 15⟩, ⟨0, 9, 18, 17⟩] ⟨0, 9, 12, 13⟩ rfl (by decide) (fun z hz => nomatch hz) (by decide) (by decide) q445 q551 (fun q4 => ?_)
      change V κ ρ 1 6 μ1 _ 12 [(0, .ref p1), (1, .int p2), (2, .ref p3)] [.ref q4]
      refine V_astore_n (lv' := [(3, .ref q4), (0, .ref p1), (1, .int p2), (2, .ref p3)]) F dL_takeOff_12 rfl (lt_L hNL (by decide)) rfl ?_
      refine V_iconst (v := 1) F dL_takeOff_13 (by decide) ?_
      exact V_iret F M dL_takeOff_14 rfl (by decide) (by decide)
    refine VX_if (E0 := "java/lang/IllegalStateException") (fun hE => ?_) ?_
    · subst hE
      refine VX_catch F M [⟨0, 9, 12, 13⟩] [⟨0, 9, 18, 17⟩] ⟨0, 9, 15, 15⟩ rfl (by decide) (List.forall_mem_cons.mpr ⟨⟨by decide, "java/lang/IndexOutOfBoundsException", by decide, by decide, q445⟩, fun z hz => nomatch hz⟩) (by decide) (by decide) q525 q580 (fun q5 => ?_)
      change V κ ρ 1 6 μ1 _ 15 [(0, .ref p1), (1, .int p2), (2, .ref p3)] [.ref q5]
      refine V_astore_n (lv' := [(3, .ref q5), (0, .ref p1), (1, .int p2), (2, .ref p3)]) F dL_takeOff_15 rfl (lt_L hNL (by decide)) rfl ?_
      refine V_iconst (v := 2) F dL_takeOff_16 (by decide) ?_
      exact V_iret F M dL_takeOff_17 rfl (by decide) (by decide)
    refine VX_if (E0 := "java/lang/UnsupportedOperationException") (fun hE => ?_) ?_
    · subst hE
      refine VX_catch F M [⟨0, 9, 12, 13⟩, ⟨0, 9, 15, 15⟩] [] ⟨0, 9, 18, 17⟩ rfl (by decide) (List.forall_mem_cons.mpr ⟨⟨by decide, "java/lang/IndexOutOfBoundsException", by decide, by decide, q445⟩, List.forall_mem_cons.mpr ⟨⟨by decide, "java/lang/IllegalStateException", by decide, by decide, q525⟩, fun z hz => nomatch hz⟩⟩) (by decide) (by decide) q526 q596 (fun q6 => ?_)
      change V κ ρ 1 6 μ1 _ 18 [(0, .ref p1), (1, .int p2), (2, .ref p3)] [.ref q6]
      refine V_astore_n (lv' := [(3, .ref q6), (0, .ref p1), (1, .int p2), (2, .ref p3)]) F dL_takeOff_18 rfl (lt_L hNL (by decide)) rfl ?_
      refine V_iconst (v := 3) F dL_takeOff_19 (by decide) ?_
      exact V_iret F M dL_takeOff_20 rfl (by decide) (by decide)
    exact VX_none
/-! DroneLightShowLaw.land(LDroneLightShow;I[J)I -/
abbrev rmL_land : Room := { frames := 9, cells := 1, slots := 6, locals := 163 }
def FL_land (p1 : Nat) (p2 : Int32) (p3 : Nat) (μ : Me) : Rs Int32 :=
  (bndc (vc μ p1 7 (FX7_land p1 p2 μ)) (fun x2 μ1 => (sJ μ1 p3 0 ((x2 : Int32).toInt64) (fun μ3 => (rt 0 μ3)))) (fun E μ1 => (if E = "java/lang/IndexOutOfBoundsException" then (rt 1 μ1) else (if E = "java/lang/IllegalStateException" then (rt 2 μ1) else (if E = "java/lang/UnsupportedOperationException" then (rt 3 μ1) else none)))))
set_option maxHeartbeats 4000000 in
set_option maxRecDepth 100000 in
theorem metL_land {l : Launch} {s0 : State} {D : va_G} {aC : Nat → ClassId} (hG : Gl s0 D aC) (hl : l.stackTraces = false) (p1 : Nat) (p2 : Int32) (p3 : Nat) (μ : Me) : Ct l yL_land (wsH_ yL_land cL_land 4 (some .int) [(0, 9, 12, 13), (0, 9, 15, 15), (0, 9, 18, 17)]) rmL_land s0 D aC (fun r : Int32 => some (.int r)) [.ref p1, .int p2, .ref p3] μ (FL_land p1 p2 p3 μ) := by
  refine Ct_ofH hG hl (by decide +kernel) (Nat.le_of_ble_eq_true rfl) (fun κ ρ hNL F M hκ => ?_)
  have F : Fx κ cL_land RL := F
  change V κ ρ 0 0 μ (FL_land p1 p2 p3 μ) 0 [(0, .ref p1), (1, .int p2), (2, .ref p3)] []
  unfold FL_land
  refine V_aload_n F dL_land_0 rfl 2 rfl ?_
  refine V_iconst (v := 0) F dL_land_1 (by decide) ?_
  refine V_aload_n F dL_land_2 rfl 0 rfl ?_
  refine V_iload_n F dL_land_3 rfl 1 rfl ?_
  refine V_cVc (As := [.int p2]) (rest := [.int 0, .ref p3]) (C := RX7) (N := 1) F M (metX7_land (Fx_G F) (Fx_l F) p1 p2 μ) rfl q652 q66 q649 q650 q651 ⟨by decide +kernel, by decide +kernel, by decide +kernel⟩ rfl ⟨by decide, by decide⟩ (Nat.le_of_ble_eq_true rfl) dL_land_4 (by decide) (by decide) (fun x2 μ1 => ?_) (fun E μ1 => ?_)
  · change V κ ρ 1 6 μ1 _ 7 [(0, .ref p1), (1, .int p2), (2, .ref p3)] [.int x2, .int 0, .ref p3]
    refine V_i2l F dL_land_7 ?_
    refine V_sJ F dL_land_8 (fun μ3 => ?_)
    refine V_goto (tgt := 21) F dL_land_9 (by decide) ?_
    refine V_iconst (v := 0) F dL_land_21 (by decide) ?_
    exact V_iret F M dL_land_22 rfl (by decide) (by decide)
  · refine VX_if (E0 := "java/lang/IndexOutOfBoundsException") (fun hE => ?_) ?_
    · subst hE
      refine VX_catch F M [] [⟨0, 9, 15, 15⟩, ⟨0, 9, 18, 17⟩] ⟨0, 9, 12, 13⟩ rfl (by decide) (fun z hz => nomatch hz) (by decide) (by decide) q445 q551 (fun q4 => ?_)
      change V κ ρ 1 6 μ1 _ 12 [(0, .ref p1), (1, .int p2), (2, .ref p3)] [.ref q4]
      refine V_astore_n (lv' := [(3, .ref q4), (0, .ref p1), (1, .int p2), (2, .ref p3)]) F dL_land_12 rfl (lt_L hNL (by decide)) rfl ?_
      refine V_iconst (v := 1) F dL_land_13 (by decide) ?_
      exact V_iret F M dL_land_14 rfl (by decide) (by decide)
    refine VX_if (E0 := "java/lang/IllegalStateException") (fun hE => ?_) ?_
    · subst hE
      refine VX_catch F M [⟨0, 9, 12, 13⟩] [⟨0, 9, 18, 17⟩] ⟨0, 9, 15, 15⟩ rfl (by decide) (List.forall_mem_cons.mpr ⟨⟨by decide, "java/lang/IndexOutOfBoundsException", by decide, by decide, q445⟩, fun z hz => nomatch hz⟩) (by decide) (by decide) q525 q580 (fun q5 => ?_)
      change V κ ρ 1 6 μ1 _ 15 [(0, .ref p1), (1, .int p2), (2, .ref p3)] [.ref q5]
      refine V_astore_n (lv' := [(3, .ref q5), (0, .ref p1), (1, .int p2), (2, .ref p3)]) F dL_land_15 rfl (lt_L hNL (by decide)) rfl ?_
      refine V_iconst (v := 2) F dL_land_16 (by decide) ?_
      exact V_iret F M dL_land_17 rfl (by decide) (by decide)
    refine VX_if (E0 := "java/lang/UnsupportedOperationException") (fun hE => ?_) ?_
    · subst hE
      refine VX_catch F M [⟨0, 9, 12, 13⟩, ⟨0, 9, 15, 15⟩] [] ⟨0, 9, 18, 17⟩ rfl (by decide) (List.forall_mem_cons.mpr ⟨⟨by decide, "java/lang/IndexOutOfBoundsException", by decide, by decide, q445⟩, List.forall_mem_cons.mpr ⟨⟨by decide, "java/lang/IllegalStateException", by decide, by decide, q525⟩, fun z hz => nomatch hz⟩⟩) (by decide) (by decide) q526 q596 (fun q6 => ?_)
      change V κ ρ 1 6 μ1 _ 18 [(0, .ref p1), (1, .int p2), (2, .ref p3)] [.ref q6]
      refine V_astore_n (lv' := [(3, .ref q6), (0, .ref p1), (1, .int p2), (2, .ref p3)]) F dL_land_18 rfl (lt_L hNL (by decide)) rfl ?_
      refine V_iconst (v := 3) F dL_land_19 (by decide) ?_
      exact V_iret F M dL_land_20 rfl (by decide) (by decide)
    exact VX_none
/-! DroneLightShowLaw.sendTo(LDroneLightShow;II[J)I -/
abbrev rmL_sendTo : Room := { frames := 9, cells := 1, slots := 6, locals := 164 }
def FL_sendTo (p1 : Nat) (p2 : Int32) (p3 : Int32) (p4 : Nat) (μ : Me) : Rs Int32 :=
  (bndc (vc μ p1 7 (FX7_sendTo p1 p2 p3 μ)) (fun x2 μ1 => (sJ μ1 p4 0 ((x2 : Int32).toInt64) (fun μ3 => (rt 0 μ3)))) (fun E μ1 => (if E = "java/lang/IndexOutOfBoundsException" then (rt 1 μ1) else (if E = "java/lang/IllegalStateException" then (rt 2 μ1) else none))))
set_option maxHeartbeats 4000000 in
set_option maxRecDepth 100000 in
theorem metL_sendTo {l : Launch} {s0 : State} {D : va_G} {aC : Nat → ClassId} (hG : Gl s0 D aC) (hl : l.stackTraces = false) (p1 : Nat) (p2 : Int32) (p3 : Int32) (p4 : Nat) (μ : Me) : Ct l yL_sendTo (wsH_ yL_sendTo cL_sendTo 5 (some .int) [(0, 10, 13, 13), (0, 10, 17, 15)]) rmL_sendTo s0 D aC (fun r : Int32 => some (.int r)) [.ref p1, .int p2, .int p3, .ref p4] μ (FL_sendTo p1 p2 p3 p4 μ) := by
  refine Ct_ofH hG hl (by decide +kernel) (Nat.le_of_ble_eq_true rfl) (fun κ ρ hNL F M hκ => ?_)
  have F : Fx κ cL_sendTo RL := F
  change V κ ρ 0 0 μ (FL_sendTo p1 p2 p3 p4 μ) 0 [(0, .ref p1), (1, .int p2), (2, .int p3), (3, .ref p4)] []
  unfold FL_sendTo
  refine V_aload_n F dL_sendTo_0 rfl 3 rfl ?_
  refine V_iconst (v := 0) F dL_sendTo_1 (by decide) ?_
  refine V_aload_n F dL_sendTo_2 rfl 0 rfl ?_
  refine V_iload_n F dL_sendTo_3 rfl 1 rfl ?_
  refine V_iload_n F dL_sendTo_4 rfl 2 rfl ?_
  refine V_cVc (As := [.int p2, .int p3]) (rest := [.int 0, .ref p4]) (C := RX7) (N := 2) F M (metX7_sendTo (Fx_G F) (Fx_l F) p1 p2 p3 μ) rfl q663 q66 q660 q661 q662 ⟨by decide +kernel, by decide +kernel, by decide +kernel⟩ rfl ⟨by decide, by decide⟩ (Nat.le_of_ble_eq_true rfl) dL_sendTo_5 (by decide) (by decide) (fun x2 μ1 => ?_) (fun E μ1 => ?_)
  · change V κ ρ 1 6 μ1 _ 8 [(0, .ref p1), (1, .int p2), (2, .int p3), (3, .ref p4)] [.int x2, .int 0, .ref p4]
    refine V_i2l F dL_sendTo_8 ?_
    refine V_sJ F dL_sendTo_9 (fun μ3 => ?_)
    refine V_goto (tgt := 21) F dL_sendTo_10 (by decide) ?_
    refine V_iconst (v := 0) F dL_sendTo_21 (by decide) ?_
    exact V_iret F M dL_sendTo_22 rfl (by decide) (by decide)
  · refine VX_if (E0 := "java/lang/IndexOutOfBoundsException") (fun hE => ?_) ?_
    · subst hE
      refine VX_catch F M [] [⟨0, 10, 17, 15⟩] ⟨0, 10, 13, 13⟩ rfl (by decide) (fun z hz => nomatch hz) (by decide) (by decide) q445 q551 (fun q4 => ?_)
      change V κ ρ 1 6 μ1 _ 13 [(0, .ref p1), (1, .int p2), (2, .int p3), (3, .ref p4)] [.ref q4]
      refine V_astore (lv' := [(4, .ref q4), (0, .ref p1), (1, .int p2), (2, .int p3), (3, .ref p4)]) F dL_sendTo_13 (lt_L hNL (by decide)) rfl ?_
      refine V_iconst (v := 1) F dL_sendTo_15 (by decide) ?_
      exact V_iret F M dL_sendTo_16 rfl (by decide) (by decide)
    refine VX_if (E0 := "java/lang/IllegalStateException") (fun hE => ?_) ?_
    · subst hE
      refine VX_catch F M [⟨0, 10, 13, 13⟩] [] ⟨0, 10, 17, 15⟩ rfl (by decide) (List.forall_mem_cons.mpr ⟨⟨by decide, "java/lang/IndexOutOfBoundsException", by decide, by decide, q445⟩, fun z hz => nomatch hz⟩) (by decide) (by decide) q525 q580 (fun q5 => ?_)
      change V κ ρ 1 6 μ1 _ 17 [(0, .ref p1), (1, .int p2), (2, .int p3), (3, .ref p4)] [.ref q5]
      refine V_astore (lv' := [(4, .ref q5), (0, .ref p1), (1, .int p2), (2, .int p3), (3, .ref p4)]) F dL_sendTo_17 (lt_L hNL (by decide)) rfl ?_
      refine V_iconst (v := 2) F dL_sendTo_19 (by decide) ?_
      exact V_iret F M dL_sendTo_20 rfl (by decide) (by decide)
    exact VX_none
/-! DroneLightShowLaw.setReserve(LDroneLightShow;I[J)I -/
abbrev rmL_setReserve : Room := { frames := 9, cells := 1, slots := 6, locals := 163 }
def FL_setReserve (p1 : Nat) (p2 : Int32) (p3 : Nat) (μ : Me) : Rs Int32 :=
  (bndc (vc μ p1 7 (FX7_setReserve p1 p2 μ)) (fun x2 μ1 => (sJ μ1 p3 0 ((x2 : Int32).toInt64) (fun μ3 => (rt 0 μ3)))) (fun E μ1 => (if E = "java/lang/IllegalArgumentException" then (rt 1 μ1) else none)))
set_option maxHeartbeats 4000000 in
set_option maxRecDepth 100000 in
theorem metL_setReserve {l : Launch} {s0 : State} {D : va_G} {aC : Nat → ClassId} (hG : Gl s0 D aC) (hl : l.stackTraces = false) (p1 : Nat) (p2 : Int32) (p3 : Nat) (μ : Me) : Ct l yL_setReserve (wsH_ yL_setReserve cL_setReserve 4 (some .int) [(0, 9, 12, 22)]) rmL_setReserve s0 D aC (fun r : Int32 => some (.int r)) [.ref p1, .int p2, .ref p3] μ (FL_setReserve p1 p2 p3 μ) := by
  refine Ct_ofH hG hl (by decide +kernel) (Nat.le_of_ble_eq_true rfl) (fun κ ρ hNL F M hκ => ?_)
  have F : Fx κ cL_setReserve RL := F
  change V κ ρ 0 0 μ (FL_setReserve p1 p2 p3 μ) 0 [(0, .ref p1), (1, .int p2), (2, .ref p3)] []
  unfold FL_setReserve
  refine V_aload_n F dL_setReserve_0 rfl 2 rfl ?_
  refine V_iconst (v := 0) F dL_setReserve_1 (by decide) ?_
  refine V_aload_n F dL_setReserve_2 rfl 0 rfl ?_
  refine V_iload_n F dL_setReserve_3 rfl 1 rfl ?_
  refine V_cVc (As := [.int p2]) (rest := [.int 0, .ref p3]) (C := RX7) (N := 1) F M (metX7_setReserve (Fx_G F) (Fx_l F) p1 p2 μ) rfl q674 q66 q671 q672 q673 ⟨by decide +kernel, by decide +kernel, by decide +kernel⟩ rfl ⟨by decide, by decide⟩ (Nat.le_of_ble_eq_true rfl) dL_setReserve_4 (by decide) (by decide) (fun x2 μ1 => ?_) (fun E μ1 => ?_)
  · change V κ ρ 1 6 μ1 _ 7 [(0, .ref p1), (1, .int p2), (2, .ref p3)] [.int x2, .int 0, .ref p3]
    refine V_i2l F dL_setReserve_7 ?_
    refine V_sJ F dL_setReserve_8 (fun μ3 => ?_)
    refine V_goto (tgt := 15) F dL_setReserve_9 (by decide) ?_
    refine V_iconst (v := 0) F dL_setReserve_15 (by decide) ?_
    exact V_iret F M dL_setReserve_16 rfl (by decide) (by decide)
  · refine VX_if (E0 := "java/lang/IllegalArgumentException") (fun hE => ?_) ?_
    · subst hE
      refine VX_catch F M [] [] ⟨0, 9, 12, 22⟩ rfl (by decide) (fun z hz => nomatch hz) (by decide) (by decide) q618 q564 (fun q4 => ?_)
      change V κ ρ 1 6 μ1 _ 12 [(0, .ref p1), (1, .int p2), (2, .ref p3)] [.ref q4]
      refine V_astore_n (lv' := [(3, .ref q4), (0, .ref p1), (1, .int p2), (2, .ref p3)]) F dL_setReserve_12 rfl (lt_L hNL (by decide)) rfl ?_
      refine V_iconst (v := 1) F dL_setReserve_13 (by decide) ?_
      exact V_iret F M dL_setReserve_14 rfl (by decide) (by decide)
    exact VX_none
/-! DroneLightShowLaw.addToFormation(LDroneLightShow;II[J)I -/
abbrev rmL_addToFormation : Room := { frames := 9, cells := 1, slots := 6, locals := 164 }
def FL_addToFormation (p1 : Nat) (p2 : Int32) (p3 : Int32) (p4 : Nat) (μ : Me) : Rs Int32 :=
  (bndc (vc μ p1 7 (FX7_addToFormation p1 p2 p3 μ)) (fun x2 μ1 => (sJ μ1 p4 0 ((x2 : Int32).toInt64) (fun μ3 => (rt 0 μ3)))) (fun E μ1 => (if E = "java/lang/IndexOutOfBoundsException" then (rt 1 μ1) else (if E = "java/lang/IllegalArgumentException" then (rt 2 μ1) else (if E = "java/lang/IllegalStateException" then (rt 3 μ1) else none)))))
set_option maxHeartbeats 4000000 in
set_option maxRecDepth 100000 in
theorem metL_addToFormation {l : Launch} {s0 : State} {D : va_G} {aC : Nat → ClassId} (hG : Gl s0 D aC) (hl : l.stackTraces = false) (p1 : Nat) (p2 : Int32) (p3 : Int32) (p4 : Nat) (μ : Me) : Ct l yL_addToFormation (wsH_ yL_addToFormation cL_addToFormation 5 (some .int) [(0, 10, 13, 13), (0, 10, 17, 22), (0, 10, 21, 15)]) rmL_addToFormation s0 D aC (fun r : Int32 => some (.int r)) [.ref p1, .int p2, .int p3, .ref p4] μ (FL_addToFormation p1 p2 p3 p4 μ) := by
  refine Ct_ofH hG hl (by decide +kernel) (Nat.le_of_ble_eq_true rfl) (fun κ ρ hNL F M hκ => ?_)
  have F : Fx κ cL_addToFormation RL := F
  change V κ ρ 0 0 μ (FL_addToFormation p1 p2 p3 p4 μ) 0 [(0, .ref p1), (1, .int p2), (2, .int p3), (3, .ref p4)] []
  unfold FL_addToFormation
  refine V_aload_n F dL_addToFormation_0 rfl 3 rfl ?_
  refine V_iconst (v := 0) F dL_addToFormation_1 (by decide) ?_
  refine V_aload_n F dL_addToFormation_2 rfl 0 rfl ?_
  refine V_iload_n F dL_addToFormation_3 rfl 1 rfl ?_
  refine V_iload_n F dL_addToFormation_4 rfl 2 rfl ?_
  refine V_cVc (As := [.int p2, .int p3]) (rest := [.int 0, .ref p4]) (C := RX7) (N := 2) F M (metX7_addToFormation (Fx_G F) (Fx_l F) p1 p2 p3 μ) rfl q788 q66 q785 q786 q787 ⟨by decide +kernel, by decide +kernel, by decide +kernel⟩ rfl ⟨by decide, by decide⟩ (Nat.le_of_ble_eq_true rfl) dL_addToFormation_5 (by decide) (by decide) (fun x2 μ1 => ?_) (fun E μ1 => ?_)
  · change V κ ρ 1 6 μ1 _ 8 [(0, .ref p1), (1, .int p2), (2, .int p3), (3, .ref p4)] [.int x2, .int 0, .ref p4]
    refine V_i2l F dL_addToFormation_8 ?_
    refine V_sJ F dL_addToFormation_9 (fun μ3 => ?_)
    refine V_goto (tgt := 25) F dL_addToFormation_10 (by decide) ?_
    refine V_iconst (v := 0) F dL_addToFormation_25 (by decide) ?_
    exact V_iret F M dL_addToFormation_26 rfl (by decide) (by decide)
  · refine VX_if (E0 := "java/lang/IndexOutOfBoundsException") (fun hE => ?_) ?_
    · subst hE
      refine VX_catch F M [] [⟨0, 10, 17, 22⟩, ⟨0, 10, 21, 15⟩] ⟨0, 10, 13, 13⟩ rfl (by decide) (fun z hz => nomatch hz) (by decide) (by decide) q445 q551 (fun q4 => ?_)
      change V κ ρ 1 6 μ1 _ 13 [(0, .ref p1), (1, .int p2), (2, .int p3), (3, .ref p4)] [.ref q4]
      refine V_astore (lv' := [(4, .ref q4), (0, .ref p1), (1, .int p2), (2, .int p3), (3, .ref p4)]) F dL_addToFormation_13 (lt_L hNL (by decide)) rfl ?_
      refine V_iconst (v := 1) F dL_addToFormation_15 (by decide) ?_
      exact V_iret F M dL_addToFormation_16 rfl (by decide) (by decide)
    refine VX_if (E0 := "java/lang/IllegalArgumentException") (fun hE => ?_) ?_
    · subst hE
      refine VX_catch F M [⟨0, 10, 13, 13⟩] [⟨0, 10, 21, 15⟩] ⟨0, 10, 17, 22⟩ rfl (by decide) (List.forall_mem_cons.mpr ⟨⟨by decide, "java/lang/IndexOutOfBoundsException", by decide, by decide, q445⟩, fun z hz => nomatch hz⟩) (by decide) (by decide) q618 q564 (fun q5 => ?_)
      change V κ ρ 1 6 μ1 _ 17 [(0, .ref p1), (1, .int p2), (2, .int p3), (3, .ref p4)] [.ref q5]
      refine V_astore (lv' := [(4, .ref q5), (0, .ref p1), (1, .int p2), (2, .int p3), (3, .ref p4)]) F dL_addToFormation_17 (lt_L hNL (by decide)) rfl ?_
      refine V_iconst (v := 2) F dL_addToFormation_19 (by decide) ?_
      exact V_iret F M dL_addToFormation_20 rfl (by decide) (by decide)
    refine VX_if (E0 := "java/lang/IllegalStateException") (fun hE => ?_) ?_
    · subst hE
      refine VX_catch F M [⟨0, 10, 13, 13⟩, ⟨0, 10, 17, 22⟩] [] ⟨0, 10, 21, 15⟩ rfl (by decide) (List.forall_mem_cons.mpr ⟨⟨by decide, "java/lang/IndexOutOfBoundsException", by decide, by decide, q445⟩, List.forall_mem_cons.mpr ⟨⟨by decide, "java/lang/IllegalArgumentException", by decide, by decide, q618⟩, fun z hz => nomatch hz⟩⟩) (by decide) (by decide) q525 q580 (fun q6 => ?_)
      change V κ ρ 1 6 μ1 _ 21 [(0, .ref p1), (1, .int p2), (2, .int p3), (3, .ref p4)] [.ref q6]
      refine V_astore (lv' := [(4, .ref q6), (0, .ref p1), (1, .int p2), (2, .int p3), (3, .ref p4)]) F dL_addToFormation_21 (lt_L hNL (by decide)) rfl ?_
      refine V_iconst (v := 3) F dL_addToFormation_23 (by decide) ?_
      exact V_iret F M dL_addToFormation_24 rfl (by decide) (by decide)
    exact VX_none
/-! DroneLightShowLaw.clearFormation(LDroneLightShow;I[J)I -/
abbrev rmL_clearFormation : Room := { frames := 9, cells := 1, slots := 6, locals := 163 }
def FL_clearFormation (p1 : Nat) (p2 : Int32) (p3 : Nat) (μ : Me) : Rs Int32 :=
  (bndc (vc μ p1 7 (FX7_clearFormation p1 p2 μ)) (fun x2 μ1 => (sJ μ1 p3 0 ((x2 : Int32).toInt64) (fun μ3 => (rt 0 μ3)))) (fun E μ1 => (if E = "java/lang/IndexOutOfBoundsException" then (rt 1 μ1) else none)))
set_option maxHeartbeats 4000000 in
set_option maxRecDepth 100000 in
theorem metL_clearFormation {l : Launch} {s0 : State} {D : va_G} {aC : Nat → ClassId} (hG : Gl s0 D aC) (hl : l.stackTraces = false) (p1 : Nat) (p2 : Int32) (p3 : Nat) (μ : Me) : Ct l yL_clearFormation (wsH_ yL_clearFormation cL_clearFormation 4 (some .int) [(0, 9, 12, 13)]) rmL_clearFormation s0 D aC (fun r : Int32 => some (.int r)) [.ref p1, .int p2, .ref p3] μ (FL_clearFormation p1 p2 p3 μ) := by
  refine Ct_ofH hG hl (by decide +kernel) (Nat.le_of_ble_eq_true rfl) (fun κ ρ hNL F M hκ => ?_)
  have F : Fx κ cL_clearFormation RL := F
  change V κ ρ 0 0 μ (FL_clearFormation p1 p2 p3 μ) 0 [(0, .ref p1), (1, .int p2), (2, .ref p3)] []
  unfold FL_clearFormation
  refine V_aload_n F dL_clearFormation_0 rfl 2 rfl ?_
  refine V_iconst (v := 0) F dL_clearFormation_1 (by decide) ?_
  refine V_aload_n F dL_clearFormation_2 rfl 0 rfl ?_
  refine V_iload_n F dL_clearFormation_3 rfl 1 rfl ?_
  refine V_cVc (As := [.int p2]) (rest := [.int 0, .ref p3]) (C := RX7) (N := 1) F M (metX7_clearFormation (Fx_G F) (Fx_l F) p1 p2 μ) rfl q802 q66 q799 q800 q801 ⟨by decide +kernel, by decide +kernel, by decide +kernel⟩ rfl ⟨by decide, by decide⟩ (Nat.le_of_ble_eq_true rfl) dL_clearFormation_4 (by decide) (by decide) (fun x2 μ1 => ?_) (fun E μ1 => ?_)
  · change V κ ρ 1 6 μ1 _ 7 [(0, .ref p1), (1, .int p2), (2, .ref p3)] [.int x2, .int 0, .ref p3]
    refine V_i2l F dL_clearFormation_7 ?_
    refine V_sJ F dL_clearFormation_8 (fun μ3 => ?_)
    refine V_goto (tgt := 15) F dL_clearFormation_9 (by decide) ?_
    refine V_iconst (v := 0) F dL_clearFormation_15 (by decide) ?_
    exact V_iret F M dL_clearFormation_16 rfl (by decide) (by decide)
  · refine VX_if (E0 := "java/lang/IndexOutOfBoundsException") (fun hE => ?_) ?_
    · subst hE
      refine VX_catch F M [] [] ⟨0, 9, 12, 13⟩ rfl (by decide) (fun z hz => nomatch hz) (by decide) (by decide) q445 q551 (fun q4 => ?_)
      change V κ ρ 1 6 μ1 _ 12 [(0, .ref p1), (1, .int p2), (2, .ref p3)] [.ref q4]
      refine V_astore_n (lv' := [(3, .ref q4), (0, .ref p1), (1, .int p2), (2, .ref p3)]) F dL_clearFormation_12 rfl (lt_L hNL (by decide)) rfl ?_
      refine V_iconst (v := 1) F dL_clearFormation_13 (by decide) ?_
      exact V_iret F M dL_clearFormation_14 rfl (by decide) (by decide)
    exact VX_none
/-! DroneLightShowLaw.assign(LDroneLightShow;I[J)I -/
abbrev rmL_assign : Room := { frames := 9, cells := 1, slots := 6, locals := 163 }
def FL_assign (p1 : Nat) (p2 : Int32) (p3 : Nat) (μ : Me) : Rs Int32 :=
  (bndc (vc μ p1 7 (FX7_assign p1 p2 μ)) (fun x2 μ1 => (sJ μ1 p3 0 ((x2 : Int32).toInt64) (fun μ3 => (rt 0 μ3)))) (fun E μ1 => (if E = "java/lang/IndexOutOfBoundsException" then (rt 1 μ1) else (if E = "java/lang/IllegalStateException" then (rt 2 μ1) else none))))
set_option maxHeartbeats 4000000 in
set_option maxRecDepth 100000 in
theorem metL_assign {l : Launch} {s0 : State} {D : va_G} {aC : Nat → ClassId} (hG : Gl s0 D aC) (hl : l.stackTraces = false) (p1 : Nat) (p2 : Int32) (p3 : Nat) (μ : Me) : Ct l yL_assign (wsH_ yL_assign cL_assign 4 (some .int) [(0, 9, 12, 13), (0, 9, 15, 15)]) rmL_assign s0 D aC (fun r : Int32 => some (.int r)) [.ref p1, .int p2, .ref p3] μ (FL_assign p1 p2 p3 μ) := by
  refine Ct_ofH hG hl (by decide +kernel) (Nat.le_of_ble_eq_true rfl) (fun κ ρ hNL F M hκ => ?_)
  have F : Fx κ cL_assign RL := F
  change V κ ρ 0 0 μ (FL_assign p1 p2 p3 μ) 0 [(0, .ref p1), (1, .int p2), (2, .ref p3)] []
  unfold FL_assign
  refine V_aload_n F dL_assign_0 rfl 2 rfl ?_
  refine V_iconst (v := 0) F dL_assign_1 (by decide) ?_
  refine V_aload_n F dL_assign_2 rfl 0 rfl ?_
  refine V_iload_n F dL_assign_3 rfl 1 rfl ?_
  refine V_cVc (As := [.int p2]) (rest := [.int 0, .ref p3]) (C := RX7) (N := 1) F M (metX7_assign (Fx_G F) (Fx_l F) p1 p2 μ) rfl q813 q66 q810 q811 q812 ⟨by decide +kernel, by decide +kernel, by decide +kernel⟩ rfl ⟨by decide, by decide⟩ (Nat.le_of_ble_eq_true rfl) dL_assign_4 (by decide) (by decide) (fun x2 μ1 => ?_) (fun E μ1 => ?_)
  · change V κ ρ 1 6 μ1 _ 7 [(0, .ref p1), (1, .int p2), (2, .ref p3)] [.int x2, .int 0, .ref p3]
    refine V_i2l F dL_assign_7 ?_
    refine V_sJ F dL_assign_8 (fun μ3 => ?_)
    refine V_goto (tgt := 18) F dL_assign_9 (by decide) ?_
    refine V_iconst (v := 0) F dL_assign_18 (by decide) ?_
    exact V_iret F M dL_assign_19 rfl (by decide) (by decide)
  · refine VX_if (E0 := "java/lang/IndexOutOfBoundsException") (fun hE => ?_) ?_
    · subst hE
      refine VX_catch F M [] [⟨0, 9, 15, 15⟩] ⟨0, 9, 12, 13⟩ rfl (by decide) (fun z hz => nomatch hz) (by decide) (by decide) q445 q551 (fun q4 => ?_)
      change V κ ρ 1 6 μ1 _ 12 [(0, .ref p1), (1, .int p2), (2, .ref p3)] [.ref q4]
      refine V_astore_n (lv' := [(3, .ref q4), (0, .ref p1), (1, .int p2), (2, .ref p3)]) F dL_assign_12 rfl (lt_L hNL (by decide)) rfl ?_
      refine V_iconst (v := 1) F dL_assign_13 (by decide) ?_
      exact V_iret F M dL_assign_14 rfl (by decide) (by decide)
    refine VX_if (E0 := "java/lang/IllegalStateException") (fun hE => ?_) ?_
    · subst hE
      refine VX_catch F M [⟨0, 9, 12, 13⟩] [] ⟨0, 9, 15, 15⟩ rfl (by decide) (List.forall_mem_cons.mpr ⟨⟨by decide, "java/lang/IndexOutOfBoundsException", by decide, by decide, q445⟩, fun z hz => nomatch hz⟩) (by decide) (by decide) q525 q580 (fun q5 => ?_)
      change V κ ρ 1 6 μ1 _ 15 [(0, .ref p1), (1, .int p2), (2, .ref p3)] [.ref q5]
      refine V_astore_n (lv' := [(3, .ref q5), (0, .ref p1), (1, .int p2), (2, .ref p3)]) F dL_assign_15 rfl (lt_L hNL (by decide)) rfl ?_
      refine V_iconst (v := 2) F dL_assign_16 (by decide) ?_
      exact V_iret F M dL_assign_17 rfl (by decide) (by decide)
    exact VX_none
/-! DroneLightShowLaw.batteryAfter(LDroneLightShow;II[J)I -/
abbrev rmL_batteryAfter : Room := { frames := 8, cells := 2, slots := 12, locals := 144 }
def FL_batteryAfter (p1 : Nat) (p2 : Int32) (p3 : Int32) (p4 : Nat) (μ : Me) : Rs Int32 :=
  (bndc (vc μ p1 7 (FX7_batteryAfter p1 p2 p3 μ)) (fun x2 μ1 => (sJ μ1 p4 0 ((x2 : Int32).toInt64) (fun μ3 => (rt 0 μ3)))) (fun E μ1 => (if E = "java/lang/IndexOutOfBoundsException" then (rt 1 μ1) else (if E = "java/lang/IllegalArgumentException" then (rt 2 μ1) else none))))
set_option maxHeartbeats 4000000 in
set_option maxRecDepth 100000 in
theorem metL_batteryAfter {l : Launch} {s0 : State} {D : va_G} {aC : Nat → ClassId} (hG : Gl s0 D aC) (hl : l.stackTraces = false) (p1 : Nat) (p2 : Int32) (p3 : Int32) (p4 : Nat) (μ : Me) : Ct l yL_batteryAfter (wsH_ yL_batteryAfter cL_batteryAfter 5 (some .int) [(0, 10, 13, 13), (0, 10, 17, 22)]) rmL_batteryAfter s0 D aC (fun r : Int32 => some (.int r)) [.ref p1, .int p2, .int p3, .ref p4] μ (FL_batteryAfter p1 p2 p3 p4 μ) := by
  refine Ct_ofH hG hl (by decide +kernel) (Nat.le_of_ble_eq_true rfl) (fun κ ρ hNL F M hκ => ?_)
  have F : Fx κ cL_batteryAfter RL := F
  change V κ ρ 0 0 μ (FL_batteryAfter p1 p2 p3 p4 μ) 0 [(0, .ref p1), (1, .int p2), (2, .int p3), (3, .ref p4)] []
  unfold FL_batteryAfter
  refine V_aload_n F dL_batteryAfter_0 rfl 3 rfl ?_
  refine V_iconst (v := 0) F dL_batteryAfter_1 (by decide) ?_
  refine V_aload_n F dL_batteryAfter_2 rfl 0 rfl ?_
  refine V_iload_n F dL_batteryAfter_3 rfl 1 rfl ?_
  refine V_iload_n F dL_batteryAfter_4 rfl 2 rfl ?_
  refine V_cVc (As := [.int p2, .int p3]) (rest := [.int 0, .ref p4]) (C := RX7) (N := 2) F M (metX7_batteryAfter (Fx_G F) (Fx_l F) p1 p2 p3 μ) rfl q966 q66 q963 q964 q965 ⟨by decide +kernel, by decide +kernel, by decide +kernel⟩ rfl ⟨by decide, by decide⟩ (Nat.le_of_ble_eq_true rfl) dL_batteryAfter_5 (by decide) (by decide) (fun x2 μ1 => ?_) (fun E μ1 => ?_)
  · change V κ ρ 2 12 μ1 _ 8 [(0, .ref p1), (1, .int p2), (2, .int p3), (3, .ref p4)] [.int x2, .int 0, .ref p4]
    refine V_i2l F dL_batteryAfter_8 ?_
    refine V_sJ F dL_batteryAfter_9 (fun μ3 => ?_)
    refine V_goto (tgt := 21) F dL_batteryAfter_10 (by decide) ?_
    refine V_iconst (v := 0) F dL_batteryAfter_21 (by decide) ?_
    exact V_iret F M dL_batteryAfter_22 rfl (by decide) (by decide)
  · refine VX_if (E0 := "java/lang/IndexOutOfBoundsException") (fun hE => ?_) ?_
    · subst hE
      refine VX_catch F M [] [⟨0, 10, 17, 22⟩] ⟨0, 10, 13, 13⟩ rfl (by decide) (fun z hz => nomatch hz) (by decide) (by decide) q445 q551 (fun q4 => ?_)
      change V κ ρ 2 12 μ1 _ 13 [(0, .ref p1), (1, .int p2), (2, .int p3), (3, .ref p4)] [.ref q4]
      refine V_astore (lv' := [(4, .ref q4), (0, .ref p1), (1, .int p2), (2, .int p3), (3, .ref p4)]) F dL_batteryAfter_13 (lt_L hNL (by decide)) rfl ?_
      refine V_iconst (v := 1) F dL_batteryAfter_15 (by decide) ?_
      exact V_iret F M dL_batteryAfter_16 rfl (by decide) (by decide)
    refine VX_if (E0 := "java/lang/IllegalArgumentException") (fun hE => ?_) ?_
    · subst hE
      refine VX_catch F M [⟨0, 10, 13, 13⟩] [] ⟨0, 10, 17, 22⟩ rfl (by decide) (List.forall_mem_cons.mpr ⟨⟨by decide, "java/lang/IndexOutOfBoundsException", by decide, by decide, q445⟩, fun z hz => nomatch hz⟩) (by decide) (by decide) q618 q564 (fun q5 => ?_)
      change V κ ρ 2 12 μ1 _ 17 [(0, .ref p1), (1, .int p2), (2, .int p3), (3, .ref p4)] [.ref q5]
      refine V_astore (lv' := [(4, .ref q5), (0, .ref p1), (1, .int p2), (2, .int p3), (3, .ref p4)]) F dL_batteryAfter_17 (lt_L hNL (by decide)) rfl ?_
      refine V_iconst (v := 2) F dL_batteryAfter_19 (by decide) ?_
      exact V_iret F M dL_batteryAfter_20 rfl (by decide) (by decide)
    exact VX_none
/-! DroneLightShowLaw.cueColour(LDroneLightShow;III[J)I -/
abbrev rmL_cueColour : Room := { frames := 9, cells := 1, slots := 6, locals := 165 }
def FL_cueColour (p1 : Nat) (p2 : Int32) (p3 : Int32) (p4 : Int32) (p5 : Nat) (μ : Me) : Rs Int32 :=
  (bndc (vc μ p1 7 (FX7_cueColour p1 p2 p3 p4 μ)) (fun x2 μ1 => (sJ μ1 p5 0 ((x2 : Int32).toInt64) (fun μ3 => (rt 0 μ3)))) (fun E μ1 => (if E = "java/lang/IndexOutOfBoundsException" then (rt 1 μ1) else (if E = "java/lang/IllegalArgumentException" then (rt 2 μ1) else (if E = "java/lang/IllegalStateException" then (rt 3 μ1) else none)))))
set_option maxHeartbeats 4000000 in
set_option maxRecDepth 100000 in
theorem metL_cueColour {l : Launch} {s0 : State} {D : va_G} {aC : Nat → ClassId} (hG : Gl s0 D aC) (hl : l.stackTraces = false) (p1 : Nat) (p2 : Int32) (p3 : Int32) (p4 : Int32) (p5 : Nat) (μ : Me) : Ct l yL_cueColour (wsH_ yL_cueColour cL_cueColour 6 (some .int) [(0, 12, 15, 13), (0, 12, 19, 22), (0, 12, 23, 15)]) rmL_cueColour s0 D aC (fun r : Int32 => some (.int r)) [.ref p1, .int p2, .int p3, .int p4, .ref p5] μ (FL_cueColour p1 p2 p3 p4 p5 μ) := by
  refine Ct_ofH hG hl (by decide +kernel) (Nat.le_of_ble_eq_true rfl) (fun κ ρ hNL F M hκ => ?_)
  have F : Fx κ cL_cueColour RL := F
  change V κ ρ 0 0 μ (FL_cueColour p1 p2 p3 p4 p5 μ) 0 [(0, .ref p1), (1, .int p2), (2, .int p3), (3, .int p4), (4, .ref p5)] []
  unfold FL_cueColour
  refine V_aload F dL_cueColour_0 4 rfl ?_
  refine V_iconst (v := 0) F dL_cueColour_2 (by decide) ?_
  refine V_aload_n F dL_cueColour_3 rfl 0 rfl ?_
  refine V_iload_n F dL_cueColour_4 rfl 1 rfl ?_
  refine V_iload_n F dL_cueColour_5 rfl 2 rfl ?_
  refine V_iload_n F dL_cueColour_6 rfl 3 rfl ?_
  refine V_cVc (As := [.int p2, .int p3, .int p4]) (rest := [.int 0, .ref p5]) (C := RX7) (N := 3) F M (metX7_cueColour (Fx_G F) (Fx_l F) p1 p2 p3 p4 μ) rfl q975 q66 q972 q973 q974 ⟨by decide +kernel, by decide +kernel, by decide +kernel⟩ rfl ⟨by decide, by decide⟩ (Nat.le_of_ble_eq_true rfl) dL_cueColour_7 (by decide) (by decide) (fun x2 μ1 => ?_) (fun E μ1 => ?_)
  · change V κ ρ 1 6 μ1 _ 10 [(0, .ref p1), (1, .int p2), (2, .int p3), (3, .int p4), (4, .ref p5)] [.int x2, .int 0, .ref p5]
    refine V_i2l F dL_cueColour_10 ?_
    refine V_sJ F dL_cueColour_11 (fun μ3 => ?_)
    refine V_goto (tgt := 27) F dL_cueColour_12 (by decide) ?_
    refine V_iconst (v := 0) F dL_cueColour_27 (by decide) ?_
    exact V_iret F M dL_cueColour_28 rfl (by decide) (by decide)
  · refine VX_if (E0 := "java/lang/IndexOutOfBoundsException") (fun hE => ?_) ?_
    · subst hE
      refine VX_catch F M [] [⟨0, 12, 19, 22⟩, ⟨0, 12, 23, 15⟩] ⟨0, 12, 15, 13⟩ rfl (by decide) (fun z hz => nomatch hz) (by decide) (by decide) q445 q551 (fun q4 => ?_)
      change V κ ρ 1 6 μ1 _ 15 [(0, .ref p1), (1, .int p2), (2, .int p3), (3, .int p4), (4, .ref p5)] [.ref q4]
      refine V_astore (lv' := [(5, .ref q4), (0, .ref p1), (1, .int p2), (2, .int p3), (3, .int p4), (4, .ref p5)]) F dL_cueColour_15 (lt_L hNL (by decide)) rfl ?_
      refine V_iconst (v := 1) F dL_cueColour_17 (by decide) ?_
      exact V_iret F M dL_cueColour_18 rfl (by decide) (by decide)
    refine VX_if (E0 := "java/lang/IllegalArgumentException") (fun hE => ?_) ?_
    · subst hE
      refine VX_catch F M [⟨0, 12, 15, 13⟩] [⟨0, 12, 23, 15⟩] ⟨0, 12, 19, 22⟩ rfl (by decide) (List.forall_mem_cons.mpr ⟨⟨by decide, "java/lang/IndexOutOfBoundsException", by decide, by decide, q445⟩, fun z hz => nomatch hz⟩) (by decide) (by decide) q618 q564 (fun q5 => ?_)
      change V κ ρ 1 6 μ1 _ 19 [(0, .ref p1), (1, .int p2), (2, .int p3), (3, .int p4), (4, .ref p5)] [.ref q5]
      refine V_astore (lv' := [(5, .ref q5), (0, .ref p1), (1, .int p2), (2, .int p3), (3, .int p4), (4, .ref p5)]) F dL_cueColour_19 (lt_L hNL (by decide)) rfl ?_
      refine V_iconst (v := 2) F dL_cueColour_21 (by decide) ?_
      exact V_iret F M dL_cueColour_22 rfl (by decide) (by decide)
    refine VX_if (E0 := "java/lang/IllegalStateException") (fun hE => ?_) ?_
    · subst hE
      refine VX_catch F M [⟨0, 12, 15, 13⟩, ⟨0, 12, 19, 22⟩] [] ⟨0, 12, 23, 15⟩ rfl (by decide) (List.forall_mem_cons.mpr ⟨⟨by decide, "java/lang/IndexOutOfBoundsException", by decide, by decide, q445⟩, List.forall_mem_cons.mpr ⟨⟨by decide, "java/lang/IllegalArgumentException", by decide, by decide, q618⟩, fun z hz => nomatch hz⟩⟩) (by decide) (by decide) q525 q580 (fun q6 => ?_)
      change V κ ρ 1 6 μ1 _ 23 [(0, .ref p1), (1, .int p2), (2, .int p3), (3, .int p4), (4, .ref p5)] [.ref q6]
      refine V_astore (lv' := [(5, .ref q6), (0, .ref p1), (1, .int p2), (2, .int p3), (3, .int p4), (4, .ref p5)]) F dL_cueColour_23 (lt_L hNL (by decide)) rfl ?_
      refine V_iconst (v := 3) F dL_cueColour_25 (by decide) ?_
      exact V_iret F M dL_cueColour_26 rfl (by decide) (by decide)
    exact VX_none
/-! DroneLightShowLaw.advance(LDroneLightShow;I[J)I -/
abbrev rmL_advance : Room := { frames := 9, cells := 1, slots := 6, locals := 163 }
def FL_advance (p1 : Nat) (p2 : Int32) (p3 : Nat) (μ : Me) : Rs Int32 :=
  (bndc (vc μ p1 7 (FX7_advance p1 p2 μ)) (fun x2 μ1 => (sJ μ1 p3 0 ((x2 : Int32).toInt64) (fun μ3 => (rt 0 μ3)))) (fun E μ1 => (if E = "java/lang/IllegalArgumentException" then (rt 1 μ1) else none)))
set_option maxHeartbeats 4000000 in
set_option maxRecDepth 100000 in
theorem metL_advance {l : Launch} {s0 : State} {D : va_G} {aC : Nat → ClassId} (hG : Gl s0 D aC) (hl : l.stackTraces = false) (p1 : Nat) (p2 : Int32) (p3 : Nat) (μ : Me) : Ct l yL_advance (wsH_ yL_advance cL_advance 4 (some .int) [(0, 9, 12, 22)]) rmL_advance s0 D aC (fun r : Int32 => some (.int r)) [.ref p1, .int p2, .ref p3] μ (FL_advance p1 p2 p3 μ) := by
  refine Ct_ofH hG hl (by decide +kernel) (Nat.le_of_ble_eq_true rfl) (fun κ ρ hNL F M hκ => ?_)
  have F : Fx κ cL_advance RL := F
  change V κ ρ 0 0 μ (FL_advance p1 p2 p3 μ) 0 [(0, .ref p1), (1, .int p2), (2, .ref p3)] []
  unfold FL_advance
  refine V_aload_n F dL_advance_0 rfl 2 rfl ?_
  refine V_iconst (v := 0) F dL_advance_1 (by decide) ?_
  refine V_aload_n F dL_advance_2 rfl 0 rfl ?_
  refine V_iload_n F dL_advance_3 rfl 1 rfl ?_
  refine V_cVc (As := [.int p2]) (rest := [.int 0, .ref p3]) (C := RX7) (N := 1) F M (metX7_advance (Fx_G F) (Fx_l F) p1 p2 μ) rfl q887 q66 q884 q885 q886 ⟨by decide +kernel, by decide +kernel, by decide +kernel⟩ rfl ⟨by decide, by decide⟩ (Nat.le_of_ble_eq_true rfl) dL_advance_4 (by decide) (by decide) (fun x2 μ1 => ?_) (fun E μ1 => ?_)
  · change V κ ρ 1 6 μ1 _ 7 [(0, .ref p1), (1, .int p2), (2, .ref p3)] [.int x2, .int 0, .ref p3]
    refine V_i2l F dL_advance_7 ?_
    refine V_sJ F dL_advance_8 (fun μ3 => ?_)
    refine V_goto (tgt := 15) F dL_advance_9 (by decide) ?_
    refine V_iconst (v := 0) F dL_advance_15 (by decide) ?_
    exact V_iret F M dL_advance_16 rfl (by decide) (by decide)
  · refine VX_if (E0 := "java/lang/IllegalArgumentException") (fun hE => ?_) ?_
    · subst hE
      refine VX_catch F M [] [] ⟨0, 9, 12, 22⟩ rfl (by decide) (fun z hz => nomatch hz) (by decide) (by decide) q618 q564 (fun q4 => ?_)
      change V κ ρ 1 6 μ1 _ 12 [(0, .ref p1), (1, .int p2), (2, .ref p3)] [.ref q4]
      refine V_astore_n (lv' := [(3, .ref q4), (0, .ref p1), (1, .int p2), (2, .ref p3)]) F dL_advance_12 rfl (lt_L hNL (by decide)) rfl ?_
      refine V_iconst (v := 1) F dL_advance_13 (by decide) ?_
      exact V_iret F M dL_advance_14 rfl (by decide) (by decide)
    exact VX_none
/-! DroneLightShowLaw.run(LDroneLightShow;[J)I -/
abbrev rmL_run : Room := { frames := 9, cells := 1, slots := 6, locals := 198 }
def FL_run (aC : Nat → Nat) (p1 : Nat) (p2 : Nat) (μ : Me) : Rs Int32 :=
  (bndc (vc μ p1 7 (FX7_run aC p1  μ)) (fun x2 μ1 => (sJ μ1 p2 0 ((x2 : Int32).toInt64) (fun μ3 => (rt 0 μ3)))) (fun E μ1 => (if E = "java/lang/IllegalArgumentException" then (rt 1 μ1) else (if E = "java/lang/IllegalStateException" then (rt 2 μ1) else none))))
set_option maxHeartbeats 4000000 in
set_option maxRecDepth 100000 in
theorem metL_run {l : Launch} {s0 : State} {D : va_G} {aC aC9 : Nat → ClassId} (hG : Gl s0 D aC9) (hl : l.stackTraces = false) (e9 : aC9 = aC) (p1 : Nat) (p2 : Nat) (μ : Me) : Ct l yL_run (wsH_ yL_run cL_run 3 (some .int) [(0, 8, 11, 22), (0, 8, 14, 15)]) rmL_run s0 D aC9 (fun r : Int32 => some (.int r)) [.ref p1, .ref p2] μ (FL_run aC p1 p2 μ) := by
  refine Ct_ofH hG hl (by decide +kernel) (Nat.le_of_ble_eq_true rfl) (fun κ ρ hNL F M hκ => ?_)
  have hκ := hκ.trans e9
  have F : Fx κ cL_run RL := F
  change V κ ρ 0 0 μ (FL_run aC p1 p2 μ) 0 [(0, .ref p1), (1, .ref p2)] []
  have SGa := Fx_SGa F hκ _ rfl
  unfold FL_run
  refine V_aload_n F dL_run_0 rfl 1 rfl ?_
  refine V_iconst (v := 0) F dL_run_1 (by decide) ?_
  refine V_aload_n F dL_run_2 rfl 0 rfl ?_
  refine V_cVc (As := []) (rest := [.int 0, .ref p2]) (C := RX7) (N := 0) F M (metX7_run (Fx_G F) (Fx_l F) hκ p1  μ) rfl q1011 q66 q1008 q1009 q1010 ⟨by decide +kernel, by decide +kernel, by decide +kernel⟩ rfl ⟨by decide, by decide⟩ (Nat.le_of_ble_eq_true rfl) dL_run_3 (by decide) (by decide) (fun x2 μ1 => ?_) (fun E μ1 => ?_)
  · change V κ ρ 1 6 μ1 _ 6 [(0, .ref p1), (1, .ref p2)] [.int x2, .int 0, .ref p2]
    refine V_i2l F dL_run_6 ?_
    refine V_sJ F dL_run_7 (fun μ3 => ?_)
    refine V_goto (tgt := 17) F dL_run_8 (by decide) ?_
    refine V_iconst (v := 0) F dL_run_17 (by decide) ?_
    exact V_iret F M dL_run_18 rfl (by decide) (by decide)
  · refine VX_if (E0 := "java/lang/IllegalArgumentException") (fun hE => ?_) ?_
    · subst hE
      refine VX_catch F M [] [⟨0, 8, 14, 15⟩] ⟨0, 8, 11, 22⟩ rfl (by decide) (fun z hz => nomatch hz) (by decide) (by decide) q618 q564 (fun q4 => ?_)
      change V κ ρ 1 6 μ1 _ 11 [(0, .ref p1), (1, .ref p2)] [.ref q4]
      refine V_astore_n (lv' := [(2, .ref q4), (0, .ref p1), (1, .ref p2)]) F dL_run_11 rfl (lt_L hNL (by decide)) rfl ?_
      refine V_iconst (v := 1) F dL_run_12 (by decide) ?_
      exact V_iret F M dL_run_13 rfl (by decide) (by decide)
    refine VX_if (E0 := "java/lang/IllegalStateException") (fun hE => ?_) ?_
    · subst hE
      refine VX_catch F M [⟨0, 8, 11, 22⟩] [] ⟨0, 8, 14, 15⟩ rfl (by decide) (List.forall_mem_cons.mpr ⟨⟨by decide, "java/lang/IllegalArgumentException", by decide, by decide, q618⟩, fun z hz => nomatch hz⟩) (by decide) (by decide) q525 q580 (fun q5 => ?_)
      change V κ ρ 1 6 μ1 _ 14 [(0, .ref p1), (1, .ref p2)] [.ref q5]
      refine V_astore_n (lv' := [(2, .ref q5), (0, .ref p1), (1, .ref p2)]) F dL_run_14 rfl (lt_L hNL (by decide)) rfl ?_
      refine V_iconst (v := 2) F dL_run_15 (by decide) ?_
      exact V_iret F M dL_run_16 rfl (by decide) (by decide)
    exact VX_none
