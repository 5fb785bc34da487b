/-! the law -/
def FL_law_B791 (aC : Nat → Nat) (b L : Nat) (xs : Nat → Int32) (k28 : Nat → Nat → Nat → Nat → Int32 → Me → Rs Unit) (v1 : Nat) (v2 : Nat) (v3 : Nat) (v4 : Nat) (v5 : Int32) (t0 : Int64) (t1 : Int64) (μ : Me) : Rs Unit :=
  (if (lg_cmp t1 t0) = 0 then (k28 v1 v2 v3 v4 (v5 + 4) μ) else none)
set_option maxHeartbeats 8000000 in
set_option maxRecDepth 100000 in
theorem VL_law_B791 (f : Nat) (hf : f < 600) {κ : Cx} {ρ : (Unit ⊕ String) × Me} {aC : Nat → Nat} {b L : Nat} {xs : Nat → Int32} (F : Fx κ cL_law RL) (X : Lx κ b L xs) (hNL : κ.2.2.2.2.2.2.2.2.2.2.2.2.2.2 = 9) (hκ : κ.2.2.2.2.2.2.2.2.2.2.2.2.2.1 = aC) {k28 : Nat → Nat → Nat → Nat → Int32 → Me → Rs Unit} (hk28 : ∀ (v1 : Nat) (v2 : Nat) (v3 : Nat) (v4 : Nat) (v5 : Int32) (μ : Me), V κ ρ (603072 - 10 * f) (7198826 - 60 * f) μ (k28 v1 v2 v3 v4 v5 μ) 28 [(0, .ref b), (1, .ref v1), (2, .ref v2), (3, .ref v3), (4, .ref v4), (5, .int v5)] []) (v1 : Nat) (v2 : Nat) (v3 : Nat) (v4 : Nat) (v5 : Int32) (t0 : Int64) (t1 : Int64) (μ : Me) : V κ ρ (603072 - 10 * (f + 1) + 1) (7198826 - 60 * (f + 1) + 6) μ (FL_law_B791 aC b L xs k28 v1 v2 v3 v4 v5 t0 t1 μ) 791 [(0, .ref b), (1, .ref v1), (2, .ref v2), (3, .ref v3), (4, .ref v4), (5, .int v5)] [.long t0, .long t1] := by
  have SGa := Fx_SGa F hκ _ rfl
  unfold FL_law_B791
  refine V_lcmp F dL_law_791 ?_
  refine V_if_eq (tgt := 797) F dL_law_792 (by decide) (fun c180 => ?_) (fun c181 => ?_)
  · refine V_goto (tgt := 2634) F dL_law_797 (by decide) ?_
    refine V_iinc (lv' := [(5, .int (v5 + 4)), (0, .ref b), (1, .ref v1), (2, .ref v2), (3, .ref v3), (4, .ref v4)]) F dL_law_2634 5 rfl rfl (lt_L hNL (by decide)) rfl ?_
    refine V_goto (tgt := 28) F dL_law_2637 (by decide) ?_
    refine V_widen (k' := 603072 - 10 * f) (n' := 7198826 - 60 * f) (by omega) (by omega) ?_
    refine V_sub [1, 2, 3, 4, 5, 0] rfl ?_
    exact hk28 v1 v2 v3 v4 (v5 + 4) μ
  · refine V_iconst (v := 0) F dL_law_795 (by decide) ?_
    exact V_none
def FL_law_B854 (aC : Nat → Nat) (b L : Nat) (xs : Nat → Int32) (k28 : Nat → Nat → Nat → Nat → Int32 → Me → Rs Unit) (v1 : Nat) (v2 : Nat) (v3 : Nat) (v4 : Nat) (v5 : Int32) (t0 : Int64) (t1 : Int64) (μ : Me) : Rs Unit :=
  (if (lg_cmp t1 t0) = 0 then (k28 v1 v2 v3 v4 (v5 + 4) μ) else none)
set_option maxHeartbeats 8000000 in
set_option maxRecDepth 100000 in
theorem VL_law_B854 (f : Nat) (hf : f < 600) {κ : Cx} {ρ : (Unit ⊕ String) × Me} {aC : Nat → Nat} {b L : Nat} {xs : Nat → Int32} (F : Fx κ cL_law RL) (X : Lx κ b L xs) (hNL : κ.2.2.2.2.2.2.2.2.2.2.2.2.2.2 = 9) (hκ : κ.2.2.2.2.2.2.2.2.2.2.2.2.2.1 = aC) {k28 : Nat → Nat → Nat → Nat → Int32 → Me → Rs Unit} (hk28 : ∀ (v1 : Nat) (v2 : Nat) (v3 : Nat) (v4 : Nat) (v5 : Int32) (μ : Me), V κ ρ (603072 - 10 * f) (7198826 - 60 * f) μ (k28 v1 v2 v3 v4 v5 μ) 28 [(0, .ref b), (1, .ref v1), (2, .ref v2), (3, .ref v3), (4, .ref v4), (5, .int v5)] []) (v1 : Nat) (v2 : Nat) (v3 : Nat) (v4 : Nat) (v5 : Int32) (t0 : Int64) (t1 : Int64) (μ : Me) : V κ ρ (603072 - 10 * (f + 1) + 1) (7198826 - 60 * (f + 1) + 6) μ (FL_law_B854 aC b L xs k28 v1 v2 v3 v4 v5 t0 t1 μ) 854 [(0, .ref b), (1, .ref v1), (2, .ref v2), (3, .ref v3), (4, .ref v4), (5, .int v5)] [.long t0, .long t1] := by
  have SGa := Fx_SGa F hκ _ rfl
  unfold FL_law_B854
  refine V_lcmp F dL_law_854 ?_
  refine V_if_eq (tgt := 860) F dL_law_855 (by decide) (fun c199 => ?_) (fun c200 => ?_)
  · refine V_goto (tgt := 2634) F dL_law_860 (by decide) ?_
    refine V_iinc (lv' := [(5, .int (v5 + 4)), (0, .ref b), (1, .ref v1), (2, .ref v2), (3, .ref v3), (4, .ref v4)]) F dL_law_2634 5 rfl rfl (lt_L hNL (by decide)) rfl ?_
    refine V_goto (tgt := 28) F dL_law_2637 (by decide) ?_
    refine V_widen (k' := 603072 - 10 * f) (n' := 7198826 - 60 * f) (by omega) (by omega) ?_
    refine V_sub [1, 2, 3, 4, 5, 0] rfl ?_
    exact hk28 v1 v2 v3 v4 (v5 + 4) μ
  · refine V_iconst (v := 0) F dL_law_858 (by decide) ?_
    exact V_none
def FL_law_B1085 (aC : Nat → Nat) (b L : Nat) (xs : Nat → Int32) (k28 : Nat → Nat → Nat → Nat → Int32 → Me → Rs Unit) (v1 : Nat) (v2 : Nat) (v3 : Nat) (v4 : Nat) (v5 : Int32) (t0 : Int64) (t1 : Int64) (μ : Me) : Rs Unit :=
  (if (lg_cmp t1 t0) = 0 then (k28 v1 v2 v3 v4 (v5 + 4) μ) else none)
set_option maxHeartbeats 8000000 in
set_option maxRecDepth 100000 in
theorem VL_law_B1085 (f : Nat) (hf : f < 600) {κ : Cx} {ρ : (Unit ⊕ String) × Me} {aC : Nat → Nat} {b L : Nat} {xs : Nat → Int32} (F : Fx κ cL_law RL) (X : Lx κ b L xs) (hNL : κ.2.2.2.2.2.2.2.2.2.2.2.2.2.2 = 9) (hκ : κ.2.2.2.2.2.2.2.2.2.2.2.2.2.1 = aC) {k28 : Nat → Nat → Nat → Nat → Int32 → Me → Rs Unit} (hk28 : ∀ (v1 : Nat) (v2 : Nat) (v3 : Nat) (v4 : Nat) (v5 : Int32) (μ : Me), V κ ρ (603072 - 10 * f) (7198826 - 60 * f) μ (k28 v1 v2 v3 v4 v5 μ) 28 [(0, .ref b), (1, .ref v1), (2, .ref v2), (3, .ref v3), (4, .ref v4), (5, .int v5)] []) (v1 : Nat) (v2 : Nat) (v3 : Nat) (v4 : Nat) (v5 : Int32) (t0 : Int64) (t1 : Int64) (μ : Me) : V κ ρ (603072 - 10 * (f + 1) + 1) (7198826 - 60 * (f + 1) + 6) μ (FL_law_B1085 aC b L xs k28 v1 v2 v3 v4 v5 t0 t1 μ) 1085 [(0, .ref b), (1, .ref v1), (2, .ref v2), (3, .ref v3), (4, .ref v4), (5, .int v5)] [.long t0, .long t1] := by
  have SGa := Fx_SGa F hκ _ rfl
  unfold FL_law_B1085
  refine V_lcmp F dL_law_1085 ?_
  refine V_if_eq (tgt := 1091) F dL_law_1086 (by decide) (fun c269 => ?_) (fun c270 => ?_)
  · refine V_goto (tgt := 2634) F dL_law_1091 (by decide) ?_
    refine V_iinc (lv' := [(5, .int (v5 + 4)), (0, .ref b), (1, .ref v1), (2, .ref v2), (3, .ref v3), (4, .ref v4)]) F dL_law_2634 5 rfl rfl (lt_L hNL (by decide)) rfl ?_
    refine V_goto (tgt := 28) F dL_law_2637 (by decide) ?_
    refine V_widen (k' := 603072 - 10 * f) (n' := 7198826 - 60 * f) (by omega) (by omega) ?_
    refine V_sub [1, 2, 3, 4, 5, 0] rfl ?_
    exact hk28 v1 v2 v3 v4 (v5 + 4) μ
  · refine V_iconst (v := 0) F dL_law_1089 (by decide) ?_
    exact V_none
def FL_law_B28 (aC : Nat → Nat) (b L : Nat) (xs : Nat → Int32) (k28 : Nat → Nat → Nat → Nat → Int32 → Me → Rs Unit) (v1 : Nat) (v2 : Nat) (v3 : Nat) (v4 : Nat) (v5 : Int32) (μ : Me) : Rs Unit :=
  (if ((nI L) - 4) < v5 then (rt () μ) else (gd (inb v5 L = true) (if ((xs v5.toNatClampNeg) &&& 63).toInt < 0 ∨ 50 < ((xs v5.toNatClampNeg) &&& 63).toInt then (k28 v1 v2 v3 v4 (v5 + 4) μ) else (if ((xs v5.toNatClampNeg) &&& 63).toInt = 0 then (gd (inb (v5 + 1) L = true) (bndn (FL_addDrone v1 (xs (v5 + 1).toNatClampNeg) v3 μ) (fun x21 μ20 => (gd (inb (v5 + 1) L = true) (bndn (vc μ20 v2 8 (FX8_addDrone v2 (xs (v5 + 1).toNatClampNeg) μ20)) (fun x24 μ23 => (bndn (vc μ23 v2 8 (FX8_thrown v2  μ23)) (fun x26 μ25 => (if x26 = x21 then (if x21 = 0 then (aJ μ25 v3 0 (fun x31 => (if (lg_cmp x31 ((x24 : Int32).toInt64)) = 0 then (k28 v1 v2 v3 v4 (v5 + 4) μ25) else none))) else (k28 v1 v2 v3 v4 (v5 + 4) μ25)) else none))))))))) else (if ((xs v5.toNatClampNeg) &&& 63).toInt = 1 then (gd (inb (v5 + 1) L = true) (bndn (FL_addPad v1 (xs (v5 + 1).toNatClampNeg) v3 μ) (fun x38 μ37 => (gd (inb (v5 + 1) L = true) (bndn (vc μ37 v2 8 (FX8_addPad v2 (xs (v5 + 1).toNatClampNeg) μ37)) (fun x41 μ40 => (bndn (vc μ40 v2 8 (FX8_thrown v2  μ40)) (fun x43 μ42 => (if x43 = x38 then (if x38 = 0 then (aJ μ42 v3 0 (fun x48 => (if (lg_cmp x48 ((x41 : Int32).toInt64)) = 0 then (k28 v1 v2 v3 v4 (v5 + 4) μ42) else none))) else (k28 v1 v2 v3 v4 (v5 + 4) μ42)) else none))))))))) else (if ((xs v5.toNatClampNeg) &&& 63).toInt = 2 then (gd (inb (v5 + 1) L = true) (bndn (FL_takeOff v1 (xs (v5 + 1).toNatClampNeg) v3 μ) (fun x55 μ54 => (gd (inb (v5 + 1) L = true) (bndn (vc μ54 v2 8 (FX8_takeOff v2 (xs (v5 + 1).toNatClampNeg) μ54)) (fun x58 μ57 => (bndn (vc μ57 v2 8 (FX8_thrown v2  μ57)) (fun x60 μ59 => (if x60 = x55 then (if x55 = 0 then (aJ μ59 v3 0 (fun x65 => (if (lg_cmp x65 ((x58 : Int32).toInt64)) = 0 then (k28 v1 v2 v3 v4 (v5 + 4) μ59) else none))) else (k28 v1 v2 v3 v4 (v5 + 4) μ59)) else none))))))))) else (if ((xs v5.toNatClampNeg) &&& 63).toInt = 3 then (gd (inb (v5 + 1) L = true) (bndn (FL_land v1 (xs (v5 + 1).toNatClampNeg) v3 μ) (fun x72 μ71 => (gd (inb (v5 + 1) L = true) (bndn (vc μ71 v2 8 (FX8_land v2 (xs (v5 + 1).toNatClampNeg) μ71)) (fun x75 μ74 => (bndn (vc μ74 v2 8 (FX8_thrown v2  μ74)) (fun x77 μ76 => (if x77 = x72 then (if x72 = 0 then (aJ μ76 v3 0 (fun x82 => (if (lg_cmp x82 ((x75 : Int32).toInt64)) = 0 then (k28 v1 v2 v3 v4 (v5 + 4) μ76) else none))) else (k28 v1 v2 v3 v4 (v5 + 4) μ76)) else none))))))))) else (if ((xs v5.toNatClampNeg) &&& 63).toInt = 4 then (gd (inb (v5 + 1) L = true) (gd (inb (v5 + 2) L = true) (bndn (FL_sendTo v1 (xs (v5 + 1).toNatClampNeg) (xs (v5 + 2).toNatClampNeg) v3 μ) (fun x90 μ89 => (gd (inb (v5 + 1) L = true) (gd (inb (v5 + 2) L = true) (bndn (vc μ89 v2 8 (FX8_sendTo v2 (xs (v5 + 1).toNatClampNeg) (xs (v5 + 2).toNatClampNeg) μ89)) (fun x94 μ93 => (bndn (vc μ93 v2 8 (FX8_thrown v2  μ93)) (fun x96 μ95 => (if x96 = x90 then (if x90 = 0 then (aJ μ95 v3 0 (fun x101 => (if (lg_cmp x101 ((x94 : Int32).toInt64)) = 0 then (k28 v1 v2 v3 v4 (v5 + 4) μ95) else none))) else (k28 v1 v2 v3 v4 (v5 + 4) μ95)) else none))))))))))) else (if ((xs v5.toNatClampNeg) &&& 63).toInt = 5 then (gd (inb (v5 + 1) L = true) (bndn (FL_setReserve v1 (xs (v5 + 1).toNatClampNeg) v3 μ) (fun x108 μ107 => (gd (inb (v5 + 1) L = true) (bndn (vc μ107 v2 8 (FX8_setReserve v2 (xs (v5 + 1).toNatClampNeg) μ107)) (fun x111 μ110 => (bndn (vc μ110 v2 8 (FX8_thrown v2  μ110)) (fun x113 μ112 => (if x113 = x108 then (if x108 = 0 then (aJ μ112 v3 0 (fun x118 => (if (lg_cmp x118 ((x111 : Int32).toInt64)) = 0 then (k28 v1 v2 v3 v4 (v5 + 4) μ112) else none))) else (k28 v1 v2 v3 v4 (v5 + 4) μ112)) else none))))))))) else (if ((xs v5.toNatClampNeg) &&& 63).toInt = 6 then (bndn (vc μ v1 7 (FX7_droneCount v1  μ)) (fun x124 μ123 => (bndn (vc μ123 v2 8 (FX8_droneCount v2  μ123)) (fun x126 μ125 => (if x124 = x126 then (k28 v1 v2 v3 v4 (v5 + 4) μ125) else none))))) else (if ((xs v5.toNatClampNeg) &&& 63).toInt = 7 then (gd (inb (v5 + 1) L = true) (bndn (FL_cellOf v1 (xs (v5 + 1).toNatClampNeg) v3 μ) (fun x133 μ132 => (gd (inb (v5 + 1) L = true) (bndn (vc μ132 v2 8 (FX8_cellOf v2 (xs (v5 + 1).toNatClampNeg) μ132)) (fun x136 μ135 => (bndn (vc μ135 v2 8 (FX8_thrown v2  μ135)) (fun x138 μ137 => (if x138 = x133 then (if x133 = 0 then (aJ μ137 v3 0 (fun x143 => (if (lg_cmp x143 ((x136 : Int32).toInt64)) = 0 then (k28 v1 v2 v3 v4 (v5 + 4) μ137) else none))) else (k28 v1 v2 v3 v4 (v5 + 4) μ137)) else none))))))))) else (if ((xs v5.toNatClampNeg) &&& 63).toInt = 8 then (gd (inb (v5 + 1) L = true) (bndn (FL_battery v1 (xs (v5 + 1).toNatClampNeg) v3 μ) (fun x150 μ149 => (gd (inb (v5 + 1) L = true) (bndn (vc μ149 v2 8 (FX8_battery v2 (xs (v5 + 1).toNatClampNeg) μ149)) (fun x153 μ152 => (bndn (vc μ152 v2 8 (FX8_thrown v2  μ152)) (fun x155 μ154 => (if x155 = x150 then (if x150 = 0 then (aJ μ154 v3 0 (fun x160 => (if (lg_cmp x160 ((x153 : Int32).toInt64)) = 0 then (k28 v1 v2 v3 v4 (v5 + 4) μ154) else none))) else (k28 v1 v2 v3 v4 (v5 + 4) μ154)) else none))))))))) else (if ((xs v5.toNatClampNeg) &&& 63).toInt = 9 then (gd (inb (v5 + 1) L = true) (bndn (FL_isFlying v1 (xs (v5 + 1).toNatClampNeg) v3 μ) (fun x167 μ166 => (gd (inb (v5 + 1) L = true) (bndn (vc μ166 v2 8 (FX8_isFlying v2 (xs (v5 + 1).toNatClampNeg) μ166)) (fun x170 μ169 => (bndn (vc μ169 v2 8 (FX8_thrown v2  μ169)) (fun x172 μ171 => (if x172 = x167 then (if x167 = 0 then (aJ μ171 v3 0 (fun x177 => (if x170 = 0 then (FL_law_B791 aC b L xs k28 v1 v2 v3 v4 v5 0 x177 μ171) else (FL_law_B791 aC b L xs k28 v1 v2 v3 v4 v5 1 x177 μ171)))) else (k28 v1 v2 v3 v4 (v5 + 4) μ171)) else none))))))))) else (if ((xs v5.toNatClampNeg) &&& 63).toInt = 10 then (gd (inb (v5 + 1) L = true) (bndn (FL_isInEmergency v1 (xs (v5 + 1).toNatClampNeg) v3 μ) (fun x186 μ185 => (gd (inb (v5 + 1) L = true) (bndn (vc μ185 v2 8 (FX8_isInEmergency v2 (xs (v5 + 1).toNatClampNeg) μ185)) (fun x189 μ188 => (bndn (vc μ188 v2 8 (FX8_thrown v2  μ188)) (fun x191 μ190 => (if x191 = x186 then (if x186 = 0 then (aJ μ190 v3 0 (fun x196 => (if x189 = 0 then (FL_law_B854 aC b L xs k28 v1 v2 v3 v4 v5 0 x196 μ190) else (FL_law_B854 aC b L xs k28 v1 v2 v3 v4 v5 1 x196 μ190)))) else (k28 v1 v2 v3 v4 (v5 + 4) μ190)) else none))))))))) else (if ((xs v5.toNatClampNeg) &&& 63).toInt = 11 then (gd (inb (v5 + 1) L = true) (bndn (FL_target v1 (xs (v5 + 1).toNatClampNeg) v3 μ) (fun x205 μ204 => (gd (inb (v5 + 1) L = true) (bndn (vc μ204 v2 8 (FX8_target v2 (xs (v5 + 1).toNatClampNeg) μ204)) (fun x208 μ207 => (bndn (vc μ207 v2 8 (FX8_thrown v2  μ207)) (fun x210 μ209 => (if x210 = x205 then (if x205 = 0 then (aJ μ209 v3 0 (fun x215 => (if (lg_cmp x215 ((x208 : Int32).toInt64)) = 0 then (k28 v1 v2 v3 v4 (v5 + 4) μ209) else none))) else (k28 v1 v2 v3 v4 (v5 + 4) μ209)) else none))))))))) else (if ((xs v5.toNatClampNeg) &&& 63).toInt = 12 then (gd (inb (v5 + 1) L = true) (bndn (FL_colour v1 (xs (v5 + 1).toNatClampNeg) v3 μ) (fun x222 μ221 => (gd (inb (v5 + 1) L = true) (bndn (vc μ221 v2 8 (FX8_colour v2 (xs (v5 + 1).toNatClampNeg) μ221)) (fun x225 μ224 => (bndn (vc μ224 v2 8 (FX8_thrown v2  μ224)) (fun x227 μ226 => (if x227 = x222 then (if x222 = 0 then (aJ μ226 v3 0 (fun x232 => (if (lg_cmp x232 ((x225 : Int32).toInt64)) = 0 then (k28 v1 v2 v3 v4 (v5 + 4) μ226) else none))) else (k28 v1 v2 v3 v4 (v5 + 4) μ226)) else none))))))))) else (if ((xs v5.toNatClampNeg) &&& 63).toInt = 13 then (gd (inb (v5 + 1) L = true) (bndn (FL_droneAt v1 (xs (v5 + 1).toNatClampNeg) v3 μ) (fun x239 μ238 => (gd (inb (v5 + 1) L = true) (bndn (vc μ238 v2 8 (FX8_droneAt v2 (xs (v5 + 1).toNatClampNeg) μ238)) (fun x242 μ241 => (bndn (vc μ241 v2 8 (FX8_thrown v2  μ241)) (fun x244 μ243 => (if x244 = x239 then (if x239 = 0 then (aJ μ243 v3 0 (fun x249 => (if (lg_cmp x249 ((x242 : Int32).toInt64)) = 0 then (k28 v1 v2 v3 v4 (v5 + 4) μ243) else none))) else (k28 v1 v2 v3 v4 (v5 + 4) μ243)) else none))))))))) else (if ((xs v5.toNatClampNeg) &&& 63).toInt = 14 then (gd (inb (v5 + 1) L = true) (bndn (FL_isPad v1 (xs (v5 + 1).toNatClampNeg) v3 μ) (fun x256 μ255 => (gd (inb (v5 + 1) L = true) (bndn (vc μ255 v2 8 (FX8_isPad v2 (xs (v5 + 1).toNatClampNeg) μ255)) (fun x259 μ258 => (bndn (vc μ258 v2 8 (FX8_thrown v2  μ258)) (fun x261 μ260 => (if x261 = x256 then (if x256 = 0 then (aJ μ260 v3 0 (fun x266 => (if x259 = 0 then (FL_law_B1085 aC b L xs k28 v1 v2 v3 v4 v5 0 x266 μ260) else (FL_law_B1085 aC b L xs k28 v1 v2 v3 v4 v5 1 x266 μ260)))) else (k28 v1 v2 v3 v4 (v5 + 4) μ260)) else none))))))))) else (if ((xs v5.toNatClampNeg) &&& 63).toInt = 15 then (gd (inb (v5 + 1) L = true) (bndn (FL_nearestPad v1 (xs (v5 + 1).toNatClampNeg) v3 μ) (fun x275 μ274 => (gd (inb (v5 + 1) L = true) (bndn (vc μ274 v2 8 (FX8_nearestPad v2 (xs (v5 + 1).toNatClampNeg) μ274)) (fun x278 μ277 => (bndn (vc μ277 v2 8 (FX8_thrown v2  μ277)) (fun x280 μ279 => (if x280 = x275 then (if x275 = 0 then (aJ μ279 v3 0 (fun x285 => (if (lg_cmp x285 ((x278 : Int32).toInt64)) = 0 then (k28 v1 v2 v3 v4 (v5 + 4) μ279) else none))) else (k28 v1 v2 v3 v4 (v5 + 4) μ279)) else none))))))))) else (if ((xs v5.toNatClampNeg) &&& 63).toInt = 16 then (gd (inb (v5 + 1) L = true) (bndn (FL_nearestPadByRings v1 (xs (v5 + 1).toNatClampNeg) v3 μ) (fun x292 μ291 => (gd (inb (v5 + 1) L = true) (bndn (vc μ291 v2 8 (FX8_nearestPadByRings v2 (xs (v5 + 1).toNatClampNeg) μ291)) (fun x295 μ294 => (bndn (vc μ294 v2 8 (FX8_thrown v2  μ294)) (fun x297 μ296 => (if x297 = x292 then (if x292 = 0 then (aJ μ296 v3 0 (fun x302 => (if (lg_cmp x302 ((x295 : Int32).toInt64)) = 0 then (k28 v1 v2 v3 v4 (v5 + 4) μ296) else none))) else (k28 v1 v2 v3 v4 (v5 + 4) μ296)) else none))))))))) else (if ((xs v5.toNatClampNeg) &&& 63).toInt = 17 then (gd (inb (v5 + 1) L = true) (gd (inb (v5 + 2) L = true) (bndn (FL_addToFormation v1 (xs (v5 + 1).toNatClampNeg) (xs (v5 + 2).toNatClampNeg) v3 μ) (fun x310 μ309 => (gd (inb (v5 + 1) L = true) (gd (inb (v5 + 2) L = true) (bndn (vc μ309 v2 8 (FX8_addToFormation v2 (xs (v5 + 1).toNatClampNeg) (xs (v5 + 2).toNatClampNeg) μ309)) (fun x314 μ313 => (bndn (vc μ313 v2 8 (FX8_thrown v2  μ313)) (fun x316 μ315 => (if x316 = x310 then (if x310 = 0 then (aJ μ315 v3 0 (fun x321 => (if (lg_cmp x321 ((x314 : Int32).toInt64)) = 0 then (k28 v1 v2 v3 v4 (v5 + 4) μ315) else none))) else (k28 v1 v2 v3 v4 (v5 + 4) μ315)) else none))))))))))) else (if ((xs v5.toNatClampNeg) &&& 63).toInt = 18 then (gd (inb (v5 + 1) L = true) (bndn (FL_clearFormation v1 (xs (v5 + 1).toNatClampNeg) v3 μ) (fun x328 μ327 => (gd (inb (v5 + 1) L = true) (bndn (vc μ327 v2 8 (FX8_clearFormation v2 (xs (v5 + 1).toNatClampNeg) μ327)) (fun x331 μ330 => (bndn (vc μ330 v2 8 (FX8_thrown v2  μ330)) (fun x333 μ332 => (if x333 = x328 then (if x328 = 0 then (aJ μ332 v3 0 (fun x338 => (if (lg_cmp x338 ((x331 : Int32).toInt64)) = 0 then (k28 v1 v2 v3 v4 (v5 + 4) μ332) else none))) else (k28 v1 v2 v3 v4 (v5 + 4) μ332)) else none))))))))) else (if ((xs v5.toNatClampNeg) &&& 63).toInt = 19 then (gd (inb (v5 + 1) L = true) (bndn (FL_assign v1 (xs (v5 + 1).toNatClampNeg) v3 μ) (fun x345 μ344 => (gd (inb (v5 + 1) L = true) (bndn (vc μ344 v2 8 (FX8_assign v2 (xs (v5 + 1).toNatClampNeg) μ344)) (fun x348 μ347 => (bndn (vc μ347 v2 8 (FX8_thrown v2  μ347)) (fun x350 μ349 => (if x350 = x345 then (if x345 = 0 then (aJ μ349 v3 0 (fun x355 => (if (lg_cmp x355 ((x348 : Int32).toInt64)) = 0 then (k28 v1 v2 v3 v4 (v5 + 4) μ349) else none))) else (k28 v1 v2 v3 v4 (v5 + 4) μ349)) else none))))))))) else (if ((xs v5.toNatClampNeg) &&& 63).toInt = 20 then (gd (inb (v5 + 1) L = true) (bndn (FL_formationMask v1 (xs (v5 + 1).toNatClampNeg) v3 μ) (fun x362 μ361 => (gd (inb (v5 + 1) L = true) (bndn (vc μ361 v2 8 (FX8_formationMask v2 (xs (v5 + 1).toNatClampNeg) μ361)) (fun x365 μ364 => (bndn (vc μ364 v2 8 (FX8_thrown v2  μ364)) (fun x367 μ366 => (if x367 = x362 then (if x362 = 0 then (aJ μ366 v3 0 (fun x372 => (if (lg_cmp x372 x365) = 0 then (k28 v1 v2 v3 v4 (v5 + 4) μ366) else none))) else (k28 v1 v2 v3 v4 (v5 + 4) μ366)) else none))))))))) else (if ((xs v5.toNatClampNeg) &&& 63).toInt = 21 then (bndn (vc μ v1 7 (FX7_occupiedMask v1  μ)) (fun x378 μ377 => (bndn (vc μ377 v2 8 (FX8_occupiedMask v2  μ377)) (fun x380 μ379 => (if (lg_cmp x378 x380) = 0 then (k28 v1 v2 v3 v4 (v5 + 4) μ379) else none))))) else (if ((xs v5.toNatClampNeg) &&& 63).toInt = 22 then (gd (inb (v5 + 1) L = true) (bndn (FL_matchCount v1 (xs (v5 + 1).toNatClampNeg) v3 μ) (fun x387 μ386 => (gd (inb (v5 + 1) L = true) (bndn (vc μ386 v2 8 (FX8_matchCount v2 (xs (v5 + 1).toNatClampNeg) μ386)) (fun x390 μ389 => (bndn (vc μ389 v2 8 (FX8_thrown v2  μ389)) (fun x392 μ391 => (if x392 = x387 then (if x387 = 0 then (aJ μ391 v3 0 (fun x397 => (if (lg_cmp x397 ((x390 : Int32).toInt64)) = 0 then (k28 v1 v2 v3 v4 (v5 + 4) μ391) else none))) else (k28 v1 v2 v3 v4 (v5 + 4) μ391)) else none))))))))) else (if ((xs v5.toNatClampNeg) &&& 63).toInt = 23 then (gd (inb (v5 + 1) L = true) (bndn (FL_matchCountByScan v1 (xs (v5 + 1).toNatClampNeg) v3 μ) (fun x404 μ403 => (gd (inb (v5 + 1) L = true) (bndn (vc μ403 v2 8 (FX8_matchCountByScan v2 (xs (v5 + 1).toNatClampNeg) μ403)) (fun x407 μ406 => (bndn (vc μ406 v2 8 (FX8_thrown v2  μ406)) (fun x409 μ408 => (if x409 = x404 then (if x404 = 0 then (aJ μ408 v3 0 (fun x414 => (if (lg_cmp x414 ((x407 : Int32).toInt64)) = 0 then (k28 v1 v2 v3 v4 (v5 + 4) μ408) else none))) else (k28 v1 v2 v3 v4 (v5 + 4) μ408)) else none))))))))) else (if ((xs v5.toNatClampNeg) &&& 63).toInt = 24 then (gd (inb (v5 + 1) L = true) (bndn (FL_coverage v1 (xs (v5 + 1).toNatClampNeg) v4 μ) (fun x421 μ420 => (gd (inb (v5 + 1) L = true) (bndn (vc μ420 v2 8 (FX8_coverage v2 (xs (v5 + 1).toNatClampNeg) μ420)) (fun x424 μ423 => (bndn (vc μ423 v2 8 (FX8_thrown v2  μ423)) (fun x426 μ425 => (if x426 = x421 then (if x421 = 0 then (aD μ425 v4 0 (fun x431 => (gd (nn64 (FP.f2d x424) = true) (if (Op.cmpValue (FP.dcmp x431 (FP.f2d x424)) .l) = 0 then (k28 v1 v2 v3 v4 (v5 + 4) μ425) else (aD μ425 v4 0 (fun x435 => (aD μ425 v4 0 (fun x436 => (if (Op.cmpValue (FP.dcmp x435 x436) .l) = 0 then none else (if (Op.cmpValue (FP.fcmp x424 x424) .l) = 0 then none else (k28 v1 v2 v3 v4 (v5 + 4) μ425))))))))))) else (k28 v1 v2 v3 v4 (v5 + 4) μ425)) else none))))))))) else (if ((xs v5.toNatClampNeg) &&& 63).toInt = 25 then (gd (inb (v5 + 1) L = true) (bndn (FL_advance v1 (xs (v5 + 1).toNatClampNeg) v3 μ) (fun x445 μ444 => (gd (inb (v5 + 1) L = true) (bndn (vc μ444 v2 8 (FX8_advance v2 (xs (v5 + 1).toNatClampNeg) μ444)) (fun x448 μ447 => (bndn (vc μ447 v2 8 (FX8_thrown v2  μ447)) (fun x450 μ449 => (if x450 = x445 then (if x445 = 0 then (aJ μ449 v3 0 (fun x455 => (if (lg_cmp x455 ((x448 : Int32).toInt64)) = 0 then (k28 v1 v2 v3 v4 (v5 + 4) μ449) else none))) else (k28 v1 v2 v3 v4 (v5 + 4) μ449)) else none))))))))) else (if ((xs v5.toNatClampNeg) &&& 63).toInt = 26 then (bndn (vc μ v1 7 (FX7_now v1  μ)) (fun x461 μ460 => (bndn (vc μ460 v2 8 (FX8_now v2  μ460)) (fun x463 μ462 => (if x461 = x463 then (k28 v1 v2 v3 v4 (v5 + 4) μ462) else none))))) else (if ((xs v5.toNatClampNeg) &&& 63).toInt = 27 then (gd (inb (v5 + 1) L = true) (bndn (FL_wantedCell v1 (xs (v5 + 1).toNatClampNeg) v3 μ) (fun x470 μ469 => (gd (inb (v5 + 1) L = true) (bndn (vc μ469 v2 8 (FX8_wantedCell v2 (xs (v5 + 1).toNatClampNeg) μ469)) (fun x473 μ472 => (bndn (vc μ472 v2 8 (FX8_thrown v2  μ472)) (fun x475 μ474 => (if x475 = x470 then (if x470 = 0 then (aJ μ474 v3 0 (fun x480 => (if (lg_cmp x480 ((x473 : Int32).toInt64)) = 0 then (k28 v1 v2 v3 v4 (v5 + 4) μ474) else none))) else (k28 v1 v2 v3 v4 (v5 + 4) μ474)) else none))))))))) else (if ((xs v5.toNatClampNeg) &&& 63).toInt = 28 then (bndn (vc μ v1 7 (FX7_conflictCount v1  μ)) (fun x486 μ485 => (bndn (vc μ485 v2 8 (FX8_conflictCount v2  μ485)) (fun x488 μ487 => (if x486 = x488 then (k28 v1 v2 v3 v4 (v5 + 4) μ487) else none))))) else (if ((xs v5.toNatClampNeg) &&& 63).toInt = 29 then (bndn (vc μ v1 7 (FX7_conflictCountByCell v1  μ)) (fun x494 μ493 => (bndn (vc μ493 v2 8 (FX8_conflictCountByCell v2  μ493)) (fun x496 μ495 => (if x494 = x496 then (k28 v1 v2 v3 v4 (v5 + 4) μ495) else none))))) else (if ((xs v5.toNatClampNeg) &&& 63).toInt = 30 then (gd (inb (v5 + 1) L = true) (bndn (FL_droneAtRank v1 (xs (v5 + 1).toNatClampNeg) v3 μ) (fun x503 μ502 => (gd (inb (v5 + 1) L = true) (bndn (vc μ502 v2 8 (FX8_droneAtRank v2 (xs (v5 + 1).toNatClampNeg) μ502)) (fun x506 μ505 => (bndn (vc μ505 v2 8 (FX8_thrown v2  μ505)) (fun x508 μ507 => (if x508 = x503 then (if x503 = 0 then (aJ μ507 v3 0 (fun x513 => (if (lg_cmp x513 ((x506 : Int32).toInt64)) = 0 then (k28 v1 v2 v3 v4 (v5 + 4) μ507) else none))) else (k28 v1 v2 v3 v4 (v5 + 4) μ507)) else none))))))))) else (if ((xs v5.toNatClampNeg) &&& 63).toInt = 31 then (gd (inb (v5 + 1) L = true) (gd (inb (v5 + 2) L = true) (bndn (FL_batteryAfter v1 (xs (v5 + 1).toNatClampNeg) (xs (v5 + 2).toNatClampNeg) v3 μ) (fun x521 μ520 => (gd (inb (v5 + 1) L = true) (gd (inb (v5 + 2) L = true) (bndn (vc μ520 v2 8 (FX8_batteryAfter v2 (xs (v5 + 1).toNatClampNeg) (xs (v5 + 2).toNatClampNeg) μ520)) (fun x525 μ524 => (bndn (vc μ524 v2 8 (FX8_thrown v2  μ524)) (fun x527 μ526 => (if x527 = x521 then (if x521 = 0 then (aJ μ526 v3 0 (fun x532 => (if (lg_cmp x532 ((x525 : Int32).toInt64)) = 0 then (k28 v1 v2 v3 v4 (v5 + 4) μ526) else none))) else (k28 v1 v2 v3 v4 (v5 + 4) μ526)) else none))))))))))) else (if ((xs v5.toNatClampNeg) &&& 63).toInt = 32 then (gd (inb (v5 + 1) L = true) (gd (inb (v5 + 2) L = true) (gd (inb (v5 + 3) L = true) (bndn (FL_cueColour v1 (xs (v5 + 1).toNatClampNeg) (xs (v5 + 2).toNatClampNeg) (xs (v5 + 3).toNatClampNeg) v3 μ) (fun x541 μ540 => (gd (inb (v5 + 1) L = true) (gd (inb (v5 + 2) L = true) (gd (inb (v5 + 3) L = true) (bndn (vc μ540 v2 8 (FX8_cueColour v2 (xs (v5 + 1).toNatClampNeg) (xs (v5 + 2).toNatClampNeg) (xs (v5 + 3).toNatClampNeg) μ540)) (fun x546 μ545 => (bndn (vc μ545 v2 8 (FX8_thrown v2  μ545)) (fun x548 μ547 => (if x548 = x541 then (if x541 = 0 then (aJ μ547 v3 0 (fun x553 => (if (lg_cmp x553 ((x546 : Int32).toInt64)) = 0 then (k28 v1 v2 v3 v4 (v5 + 4) μ547) else none))) else (k28 v1 v2 v3 v4 (v5 + 4) μ547)) else none))))))))))))) else (if ((xs v5.toNatClampNeg) &&& 63).toInt = 33 then (bndn (vc μ v1 7 (FX7_cueCount v1  μ)) (fun x559 μ558 => (bndn (vc μ558 v2 8 (FX8_cueCount v2  μ558)) (fun x561 μ560 => (if x559 = x561 then (k28 v1 v2 v3 v4 (v5 + 4) μ560) else none))))) else (if ((xs v5.toNatClampNeg) &&& 63).toInt = 34 then (bndn (FL_nextCueTime v1 v3 μ) (fun x567 μ566 => (bndn (vc μ566 v2 8 (FX8_nextCueTime v2  μ566)) (fun x569 μ568 => (bndn (vc μ568 v2 8 (FX8_thrown v2  μ568)) (fun x571 μ570 => (if x571 = x567 then (if x567 = 0 then (aJ μ570 v3 0 (fun x576 => (if (lg_cmp x576 ((x569 : Int32).toInt64)) = 0 then (k28 v1 v2 v3 v4 (v5 + 4) μ570) else none))) else (k28 v1 v2 v3 v4 (v5 + 4) μ570)) else none))))))) else (if ((xs v5.toNatClampNeg) &&& 63).toInt = 35 then (bndn (vc μ v1 7 (FX7_movedTotal v1  μ)) (fun x582 μ581 => (bndn (vc μ581 v2 8 (FX8_movedTotal v2  μ581)) (fun x584 μ583 => (if x582 = x584 then (k28 v1 v2 v3 v4 (v5 + 4) μ583) else none))))) else (if ((xs v5.toNatClampNeg) &&& 63).toInt = 36 then (bndn (vc μ v1 7 (FX7_blockedTotal v1  μ)) (fun x590 μ589 => (bndn (vc μ589 v2 8 (FX8_blockedTotal v2  μ589)) (fun x592 μ591 => (if x590 = x592 then (k28 v1 v2 v3 v4 (v5 + 4) μ591) else none))))) else (if ((xs v5.toNatClampNeg) &&& 63).toInt = 37 then (bndn (vc μ v1 7 (FX7_emergencyTotal v1  μ)) (fun x598 μ597 => (bndn (vc μ597 v2 8 (FX8_emergencyTotal v2  μ597)) (fun x600 μ599 => (if x598 = x600 then (k28 v1 v2 v3 v4 (v5 + 4) μ599) else none))))) else (if ((xs v5.toNatClampNeg) &&& 63).toInt = 38 then (bndn (vc μ v1 7 (FX7_forcedTotal v1  μ)) (fun x606 μ605 => (bndn (vc μ605 v2 8 (FX8_forcedTotal v2  μ605)) (fun x608 μ607 => (if x606 = x608 then (k28 v1 v2 v3 v4 (v5 + 4) μ607) else none))))) else (if ((xs v5.toNatClampNeg) &&& 63).toInt = 39 then (gd (inb (v5 + 1) L = true) (bndn (FL_append v1 ((((xs (v5 + 1).toNatClampNeg) : Int32).toUInt32 % 65536).toInt32) v3 μ) (fun x615 μ614 => (gd (inb (v5 + 1) L = true) (bndn (vc μ614 v2 8 (FX8_append v2 ((((xs (v5 + 1).toNatClampNeg) : Int32).toUInt32 % 65536).toInt32) μ614)) (fun x618 μ617 => (bndn (vc μ617 v2 8 (FX8_thrown v2  μ617)) (fun x620 μ619 => (if x620 = x615 then (if x615 = 0 then (aJ μ619 v3 0 (fun x625 => (if (lg_cmp x625 ((x618 : Int32).toInt64)) = 0 then (k28 v1 v2 v3 v4 (v5 + 4) μ619) else none))) else (k28 v1 v2 v3 v4 (v5 + 4) μ619)) else none))))))))) else (if ((xs v5.toNatClampNeg) &&& 63).toInt = 40 then (bndn (FL_run aC v1 v3 μ) (fun x631 μ630 => (bndn (vc μ630 v2 8 (FX8_run v2  μ630)) (fun x633 μ632 => (bndn (vc μ632 v2 8 (FX8_thrown v2  μ632)) (fun x635 μ634 => (if x635 = x631 then (if x631 = 0 then (aJ μ634 v3 0 (fun x640 => (if (lg_cmp x640 ((x633 : Int32).toInt64)) = 0 then (k28 v1 v2 v3 v4 (v5 + 4) μ634) else none))) else (k28 v1 v2 v3 v4 (v5 + 4) μ634)) else none))))))) else (if ((xs v5.toNatClampNeg) &&& 63).toInt = 41 then (bndn (FL_errorPosition v1 v3 μ) (fun x646 μ645 => (bndn (vc μ645 v2 8 (FX8_errorPosition v2  μ645)) (fun x648 μ647 => (bndn (vc μ647 v2 8 (FX8_thrown v2  μ647)) (fun x650 μ649 => (if x650 = x646 then (if x646 = 0 then (aJ μ649 v3 0 (fun x655 => (if (lg_cmp x655 ((x648 : Int32).toInt64)) = 0 then (k28 v1 v2 v3 v4 (v5 + 4) μ649) else none))) else (k28 v1 v2 v3 v4 (v5 + 4) μ649)) else none))))))) else (if ((xs v5.toNatClampNeg) &&& 63).toInt = 42 then (bndn (FL_failedCommand v1 v3 μ) (fun x661 μ660 => (bndn (vc μ660 v2 8 (FX8_failedCommand v2  μ660)) (fun x663 μ662 => (bndn (vc μ662 v2 8 (FX8_thrown v2  μ662)) (fun x665 μ664 => (if x665 = x661 then (if x661 = 0 then (aJ μ664 v3 0 (fun x670 => (if (lg_cmp x670 ((x663 : Int32).toInt64)) = 0 then (k28 v1 v2 v3 v4 (v5 + 4) μ664) else none))) else (k28 v1 v2 v3 v4 (v5 + 4) μ664)) else none))))))) else (if ((xs v5.toNatClampNeg) &&& 63).toInt = 43 then (gd (inb (v5 + 1) L = true) (bndn (FL_describeRow v1 (xs (v5 + 1).toNatClampNeg) v3 μ) (fun x677 μ676 => (gd (inb (v5 + 1) L = true) (bndn (vc μ676 v2 8 (FX8_describeRow v2 (xs (v5 + 1).toNatClampNeg) μ676)) (fun x680 μ679 => (bndn (vc μ679 v2 8 (FX8_thrown v2  μ679)) (fun x682 μ681 => (if x682 = x677 then (if x677 = 0 then (aJ μ681 v3 0 (fun x687 => (if (lg_cmp x687 ((x680 : Int32).toInt64)) = 0 then (k28 v1 v2 v3 v4 (v5 + 4) μ681) else none))) else (k28 v1 v2 v3 v4 (v5 + 4) μ681)) else none))))))))) else (if ((xs v5.toNatClampNeg) &&& 63).toInt = 44 then (gd (inb (v5 + 1) L = true) (bndn (FL_lineAt v1 (xs (v5 + 1).toNatClampNeg) v3 μ) (fun x694 μ693 => (gd (inb (v5 + 1) L = true) (bndn (vc μ693 v2 8 (FX8_lineAt v2 (xs (v5 + 1).toNatClampNeg) μ693)) (fun x697 μ696 => (bndn (vc μ696 v2 8 (FX8_thrown v2  μ696)) (fun x699 μ698 => (if x699 = x694 then (if x694 = 0 then (aJ μ698 v3 0 (fun x704 => (if (lg_cmp x704 ((x697 : Int32).toInt64)) = 0 then (k28 v1 v2 v3 v4 (v5 + 4) μ698) else none))) else (k28 v1 v2 v3 v4 (v5 + 4) μ698)) else none))))))))) else (if ((xs v5.toNatClampNeg) &&& 63).toInt = 45 then (bndn (FL_meanBatteryBits v1 v3 μ) (fun x710 μ709 => (bndn (vc μ709 v2 8 (FX8_meanBatteryBits v2  μ709)) (fun x712 μ711 => (bndn (vc μ711 v2 8 (FX8_thrown v2  μ711)) (fun x714 μ713 => (if x714 = x710 then (if x710 = 0 then (aJ μ713 v3 0 (fun x719 => (if (lg_cmp x719 ((x712 : Int32).toInt64)) = 0 then (k28 v1 v2 v3 v4 (v5 + 4) μ713) else none))) else (k28 v1 v2 v3 v4 (v5 + 4) μ713)) else none))))))) else (if ((xs v5.toNatClampNeg) &&& 63).toInt = 46 then (bndn (FL_meanDistance v1 v4 μ) (fun x725 μ724 => (bndn (vc μ724 v2 8 (FX8_meanDistance v2  μ724)) (fun x727 μ726 => (bndn (vc μ726 v2 8 (FX8_thrown v2  μ726)) (fun x729 μ728 => (if x729 = x725 then (if x725 = 0 then (aD μ728 v4 0 (fun x734 => (if (Op.cmpValue (FP.dcmp x734 x727) .l) = 0 then (k28 v1 v2 v3 v4 (v5 + 4) μ728) else (aD μ728 v4 0 (fun x737 => (aD μ728 v4 0 (fun x738 => (if (Op.cmpValue (FP.dcmp x737 x738) .l) = 0 then none else (if (Op.cmpValue (FP.dcmp x727 x727) .l) = 0 then none else (k28 v1 v2 v3 v4 (v5 + 4) μ728)))))))))) else (k28 v1 v2 v3 v4 (v5 + 4) μ728)) else none))))))) else (if ((xs v5.toNatClampNeg) &&& 63).toInt = 47 then (bndn (vc μ v1 7 (FX7_isConsistent v1  μ)) (fun x746 μ745 => (bndn (vc μ745 v2 8 (FX8_isConsistent v2  μ745)) (fun x748 μ747 => (if x746 = x748 then (k28 v1 v2 v3 v4 (v5 + 4) μ747) else none))))) else (if ((xs v5.toNatClampNeg) &&& 63).toInt = 48 then (bndn (FL_undo v1 v3 μ) (fun x754 μ753 => (bndn (vc μ753 v2 8 (FX8_undo v2  μ753)) (fun x756 μ755 => (bndn (vc μ755 v2 8 (FX8_thrown v2  μ755)) (fun x758 μ757 => (if x758 = x754 then (if x754 = 0 then (aJ μ757 v3 0 (fun x763 => (if (lg_cmp x763 ((x756 : Int32).toInt64)) = 0 then (k28 v1 v2 v3 v4 (v5 + 4) μ757) else none))) else (k28 v1 v2 v3 v4 (v5 + 4) μ757)) else none))))))) else (if ((xs v5.toNatClampNeg) &&& 63).toInt = 49 then (bndn (vc μ v1 7 (FX7_save v1  μ)) (fun x769 μ768 => (bndn (vc μ768 v2 8 (FX8_save v2  μ768)) (fun x771 μ770 => (if x769 = x771 then (k28 v1 v2 v3 v4 (v5 + 4) μ770) else none))))) else (if ((xs v5.toNatClampNeg) &&& 63).toInt = 50 then (bndn (FL_restore v1 v3 μ) (fun x777 μ776 => (bndn (vc μ776 v2 8 (FX8_restore v2  μ776)) (fun x779 μ778 => (bndn (vc μ778 v2 8 (FX8_thrown v2  μ778)) (fun x781 μ780 => (if x781 = x777 then (if x777 = 0 then (aJ μ780 v3 0 (fun x786 => (if (lg_cmp x786 ((x779 : Int32).toInt64)) = 0 then (k28 v1 v2 v3 v4 (v5 + 4) μ780) else none))) else (k28 v1 v2 v3 v4 (v5 + 4) μ780)) else none))))))) else none))))))))))))))))))))))))))))))))))))))))))))))))))))))
set_option maxHeartbeats 8000000 in
set_option maxRecDepth 100000 in
theorem VL_law_B28 (f : Nat) (hf : f < 600) {κ : Cx} {ρ : (Unit ⊕ String) × Me} {aC : Nat → Nat} {b L : Nat} {xs : Nat → Int32} (F : Fx κ cL_law RL) (X : Lx κ b L xs) (hNL : κ.2.2.2.2.2.2.2.2.2.2.2.2.2.2 = 9) (hκ : κ.2.2.2.2.2.2.2.2.2.2.2.2.2.1 = aC) {k28 : Nat → Nat → Nat → Nat → Int32 → Me → Rs Unit} (hk28 : ∀ (v1 : Nat) (v2 : Nat) (v3 : Nat) (v4 : Nat) (v5 : Int32) (μ : Me), V κ ρ (603072 - 10 * f) (7198826 - 60 * f) μ (k28 v1 v2 v3 v4 v5 μ) 28 [(0, .ref b), (1, .ref v1), (2, .ref v2), (3, .ref v3), (4, .ref v4), (5, .int v5)] []) (v1 : Nat) (v2 : Nat) (v3 : Nat) (v4 : Nat) (v5 : Int32) (μ : Me) : V κ ρ (603072 - 10 * (f + 1)) (7198826 - 60 * (f + 1)) μ (FL_law_B28 aC b L xs k28 v1 v2 v3 v4 v5 μ) 28 [(0, .ref b), (1, .ref v1), (2, .ref v2), (3, .ref v3), (4, .ref v4), (5, .int v5)] [] := by
  have SGa := Fx_SGa F hκ _ rfl
  unfold FL_law_B28
  refine V_iload F dL_law_28 5 rfl ?_
  refine V_aload_n F dL_law_30 rfl 0 rfl ?_
  refine V_slen F X dL_law_31 ?_
  refine V_iconst (v := 4) F dL_law_32 (by decide) ?_
  refine V_isub F dL_law_33 ?_
  refine V_icmp_gt (tgt := 2640) F dL_law_34 (by decide) (fun c13 => ?_) (fun c14 => ?_)
  · refine V_iconst (v := 1) F dL_law_2640 (by decide) ?_
    exact V_lend F X dL_law_2641 (by omega) (by omega)
  · refine V_aload_n F dL_law_37 rfl 0 rfl ?_
    refine V_iload F dL_law_38 5 rfl ?_
    refine V_gd (fun g15 => ?_)
    refine V_sld F X g15 dL_law_40 ?_
    refine V_bipush (v := 63) F dL_law_41 (by decide) ?_
    refine V_iand F dL_law_43 ?_
    refine V_out (tgt := 2634) F dL_law_44 (by decide) ?_ (fun c16 => ?_)
    · refine V_iinc (lv' := [(5, .int (v5 + 4)), (0, .ref b), (1, .ref v1), (2, .ref v2), (3, .ref v3), (4, .ref v4)]) F dL_law_2634 5 rfl rfl (lt_L hNL (by decide)) rfl ?_
      refine V_goto (tgt := 28) F dL_law_2637 (by decide) ?_
      refine V_widen (k' := 603072 - 10 * f) (n' := 7198826 - 60 * f) (by omega) (by omega) ?_
      refine V_sub [1, 2, 3, 4, 5, 0] rfl ?_
      exact hk28 v1 v2 v3 v4 (v5 + 4) μ
    · skip
      refine V_case (z := 0) (tgt := 264) F dL_law_44 (by decide) rfl (by decide) (fun c17 => ?_) (fun c18 => ?_)
      · refine V_aload_n F dL_law_264 rfl 1 rfl ?_
        refine V_aload_n F dL_law_265 rfl 0 rfl ?_
        refine V_iload F dL_law_266 5 rfl ?_
        refine V_iconst (v := 1) F dL_law_268 (by decide) ?_
        refine V_iadd F dL_law_269 ?_
        refine V_gd (fun g19 => ?_)
        refine V_sld F X g19 dL_law_270 ?_
        refine V_aload_n F dL_law_271 rfl 3 rfl ?_
        refine V_lSX (As := [.ref v1, .int (xs (v5 + 1).toNatClampNeg), .ref v3]) (rest := []) (N := 3) F X (metL_addDrone (Fx_G F) (Fx_l F) v1 (xs (v5 + 1).toNatClampNeg) v3 μ) q444 q65 q442 q443 ⟨by decide +kernel, by decide +kernel, by decide +kernel⟩ rfl ⟨Nat.le_of_ble_eq_true rfl, Nat.le_of_ble_eq_true rfl⟩ (Nat.le_of_ble_eq_true rfl) dL_law_272 (by have h9 : rmL_addDrone.cells = 1 := rfl; omega) (by have h9 : rmL_addDrone.slots = 6 := rfl; omega) (fun x21 μ20 => ?_)
        change V κ ρ (603072 - 10 * (f + 1) + 1) (7198826 - 60 * (f + 1) + 6) μ20 _ 275 [(0, .ref b), (1, .ref v1), (2, .ref v2), (3, .ref v3), (4, .ref v4), (5, .int v5)] [.int x21]
        refine V_istore (lv' := [(6, .int x21), (0, .ref b), (1, .ref v1), (2, .ref v2), (3, .ref v3), (4, .ref v4), (5, .int v5)]) F dL_law_275 (lt_L hNL (by decide)) rfl ?_
        refine V_aload_n F dL_law_277 rfl 3 rfl ?_
        refine V_aload_n F dL_law_278 rfl 1 rfl ?_
        refine V_iload F dL_law_279 6 rfl ?_
        refine V_iconst (v := 1) F dL_law_281 (by decide) ?_
        refine V_iadd F dL_law_282 ?_
        refine V_gd (fun g22 => ?_)
        refine V_sld F X g22 dL_law_283 ?_
        refine V_lV (As := [.int (xs (v5 + 1).toNatClampNeg)]) (rest := []) (C := RX8) (N := 1) F X (metX8_addDrone (Fx_G F) (Fx_l F) v2 (xs (v5 + 1).toNatClampNeg) μ20) rfl q1282 q72 q1279 q1280 q1281 ⟨by decide +kernel, by decide +kernel, by decide +kernel⟩ rfl ⟨Nat.le_of_ble_eq_true rfl, Nat.le_of_ble_eq_true rfl⟩ (Nat.le_of_ble_eq_true rfl) dL_law_284 (by have h9 : rmX8_addDrone.cells = 0 := rfl; omega) (by have h9 : rmX8_addDrone.slots = 0 := rfl; omega) (fun x24 μ23 => ?_)
        change V κ ρ (603072 - 10 * (f + 1) + 1) (7198826 - 60 * (f + 1) + 6) μ23 _ 287 [(6, .int x21), (0, .ref b), (1, .ref v1), (2, .ref v2), (3, .ref v3), (4, .ref v4), (5, .int v5)] [.int x24]
        refine V_istore (lv' := [(7, .int x24), (6, .int x21), (0, .ref b), (1, .ref v1), (2, .ref v2), (3, .ref v3), (4, .ref v4), (5, .int v5)]) F dL_law_287 (lt_L hNL (by decide)) rfl ?_
        refine V_aload_n F dL_law_289 rfl 4 rfl ?_
        refine V_lV (As := []) (rest := []) (C := RX8) (N := 0) F X (metX8_thrown (Fx_G F) (Fx_l F) v2  μ23) rfl q1278 q72 q1275 q1276 q1277 ⟨by decide +kernel, by decide +kernel, by decide +kernel⟩ rfl ⟨Nat.le_of_ble_eq_true rfl, Nat.le_of_ble_eq_true rfl⟩ (Nat.le_of_ble_eq_true rfl) dL_law_290 (by have h9 : rmX8_thrown.cells = 0 := rfl; omega) (by have h9 : rmX8_thrown.slots = 0 := rfl; omega) (fun x26 μ25 => ?_)
        change V κ ρ (603072 - 10 * (f + 1) + 1) (7198826 - 60 * (f + 1) + 6) μ25 _ 293 [(7, .int x24), (6, .int x21), (0, .ref b), (1, .ref v1), (2, .ref v2), (3, .ref v3), (4, .ref v4), (5, .int v5)] [.int x26]
        refine V_iload F dL_law_293 1 rfl ?_
        refine V_icmp_eq (tgt := 300) F dL_law_295 (by decide) (fun c27 => ?_) (fun c28 => ?_)
        · refine V_iload F dL_law_300 1 rfl ?_
          refine V_if_ne (tgt := 317) F dL_law_302 (by decide) (fun c29 => ?_) (fun c30 => ?_)
          · refine V_goto (tgt := 2634) F dL_law_317 (by decide) ?_
            refine V_iinc (lv' := [(5, .int (v5 + 4)), (7, .int x24), (6, .int x21), (0, .ref b), (1, .ref v1), (2, .ref v2), (3, .ref v3), (4, .ref v4)]) F dL_law_2634 7 rfl rfl (lt_L hNL (by decide)) rfl ?_
            refine V_goto (tgt := 28) F dL_law_2637 (by decide) ?_
            refine V_widen (k' := 603072 - 10 * f) (n' := 7198826 - 60 * f) (by omega) (by omega) ?_
            refine V_sub [3, 4, 5, 6, 7, 0] rfl ?_
            exact hk28 v1 v2 v3 v4 (v5 + 4) μ25
          · refine V_aload_n F dL_law_305 rfl 5 rfl ?_
            refine V_iconst (v := 0) F dL_law_306 (by decide) ?_
            refine V_aJ F dL_law_307 (fun x31 => ?_)
            refine V_iload F dL_law_308 0 rfl ?_
            refine V_i2l F dL_law_310 ?_
            refine V_lcmp F dL_law_311 ?_
            refine V_if_eq (tgt := 317) F dL_law_312 (by decide) (fun c32 => ?_) (fun c33 => ?_)
            · refine V_goto (tgt := 2634) F dL_law_317 (by decide) ?_
              refine V_iinc (lv' := [(5, .int (v5 + 4)), (7, .int x24), (6, .int x21), (0, .ref b), (1, .ref v1), (2, .ref v2), (3, .ref v3), (4, .ref v4)]) F dL_law_2634 7 rfl rfl (lt_L hNL (by decide)) rfl ?_
              refine V_goto (tgt := 28) F dL_law_2637 (by decide) ?_
              refine V_widen (k' := 603072 - 10 * f) (n' := 7198826 - 60 * f) (by omega) (by omega) ?_
              refine V_sub [3, 4, 5, 6, 7, 0] rfl ?_
              exact hk28 v1 v2 v3 v4 (v5 + 4) μ25
            · refine V_iconst (v := 0) F dL_law_315 (by decide) ?_
              exact V_none
        · refine V_iconst (v := 0) F dL_law_298 (by decide) ?_
          exact V_none
      refine V_case (z := 1) (tgt := 320) F dL_law_44 (by decide) rfl (by decide) (fun c34 => ?_) (fun c35 => ?_)
      · refine V_aload_n F dL_law_320 rfl 1 rfl ?_
        refine V_aload_n F dL_law_321 rfl 0 rfl ?_
        refine V_iload F dL_law_322 5 rfl ?_
        refine V_iconst (v := 1) F dL_law_324 (by decide) ?_
        refine V_iadd F dL_law_325 ?_
        refine V_gd (fun g36 => ?_)
        refine V_sld F X g36 dL_law_326 ?_
        refine V_aload_n F dL_law_327 rfl 3 rfl ?_
        refine V_lSX (As := [.ref v1, .int (xs (v5 + 1).toNatClampNeg), .ref v3]) (rest := []) (N := 3) F X (metL_addPad (Fx_G F) (Fx_l F) v1 (xs (v5 + 1).toNatClampNeg) v3 μ) q617 q65 q615 q616 ⟨by decide +kernel, by decide +kernel, by decide +kernel⟩ rfl ⟨Nat.le_of_ble_eq_true rfl, Nat.le_of_ble_eq_true rfl⟩ (Nat.le_of_ble_eq_true rfl) dL_law_328 (by have h9 : rmL_addPad.cells = 1 := rfl; omega) (by have h9 : rmL_addPad.slots = 6 := rfl; omega) (fun x38 μ37 => ?_)
        change V κ ρ (603072 - 10 * (f + 1) + 1) (7198826 - 60 * (f + 1) + 6) μ37 _ 331 [(0, .ref b), (1, .ref v1), (2, .ref v2), (3, .ref v3), (4, .ref v4), (5, .int v5)] [.int x38]
        refine V_istore (lv' := [(6, .int x38), (0, .ref b), (1, .ref v1), (2, .ref v2), (3, .ref v3), (4, .ref v4), (5, .int v5)]) F dL_law_331 (lt_L hNL (by decide)) rfl ?_
        refine V_aload_n F dL_law_333 rfl 3 rfl ?_
        refine V_aload_n F dL_law_334 rfl 1 rfl ?_
        refine V_iload F dL_law_335 6 rfl ?_
        refine V_iconst (v := 1) F dL_law_337 (by decide) ?_
        refine V_iadd F dL_law_338 ?_
        refine V_gd (fun g39 => ?_)
        refine V_sld F X g39 dL_law_339 ?_
        refine V_lV (As := [.int (xs (v5 + 1).toNatClampNeg)]) (rest := []) (C := RX8) (N := 1) F X (metX8_addPad (Fx_G F) (Fx_l F) v2 (xs (v5 + 1).toNatClampNeg) μ37) rfl q1322 q72 q1319 q1320 q1321 ⟨by decide +kernel, by decide +kernel, by decide +kernel⟩ rfl ⟨Nat.le_of_ble_eq_true rfl, Nat.le_of_ble_eq_true rfl⟩ (Nat.le_of_ble_eq_true rfl) dL_law_340 (by have h9 : rmX8_addPad.cells = 0 := rfl; omega) (by have h9 : rmX8_addPad.slots = 0 := rfl; omega) (fun x41 μ40 => ?_)
        change V κ ρ (603072 - 10 * (f + 1) + 1) (7198826 - 60 * (f + 1) + 6) μ40 _ 343 [(6, .int x38), (0, .ref b), (1, .ref v1), (2, .ref v2), (3, .ref v3), (4, .ref v4), (5, .int v5)] [.int x41]
        refine V_istore (lv' := [(7, .int x41), (6, .int x38), (0, .ref b), (1, .ref v1), (2, .ref v2), (3, .ref v3), (4, .ref v4), (5, .int v5)]) F dL_law_343 (lt_L hNL (by decide)) rfl ?_
        refine V_aload_n F dL_law_345 rfl 4 rfl ?_
        refine V_lV (As := []) (rest := []) (C := RX8) (N := 0) F X (metX8_thrown (Fx_G F) (Fx_l F) v2  μ40) rfl q1278 q72 q1275 q1276 q1277 ⟨by decide +kernel, by decide +kernel, by decide +kernel⟩ rfl ⟨Nat.le_of_ble_eq_true rfl, Nat.le_of_ble_eq_true rfl⟩ (Nat.le_of_ble_eq_true rfl) dL_law_346 (by have h9 : rmX8_thrown.cells = 0 := rfl; omega) (by have h9 : rmX8_thrown.slots = 0 := rfl; omega) (fun x43 μ42 => ?_)
        change V κ ρ (603072 - 10 * (f + 1) + 1) (7198826 - 60 * (f + 1) + 6) μ42 _ 349 [(7, .int x41), (6, .int x38), (0, .ref b), (1, .ref v1), (2, .ref v2), (3, .ref v3), (4, .ref v4), (5, .int v5)] [.int x43]
        refine V_iload F dL_law_349 1 rfl ?_
        refine V_icmp_eq (tgt := 356) F dL_law_351 (by decide) (fun c44 => ?_) (fun c45 => ?_)
        · refine V_iload F dL_law_356 1 rfl ?_
          refine V_if_ne (tgt := 373) F dL_law_358 (by decide) (fun c46 => ?_) (fun c47 => ?_)
          · refine V_goto (tgt := 2634) F dL_law_373 (by decide) ?_
            refine V_iinc (lv' := [(5, .int (v5 + 4)), (7, .int x41), (6, .int x38), (0, .ref b), (1, .ref v1), (2, .ref v2), (3, .ref v3), (4, .ref v4)]) F dL_law_2634 7 rfl rfl (lt_L hNL (by decide)) rfl ?_
            refine V_goto (tgt := 28) F dL_law_2637 (by decide) ?_
            refine V_widen (k' := 603072 - 10 * f) (n' := 7198826 - 60 * f) (by omega) (by omega) ?_
            refine V_sub [3, 4, 5, 6, 7, 0] rfl ?_
            exact hk28 v1 v2 v3 v4 (v5 + 4) μ42
          · refine V_aload_n F dL_law_361 rfl 5 rfl ?_
            refine V_iconst (v := 0) F dL_law_362 (by decide) ?_
            refine V_aJ F dL_law_363 (fun x48 => ?_)
            refine V_iload F dL_law_364 0 rfl ?_
            refine V_i2l F dL_law_366 ?_
            refine V_lcmp F dL_law_367 ?_
            refine V_if_eq (tgt := 373) F dL_law_368 (by decide) (fun c49 => ?_) (fun c50 => ?_)
            · refine V_goto (tgt := 2634) F dL_law_373 (by decide) ?_
              refine V_iinc (lv' := [(5, .int (v5 + 4)), (7, .int x41), (6, .int x38), (0, .ref b), (1, .ref v1), (2, .ref v2), (3, .ref v3), (4, .ref v4)]) F dL_law_2634 7 rfl rfl (lt_L hNL (by decide)) rfl ?_
              refine V_goto (tgt := 28) F dL_law_2637 (by decide) ?_
              refine V_widen (k' := 603072 - 10 * f) (n' := 7198826 - 60 * f) (by omega) (by omega) ?_
              refine V_sub [3, 4, 5, 6, 7, 0] rfl ?_
              exact hk28 v1 v2 v3 v4 (v5 + 4) μ42
            · refine V_iconst (v := 0) F dL_law_371 (by decide) ?_
              exact V_none
        · refine V_iconst (v := 0) F dL_law_354 (by decide) ?_
          exact V_none
      refine V_case (z := 2) (tgt := 376) F dL_law_44 (by decide) rfl (by decide) (fun c51 => ?_) (fun c52 => ?_)
      · refine V_aload_n F dL_law_376 rfl 1 rfl ?_
        refine V_aload_n F dL_law_377 rfl 0 rfl ?_
        refine V_iload F dL_law_378 5 rfl ?_
        refine V_iconst (v := 1) F dL_law_380 (by decide) ?_
        refine V_iadd F dL_law_381 ?_
        refine V_gd (fun g53 => ?_)
        refine V_sld F X g53 dL_law_382 ?_
        refine V_aload_n F dL_law_383 rfl 3 rfl ?_
        refine V_lSX (As := [.ref v1, .int (xs (v5 + 1).toNatClampNeg), .ref v3]) (rest := []) (N := 3) F X (metL_takeOff (Fx_G F) (Fx_l F) v1 (xs (v5 + 1).toNatClampNeg) v3 μ) q629 q65 q627 q628 ⟨by decide +kernel, by decide +kernel, by decide +kernel⟩ rfl ⟨Nat.le_of_ble_eq_true rfl, Nat.le_of_ble_eq_true rfl⟩ (Nat.le_of_ble_eq_true rfl) dL_law_384 (by have h9 : rmL_takeOff.cells = 1 := rfl; omega) (by have h9 : rmL_takeOff.slots = 6 := rfl; omega) (fun x55 μ54 => ?_)
        change V κ ρ (603072 - 10 * (f + 1) + 1) (7198826 - 60 * (f + 1) + 6) μ54 _ 387 [(0, .ref b), (1, .ref v1), (2, .ref v2), (3, .ref v3), (4, .ref v4), (5, .int v5)] [.int x55]
        refine V_istore (lv' := [(6, .int x55), (0, .ref b), (1, .ref v1), (2, .ref v2), (3, .ref v3), (4, .ref v4), (5, .int v5)]) F dL_law_387 (lt_L hNL (by decide)) rfl ?_
        refine V_aload_n F dL_law_389 rfl 3 rfl ?_
        refine V_aload_n F dL_law_390 rfl 1 rfl ?_
        refine V_iload F dL_law_391 6 rfl ?_
        refine V_iconst (v := 1) F dL_law_393 (by decide) ?_
        refine V_iadd F dL_law_394 ?_
        refine V_gd (fun g56 => ?_)
        refine V_sld F X g56 dL_law_395 ?_
        refine V_lV (As := [.int (xs (v5 + 1).toNatClampNeg)]) (rest := []) (C := RX8) (N := 1) F X (metX8_takeOff (Fx_G F) (Fx_l F) v2 (xs (v5 + 1).toNatClampNeg) μ54) rfl q1334 q72 q1331 q1332 q1333 ⟨by decide +kernel, by decide +kernel, by decide +kernel⟩ rfl ⟨Nat.le_of_ble_eq_true rfl, Nat.le_of_ble_eq_true rfl⟩ (Nat.le_of_ble_eq_true rfl) dL_law_396 (by have h9 : rmX8_takeOff.cells = 0 := rfl; omega) (by have h9 : rmX8_takeOff.slots = 0 := rfl; omega) (fun x58 μ57 => ?_)
        change V κ ρ (603072 - 10 * (f + 1) + 1) (7198826 - 60 * (f + 1) + 6) μ57 _ 399 [(6, .int x55), (0, .ref b), (1, .ref v1), (2, .ref v2), (3, .ref v3), (4, .ref v4), (5, .int v5)] [.int x58]
        refine V_istore (lv' := [(7, .int x58), (6, .int x55), (0, .ref b), (1, .ref v1), (2, .ref v2), (3, .ref v3), (4, .ref v4), (5, .int v5)]) F dL_law_399 (lt_L hNL (by decide)) rfl ?_
        refine V_aload_n F dL_law_401 rfl 4 rfl ?_
        refine V_lV (As := []) (rest := []) (C := RX8) (N := 0) F X (metX8_thrown (Fx_G F) (Fx_l F) v2  μ57) rfl q1278 q72 q1275 q1276 q1277 ⟨by decide +kernel, by decide +kernel, by decide +kernel⟩ rfl ⟨Nat.le_of_ble_eq_true rfl, Nat.le_of_ble_eq_true rfl⟩ (Nat.le_of_ble_eq_true rfl) dL_law_402 (by have h9 : rmX8_thrown.cells = 0 := rfl; omega) (by have h9 : rmX8_thrown.slots = 0 := rfl; omega) (fun x60 μ59 => ?_)
        change V κ ρ (603072 - 10 * (f + 1) + 1) (7198826 - 60 * (f + 1) + 6) μ59 _ 405 [(7, .int x58), (6, .int x55), (0, .ref b), (1, .ref v1), (2, .ref v2), (3, .ref v3), (4, .ref v4), (5, .int v5)] [.int x60]
        refine V_iload F dL_law_405 1 rfl ?_
        refine V_icmp_eq (tgt := 412) F dL_law_407 (by decide) (fun c61 => ?_) (fun c62 => ?_)
        · refine V_iload F dL_law_412 1 rfl ?_
          refine V_if_ne (tgt := 429) F dL_law_414 (by decide) (fun c63 => ?_) (fun c64 => ?_)
          · refine V_goto (tgt := 2634) F dL_law_429 (by decide) ?_
            refine V_iinc (lv' := [(5, .int (v5 + 4)), (7, .int x58), (6, .int x55), (0, .ref b), (1, .ref v1), (2, .ref v2), (3, .ref v3), (4, .ref v4)]) F dL_law_2634 7 rfl rfl (lt_L hNL (by decide)) rfl ?_
            refine V_goto (tgt := 28) F dL_law_2637 (by decide) ?_
            refine V_widen (k' := 603072 - 10 * f) (n' := 7198826 - 60 * f) (by omega) (by omega) ?_
            refine V_sub [3, 4, 5, 6, 7, 0] rfl ?_
            exact hk28 v1 v2 v3 v4 (v5 + 4) μ59
          · refine V_aload_n F dL_law_417 rfl 5 rfl ?_
            refine V_iconst (v := 0) F dL_law_418 (by decide) ?_
            refine V_aJ F dL_law_419 (fun x65 => ?_)
            refine V_iload F dL_law_420 0 rfl ?_
            refine V_i2l F dL_law_422 ?_
            refine V_lcmp F dL_law_423 ?_
            refine V_if_eq (tgt := 429) F dL_law_424 (by decide) (fun c66 => ?_) (fun c67 => ?_)
            · refine V_goto (tgt := 2634) F dL_law_429 (by decide) ?_
              refine V_iinc (lv' := [(5, .int (v5 + 4)), (7, .int x58), (6, .int x55), (0, .ref b), (1, .ref v1), (2, .ref v2), (3, .ref v3), (4, .ref v4)]) F dL_law_2634 7 rfl rfl (lt_L hNL (by decide)) rfl ?_
              refine V_goto (tgt := 28) F dL_law_2637 (by decide) ?_
              refine V_widen (k' := 603072 - 10 * f) (n' := 7198826 - 60 * f) (by omega) (by omega) ?_
              refine V_sub [3, 4, 5, 6, 7, 0] rfl ?_
              exact hk28 v1 v2 v3 v4 (v5 + 4) μ59
            · refine V_iconst (v := 0) F dL_law_427 (by decide) ?_
              exact V_none
        · refine V_iconst (v := 0) F dL_law_410 (by decide) ?_
          exact V_none
      refine V_case (z := 3) (tgt := 432) F dL_law_44 (by decide) rfl (by decide) (fun c68 => ?_) (fun c69 => ?_)
      · refine V_aload_n F dL_law_432 rfl 1 rfl ?_
        refine V_aload_n F dL_law_433 rfl 0 rfl ?_
        refine V_iload F dL_law_434 5 rfl ?_
        refine V_iconst (v := 1) F dL_law_436 (by decide) ?_
        refine V_iadd F dL_law_437 ?_
        refine V_gd (fun g70 => ?_)
        refine V_sld F X g70 dL_law_438 ?_
        refine V_aload_n F dL_law_439 rfl 3 rfl ?_
        refine V_lSX (As := [.ref v1, .int (xs (v5 + 1).toNatClampNeg), .ref v3]) (rest := []) (N := 3) F X (metL_land (Fx_G F) (Fx_l F) v1 (xs (v5 + 1).toNatClampNeg) v3 μ) q648 q65 q646 q647 ⟨by decide +kernel, by decide +kernel, by decide +kernel⟩ rfl ⟨Nat.le_of_ble_eq_true rfl, Nat.le_of_ble_eq_true rfl⟩ (Nat.le_of_ble_eq_true rfl) dL_law_440 (by have h9 : rmL_land.cells = 1 := rfl; omega) (by have h9 : rmL_land.slots = 6 := rfl; omega) (fun x72 μ71 => ?_)
        change V κ ρ (603072 - 10 * (f + 1) + 1) (7198826 - 60 * (f + 1) + 6) μ71 _ 443 [(0, .ref b), (1, .ref v1), (2, .ref v2), (3, .ref v3), (4, .ref v4), (5, .int v5)] [.int x72]
        refine V_istore (lv' := [(6, .int x72), (0, .ref b), (1, .ref v1), (2, .ref v2), (3, .ref v3), (4, .ref v4), (5, .int v5)]) F dL_law_443 (lt_L hNL (by decide)) rfl ?_
        refine V_aload_n F dL_law_445 rfl 3 rfl ?_
        refine V_aload_n F dL_law_446 rfl 1 rfl ?_
        refine V_iload F dL_law_447 6 rfl ?_
        refine V_iconst (v := 1) F dL_law_449 (by decide) ?_
        refine V_iadd F dL_law_450 ?_
        refine V_gd (fun g73 => ?_)
        refine V_sld F X g73 dL_law_451 ?_
        refine V_lV (As := [.int (xs (v5 + 1).toNatClampNeg)]) (rest := []) (C := RX8) (N := 1) F X (metX8_land (Fx_G F) (Fx_l F) v2 (xs (v5 + 1).toNatClampNeg) μ71) rfl q1354 q72 q1351 q1352 q1353 ⟨by decide +kernel, by decide +kernel, by decide +kernel⟩ rfl ⟨Nat.le_of_ble_eq_true rfl, Nat.le_of_ble_eq_true rfl⟩ (Nat.le_of_ble_eq_true rfl) dL_law_452 (by have h9 : rmX8_land.cells = 0 := rfl; omega) (by have h9 : rmX8_land.slots = 0 := rfl; omega) (fun x75 μ74 => ?_)
        change V κ ρ (603072 - 10 * (f + 1) + 1) (7198826 - 60 * (f + 1) + 6) μ74 _ 455 [(6, .int x72), (0, .ref b), (1, .ref v1), (2, .ref v2), (3, .ref v3), (4, .ref v4), (5, .int v5)] [.int x75]
        refine V_istore (lv' := [(7, .int x75), (6, .int x72), (0, .ref b), (1, .ref v1), (2, .ref v2), (3, .ref v3), (4, .ref v4), (5, .int v5)]) F dL_law_455 (lt_L hNL (by decide)) rfl ?_
        refine V_aload_n F dL_law_457 rfl 4 rfl ?_
        refine V_lV (As := []) (rest := []) (C := RX8) (N := 0) F X (metX8_thrown (Fx_G F) (Fx_l F) v2  μ74) rfl q1278 q72 q1275 q1276 q1277 ⟨by decide +kernel, by decide +kernel, by decide +kernel⟩ rfl ⟨Nat.le_of_ble_eq_true rfl, Nat.le_of_ble_eq_true rfl⟩ (Nat.le_of_ble_eq_true rfl) dL_law_458 (by have h9 : rmX8_thrown.cells = 0 := rfl; omega) (by have h9 : rmX8_thrown.slots = 0 := rfl; omega) (fun x77 μ76 => ?_)
        change V κ ρ (603072 - 10 * (f + 1) + 1) (7198826 - 60 * (f + 1) + 6) μ76 _ 461 [(7, .int x75), (6, .int x72), (0, .ref b), (1, .ref v1), (2, .ref v2), (3, .ref v3), (4, .ref v4), (5, .int v5)] [.int x77]
        refine V_iload F dL_law_461 1 rfl ?_
        refine V_icmp_eq (tgt := 468) F dL_law_463 (by decide) (fun c78 => ?_) (fun c79 => ?_)
        · refine V_iload F dL_law_468 1 rfl ?_
          refine V_if_ne (tgt := 485) F dL_law_470 (by decide) (fun c80 => ?_) (fun c81 => ?_)
          · refine V_goto (tgt := 2634) F dL_law_485 (by decide) ?_
            refine V_iinc (lv' := [(5, .int (v5 + 4)), (7, .int x75), (6, .int x72), (0, .ref b), (1, .ref v1), (2, .ref v2), (3, .ref v3), (4, .ref v4)]) F dL_law_2634 7 rfl rfl (lt_L hNL (by decide)) rfl ?_
            refine V_goto (tgt := 28) F dL_law_2637 (by decide) ?_
            refine V_widen (k' := 603072 - 10 * f) (n' := 7198826 - 60 * f) (by omega) (by omega) ?_
            refine V_sub [3, 4, 5, 6, 7, 0] rfl ?_
            exact hk28 v1 v2 v3 v4 (v5 + 4) μ76
          · refine V_aload_n F dL_law_473 rfl 5 rfl ?_
            refine V_iconst (v := 0) F dL_law_474 (by decide) ?_
            refine V_aJ F dL_law_475 (fun x82 => ?_)
            refine V_iload F dL_law_476 0 rfl ?_
            refine V_i2l F dL_law_478 ?_
            refine V_lcmp F dL_law_479 ?_
            refine V_if_eq (tgt := 485) F dL_law_480 (by decide) (fun c83 => ?_) (fun c84 => ?_)
            · refine V_goto (tgt := 2634) F dL_law_485 (by decide) ?_
              refine V_iinc (lv' := [(5, .int (v5 + 4)), (7, .int x75), (6, .int x72), (0, .ref b), (1, .ref v1), (2, .ref v2), (3, .ref v3), (4, .ref v4)]) F dL_law_2634 7 rfl rfl (lt_L hNL (by decide)) rfl ?_
              refine V_goto (tgt := 28) F dL_law_2637 (by decide) ?_
              refine V_widen (k' := 603072 - 10 * f) (n' := 7198826 - 60 * f) (by omega) (by omega) ?_
              refine V_sub [3, 4, 5, 6, 7, 0] rfl ?_
              exact hk28 v1 v2 v3 v4 (v5 + 4) μ76
            · refine V_iconst (v := 0) F dL_law_483 (by decide) ?_
              exact V_none
        · refine V_iconst (v := 0) F dL_law_466 (by decide) ?_
          exact V_none
      refine V_case (z := 4) (tgt := 488) F dL_law_44 (by decide) rfl (by decide) (fun c85 => ?_) (fun c86 => ?_)
      · refine V_aload_n F dL_law_488 rfl 1 rfl ?_
        refine V_aload_n F dL_law_489 rfl 0 rfl ?_
        refine V_iload F dL_law_490 5 rfl ?_
        refine V_iconst (v := 1) F dL_law_492 (by decide) ?_
        refine V_iadd F dL_law_493 ?_
        refine V_gd (fun g87 => ?_)
        refine V_sld F X g87 dL_law_494 ?_
        refine V_aload_n F dL_law_495 rfl 0 rfl ?_
        refine V_iload F dL_law_496 5 rfl ?_
        refine V_iconst (v := 2) F dL_law_498 (by decide) ?_
        refine V_iadd F dL_law_499 ?_
        refine V_gd (fun g88 => ?_)
        refine V_sld F X g88 dL_law_500 ?_
        refine V_aload_n F dL_law_501 rfl 3 rfl ?_
        refine V_lSX (As := [.ref v1, .int (xs (v5 + 1).toNatClampNeg), .int (xs (v5 + 2).toNatClampNeg), .ref v3]) (rest := []) (N := 4) F X (metL_sendTo (Fx_G F) (Fx_l F) v1 (xs (v5 + 1).toNatClampNeg) (xs (v5 + 2).toNatClampNeg) v3 μ) q659 q65 q657 q658 ⟨by decide +kernel, by decide +kernel, by decide +kernel⟩ rfl ⟨Nat.le_of_ble_eq_true rfl, Nat.le_of_ble_eq_true rfl⟩ (Nat.le_of_ble_eq_true rfl) dL_law_502 (by have h9 : rmL_sendTo.cells = 1 := rfl; omega) (by have h9 : rmL_sendTo.slots = 6 := rfl; omega) (fun x90 μ89 => ?_)
        change V κ ρ (603072 - 10 * (f + 1) + 1) (7198826 - 60 * (f + 1) + 6) μ89 _ 505 [(0, .ref b), (1, .ref v1), (2, .ref v2), (3, .ref v3), (4, .ref v4), (5, .int v5)] [.int x90]
        refine V_istore (lv' := [(6, .int x90), (0, .ref b), (1, .ref v1), (2, .ref v2), (3, .ref v3), (4, .ref v4), (5, .int v5)]) F dL_law_505 (lt_L hNL (by decide)) rfl ?_
        refine V_aload_n F dL_law_507 rfl 3 rfl ?_
        refine V_aload_n F dL_law_508 rfl 1 rfl ?_
        refine V_iload F dL_law_509 6 rfl ?_
        refine V_iconst (v := 1) F dL_law_511 (by decide) ?_
        refine V_iadd F dL_law_512 ?_
        refine V_gd (fun g91 => ?_)
        refine V_sld F X g91 dL_law_513 ?_
        refine V_aload_n F dL_law_514 rfl 1 rfl ?_
        refine V_iload F dL_law_515 6 rfl ?_
        refine V_iconst (v := 2) F dL_law_517 (by decide) ?_
        refine V_iadd F dL_law_518 ?_
        refine V_gd (fun g92 => ?_)
        refine V_sld F X g92 dL_law_519 ?_
        refine V_lV (As := [.int (xs (v5 + 1).toNatClampNeg), .int (xs (v5 + 2).toNatClampNeg)]) (rest := []) (C := RX8) (N := 2) F X (metX8_sendTo (Fx_G F) (Fx_l F) v2 (xs (v5 + 1).toNatClampNeg) (xs (v5 + 2).toNatClampNeg) μ89) rfl q1362 q72 q1359 q1360 q1361 ⟨by decide +kernel, by decide +kernel, by decide +kernel⟩ rfl ⟨Nat.le_of_ble_eq_true rfl, Nat.le_of_ble_eq_true rfl⟩ (Nat.le_of_ble_eq_true rfl) dL_law_520 (by have h9 : rmX8_sendTo.cells = 0 := rfl; omega) (by have h9 : rmX8_sendTo.slots = 0 := rfl; omega) (fun x94 μ93 => ?_)
        change V κ ρ (603072 - 10 * (f + 1) + 1) (7198826 - 60 * (f + 1) + 6) μ93 _ 523 [(6, .int x90), (0, .ref b), (1, .ref v1), (2, .ref v2), (3, .ref v3), (4, .ref v4), (5, .int v5)] [.int x94]
        refine V_istore (lv' := [(7, .int x94), (6, .int x90), (0, .ref b), (1, .ref v1), (2, .ref v2), (3, .ref v3), (4, .ref v4), (5, .int v5)]) F dL_law_523 (lt_L hNL (by decide)) rfl ?_
        refine V_aload_n F dL_law_525 rfl 4 rfl ?_
        refine V_lV (As := []) (rest := []) (C := RX8) (N := 0) F X (metX8_thrown (Fx_G F) (Fx_l F) v2  μ93) rfl q1278 q72 q1275 q1276 q1277 ⟨by decide +kernel, by decide +kernel, by decide +kernel⟩ rfl ⟨Nat.le_of_ble_eq_true rfl, Nat.le_of_ble_eq_true rfl⟩ (Nat.le_of_ble_eq_true rfl) dL_law_526 (by have h9 : rmX8_thrown.cells = 0 := rfl; omega) (by have h9 : rmX8_thrown.slots = 0 := rfl; omega) (fun x96 μ95 => ?_)
        change V κ ρ (603072 - 10 * (f + 1) + 1) (7198826 - 60 * (f + 1) + 6) μ95 _ 529 [(7, .int x94), (6, .int x90), (0, .ref b), (1, .ref v1), (2, .ref v2), (3, .ref v3), (4, .ref v4), (5, .int v5)] [.int x96]
        refine V_iload F dL_law_529 1 rfl ?_
        refine V_icmp_eq (tgt := 536) F dL_law_531 (by decide) (fun c97 => ?_) (fun c98 => ?_)
        · refine V_iload F dL_law_536 1 rfl ?_
          refine V_if_ne (tgt := 553) F dL_law_538 (by decide) (fun c99 => ?_) (fun c100 => ?_)
          · refine V_goto (tgt := 2634) F dL_law_553 (by decide) ?_
            refine V_iinc (lv' := [(5, .int (v5 + 4)), (7, .int x94), (6, .int x90), (0, .ref b), (1, .ref v1), (2, .ref v2), (3, .ref v3), (4, .ref v4)]) F dL_law_2634 7 rfl rfl (lt_L hNL (by decide)) rfl ?_
            refine V_goto (tgt := 28) F dL_law_2637 (by decide) ?_
            refine V_widen (k' := 603072 - 10 * f) (n' := 7198826 - 60 * f) (by omega) (by omega) ?_
            refine V_sub [3, 4, 5, 6, 7, 0] rfl ?_
            exact hk28 v1 v2 v3 v4 (v5 + 4) μ95
          · refine V_aload_n F dL_law_541 rfl 5 rfl ?_
            refine V_iconst (v := 0) F dL_law_542 (by decide) ?_
            refine V_aJ F dL_law_543 (fun x101 => ?_)
            refine V_iload F dL_law_544 0 rfl ?_
            refine V_i2l F dL_law_546 ?_
            refine V_lcmp F dL_law_547 ?_
            refine V_if_eq (tgt := 553) F dL_law_548 (by decide) (fun c102 => ?_) (fun c103 => ?_)
            · refine V_goto (tgt := 2634) F dL_law_553 (by decide) ?_
              refine V_iinc (lv' := [(5, .int (v5 + 4)), (7, .int x94), (6, .int x90), (0, .ref b), (1, .ref v1), (2, .ref v2), (3, .ref v3), (4, .ref v4)]) F dL_law_2634 7 rfl rfl (lt_L hNL (by decide)) rfl ?_
              refine V_goto (tgt := 28) F dL_law_2637 (by decide) ?_
              refine V_widen (k' := 603072 - 10 * f) (n' := 7198826 - 60 * f) (by omega) (by omega) ?_
              refine V_sub [3, 4, 5, 6, 7, 0] rfl ?_
              exact hk28 v1 v2 v3 v4 (v5 + 4) μ95
            · refine V_iconst (v := 0) F dL_law_551 (by decide) ?_
              exact V_none
        · refine V_iconst (v := 0) F dL_law_534 (by decide) ?_
          exact V_none
      refine V_case (z := 5) (tgt := 556) F dL_law_44 (by decide) rfl (by decide) (fun c104 => ?_) (fun c105 => ?_)
      · refine V_aload_n F dL_law_556 rfl 1 rfl ?_
        refine V_aload_n F dL_law_557 rfl 0 rfl ?_
        refine V_iload F dL_law_558 5 rfl ?_
        refine V_iconst (v := 1) F dL_law_560 (by decide) ?_
        refine V_iadd F dL_law_561 ?_
        refine V_gd (fun g106 => ?_)
        refine V_sld F X g106 dL_law_562 ?_
        refine V_aload_n F dL_law_563 rfl 3 rfl ?_
        refine V_lSX (As := [.ref v1, .int (xs (v5 + 1).toNatClampNeg), .ref v3]) (rest := []) (N := 3) F X (metL_setReserve (Fx_G F) (Fx_l F) v1 (xs (v5 + 1).toNatClampNeg) v3 μ) q670 q65 q668 q669 ⟨by decide +kernel, by decide +kernel, by decide +kernel⟩ rfl ⟨Nat.le_of_ble_eq_true rfl, Nat.le_of_ble_eq_true rfl⟩ (Nat.le_of_ble_eq_true rfl) dL_law_564 (by have h9 : rmL_setReserve.cells = 1 := rfl; omega) (by have h9 : rmL_setReserve.slots = 6 := rfl; omega) (fun x108 μ107 => ?_)
        change V κ ρ (603072 - 10 * (f + 1) + 1) (7198826 - 60 * (f + 1) + 6) μ107 _ 567 [(0, .ref b), (1, .ref v1), (2, .ref v2), (3, .ref v3), (4, .ref v4), (5, .int v5)] [.int x108]
        refine V_istore (lv' := [(6, .int x108), (0, .ref b), (1, .ref v1), (2, .ref v2), (3, .ref v3), (4, .ref v4), (5, .int v5)]) F dL_law_567 (lt_L hNL (by decide)) rfl ?_
        refine V_aload_n F dL_law_569 rfl 3 rfl ?_
        refine V_aload_n F dL_law_570 rfl 1 rfl ?_
        refine V_iload F dL_law_571 6 rfl ?_
        refine V_iconst (v := 1) F dL_law_573 (by decide) ?_
        refine V_iadd F dL_law_574 ?_
        refine V_gd (fun g109 => ?_)
        refine V_sld F X g109 dL_law_575 ?_
        refine V_lV (As := [.int (xs (v5 + 1).toNatClampNeg)]) (rest := []) (C := RX8) (N := 1) F X (metX8_setReserve (Fx_G F) (Fx_l F) v2 (xs (v5 + 1).toNatClampNeg) μ107) rfl q1380 q72 q1377 q1378 q1379 ⟨by decide +kernel, by decide +kernel, by decide +kernel⟩ rfl ⟨Nat.le_of_ble_eq_true rfl, Nat.le_of_ble_eq_true rfl⟩ (Nat.le_of_ble_eq_true rfl) dL_law_576 (by have h9 : rmX8_setReserve.cells = 0 := rfl; omega) (by have h9 : rmX8_setReserve.slots = 0 := rfl; omega) (fun x111 μ110 => ?_)
        change V κ ρ (603072 - 10 * (f + 1) + 1) (7198826 - 60 * (f + 1) + 6) μ110 _ 579 [(6, .int x108), (0, .ref b), (1, .ref v1), (2, .ref v2), (3, .ref v3), (4, .ref v4), (5, .int v5)] [.int x111]
        refine V_istore (lv' := [(7, .int x111), (6, .int x108), (0, .ref b), (1, .ref v1), (2, .ref v2), (3, .ref v3), (4, .ref v4), (5, .int v5)]) F dL_law_579 (lt_L hNL (by decide)) rfl ?_
        refine V_aload_n F dL_law_581 rfl 4 rfl ?_
        refine V_lV (As := []) (rest := []) (C := RX8) (N := 0) F X (metX8_thrown (Fx_G F) (Fx_l F) v2  μ110) rfl q1278 q72 q1275 q1276 q1277 ⟨by decide +kernel, by decide +kernel, by decide +kernel⟩ rfl ⟨Nat.le_of_ble_eq_true rfl, Nat.le_of_ble_eq_true rfl⟩ (Nat.le_of_ble_eq_true rfl) dL_law_582 (by have h9 : rmX8_thrown.cells = 0 := rfl; omega) (by have h9 : rmX8_thrown.slots = 0 := rfl; omega) (fun x113 μ112 => ?_)
        change V κ ρ (603072 - 10 * (f + 1) + 1) (7198826 - 60 * (f + 1) + 6) μ112 _ 585 [(7, .int x111), (6, .int x108), (0, .ref b), (1, .ref v1), (2, .ref v2), (3, .ref v3), (4, .ref v4), (5, .int v5)] [.int x113]
        refine V_iload F dL_law_585 1 rfl ?_
        refine V_icmp_eq (tgt := 592) F dL_law_587 (by decide) (fun c114 => ?_) (fun c115 => ?_)
        · refine V_iload F dL_law_592 1 rfl ?_
          refine V_if_ne (tgt := 609) F dL_law_594 (by decide) (fun c116 => ?_) (fun c117 => ?_)
          · refine V_goto (tgt := 2634) F dL_law_609 (by decide) ?_
            refine V_iinc (lv' := [(5, .int (v5 + 4)), (7, .int x111), (6, .int x108), (0, .ref b), (1, .ref v1), (2, .ref v2), (3, .ref v3), (4, .ref v4)]) F dL_law_2634 7 rfl rfl (lt_L hNL (by decide)) rfl ?_
            refine V_goto (tgt := 28) F dL_law_2637 (by decide) ?_
            refine V_widen (k' := 603072 - 10 * f) (n' := 7198826 - 60 * f) (by omega) (by omega) ?_
            refine V_sub [3, 4, 5, 6, 7, 0] rfl ?_
            exact hk28 v1 v2 v3 v4 (v5 + 4) μ112
          · refine V_aload_n F dL_law_597 rfl 5 rfl ?_
            refine V_iconst (v := 0) F dL_law_598 (by decide) ?_
            refine V_aJ F dL_law_599 (fun x118 => ?_)
            refine V_iload F dL_law_600 0 rfl ?_
            refine V_i2l F dL_law_602 ?_
            refine V_lcmp F dL_law_603 ?_
            refine V_if_eq (tgt := 609) F dL_law_604 (by decide) (fun c119 => ?_) (fun c120 => ?_)
            · refine V_goto (tgt := 2634) F dL_law_609 (by decide) ?_
              refine V_iinc (lv' := [(5, .int (v5 + 4)), (7, .int x111), (6, .int x108), (0, .ref b), (1, .ref v1), (2, .ref v2), (3, .ref v3), (4, .ref v4)]) F dL_law_2634 7 rfl rfl (lt_L hNL (by decide)) rfl ?_
              refine V_goto (tgt := 28) F dL_law_2637 (by decide) ?_
              refine V_widen (k' := 603072 - 10 * f) (n' := 7198826 - 60 * f) (by omega) (by omega) ?_
              refine V_sub [3, 4, 5, 6, 7, 0] rfl ?_
              exact hk28 v1 v2 v3 v4 (v5 + 4) μ112
            · refine V_iconst (v := 0) F dL_law_607 (by decide) ?_
              exact V_none
        · refine V_iconst (v := 0) F dL_law_590 (by decide) ?_
          exact V_none
      refine V_case (z := 6) (tgt := 612) F dL_law_44 (by decide) rfl (by decide) (fun c121 => ?_) (fun c122 => ?_)
      · refine V_aload_n F dL_law_612 rfl 1 rfl ?_
        refine V_lV (As := []) (rest := []) (C := RX7) (N := 0) F X (metX7_droneCount (Fx_G F) (Fx_l F) v1  μ) rfl q305 q66 q302 q303 q304 ⟨by decide +kernel, by decide +kernel, by decide +kernel⟩ rfl ⟨Nat.le_of_ble_eq_true rfl, Nat.le_of_ble_eq_true rfl⟩ (Nat.le_of_ble_eq_true rfl) dL_law_613 (by have h9 : rmX7_droneCount.cells = 0 := rfl; omega) (by have h9 : rmX7_droneCount.slots = 0 := rfl; omega) (fun x124 μ123 => ?_)
        change V κ ρ (603072 - 10 * (f + 1)) (7198826 - 60 * (f + 1)) μ123 _ 616 [(0, .ref b), (1, .ref v1), (2, .ref v2), (3, .ref v3), (4, .ref v4), (5, .int v5)] [.int x124]
        refine V_aload_n F dL_law_616 rfl 2 rfl ?_
        refine V_lV (As := []) (rest := [.int x124]) (C := RX8) (N := 0) F X (metX8_droneCount (Fx_G F) (Fx_l F) v2  μ123) rfl q1388 q72 q1385 q1386 q1387 ⟨by decide +kernel, by decide +kernel, by decide +kernel⟩ rfl ⟨Nat.le_of_ble_eq_true rfl, Nat.le_of_ble_eq_true rfl⟩ (Nat.le_of_ble_eq_true rfl) dL_law_617 (by have h9 : rmX8_droneCount.cells = 0 := rfl; omega) (by have h9 : rmX8_droneCount.slots = 0 := rfl; omega) (fun x126 μ125 => ?_)
        change V κ ρ (603072 - 10 * (f + 1)) (7198826 - 60 * (f + 1)) μ125 _ 620 [(0, .ref b), (1, .ref v1), (2, .ref v2), (3, .ref v3), (4, .ref v4), (5, .int v5)] [.int x126, .int x124]
        refine V_icmp_eq (tgt := 2634) F dL_law_620 (by decide) (fun c127 => ?_) (fun c128 => ?_)
        · refine V_iinc (lv' := [(5, .int (v5 + 4)), (0, .ref b), (1, .ref v1), (2, .ref v2), (3, .ref v3), (4, .ref v4)]) F dL_law_2634 5 rfl rfl (lt_L hNL (by decide)) rfl ?_
          refine V_goto (tgt := 28) F dL_law_2637 (by decide) ?_
          refine V_widen (k' := 603072 - 10 * f) (n' := 7198826 - 60 * f) (by omega) (by omega) ?_
          refine V_sub [1, 2, 3, 4, 5, 0] rfl ?_
          exact hk28 v1 v2 v3 v4 (v5 + 4) μ125
        · refine V_iconst (v := 0) F dL_law_623 (by decide) ?_
          exact V_none
      refine V_case (z := 7) (tgt := 625) F dL_law_44 (by decide) rfl (by decide) (fun c129 => ?_) (fun c130 => ?_)
      · refine V_aload_n F dL_law_625 rfl 1 rfl ?_
        refine V_aload_n F dL_law_626 rfl 0 rfl ?_
        refine V_iload F dL_law_627 5 rfl ?_
        refine V_iconst (v := 1) F dL_law_629 (by decide) ?_
        refine V_iadd F dL_law_630 ?_
        refine V_gd (fun g131 => ?_)
        refine V_sld F X g131 dL_law_631 ?_
        refine V_aload_n F dL_law_632 rfl 3 rfl ?_
        refine V_lSX (As := [.ref v1, .int (xs (v5 + 1).toNatClampNeg), .ref v3]) (rest := []) (N := 3) F X (metL_cellOf (Fx_G F) (Fx_l F) v1 (xs (v5 + 1).toNatClampNeg) v3 μ) q681 q65 q679 q680 ⟨by decide +kernel, by decide +kernel, by decide +kernel⟩ rfl ⟨Nat.le_of_ble_eq_true rfl, Nat.le_of_ble_eq_true rfl⟩ (Nat.le_of_ble_eq_true rfl) dL_law_633 (by have h9 : rmL_cellOf.cells = 1 := rfl; omega) (by have h9 : rmL_cellOf.slots = 6 := rfl; omega) (fun x133 μ132 => ?_)
        change V κ ρ (603072 - 10 * (f + 1) + 1) (7198826 - 60 * (f + 1) + 6) μ132 _ 636 [(0, .ref b), (1, .ref v1), (2, .ref v2), (3, .ref v3), (4, .ref v4), (5, .int v5)] [.int x133]
        refine V_istore (lv' := [(6, .int x133), (0, .ref b), (1, .ref v1), (2, .ref v2), (3, .ref v3), (4, .ref v4), (5, .int v5)]) F dL_law_636 (lt_L hNL (by decide)) rfl ?_
        refine V_aload_n F dL_law_638 rfl 3 rfl ?_
        refine V_aload_n F dL_law_639 rfl 1 rfl ?_
        refine V_iload F dL_law_640 6 rfl ?_
        refine V_iconst (v := 1) F dL_law_642 (by decide) ?_
        refine V_iadd F dL_law_643 ?_
        refine V_gd (fun g134 => ?_)
        refine V_sld F X g134 dL_law_644 ?_
        refine V_lV (As := [.int (xs (v5 + 1).toNatClampNeg)]) (rest := []) (C := RX8) (N := 1) F X (metX8_cellOf (Fx_G F) (Fx_l F) v2 (xs (v5 + 1).toNatClampNeg) μ132) rfl q1392 q72 q1389 q1390 q1391 ⟨by decide +kernel, by decide +kernel, by decide +kernel⟩ rfl ⟨Nat.le_of_ble_eq_true rfl, Nat.le_of_ble_eq_true rfl⟩ (Nat.le_of_ble_eq_true rfl) dL_law_645 (by have h9 : rmX8_cellOf.cells = 0 := rfl; omega) (by have h9 : rmX8_cellOf.slots = 0 := rfl; omega) (fun x136 μ135 => ?_)
        change V κ ρ (603072 - 10 * (f + 1) + 1) (7198826 - 60 * (f + 1) + 6) μ135 _ 648 [(6, .int x133), (0, .ref b), (1, .ref v1), (2, .ref v2), (3, .ref v3), (4, .ref v4), (5, .int v5)] [.int x136]
        refine V_istore (lv' := [(7, .int x136), (6, .int x133), (0, .ref b), (1, .ref v1), (2, .ref v2), (3, .ref v3), (4, .ref v4), (5, .int v5)]) F dL_law_648 (lt_L hNL (by decide)) rfl ?_
        refine V_aload_n F dL_law_650 rfl 4 rfl ?_
        refine V_lV (As := []) (rest := []) (C := RX8) (N := 0) F X (metX8_thrown (Fx_G F) (Fx_l F) v2  μ135) rfl q1278 q72 q1275 q1276 q1277 ⟨by decide +kernel, by decide +kernel, by decide +kernel⟩ rfl ⟨Nat.le_of_ble_eq_true rfl, Nat.le_of_ble_eq_true rfl⟩ (Nat.le_of_ble_eq_true rfl) dL_law_651 (by have h9 : rmX8_thrown.cells = 0 := rfl; omega) (by have h9 : rmX8_thrown.slots = 0 := rfl; omega) (fun x138 μ137 => ?_)
        change V κ ρ (603072 - 10 * (f + 1) + 1) (7198826 - 60 * (f + 1) + 6) μ137 _ 654 [(7, .int x136), (6, .int x133), (0, .ref b), (1, .ref v1), (2, .ref v2), (3, .ref v3), (4, .ref v4), (5, .int v5)] [.int x138]
        refine V_iload F dL_law_654 1 rfl ?_
        refine V_icmp_eq (tgt := 661) F dL_law_656 (by decide) (fun c139 => ?_) (fun c140 => ?_)
        · refine V_iload F dL_law_661 1 rfl ?_
          refine V_if_ne (tgt := 678) F dL_law_663 (by decide) (fun c141 => ?_) (fun c142 => ?_)
          · refine V_goto (tgt := 2634) F dL_law_678 (by decide) ?_
            refine V_iinc (lv' := [(5, .int (v5 + 4)), (7, .int x136), (6, .int x133), (0, .ref b), (1, .ref v1), (2, .ref v2), (3, .ref v3), (4, .ref v4)]) F dL_law_2634 7 rfl rfl (lt_L hNL (by decide)) rfl ?_
            refine V_goto (tgt := 28) F dL_law_2637 (by decide) ?_
            refine V_widen (k' := 603072 - 10 * f) (n' := 7198826 - 60 * f) (by omega) (by omega) ?_
            refine V_sub [3, 4, 5, 6, 7, 0] rfl ?_
            exact hk28 v1 v2 v3 v4 (v5 + 4) μ137
          · refine V_aload_n F dL_law_666 rfl 5 rfl ?_
            refine V_iconst (v := 0) F dL_law_667 (by decide) ?_
            refine V_aJ F dL_law_668 (fun x143 => ?_)
            refine V_iload F dL_law_669 0 rfl ?_
            refine V_i2l F dL_law_671 ?_
            refine V_lcmp F dL_law_672 ?_
            refine V_if_eq (tgt := 678) F dL_law_673 (by decide) (fun c144 => ?_) (fun c145 => ?_)
            · refine V_goto (tgt := 2634) F dL_law_678 (by decide) ?_
              refine V_iinc (lv' := [(5, .int (v5 + 4)), (7, .int x136), (6, .int x133), (0, .ref b), (1, .ref v1), (2, .ref v2), (3, .ref v3), (4, .ref v4)]) F dL_law_2634 7 rfl rfl (lt_L hNL (by decide)) rfl ?_
              refine V_goto (tgt := 28) F dL_law_2637 (by decide) ?_
              refine V_widen (k' := 603072 - 10 * f) (n' := 7198826 - 60 * f) (by omega) (by omega) ?_
              refine V_sub [3, 4, 5, 6, 7, 0] rfl ?_
              exact hk28 v1 v2 v3 v4 (v5 + 4) μ137
            · refine V_iconst (v := 0) F dL_law_676 (by decide) ?_
              exact V_none
        · refine V_iconst (v := 0) F dL_law_659 (by decide) ?_
          exact V_none
      refine V_case (z := 8) (tgt := 681) F dL_law_44 (by decide) rfl (by decide) (fun c146 => ?_) (fun c147 => ?_)
      · refine V_aload_n F dL_law_681 rfl 1 rfl ?_
        refine V_aload_n F dL_law_682 rfl 0 rfl ?_
        refine V_iload F dL_law_683 5 rfl ?_
        refine V_iconst (v := 1) F dL_law_685 (by decide) ?_
        refine V_iadd F dL_law_686 ?_
        refine V_gd (fun g148 => ?_)
        refine V_sld F X g148 dL_law_687 ?_
        refine V_aload_n F dL_law_688 rfl 3 rfl ?_
        refine V_lSX (As := [.ref v1, .int (xs (v5 + 1).toNatClampNeg), .ref v3]) (rest := []) (N := 3) F X (metL_battery (Fx_G F) (Fx_l F) v1 (xs (v5 + 1).toNatClampNeg) v3 μ) q694 q65 q692 q693 ⟨by decide +kernel, by decide +kernel, by decide +kernel⟩ rfl ⟨Nat.le_of_ble_eq_true rfl, Nat.le_of_ble_eq_true rfl⟩ (Nat.le_of_ble_eq_true rfl) dL_law_689 (by have h9 : rmL_battery.cells = 1 := rfl; omega) (by have h9 : rmL_battery.slots = 6 := rfl; omega) (fun x150 μ149 => ?_)
        change V κ ρ (603072 - 10 * (f + 1) + 1) (7198826 - 60 * (f + 1) + 6) μ149 _ 692 [(0, .ref b), (1, .ref v1), (2, .ref v2), (3, .ref v3), (4, .ref v4), (5, .int v5)] [.int x150]
        refine V_istore (lv' := [(6, .int x150), (0, .ref b), (1, .ref v1), (2, .ref v2), (3, .ref v3), (4, .ref v4), (5, .int v5)]) F dL_law_692 (lt_L hNL (by decide)) rfl ?_
        refine V_aload_n F dL_law_694 rfl 3 rfl ?_
        refine V_aload_n F dL_law_695 rfl 1 rfl ?_
        refine V_iload F dL_law_696 6 rfl ?_
        refine V_iconst (v := 1) F dL_law_698 (by decide) ?_
        refine V_iadd F dL_law_699 ?_
        refine V_gd (fun g151 => ?_)
        refine V_sld F X g151 dL_law_700 ?_
        refine V_lV (As := [.int (xs (v5 + 1).toNatClampNeg)]) (rest := []) (C := RX8) (N := 1) F X (metX8_battery (Fx_G F) (Fx_l F) v2 (xs (v5 + 1).toNatClampNeg) μ149) rfl q1400 q72 q1397 q1398 q1399 ⟨by decide +kernel, by decide +kernel, by decide +kernel⟩ rfl ⟨Nat.le_of_ble_eq_true rfl, Nat.le_of_ble_eq_true rfl⟩ (Nat.le_of_ble_eq_true rfl) dL_law_701 (by have h9 : rmX8_battery.cells = 0 := rfl; omega) (by have h9 : rmX8_battery.slots = 0 := rfl; omega) (fun x153 μ152 => ?_)
        change V κ ρ (603072 - 10 * (f + 1) + 1) (7198826 - 60 * (f + 1) + 6) μ152 _ 704 [(6, .int x150), (0, .ref b), (1, .ref v1), (2, .ref v2), (3, .ref v3), (4, .ref v4), (5, .int v5)] [.int x153]
        refine V_istore (lv' := [(7, .int x153), (6, .int x150), (0, .ref b), (1, .ref v1), (2, .ref v2), (3, .ref v3), (4, .ref v4), (5, .int v5)]) F dL_law_704 (lt_L hNL (by decide)) rfl ?_
        refine V_aload_n F dL_law_706 rfl 4 rfl ?_
        refine V_lV (As := []) (rest := []) (C := RX8) (N := 0) F X (metX8_thrown (Fx_G F) (Fx_l F) v2  μ152) rfl q1278 q72 q1275 q1276 q1277 ⟨by decide +kernel, by decide +kernel, by decide +kernel⟩ rfl ⟨Nat.le_of_ble_eq_true rfl, Nat.le_of_ble_eq_true rfl⟩ (Nat.le_of_ble_eq_true rfl) dL_law_707 (by have h9 : rmX8_thrown.cells = 0 := rfl; omega) (by have h9 : rmX8_thrown.slots = 0 := rfl; omega) (fun x155 μ154 => ?_)
        change V κ ρ (603072 - 10 * (f + 1) + 1) (7198826 - 60 * (f + 1) + 6) μ154 _ 710 [(7, .int x153), (6, .int x150), (0, .ref b), (1, .ref v1), (2, .ref v2), (3, .ref v3), (4, .ref v4), (5, .int v5)] [.int x155]
        refine V_iload F dL_law_710 1 rfl ?_
        refine V_icmp_eq (tgt := 717) F dL_law_712 (by decide) (fun c156 => ?_) (fun c157 => ?_)
        · refine V_iload F dL_law_717 1 rfl ?_
          refine V_if_ne (tgt := 734) F dL_law_719 (by decide) (fun c158 => ?_) (fun c159 => ?_)
          · refine V_goto (tgt := 2634) F dL_law_734 (by decide) ?_
            refine V_iinc (lv' := [(5, .int (v5 + 4)), (7, .int x153), (6, .int x150), (0, .ref b), (1, .ref v1), (2, .ref v2), (3, .ref v3), (4, .ref v4)]) F dL_law_2634 7 rfl rfl (lt_L hNL (by decide)) rfl ?_
            refine V_goto (tgt := 28) F dL_law_2637 (by decide) ?_
            refine V_widen (k' := 603072 - 10 * f) (n' := 7198826 - 60 * f) (by omega) (by omega) ?_
            refine V_sub [3, 4, 5, 6, 7, 0] rfl ?_
            exact hk28 v1 v2 v3 v4 (v5 + 4) μ154
          · refine V_aload_n F dL_law_722 rfl 5 rfl ?_
            refine V_iconst (v := 0) F dL_law_723 (by decide) ?_
            refine V_aJ F dL_law_724 (fun x160 => ?_)
            refine V_iload F dL_law_725 0 rfl ?_
            refine V_i2l F dL_law_727 ?_
            refine V_lcmp F dL_law_728 ?_
            refine V_if_eq (tgt := 734) F dL_law_729 (by decide) (fun c161 => ?_) (fun c162 => ?_)
            · refine V_goto (tgt := 2634) F dL_law_734 (by decide) ?_
              refine V_iinc (lv' := [(5, .int (v5 + 4)), (7, .int x153), (6, .int x150), (0, .ref b), (1, .ref v1), (2, .ref v2), (3, .ref v3), (4, .ref v4)]) F dL_law_2634 7 rfl rfl (lt_L hNL (by decide)) rfl ?_
              refine V_goto (tgt := 28) F dL_law_2637 (by decide) ?_
              refine V_widen (k' := 603072 - 10 * f) (n' := 7198826 - 60 * f) (by omega) (by omega) ?_
              refine V_sub [3, 4, 5, 6, 7, 0] rfl ?_
              exact hk28 v1 v2 v3 v4 (v5 + 4) μ154
            · refine V_iconst (v := 0) F dL_law_732 (by decide) ?_
              exact V_none
        · refine V_iconst (v := 0) F dL_law_715 (by decide) ?_
          exact V_none
      refine V_case (z := 9) (tgt := 737) F dL_law_44 (by decide) rfl (by decide) (fun c163 => ?_) (fun c164 => ?_)
      · refine V_aload_n F dL_law_737 rfl 1 rfl ?_
        refine V_aload_n F dL_law_738 rfl 0 rfl ?_
        refine V_iload F dL_law_739 5 rfl ?_
        refine V_iconst (v := 1) F dL_law_741 (by decide) ?_
        refine V_iadd F dL_law_742 ?_
        refine V_gd (fun g165 => ?_)
        refine V_sld F X g165 dL_law_743 ?_
        refine V_aload_n F dL_law_744 rfl 3 rfl ?_
        refine V_lSX (As := [.ref v1, .int (xs (v5 + 1).toNatClampNeg), .ref v3]) (rest := []) (N := 3) F X (metL_isFlying (Fx_G F) (Fx_l F) v1 (xs (v5 + 1).toNatClampNeg) v3 μ) q701 q65 q699 q700 ⟨by decide +kernel, by decide +kernel, by decide +kernel⟩ rfl ⟨Nat.le_of_ble_eq_true rfl, Nat.le_of_ble_eq_true rfl⟩ (Nat.le_of_ble_eq_true rfl) dL_law_745 (by have h9 : rmL_isFlying.cells = 1 := rfl; omega) (by have h9 : rmL_isFlying.slots = 6 := rfl; omega) (fun x167 μ166 => ?_)
        change V κ ρ (603072 - 10 * (f + 1) + 1) (7198826 - 60 * (f + 1) + 6) μ166 _ 748 [(0, .ref b), (1, .ref v1), (2, .ref v2), (3, .ref v3), (4, .ref v4), (5, .int v5)] [.int x167]
        refine V_istore (lv' := [(6, .int x167), (0, .ref b), (1, .ref v1), (2, .ref v2), (3, .ref v3), (4, .ref v4), (5, .int v5)]) F dL_law_748 (lt_L hNL (by decide)) rfl ?_
        refine V_aload_n F dL_law_750 rfl 3 rfl ?_
        refine V_aload_n F dL_law_751 rfl 1 rfl ?_
        refine V_iload F dL_law_752 6 rfl ?_
        refine V_iconst (v := 1) F dL_law_754 (by decide) ?_
        refine V_iadd F dL_law_755 ?_
        refine V_gd (fun g168 => ?_)
        refine V_sld F X g168 dL_law_756 ?_
        refine V_lV (As := [.int (xs (v5 + 1).toNatClampNeg)]) (rest := []) (C := RX8) (N := 1) F X (metX8_isFlying (Fx_G F) (Fx_l F) v2 (xs (v5 + 1).toNatClampNeg) μ166) rfl q1404 q72 q1401 q1402 q1403 ⟨by decide +kernel, by decide +kernel, by decide +kernel⟩ rfl ⟨Nat.le_of_ble_eq_true rfl, Nat.le_of_ble_eq_true rfl⟩ (Nat.le_of_ble_eq_true rfl) dL_law_757 (by have h9 : rmX8_isFlying.cells = 0 := rfl; omega) (by have h9 : rmX8_isFlying.slots = 0 := rfl; omega) (fun x170 μ169 => ?_)
        change V κ ρ (603072 - 10 * (f + 1) + 1) (7198826 - 60 * (f + 1) + 6) μ169 _ 760 [(6, .int x167), (0, .ref b), (1, .ref v1), (2, .ref v2), (3, .ref v3), (4, .ref v4), (5, .int v5)] [.int x170]
        refine V_istore (lv' := [(7, .int x170), (6, .int x167), (0, .ref b), (1, .ref v1), (2, .ref v2), (3, .ref v3), (4, .ref v4), (5, .int v5)]) F dL_law_760 (lt_L hNL (by decide)) rfl ?_
        refine V_aload_n F dL_law_762 rfl 4 rfl ?_
        refine V_lV (As := []) (rest := []) (C := RX8) (N := 0) F X (metX8_thrown (Fx_G F) (Fx_l F) v2  μ169) rfl q1278 q72 q1275 q1276 q1277 ⟨by decide +kernel, by decide +kernel, by decide +kernel⟩ rfl ⟨Nat.le_of_ble_eq_true rfl, Nat.le_of_ble_eq_true rfl⟩ (Nat.le_of_ble_eq_true rfl) dL_law_763 (by have h9 : rmX8_thrown.cells = 0 := rfl; omega) (by have h9 : rmX8_thrown.slots = 0 := rfl; omega) (fun x172 μ171 => ?_)
        change V κ ρ (603072 - 10 * (f + 1) + 1) (7198826 - 60 * (f + 1) + 6) μ171 _ 766 [(7, .int x170), (6, .int x167), (0, .ref b), (1, .ref v1), (2, .ref v2), (3, .ref v3), (4, .ref v4), (5, .int v5)] [.int x172]
        refine V_iload F dL_law_766 1 rfl ?_
        refine V_icmp_eq (tgt := 773) F dL_law_768 (by decide) (fun c173 => ?_) (fun c174 => ?_)
        · refine V_iload F dL_law_773 1 rfl ?_
          refine V_if_ne (tgt := 797) F dL_law_775 (by decide) (fun c175 => ?_) (fun c176 => ?_)
          · refine V_goto (tgt := 2634) F dL_law_797 (by decide) ?_
            refine V_iinc (lv' := [(5, .int (v5 + 4)), (7, .int x170), (6, .int x167), (0, .ref b), (1, .ref v1), (2, .ref v2), (3, .ref v3), (4, .ref v4)]) F dL_law_2634 7 rfl rfl (lt_L hNL (by decide)) rfl ?_
            refine V_goto (tgt := 28) F dL_law_2637 (by decide) ?_
            refine V_widen (k' := 603072 - 10 * f) (n' := 7198826 - 60 * f) (by omega) (by omega) ?_
            refine V_sub [3, 4, 5, 6, 7, 0] rfl ?_
            exact hk28 v1 v2 v3 v4 (v5 + 4) μ171
          · refine V_aload_n F dL_law_778 rfl 5 rfl ?_
            refine V_iconst (v := 0) F dL_law_779 (by decide) ?_
            refine V_aJ F dL_law_780 (fun x177 => ?_)
            refine V_iload F dL_law_781 0 rfl ?_
            refine V_if_eq (tgt := 790) F dL_law_783 (by decide) (fun c178 => ?_) (fun c179 => ?_)
            · refine V_lconst (v := 0) F dL_law_790 (by decide) ?_
              refine V_sub [2, 3, 4, 5, 6, 7] rfl ?_
              exact VL_law_B791 f hf F X hNL hκ hk28 v1 v2 v3 v4 v5 0 x177 μ171
            · refine V_lconst (v := 1) F dL_law_786 (by decide) ?_
              refine V_goto (tgt := 791) F dL_law_787 (by decide) ?_
              refine V_sub [2, 3, 4, 5, 6, 7] rfl ?_
              exact VL_law_B791 f hf F X hNL hκ hk28 v1 v2 v3 v4 v5 1 x177 μ171
        · refine V_iconst (v := 0) F dL_law_771 (by decide) ?_
          exact V_none
      refine V_case (z := 10) (tgt := 800) F dL_law_44 (by decide) rfl (by decide) (fun c182 => ?_) (fun c183 => ?_)
      · refine V_aload_n F dL_law_800 rfl 1 rfl ?_
        refine V_aload_n F dL_law_801 rfl 0 rfl ?_
        refine V_iload F dL_law_802 5 rfl ?_
        refine V_iconst (v := 1) F dL_law_804 (by decide) ?_
        refine V_iadd F dL_law_805 ?_
        refine V_gd (fun g184 => ?_)
        refine V_sld F X g184 dL_law_806 ?_
        refine V_aload_n F dL_law_807 rfl 3 rfl ?_
        refine V_lSX (As := [.ref v1, .int (xs (v5 + 1).toNatClampNeg), .ref v3]) (rest := []) (N := 3) F X (metL_isInEmergency (Fx_G F) (Fx_l F) v1 (xs (v5 + 1).toNatClampNeg) v3 μ) q708 q65 q706 q707 ⟨by decide +kernel, by decide +kernel, by decide +kernel⟩ rfl ⟨Nat.le_of_ble_eq_true rfl, Nat.le_of_ble_eq_true rfl⟩ (Nat.le_of_ble_eq_true rfl) dL_law_808 (by have h9 : rmL_isInEmergency.cells = 1 := rfl; omega) (by have h9 : rmL_isInEmergency.slots = 6 := rfl; omega) (fun x186 μ185 => ?_)
        change V κ ρ (603072 - 10 * (f + 1) + 1) (7198826 - 60 * (f + 1) + 6) μ185 _ 811 [(0, .ref b), (1, .ref v1), (2, .ref v2), (3, .ref v3), (4, .ref v4), (5, .int v5)] [.int x186]
        refine V_istore (lv' := [(6, .int x186), (0, .ref b), (1, .ref v1), (2, .ref v2), (3, .ref v3), (4, .ref v4), (5, .int v5)]) F dL_law_811 (lt_L hNL (by decide)) rfl ?_
        refine V_aload_n F dL_law_813 rfl 3 rfl ?_
        refine V_aload_n F dL_law_814 rfl 1 rfl ?_
        refine V_iload F dL_law_815 6 rfl ?_
        refine V_iconst (v := 1) F dL_law_817 (by decide) ?_
        refine V_iadd F dL_law_818 ?_
        refine V_gd (fun g187 => ?_)
        refine V_sld F X g187 dL_law_819 ?_
        refine V_lV (As := [.int (xs (v5 + 1).toNatClampNeg)]) (rest := []) (C := RX8) (N := 1) F X (metX8_isInEmergency (Fx_G F) (Fx_l F) v2 (xs (v5 + 1).toNatClampNeg) μ185) rfl q1408 q72 q1405 q1406 q1407 ⟨by decide +kernel, by decide +kernel, by decide +kernel⟩ rfl ⟨Nat.le_of_ble_eq_true rfl, Nat.le_of_ble_eq_true rfl⟩ (Nat.le_of_ble_eq_true rfl) dL_law_820 (by have h9 : rmX8_isInEmergency.cells = 0 := rfl; omega) (by have h9 : rmX8_isInEmergency.slots = 0 := rfl; omega) (fun x189 μ188 => ?_)
        change V κ ρ (603072 - 10 * (f + 1) + 1) (7198826 - 60 * (f + 1) + 6) μ188 _ 823 [(6, .int x186), (0, .ref b), (1, .ref v1), (2, .ref v2), (3, .ref v3), (4, .ref v4), (5, .int v5)] [.int x189]
        refine V_istore (lv' := [(7, .int x189), (6, .int x186), (0, .ref b), (1, .ref v1), (2, .ref v2), (3, .ref v3), (4, .ref v4), (5, .int v5)]) F dL_law_823 (lt_L hNL (by decide)) rfl ?_
        refine V_aload_n F dL_law_825 rfl 4 rfl ?_
        refine V_lV (As := []) (rest := []) (C := RX8) (N := 0) F X (metX8_thrown (Fx_G F) (Fx_l F) v2  μ188) rfl q1278 q72 q1275 q1276 q1277 ⟨by decide +kernel, by decide +kernel, by decide +kernel⟩ rfl ⟨Nat.le_of_ble_eq_true rfl, Nat.le_of_ble_eq_true rfl⟩ (Nat.le_of_ble_eq_true rfl) dL_law_826 (by have h9 : rmX8_thrown.cells = 0 := rfl; omega) (by have h9 : rmX8_thrown.slots = 0 := rfl; omega) (fun x191 μ190 => ?_)
        change V κ ρ (603072 - 10 * (f + 1) + 1) (7198826 - 60 * (f + 1) + 6) μ190 _ 829 [(7, .int x189), (6, .int x186), (0, .ref b), (1, .ref v1), (2, .ref v2), (3, .ref v3), (4, .ref v4), (5, .int v5)] [.int x191]
        refine V_iload F dL_law_829 1 rfl ?_
        refine V_icmp_eq (tgt := 836) F dL_law_831 (by decide) (fun c192 => ?_) (fun c193 => ?_)
        · refine V_iload F dL_law_836 1 rfl ?_
          refine V_if_ne (tgt := 860) F dL_law_838 (by decide) (fun c194 => ?_) (fun c195 => ?_)
          · refine V_goto (tgt := 2634) F dL_law_860 (by decide) ?_
            refine V_iinc (lv' := [(5, .int (v5 + 4)), (7, .int x189), (6, .int x186), (0, .ref b), (1, .ref v1), (2, .ref v2), (3, .ref v3), (4, .ref v4)]) F dL_law_2634 7 rfl rfl (lt_L hNL (by decide)) rfl ?_
            refine V_goto (tgt := 28) F dL_law_2637 (by decide) ?_
            refine V_widen (k' := 603072 - 10 * f) (n' := 7198826 - 60 * f) (by omega) (by omega) ?_
            refine V_sub [3, 4, 5, 6, 7, 0] rfl ?_
            exact hk28 v1 v2 v3 v4 (v5 + 4) μ190
          · refine V_aload_n F dL_law_841 rfl 5 rfl ?_
            refine V_iconst (v := 0) F dL_law_842 (by decide) ?_
            refine V_aJ F dL_law_843 (fun x196 => ?_)
            refine V_iload F dL_law_844 0 rfl ?_
            refine V_if_eq (tgt := 853) F dL_law_846 (by decide) (fun c197 => ?_) (fun c198 => ?_)
            · refine V_lconst (v := 0) F dL_law_853 (by decide) ?_
              refine V_sub [2, 3, 4, 5, 6, 7] rfl ?_
              exact VL_law_B854 f hf F X hNL hκ hk28 v1 v2 v3 v4 v5 0 x196 μ190
            · refine V_lconst (v := 1) F dL_law_849 (by decide) ?_
              refine V_goto (tgt := 854) F dL_law_850 (by decide) ?_
              refine V_sub [2, 3, 4, 5, 6, 7] rfl ?_
              exact VL_law_B854 f hf F X hNL hκ hk28 v1 v2 v3 v4 v5 1 x196 μ190
        · refine V_iconst (v := 0) F dL_law_834 (by decide) ?_
          exact V_none
      refine V_case (z := 11) (tgt := 863) F dL_law_44 (by decide) rfl (by decide) (fun c201 => ?_) (fun c202 => ?_)
      · refine V_aload_n F dL_law_863 rfl 1 rfl ?_
        refine V_aload_n F dL_law_864 rfl 0 rfl ?_
        refine V_iload F dL_law_865 5 rfl ?_
        refine V_iconst (v := 1) F dL_law_867 (by decide) ?_
        refine V_iadd F dL_law_868 ?_
        refine V_gd (fun g203 => ?_)
        refine V_sld F X g203 dL_law_869 ?_
        refine V_aload_n F dL_law_870 rfl 3 rfl ?_
        refine V_lSX (As := [.ref v1, .int (xs (v5 + 1).toNatClampNeg), .ref v3]) (rest := []) (N := 3) F X (metL_target (Fx_G F) (Fx_l F) v1 (xs (v5 + 1).toNatClampNeg) v3 μ) q715 q65 q713 q714 ⟨by decide +kernel, by decide +kernel, by decide +kernel⟩ rfl ⟨Nat.le_of_ble_eq_true rfl, Nat.le_of_ble_eq_true rfl⟩ (Nat.le_of_ble_eq_true rfl) dL_law_871 (by have h9 : rmL_target.cells = 2 := rfl; omega) (by have h9 : rmL_target.slots = 12 := rfl; omega) (fun x205 μ204 => ?_)
        change V κ ρ (603072 - 10 * (f + 1) + 2) (7198826 - 60 * (f + 1) + 12) μ204 _ 874 [(0, .ref b), (1, .ref v1), (2, .ref v2), (3, .ref v3), (4, .ref v4), (5, .int v5)] [.int x205]
        refine V_istore (lv' := [(6, .int x205), (0, .ref b), (1, .ref v1), (2, .ref v2), (3, .ref v3), (4, .ref v4), (5, .int v5)]) F dL_law_874 (lt_L hNL (by decide)) rfl ?_
        refine V_aload_n F dL_law_876 rfl 3 rfl ?_
        refine V_aload_n F dL_law_877 rfl 1 rfl ?_
        refine V_iload F dL_law_878 6 rfl ?_
        refine V_iconst (v := 1) F dL_law_880 (by decide) ?_
        refine V_iadd F dL_law_881 ?_
        refine V_gd (fun g206 => ?_)
        refine V_sld F X g206 dL_law_882 ?_
        refine V_lV (As := [.int (xs (v5 + 1).toNatClampNeg)]) (rest := []) (C := RX8) (N := 1) F X (metX8_target (Fx_G F) (Fx_l F) v2 (xs (v5 + 1).toNatClampNeg) μ204) rfl q1412 q72 q1409 q1410 q1411 ⟨by decide +kernel, by decide +kernel, by decide +kernel⟩ rfl ⟨Nat.le_of_ble_eq_true rfl, Nat.le_of_ble_eq_true rfl⟩ (Nat.le_of_ble_eq_true rfl) dL_law_883 (by have h9 : rmX8_target.cells = 0 := rfl; omega) (by have h9 : rmX8_target.slots = 0 := rfl; omega) (fun x208 μ207 => ?_)
        change V κ ρ (603072 - 10 * (f + 1) + 2) (7198826 - 60 * (f + 1) + 12) μ207 _ 886 [(6, .int x205), (0, .ref b), (1, .ref v1), (2, .ref v2), (3, .ref v3), (4, .ref v4), (5, .int v5)] [.int x208]
        refine V_istore (lv' := [(7, .int x208), (6, .int x205), (0, .ref b), (1, .ref v1), (2, .ref v2), (3, .ref v3), (4, .ref v4), (5, .int v5)]) F dL_law_886 (lt_L hNL (by decide)) rfl ?_
        refine V_aload_n F dL_law_888 rfl 4 rfl ?_
        refine V_lV (As := []) (rest := []) (C := RX8) (N := 0) F X (metX8_thrown (Fx_G F) (Fx_l F) v2  μ207) rfl q1278 q72 q1275 q1276 q1277 ⟨by decide +kernel, by decide +kernel, by decide +kernel⟩ rfl ⟨Nat.le_of_ble_eq_true rfl, Nat.le_of_ble_eq_true rfl⟩ (Nat.le_of_ble_eq_true rfl) dL_law_889 (by have h9 : rmX8_thrown.cells = 0 := rfl; omega) (by have h9 : rmX8_thrown.slots = 0 := rfl; omega) (fun x210 μ209 => ?_)
        change V κ ρ (603072 - 10 * (f + 1) + 2) (7198826 - 60 * (f + 1) + 12) μ209 _ 892 [(7, .int x208), (6, .int x205), (0, .ref b), (1, .ref v1), (2, .ref v2), (3, .ref v3), (4, .ref v4), (5, .int v5)] [.int x210]
        refine V_iload F dL_law_892 1 rfl ?_
        refine V_icmp_eq (tgt := 899) F dL_law_894 (by decide) (fun c211 => ?_) (fun c212 => ?_)
        · refine V_iload F dL_law_899 1 rfl ?_
          refine V_if_ne (tgt := 916) F dL_law_901 (by decide) (fun c213 => ?_) (fun c214 => ?_)
          · refine V_goto (tgt := 2634) F dL_law_916 (by decide) ?_
            refine V_iinc (lv' := [(5, .int (v5 + 4)), (7, .int x208), (6, .int x205), (0, .ref b), (1, .ref v1), (2, .ref v2), (3, .ref v3), (4, .ref v4)]) F dL_law_2634 7 rfl rfl (lt_L hNL (by decide)) rfl ?_
            refine V_goto (tgt := 28) F dL_law_2637 (by decide) ?_
            refine V_widen (k' := 603072 - 10 * f) (n' := 7198826 - 60 * f) (by omega) (by omega) ?_
            refine V_sub [3, 4, 5, 6, 7, 0] rfl ?_
            exact hk28 v1 v2 v3 v4 (v5 + 4) μ209
          · refine V_aload_n F dL_law_904 rfl 5 rfl ?_
            refine V_iconst (v := 0) F dL_law_905 (by decide) ?_
            refine V_aJ F dL_law_906 (fun x215 => ?_)
            refine V_iload F dL_law_907 0 rfl ?_
            refine V_i2l F dL_law_909 ?_
            refine V_lcmp F dL_law_910 ?_
            refine V_if_eq (tgt := 916) F dL_law_911 (by decide) (fun c216 => ?_) (fun c217 => ?_)
            · refine V_goto (tgt := 2634) F dL_law_916 (by decide) ?_
              refine V_iinc (lv' := [(5, .int (v5 + 4)), (7, .int x208), (6, .int x205), (0, .ref b), (1, .ref v1), (2, .ref v2), (3, .ref v3), (4, .ref v4)]) F dL_law_2634 7 rfl rfl (lt_L hNL (by decide)) rfl ?_
              refine V_goto (tgt := 28) F dL_law_2637 (by decide) ?_
              refine V_widen (k' := 603072 - 10 * f) (n' := 7198826 - 60 * f) (by omega) (by omega) ?_
              refine V_sub [3, 4, 5, 6, 7, 0] rfl ?_
              exact hk28 v1 v2 v3 v4 (v5 + 4) μ209
            · refine V_iconst (v := 0) F dL_law_914 (by decide) ?_
              exact V_none
        · refine V_iconst (v := 0) F dL_law_897 (by decide) ?_
          exact V_none
      refine V_case (z := 12) (tgt := 919) F dL_law_44 (by decide) rfl (by decide) (fun c218 => ?_) (fun c219 => ?_)
      · refine V_aload_n F dL_law_919 rfl 1 rfl ?_
        refine V_aload_n F dL_law_920 rfl 0 rfl ?_
        refine V_iload F dL_law_921 5 rfl ?_
        refine V_iconst (v := 1) F dL_law_923 (by decide) ?_
        refine V_iadd F dL_law_924 ?_
        refine V_gd (fun g220 => ?_)
        refine V_sld F X g220 dL_law_925 ?_
        refine V_aload_n F dL_law_926 rfl 3 rfl ?_
        refine V_lSX (As := [.ref v1, .int (xs (v5 + 1).toNatClampNeg), .ref v3]) (rest := []) (N := 3) F X (metL_colour (Fx_G F) (Fx_l F) v1 (xs (v5 + 1).toNatClampNeg) v3 μ) q742 q65 q740 q741 ⟨by decide +kernel, by decide +kernel, by decide +kernel⟩ rfl ⟨Nat.le_of_ble_eq_true rfl, Nat.le_of_ble_eq_true rfl⟩ (Nat.le_of_ble_eq_true rfl) dL_law_927 (by have h9 : rmL_colour.cells = 1 := rfl; omega) (by have h9 : rmL_colour.slots = 6 := rfl; omega) (fun x222 μ221 => ?_)
        change V κ ρ (603072 - 10 * (f + 1) + 1) (7198826 - 60 * (f + 1) + 6) μ221 _ 930 [(0, .ref b), (1, .ref v1), (2, .ref v2), (3, .ref v3), (4, .ref v4), (5, .int v5)] [.int x222]
        refine V_istore (lv' := [(6, .int x222), (0, .ref b), (1, .ref v1), (2, .ref v2), (3, .ref v3), (4, .ref v4), (5, .int v5)]) F dL_law_930 (lt_L hNL (by decide)) rfl ?_
        refine V_aload_n F dL_law_932 rfl 3 rfl ?_
        refine V_aload_n F dL_law_933 rfl 1 rfl ?_
        refine V_iload F dL_law_934 6 rfl ?_
        refine V_iconst (v := 1) F dL_law_936 (by decide) ?_
        refine V_iadd F dL_law_937 ?_
        refine V_gd (fun g223 => ?_)
        refine V_sld F X g223 dL_law_938 ?_
        refine V_lV (As := [.int (xs (v5 + 1).toNatClampNeg)]) (rest := []) (C := RX8) (N := 1) F X (metX8_colour (Fx_G F) (Fx_l F) v2 (xs (v5 + 1).toNatClampNeg) μ221) rfl q1420 q72 q1417 q1418 q1419 ⟨by decide +kernel, by decide +kernel, by decide +kernel⟩ rfl ⟨Nat.le_of_ble_eq_true rfl, Nat.le_of_ble_eq_true rfl⟩ (Nat.le_of_ble_eq_true rfl) dL_law_939 (by have h9 : rmX8_colour.cells = 0 := rfl; omega) (by have h9 : rmX8_colour.slots = 0 := rfl; omega) (fun x225 μ224 => ?_)
        change V κ ρ (603072 - 10 * (f + 1) + 1) (7198826 - 60 * (f + 1) + 6) μ224 _ 942 [(6, .int x222), (0, .ref b), (1, .ref v1), (2, .ref v2), (3, .ref v3), (4, .ref v4), (5, .int v5)] [.int x225]
        refine V_istore (lv' := [(7, .int x225), (6, .int x222), (0, .ref b), (1, .ref v1), (2, .ref v2), (3, .ref v3), (4, .ref v4), (5, .int v5)]) F dL_law_942 (lt_L hNL (by decide)) rfl ?_
        refine V_aload_n F dL_law_944 rfl 4 rfl ?_
        refine V_lV (As := []) (rest := []) (C := RX8) (N := 0) F X (metX8_thrown (Fx_G F) (Fx_l F) v2  μ224) rfl q1278 q72 q1275 q1276 q1277 ⟨by decide +kernel, by decide +kernel, by decide +kernel⟩ rfl ⟨Nat.le_of_ble_eq_true rfl, Nat.le_of_ble_eq_true rfl⟩ (Nat.le_of_ble_eq_true rfl) dL_law_945 (by have h9 : rmX8_thrown.cells = 0 := rfl; omega) (by have h9 : rmX8_thrown.slots = 0 := rfl; omega) (fun x227 μ226 => ?_)
        change V κ ρ (603072 - 10 * (f + 1) + 1) (7198826 - 60 * (f + 1) + 6) μ226 _ 948 [(7, .int x225), (6, .int x222), (0, .ref b), (1, .ref v1), (2, .ref v2), (3, .ref v3), (4, .ref v4), (5, .int v5)] [.int x227]
        refine V_iload F dL_law_948 1 rfl ?_
        refine V_icmp_eq (tgt := 955) F dL_law_950 (by decide) (fun c228 => ?_) (fun c229 => ?_)
        · refine V_iload F dL_law_955 1 rfl ?_
          refine V_if_ne (tgt := 972) F dL_law_957 (by decide) (fun c230 => ?_) (fun c231 => ?_)
          · refine V_goto (tgt := 2634) F dL_law_972 (by decide) ?_
            refine V_iinc (lv' := [(5, .int (v5 + 4)), (7, .int x225), (6, .int x222), (0, .ref b), (1, .ref v1), (2, .ref v2), (3, .ref v3), (4, .ref v4)]) F dL_law_2634 7 rfl rfl (lt_L hNL (by decide)) rfl ?_
            refine V_goto (tgt := 28) F dL_law_2637 (by decide) ?_
            refine V_widen (k' := 603072 - 10 * f) (n' := 7198826 - 60 * f) (by omega) (by omega) ?_
            refine V_sub [3, 4, 5, 6, 7, 0] rfl ?_
            exact hk28 v1 v2 v3 v4 (v5 + 4) μ226
          · refine V_aload_n F dL_law_960 rfl 5 rfl ?_
            refine V_iconst (v := 0) F dL_law_961 (by decide) ?_
            refine V_aJ F dL_law_962 (fun x232 => ?_)
            refine V_iload F dL_law_963 0 rfl ?_
            refine V_i2l F dL_law_965 ?_
            refine V_lcmp F dL_law_966 ?_
            refine V_if_eq (tgt := 972) F dL_law_967 (by decide) (fun c233 => ?_) (fun c234 => ?_)
            · refine V_goto (tgt := 2634) F dL_law_972 (by decide) ?_
              refine V_iinc (lv' := [(5, .int (v5 + 4)), (7, .int x225), (6, .int x222), (0, .ref b), (1, .ref v1), (2, .ref v2), (3, .ref v3), (4, .ref v4)]) F dL_law_2634 7 rfl rfl (lt_L hNL (by decide)) rfl ?_
              refine V_goto (tgt := 28) F dL_law_2637 (by decide) ?_
              refine V_widen (k' := 603072 - 10 * f) (n' := 7198826 - 60 * f) (by omega) (by omega) ?_
              refine V_sub [3, 4, 5, 6, 7, 0] rfl ?_
              exact hk28 v1 v2 v3 v4 (v5 + 4) μ226
            · refine V_iconst (v := 0) F dL_law_970 (by decide) ?_
              exact V_none
        · refine V_iconst (v := 0) F dL_law_953 (by decide) ?_
          exact V_none
      refine V_case (z := 13) (tgt := 975) F dL_law_44 (by decide) rfl (by decide) (fun c235 => ?_) (fun c236 => ?_)
      · refine V_aload_n F dL_law_975 rfl 1 rfl ?_
        refine V_aload_n F dL_law_976 rfl 0 rfl ?_
        refine V_iload F dL_law_977 5 rfl ?_
        refine V_iconst (v := 1) F dL_law_979 (by decide) ?_
        refine V_iadd F dL_law_980 ?_
        refine V_gd (fun g237 => ?_)
        refine V_sld F X g237 dL_law_981 ?_
        refine V_aload_n F dL_law_982 rfl 3 rfl ?_
        refine V_lSX (As := [.ref v1, .int (xs (v5 + 1).toNatClampNeg), .ref v3]) (rest := []) (N := 3) F X (metL_droneAt (Fx_G F) (Fx_l F) v1 (xs (v5 + 1).toNatClampNeg) v3 μ) q749 q65 q747 q748 ⟨by decide +kernel, by decide +kernel, by decide +kernel⟩ rfl ⟨Nat.le_of_ble_eq_true rfl, Nat.le_of_ble_eq_true rfl⟩ (Nat.le_of_ble_eq_true rfl) dL_law_983 (by have h9 : rmL_droneAt.cells = 2 := rfl; omega) (by have h9 : rmL_droneAt.slots = 12 := rfl; omega) (fun x239 μ238 => ?_)
        change V κ ρ (603072 - 10 * (f + 1) + 2) (7198826 - 60 * (f + 1) + 12) μ238 _ 986 [(0, .ref b), (1, .ref v1), (2, .ref v2), (3, .ref v3), (4, .ref v4), (5, .int v5)] [.int x239]
        refine V_istore (lv' := [(6, .int x239), (0, .ref b), (1, .ref v1), (2, .ref v2), (3, .ref v3), (4, .ref v4), (5, .int v5)]) F dL_law_986 (lt_L hNL (by decide)) rfl ?_
        refine V_aload_n F dL_law_988 rfl 3 rfl ?_
        refine V_aload_n F dL_law_989 rfl 1 rfl ?_
        refine V_iload F dL_law_990 6 rfl ?_
        refine V_iconst (v := 1) F dL_law_992 (by decide) ?_
        refine V_iadd F dL_law_993 ?_
        refine V_gd (fun g240 => ?_)
        refine V_sld F X g240 dL_law_994 ?_
        refine V_lV (As := [.int (xs (v5 + 1).toNatClampNeg)]) (rest := []) (C := RX8) (N := 1) F X (metX8_droneAt (Fx_G F) (Fx_l F) v2 (xs (v5 + 1).toNatClampNeg) μ238) rfl q1424 q72 q1421 q1422 q1423 ⟨by decide +kernel, by decide +kernel, by decide +kernel⟩ rfl ⟨Nat.le_of_ble_eq_true rfl, Nat.le_of_ble_eq_true rfl⟩ (Nat.le_of_ble_eq_true rfl) dL_law_995 (by have h9 : rmX8_droneAt.cells = 0 := rfl; omega) (by have h9 : rmX8_droneAt.slots = 0 := rfl; omega) (fun x242 μ241 => ?_)
        change V κ ρ (603072 - 10 * (f + 1) + 2) (7198826 - 60 * (f + 1) + 12) μ241 _ 998 [(6, .int x239), (0, .ref b), (1, .ref v1), (2, .ref v2), (3, .ref v3), (4, .ref v4), (5, .int v5)] [.int x242]
        refine V_istore (lv' := [(7, .int x242), (6, .int x239), (0, .ref b), (1, .ref v1), (2, .ref v2), (3, .ref v3), (4, .ref v4), (5, .int v5)]) F dL_law_998 (lt_L hNL (by decide)) rfl ?_
        refine V_aload_n F dL_law_1000 rfl 4 rfl ?_
        refine V_lV (As := []) (rest := []) (C := RX8) (N := 0) F X (metX8_thrown (Fx_G F) (Fx_l F) v2  μ241) rfl q1278 q72 q1275 q1276 q1277 ⟨by decide +kernel, by decide +kernel, by decide +kernel⟩ rfl ⟨Nat.le_of_ble_eq_true rfl, Nat.le_of_ble_eq_true rfl⟩ (Nat.le_of_ble_eq_true rfl) dL_law_1001 (by have h9 : rmX8_thrown.cells = 0 := rfl; omega) (by have h9 : rmX8_thrown.slots = 0 := rfl; omega) (fun x244 μ243 => ?_)
        change V κ ρ (603072 - 10 * (f + 1) + 2) (7198826 - 60 * (f + 1) + 12) μ243 _ 1004 [(7, .int x242), (6, .int x239), (0, .ref b), (1, .ref v1), (2, .ref v2), (3, .ref v3), (4, .ref v4), (5, .int v5)] [.int x244]
        refine V_iload F dL_law_1004 1 rfl ?_
        refine V_icmp_eq (tgt := 1011) F dL_law_1006 (by decide) (fun c245 => ?_) (fun c246 => ?_)
        · refine V_iload F dL_law_1011 1 rfl ?_
          refine V_if_ne (tgt := 1028) F dL_law_1013 (by decide) (fun c247 => ?_) (fun c248 => ?_)
          · refine V_goto (tgt := 2634) F dL_law_1028 (by decide) ?_
            refine V_iinc (lv' := [(5, .int (v5 + 4)), (7, .int x242), (6, .int x239), (0, .ref b), (1, .ref v1), (2, .ref v2), (3, .ref v3), (4, .ref v4)]) F dL_law_2634 7 rfl rfl (lt_L hNL (by decide)) rfl ?_
            refine V_goto (tgt := 28) F dL_law_2637 (by decide) ?_
            refine V_widen (k' := 603072 - 10 * f) (n' := 7198826 - 60 * f) (by omega) (by omega) ?_
            refine V_sub [3, 4, 5, 6, 7, 0] rfl ?_
            exact hk28 v1 v2 v3 v4 (v5 + 4) μ243
          · refine V_aload_n F dL_law_1016 rfl 5 rfl ?_
            refine V_iconst (v := 0) F dL_law_1017 (by decide) ?_
            refine V_aJ F dL_law_1018 (fun x249 => ?_)
            refine V_iload F dL_law_1019 0 rfl ?_
            refine V_i2l F dL_law_1021 ?_
            refine V_lcmp F dL_law_1022 ?_
            refine V_if_eq (tgt := 1028) F dL_law_1023 (by decide) (fun c250 => ?_) (fun c251 => ?_)
            · refine V_goto (tgt := 2634) F dL_law_1028 (by decide) ?_
              refine V_iinc (lv' := [(5, .int (v5 + 4)), (7, .int x242), (6, .int x239), (0, .ref b), (1, .ref v1), (2, .ref v2), (3, .ref v3), (4, .ref v4)]) F dL_law_2634 7 rfl rfl (lt_L hNL (by decide)) rfl ?_
              refine V_goto (tgt := 28) F dL_law_2637 (by decide) ?_
              refine V_widen (k' := 603072 - 10 * f) (n' := 7198826 - 60 * f) (by omega) (by omega) ?_
              refine V_sub [3, 4, 5, 6, 7, 0] rfl ?_
              exact hk28 v1 v2 v3 v4 (v5 + 4) μ243
            · refine V_iconst (v := 0) F dL_law_1026 (by decide) ?_
              exact V_none
        · refine V_iconst (v := 0) F dL_law_1009 (by decide) ?_
          exact V_none
      refine V_case (z := 14) (tgt := 1031) F dL_law_44 (by decide) rfl (by decide) (fun c252 => ?_) (fun c253 => ?_)
      · refine V_aload_n F dL_law_1031 rfl 1 rfl ?_
        refine V_aload_n F dL_law_1032 rfl 0 rfl ?_
        refine V_iload F dL_law_1033 5 rfl ?_
        refine V_iconst (v := 1) F dL_law_1035 (by decide) ?_
        refine V_iadd F dL_law_1036 ?_
        refine V_gd (fun g254 => ?_)
        refine V_sld F X g254 dL_law_1037 ?_
        refine V_aload_n F dL_law_1038 rfl 3 rfl ?_
        refine V_lSX (As := [.ref v1, .int (xs (v5 + 1).toNatClampNeg), .ref v3]) (rest := []) (N := 3) F X (metL_isPad (Fx_G F) (Fx_l F) v1 (xs (v5 + 1).toNatClampNeg) v3 μ) q762 q65 q760 q761 ⟨by decide +kernel, by decide +kernel, by decide +kernel⟩ rfl ⟨Nat.le_of_ble_eq_true rfl, Nat.le_of_ble_eq_true rfl⟩ (Nat.le_of_ble_eq_true rfl) dL_law_1039 (by have h9 : rmL_isPad.cells = 1 := rfl; omega) (by have h9 : rmL_isPad.slots = 6 := rfl; omega) (fun x256 μ255 => ?_)
        change V κ ρ (603072 - 10 * (f + 1) + 1) (7198826 - 60 * (f + 1) + 6) μ255 _ 1042 [(0, .ref b), (1, .ref v1), (2, .ref v2), (3, .ref v3), (4, .ref v4), (5, .int v5)] [.int x256]
        refine V_istore (lv' := [(6, .int x256), (0, .ref b), (1, .ref v1), (2, .ref v2), (3, .ref v3), (4, .ref v4), (5, .int v5)]) F dL_law_1042 (lt_L hNL (by decide)) rfl ?_
        refine V_aload_n F dL_law_1044 rfl 3 rfl ?_
        refine V_aload_n F dL_law_1045 rfl 1 rfl ?_
        refine V_iload F dL_law_1046 6 rfl ?_
        refine V_iconst (v := 1) F dL_law_1048 (by decide) ?_
        refine V_iadd F dL_law_1049 ?_
        refine V_gd (fun g257 => ?_)
        refine V_sld F X g257 dL_law_1050 ?_
        refine V_lV (As := [.int (xs (v5 + 1).toNatClampNeg)]) (rest := []) (C := RX8) (N := 1) F X (metX8_isPad (Fx_G F) (Fx_l F) v2 (xs (v5 + 1).toNatClampNeg) μ255) rfl q1428 q72 q1425 q1426 q1427 ⟨by decide +kernel, by decide +kernel, by decide +kernel⟩ rfl ⟨Nat.le_of_ble_eq_true rfl, Nat.le_of_ble_eq_true rfl⟩ (Nat.le_of_ble_eq_true rfl) dL_law_1051 (by have h9 : rmX8_isPad.cells = 0 := rfl; omega) (by have h9 : rmX8_isPad.slots = 0 := rfl; omega) (fun x259 μ258 => ?_)
        change V κ ρ (603072 - 10 * (f + 1) + 1) (7198826 - 60 * (f + 1) + 6) μ258 _ 1054 [(6, .int x256), (0, .ref b), (1, .ref v1), (2, .ref v2), (3, .ref v3), (4, .ref v4), (5, .int v5)] [.int x259]
        refine V_istore (lv' := [(7, .int x259), (6, .int x256), (0, .ref b), (1, .ref v1), (2, .ref v2), (3, .ref v3), (4, .ref v4), (5, .int v5)]) F dL_law_1054 (lt_L hNL (by decide)) rfl ?_
        refine V_aload_n F dL_law_1056 rfl 4 rfl ?_
        refine V_lV (As := []) (rest := []) (C := RX8) (N := 0) F X (metX8_thrown (Fx_G F) (Fx_l F) v2  μ258) rfl q1278 q72 q1275 q1276 q1277 ⟨by decide +kernel, by decide +kernel, by decide +kernel⟩ rfl ⟨Nat.le_of_ble_eq_true rfl, Nat.le_of_ble_eq_true rfl⟩ (Nat.le_of_ble_eq_true rfl) dL_law_1057 (by have h9 : rmX8_thrown.cells = 0 := rfl; omega) (by have h9 : rmX8_thrown.slots = 0 := rfl; omega) (fun x261 μ260 => ?_)
        change V κ ρ (603072 - 10 * (f + 1) + 1) (7198826 - 60 * (f + 1) + 6) μ260 _ 1060 [(7, .int x259), (6, .int x256), (0, .ref b), (1, .ref v1), (2, .ref v2), (3, .ref v3), (4, .ref v4), (5, .int v5)] [.int x261]
        refine V_iload F dL_law_1060 1 rfl ?_
        refine V_icmp_eq (tgt := 1067) F dL_law_1062 (by decide) (fun c262 => ?_) (fun c263 => ?_)
        · refine V_iload F dL_law_1067 1 rfl ?_
          refine V_if_ne (tgt := 1091) F dL_law_1069 (by decide) (fun c264 => ?_) (fun c265 => ?_)
          · refine V_goto (tgt := 2634) F dL_law_1091 (by decide) ?_
            refine V_iinc (lv' := [(5, .int (v5 + 4)), (7, .int x259), (6, .int x256), (0, .ref b), (1, .ref v1), (2, .ref v2), (3, .ref v3), (4, .ref v4)]) F dL_law_2634 7 rfl rfl (lt_L hNL (by decide)) rfl ?_
            refine V_goto (tgt := 28) F dL_law_2637 (by decide) ?_
            refine V_widen (k' := 603072 - 10 * f) (n' := 7198826 - 60 * f) (by omega) (by omega) ?_
            refine V_sub [3, 4, 5, 6, 7, 0] rfl ?_
            exact hk28 v1 v2 v3 v4 (v5 + 4) μ260
          · refine V_aload_n F dL_law_1072 rfl 5 rfl ?_
            refine V_iconst (v := 0) F dL_law_1073 (by decide) ?_
            refine V_aJ F dL_law_1074 (fun x266 => ?_)
            refine V_iload F dL_law_1075 0 rfl ?_
            refine V_if_eq (tgt := 1084) F dL_law_1077 (by decide) (fun c267 => ?_) (fun c268 => ?_)
            · refine V_lconst (v := 0) F dL_law_1084 (by decide) ?_
              refine V_sub [2, 3, 4, 5, 6, 7] rfl ?_
              exact VL_law_B1085 f hf F X hNL hκ hk28 v1 v2 v3 v4 v5 0 x266 μ260
            · refine V_lconst (v := 1) F dL_law_1080 (by decide) ?_
              refine V_goto (tgt := 1085) F dL_law_1081 (by decide) ?_
              refine V_sub [2, 3, 4, 5, 6, 7] rfl ?_
              exact VL_law_B1085 f hf F X hNL hκ hk28 v1 v2 v3 v4 v5 1 x266 μ260
        · refine V_iconst (v := 0) F dL_law_1065 (by decide) ?_
          exact V_none
      refine V_case (z := 15) (tgt := 1094) F dL_law_44 (by decide) rfl (by decide) (fun c271 => ?_) (fun c272 => ?_)
      · refine V_aload_n F dL_law_1094 rfl 1 rfl ?_
        refine V_aload_n F dL_law_1095 rfl 0 rfl ?_
        refine V_iload F dL_law_1096 5 rfl ?_
        refine V_iconst (v := 1) F dL_law_1098 (by decide) ?_
        refine V_iadd F dL_law_1099 ?_
        refine V_gd (fun g273 => ?_)
        refine V_sld F X g273 dL_law_1100 ?_
        refine V_aload_n F dL_law_1101 rfl 3 rfl ?_
        refine V_lSX (As := [.ref v1, .int (xs (v5 + 1).toNatClampNeg), .ref v3]) (rest := []) (N := 3) F X (metL_nearestPad (Fx_G F) (Fx_l F) v1 (xs (v5 + 1).toNatClampNeg) v3 μ) q770 q65 q768 q769 ⟨by decide +kernel, by decide +kernel, by decide +kernel⟩ rfl ⟨Nat.le_of_ble_eq_true rfl, Nat.le_of_ble_eq_true rfl⟩ (Nat.le_of_ble_eq_true rfl) dL_law_1102 (by have h9 : rmL_nearestPad.cells = 2 := rfl; omega) (by have h9 : rmL_nearestPad.slots = 12 := rfl; omega) (fun x275 μ274 => ?_)
        change V κ ρ (603072 - 10 * (f + 1) + 2) (7198826 - 60 * (f + 1) + 12) μ274 _ 1105 [(0, .ref b), (1, .ref v1), (2, .ref v2), (3, .ref v3), (4, .ref v4), (5, .int v5)] [.int x275]
        refine V_istore (lv' := [(6, .int x275), (0, .ref b), (1, .ref v1), (2, .ref v2), (3, .ref v3), (4, .ref v4), (5, .int v5)]) F dL_law_1105 (lt_L hNL (by decide)) rfl ?_
        refine V_aload_n F dL_law_1107 rfl 3 rfl ?_
        refine V_aload_n F dL_law_1108 rfl 1 rfl ?_
        refine V_iload F dL_law_1109 6 rfl ?_
        refine V_iconst (v := 1) F dL_law_1111 (by decide) ?_
        refine V_iadd F dL_law_1112 ?_
        refine V_gd (fun g276 => ?_)
        refine V_sld F X g276 dL_law_1113 ?_
        refine V_lV (As := [.int (xs (v5 + 1).toNatClampNeg)]) (rest := []) (C := RX8) (N := 1) F X (metX8_nearestPad (Fx_G F) (Fx_l F) v2 (xs (v5 + 1).toNatClampNeg) μ274) rfl q1432 q72 q1429 q1430 q1431 ⟨by decide +kernel, by decide +kernel, by decide +kernel⟩ rfl ⟨Nat.le_of_ble_eq_true rfl, Nat.le_of_ble_eq_true rfl⟩ (Nat.le_of_ble_eq_true rfl) dL_law_1114 (by have h9 : rmX8_nearestPad.cells = 0 := rfl; omega) (by have h9 : rmX8_nearestPad.slots = 0 := rfl; omega) (fun x278 μ277 => ?_)
        change V κ ρ (603072 - 10 * (f + 1) + 2) (7198826 - 60 * (f + 1) + 12) μ277 _ 1117 [(6, .int x275), (0, .ref b), (1, .ref v1), (2, .ref v2), (3, .ref v3), (4, .ref v4), (5, .int v5)] [.int x278]
        refine V_istore (lv' := [(7, .int x278), (6, .int x275), (0, .ref b), (1, .ref v1), (2, .ref v2), (3, .ref v3), (4, .ref v4), (5, .int v5)]) F dL_law_1117 (lt_L hNL (by decide)) rfl ?_
        refine V_aload_n F dL_law_1119 rfl 4 rfl ?_
        refine V_lV (As := []) (rest := []) (C := RX8) (N := 0) F X (metX8_thrown (Fx_G F) (Fx_l F) v2  μ277) rfl q1278 q72 q1275 q1276 q1277 ⟨by decide +kernel, by decide +kernel, by decide +kernel⟩ rfl ⟨Nat.le_of_ble_eq_true rfl, Nat.le_of_ble_eq_true rfl⟩ (Nat.le_of_ble_eq_true rfl) dL_law_1120 (by have h9 : rmX8_thrown.cells = 0 := rfl; omega) (by have h9 : rmX8_thrown.slots = 0 := rfl; omega) (fun x280 μ279 => ?_)
        change V κ ρ (603072 - 10 * (f + 1) + 2) (7198826 - 60 * (f + 1) + 12) μ279 _ 1123 [(7, .int x278), (6, .int x275), (0, .ref b), (1, .ref v1), (2, .ref v2), (3, .ref v3), (4, .ref v4), (5, .int v5)] [.int x280]
        refine V_iload F dL_law_1123 1 rfl ?_
        refine V_icmp_eq (tgt := 1130) F dL_law_1125 (by decide) (fun c281 => ?_) (fun c282 => ?_)
        · refine V_iload F dL_law_1130 1 rfl ?_
          refine V_if_ne (tgt := 1147) F dL_law_1132 (by decide) (fun c283 => ?_) (fun c284 => ?_)
          · refine V_goto (tgt := 2634) F dL_law_1147 (by decide) ?_
            refine V_iinc (lv' := [(5, .int (v5 + 4)), (7, .int x278), (6, .int x275), (0, .ref b), (1, .ref v1), (2, .ref v2), (3, .ref v3), (4, .ref v4)]) F dL_law_2634 7 rfl rfl (lt_L hNL (by decide)) rfl ?_
            refine V_goto (tgt := 28) F dL_law_2637 (by decide) ?_
            refine V_widen (k' := 603072 - 10 * f) (n' := 7198826 - 60 * f) (by omega) (by omega) ?_
            refine V_sub [3, 4, 5, 6, 7, 0] rfl ?_
            exact hk28 v1 v2 v3 v4 (v5 + 4) μ279
          · refine V_aload_n F dL_law_1135 rfl 5 rfl ?_
            refine V_iconst (v := 0) F dL_law_1136 (by decide) ?_
            refine V_aJ F dL_law_1137 (fun x285 => ?_)
            refine V_iload F dL_law_1138 0 rfl ?_
            refine V_i2l F dL_law_1140 ?_
            refine V_lcmp F dL_law_1141 ?_
            refine V_if_eq (tgt := 1147) F dL_law_1142 (by decide) (fun c286 => ?_) (fun c287 => ?_)
            · refine V_goto (tgt := 2634) F dL_law_1147 (by decide) ?_
              refine V_iinc (lv' := [(5, .int (v5 + 4)), (7, .int x278), (6, .int x275), (0, .ref b), (1, .ref v1), (2, .ref v2), (3, .ref v3), (4, .ref v4)]) F dL_law_2634 7 rfl rfl (lt_L hNL (by decide)) rfl ?_
              refine V_goto (tgt := 28) F dL_law_2637 (by decide) ?_
              refine V_widen (k' := 603072 - 10 * f) (n' := 7198826 - 60 * f) (by omega) (by omega) ?_
              refine V_sub [3, 4, 5, 6, 7, 0] rfl ?_
              exact hk28 v1 v2 v3 v4 (v5 + 4) μ279
            · refine V_iconst (v := 0) F dL_law_1145 (by decide) ?_
              exact V_none
        · refine V_iconst (v := 0) F dL_law_1128 (by decide) ?_
          exact V_none
      refine V_case (z := 16) (tgt := 1150) F dL_law_44 (by decide) rfl (by decide) (fun c288 => ?_) (fun c289 => ?_)
      · refine V_aload_n F dL_law_1150 rfl 1 rfl ?_
        refine V_aload_n F dL_law_1151 rfl 0 rfl ?_
        refine V_iload F dL_law_1152 5 rfl ?_
        refine V_iconst (v := 1) F dL_law_1154 (by decide) ?_
        refine V_iadd F dL_law_1155 ?_
        refine V_gd (fun g290 => ?_)
        refine V_sld F X g290 dL_law_1156 ?_
        refine V_aload_n F dL_law_1157 rfl 3 rfl ?_
        refine V_lSX (As := [.ref v1, .int (xs (v5 + 1).toNatClampNeg), .ref v3]) (rest := []) (N := 3) F X (metL_nearestPadByRings (Fx_G F) (Fx_l F) v1 (xs (v5 + 1).toNatClampNeg) v3 μ) q777 q65 q775 q776 ⟨by decide +kernel, by decide +kernel, by decide +kernel⟩ rfl ⟨Nat.le_of_ble_eq_true rfl, Nat.le_of_ble_eq_true rfl⟩ (Nat.le_of_ble_eq_true rfl) dL_law_1158 (by have h9 : rmL_nearestPadByRings.cells = 2 := rfl; omega) (by have h9 : rmL_nearestPadByRings.slots = 12 := rfl; omega) (fun x292 μ291 => ?_)
        change V κ ρ (603072 - 10 * (f + 1) + 2) (7198826 - 60 * (f + 1) + 12) μ291 _ 1161 [(0, .ref b), (1, .ref v1), (2, .ref v2), (3, .ref v3), (4, .ref v4), (5, .int v5)] [.int x292]
        refine V_istore (lv' := [(6, .int x292), (0, .ref b), (1, .ref v1), (2, .ref v2), (3, .ref v3), (4, .ref v4), (5, .int v5)]) F dL_law_1161 (lt_L hNL (by decide)) rfl ?_
        refine V_aload_n F dL_law_1163 rfl 3 rfl ?_
        refine V_aload_n F dL_law_1164 rfl 1 rfl ?_
        refine V_iload F dL_law_1165 6 rfl ?_
        refine V_iconst (v := 1) F dL_law_1167 (by decide) ?_
        refine V_iadd F dL_law_1168 ?_
        refine V_gd (fun g293 => ?_)
        refine V_sld F X g293 dL_law_1169 ?_
        refine V_lV (As := [.int (xs (v5 + 1).toNatClampNeg)]) (rest := []) (C := RX8) (N := 1) F X (metX8_nearestPadByRings (Fx_G F) (Fx_l F) v2 (xs (v5 + 1).toNatClampNeg) μ291) rfl q1440 q72 q1437 q1438 q1439 ⟨by decide +kernel, by decide +kernel, by decide +kernel⟩ rfl ⟨Nat.le_of_ble_eq_true rfl, Nat.le_of_ble_eq_true rfl⟩ (Nat.le_of_ble_eq_true rfl) dL_law_1170 (by have h9 : rmX8_nearestPadByRings.cells = 0 := rfl; omega) (by have h9 : rmX8_nearestPadByRings.slots = 0 := rfl; omega) (fun x295 μ294 => ?_)
        change V κ ρ (603072 - 10 * (f + 1) + 2) (7198826 - 60 * (f + 1) + 12) μ294 _ 1173 [(6, .int x292), (0, .ref b), (1, .ref v1), (2, .ref v2), (3, .ref v3), (4, .ref v4), (5, .int v5)] [.int x295]
        refine V_istore (lv' := [(7, .int x295), (6, .int x292), (0, .ref b), (1, .ref v1), (2, .ref v2), (3, .ref v3), (4, .ref v4), (5, .int v5)]) F dL_law_1173 (lt_L hNL (by decide)) rfl ?_
        refine V_aload_n F dL_law_1175 rfl 4 rfl ?_
        refine V_lV (As := []) (rest := []) (C := RX8) (N := 0) F X (metX8_thrown (Fx_G F) (Fx_l F) v2  μ294) rfl q1278 q72 q1275 q1276 q1277 ⟨by decide +kernel, by decide +kernel, by decide +kernel⟩ rfl ⟨Nat.le_of_ble_eq_true rfl, Nat.le_of_ble_eq_true rfl⟩ (Nat.le_of_ble_eq_true rfl) dL_law_1176 (by have h9 : rmX8_thrown.cells = 0 := rfl; omega) (by have h9 : rmX8_thrown.slots = 0 := rfl; omega) (fun x297 μ296 => ?_)
        change V κ ρ (603072 - 10 * (f + 1) + 2) (7198826 - 60 * (f + 1) + 12) μ296 _ 1179 [(7, .int x295), (6, .int x292), (0, .ref b), (1, .ref v1), (2, .ref v2), (3, .ref v3), (4, .ref v4), (5, .int v5)] [.int x297]
        refine V_iload F dL_law_1179 1 rfl ?_
        refine V_icmp_eq (tgt := 1186) F dL_law_1181 (by decide) (fun c298 => ?_) (fun c299 => ?_)
        · refine V_iload F dL_law_1186 1 rfl ?_
          refine V_if_ne (tgt := 1203) F dL_law_1188 (by decide) (fun c300 => ?_) (fun c301 => ?_)
          · refine V_goto (tgt := 2634) F dL_law_1203 (by decide) ?_
            refine V_iinc (lv' := [(5, .int (v5 + 4)), (7, .int x295), (6, .int x292), (0, .ref b), (1, .ref v1), (2, .ref v2), (3, .ref v3), (4, .ref v4)]) F dL_law_2634 7 rfl rfl (lt_L hNL (by decide)) rfl ?_
            refine V_goto (tgt := 28) F dL_law_2637 (by decide) ?_
            refine V_widen (k' := 603072 - 10 * f) (n' := 7198826 - 60 * f) (by omega) (by omega) ?_
            refine V_sub [3, 4, 5, 6, 7, 0] rfl ?_
            exact hk28 v1 v2 v3 v4 (v5 + 4) μ296
          · refine V_aload_n F dL_law_1191 rfl 5 rfl ?_
            refine V_iconst (v := 0) F dL_law_1192 (by decide) ?_
            refine V_aJ F dL_law_1193 (fun x302 => ?_)
            refine V_iload F dL_law_1194 0 rfl ?_
            refine V_i2l F dL_law_1196 ?_
            refine V_lcmp F dL_law_1197 ?_
            refine V_if_eq (tgt := 1203) F dL_law_1198 (by decide) (fun c303 => ?_) (fun c304 => ?_)
            · refine V_goto (tgt := 2634) F dL_law_1203 (by decide) ?_
              refine V_iinc (lv' := [(5, .int (v5 + 4)), (7, .int x295), (6, .int x292), (0, .ref b), (1, .ref v1), (2, .ref v2), (3, .ref v3), (4, .ref v4)]) F dL_law_2634 7 rfl rfl (lt_L hNL (by decide)) rfl ?_
              refine V_goto (tgt := 28) F dL_law_2637 (by decide) ?_
              refine V_widen (k' := 603072 - 10 * f) (n' := 7198826 - 60 * f) (by omega) (by omega) ?_
              refine V_sub [3, 4, 5, 6, 7, 0] rfl ?_
              exact hk28 v1 v2 v3 v4 (v5 + 4) μ296
            · refine V_iconst (v := 0) F dL_law_1201 (by decide) ?_
              exact V_none
        · refine V_iconst (v := 0) F dL_law_1184 (by decide) ?_
          exact V_none
      refine V_case (z := 17) (tgt := 1206) F dL_law_44 (by decide) rfl (by decide) (fun c305 => ?_) (fun c306 => ?_)
      · refine V_aload_n F dL_law_1206 rfl 1 rfl ?_
        refine V_aload_n F dL_law_1207 rfl 0 rfl ?_
        refine V_iload F dL_law_1208 5 rfl ?_
        refine V_iconst (v := 1) F dL_law_1210 (by decide) ?_
        refine V_iadd F dL_law_1211 ?_
        refine V_gd (fun g307 => ?_)
        refine V_sld F X g307 dL_law_1212 ?_
        refine V_aload_n F dL_law_1213 rfl 0 rfl ?_
        refine V_iload F dL_law_1214 5 rfl ?_
        refine V_iconst (v := 2) F dL_law_1216 (by decide) ?_
        refine V_iadd F dL_law_1217 ?_
        refine V_gd (fun g308 => ?_)
        refine V_sld F X g308 dL_law_1218 ?_
        refine V_aload_n F dL_law_1219 rfl 3 rfl ?_
        refine V_lSX (As := [.ref v1, .int (xs (v5 + 1).toNatClampNeg), .int (xs (v5 + 2).toNatClampNeg), .ref v3]) (rest := []) (N := 4) F X (metL_addToFormation (Fx_G F) (Fx_l F) v1 (xs (v5 + 1).toNatClampNeg) (xs (v5 + 2).toNatClampNeg) v3 μ) q784 q65 q782 q783 ⟨by decide +kernel, by decide +kernel, by decide +kernel⟩ rfl ⟨Nat.le_of_ble_eq_true rfl, Nat.le_of_ble_eq_true rfl⟩ (Nat.le_of_ble_eq_true rfl) dL_law_1220 (by have h9 : rmL_addToFormation.cells = 1 := rfl; omega) (by have h9 : rmL_addToFormation.slots = 6 := rfl; omega) (fun x310 μ309 => ?_)
        change V κ ρ (603072 - 10 * (f + 1) + 1) (7198826 - 60 * (f + 1) + 6) μ309 _ 1223 [(0, .ref b), (1, .ref v1), (2, .ref v2), (3, .ref v3), (4, .ref v4), (5, .int v5)] [.int x310]
        refine V_istore (lv' := [(6, .int x310), (0, .ref b), (1, .ref v1), (2, .ref v2), (3, .ref v3), (4, .ref v4), (5, .int v5)]) F dL_law_1223 (lt_L hNL (by decide)) rfl ?_
        refine V_aload_n F dL_law_1225 rfl 3 rfl ?_
        refine V_aload_n F dL_law_1226 rfl 1 rfl ?_
        refine V_iload F dL_law_1227 6 rfl ?_
        refine V_iconst (v := 1) F dL_law_1229 (by decide) ?_
        refine V_iadd F dL_law_1230 ?_
        refine V_gd (fun g311 => ?_)
        refine V_sld F X g311 dL_law_1231 ?_
        refine V_aload_n F dL_law_1232 rfl 1 rfl ?_
        refine V_iload F dL_law_1233 6 rfl ?_
        refine V_iconst (v := 2) F dL_law_1235 (by decide) ?_
        refine V_iadd F dL_law_1236 ?_
        refine V_gd (fun g312 => ?_)
        refine V_sld F X g312 dL_law_1237 ?_
        refine V_lV (As := [.int (xs (v5 + 1).toNatClampNeg), .int (xs (v5 + 2).toNatClampNeg)]) (rest := []) (C := RX8) (N := 2) F X (metX8_addToFormation (Fx_G F) (Fx_l F) v2 (xs (v5 + 1).toNatClampNeg) (xs (v5 + 2).toNatClampNeg) μ309) rfl q1445 q72 q1442 q1443 q1444 ⟨by decide +kernel, by decide +kernel, by decide +kernel⟩ rfl ⟨Nat.le_of_ble_eq_true rfl, Nat.le_of_ble_eq_true rfl⟩ (Nat.le_of_ble_eq_true rfl) dL_law_1238 (by have h9 : rmX8_addToFormation.cells = 0 := rfl; omega) (by have h9 : rmX8_addToFormation.slots = 0 := rfl; omega) (fun x314 μ313 => ?_)
        change V κ ρ (603072 - 10 * (f + 1) + 1) (7198826 - 60 * (f + 1) + 6) μ313 _ 1241 [(6, .int x310), (0, .ref b), (1, .ref v1), (2, .ref v2), (3, .ref v3), (4, .ref v4), (5, .int v5)] [.int x314]
        refine V_istore (lv' := [(7, .int x314), (6, .int x310), (0, .ref b), (1, .ref v1), (2, .ref v2), (3, .ref v3), (4, .ref v4), (5, .int v5)]) F dL_law_1241 (lt_L hNL (by decide)) rfl ?_
        refine V_aload_n F dL_law_1243 rfl 4 rfl ?_
        refine V_lV (As := []) (rest := []) (C := RX8) (N := 0) F X (metX8_thrown (Fx_G F) (Fx_l F) v2  μ313) rfl q1278 q72 q1275 q1276 q1277 ⟨by decide +kernel, by decide +kernel, by decide +kernel⟩ rfl ⟨Nat.le_of_ble_eq_true rfl, Nat.le_of_ble_eq_true rfl⟩ (Nat.le_of_ble_eq_true rfl) dL_law_1244 (by have h9 : rmX8_thrown.cells = 0 := rfl; omega) (by have h9 : rmX8_thrown.slots = 0 := rfl; omega) (fun x316 μ315 => ?_)
        change V κ ρ (603072 - 10 * (f + 1) + 1) (7198826 - 60 * (f + 1) + 6) μ315 _ 1247 [(7, .int x314), (6, .int x310), (0, .ref b), (1, .ref v1), (2, .ref v2), (3, .ref v3), (4, .ref v4), (5, .int v5)] [.int x316]
        refine V_iload F dL_law_1247 1 rfl ?_
        refine V_icmp_eq (tgt := 1254) F dL_law_1249 (by decide) (fun c317 => ?_) (fun c318 => ?_)
        · refine V_iload F dL_law_1254 1 rfl ?_
          refine V_if_ne (tgt := 1271) F dL_law_1256 (by decide) (fun c319 => ?_) (fun c320 => ?_)
          · refine V_goto (tgt := 2634) F dL_law_1271 (by decide) ?_
            refine V_iinc (lv' := [(5, .int (v5 + 4)), (7, .int x314), (6, .int x310), (0, .ref b), (1, .ref v1), (2, .ref v2), (3, .ref v3), (4, .ref v4)]) F dL_law_2634 7 rfl rfl (lt_L hNL (by decide)) rfl ?_
            refine V_goto (tgt := 28) F dL_law_2637 (by decide) ?_
            refine V_widen (k' := 603072 - 10 * f) (n' := 7198826 - 60 * f) (by omega) (by omega) ?_
            refine V_sub [3, 4, 5, 6, 7, 0] rfl ?_
            exact hk28 v1 v2 v3 v4 (v5 + 4) μ315
          · refine V_aload_n F dL_law_1259 rfl 5 rfl ?_
            refine V_iconst (v := 0) F dL_law_1260 (by decide) ?_
            refine V_aJ F dL_law_1261 (fun x321 => ?_)
            refine V_iload F dL_law_1262 0 rfl ?_
            refine V_i2l F dL_law_1264 ?_
            refine V_lcmp F dL_law_1265 ?_
            refine V_if_eq (tgt := 1271) F dL_law_1266 (by decide) (fun c322 => ?_) (fun c323 => ?_)
            · refine V_goto (tgt := 2634) F dL_law_1271 (by decide) ?_
              refine V_iinc (lv' := [(5, .int (v5 + 4)), (7, .int x314), (6, .int x310), (0, .ref b), (1, .ref v1), (2, .ref v2), (3, .ref v3), (4, .ref v4)]) F dL_law_2634 7 rfl rfl (lt_L hNL (by decide)) rfl ?_
              refine V_goto (tgt := 28) F dL_law_2637 (by decide) ?_
              refine V_widen (k' := 603072 - 10 * f) (n' := 7198826 - 60 * f) (by omega) (by omega) ?_
              refine V_sub [3, 4, 5, 6, 7, 0] rfl ?_
              exact hk28 v1 v2 v3 v4 (v5 + 4) μ315
            · refine V_iconst (v := 0) F dL_law_1269 (by decide) ?_
              exact V_none
        · refine V_iconst (v := 0) F dL_law_1252 (by decide) ?_
          exact V_none
      refine V_case (z := 18) (tgt := 1274) F dL_law_44 (by decide) rfl (by decide) (fun c324 => ?_) (fun c325 => ?_)
      · refine V_aload_n F dL_law_1274 rfl 1 rfl ?_
        refine V_aload_n F dL_law_1275 rfl 0 rfl ?_
        refine V_iload F dL_law_1276 5 rfl ?_
        refine V_iconst (v := 1) F dL_law_1278 (by decide) ?_
        refine V_iadd F dL_law_1279 ?_
        refine V_gd (fun g326 => ?_)
        refine V_sld F X g326 dL_law_1280 ?_
        refine V_aload_n F dL_law_1281 rfl 3 rfl ?_
        refine V_lSX (As := [.ref v1, .int (xs (v5 + 1).toNatClampNeg), .ref v3]) (rest := []) (N := 3) F X (metL_clearFormation (Fx_G F) (Fx_l F) v1 (xs (v5 + 1).toNatClampNeg) v3 μ) q798 q65 q796 q797 ⟨by decide +kernel, by decide +kernel, by decide +kernel⟩ rfl ⟨Nat.le_of_ble_eq_true rfl, Nat.le_of_ble_eq_true rfl⟩ (Nat.le_of_ble_eq_true rfl) dL_law_1282 (by have h9 : rmL_clearFormation.cells = 1 := rfl; omega) (by have h9 : rmL_clearFormation.slots = 6 := rfl; omega) (fun x328 μ327 => ?_)
        change V κ ρ (603072 - 10 * (f + 1) + 1) (7198826 - 60 * (f + 1) + 6) μ327 _ 1285 [(0, .ref b), (1, .ref v1), (2, .ref v2), (3, .ref v3), (4, .ref v4), (5, .int v5)] [.int x328]
        refine V_istore (lv' := [(6, .int x328), (0, .ref b), (1, .ref v1), (2, .ref v2), (3, .ref v3), (4, .ref v4), (5, .int v5)]) F dL_law_1285 (lt_L hNL (by decide)) rfl ?_
        refine V_aload_n F dL_law_1287 rfl 3 rfl ?_
        refine V_aload_n F dL_law_1288 rfl 1 rfl ?_
        refine V_iload F dL_law_1289 6 rfl ?_
        refine V_iconst (v := 1) F dL_law_1291 (by decide) ?_
        refine V_iadd F dL_law_1292 ?_
        refine V_gd (fun g329 => ?_)
        refine V_sld F X g329 dL_law_1293 ?_
        refine V_lV (As := [.int (xs (v5 + 1).toNatClampNeg)]) (rest := []) (C := RX8) (N := 1) F X (metX8_clearFormation (Fx_G F) (Fx_l F) v2 (xs (v5 + 1).toNatClampNeg) μ327) rfl q1464 q72 q1461 q1462 q1463 ⟨by decide +kernel, by decide +kernel, by decide +kernel⟩ rfl ⟨Nat.le_of_ble_eq_true rfl, Nat.le_of_ble_eq_true rfl⟩ (Nat.le_of_ble_eq_true rfl) dL_law_1294 (by have h9 : rmX8_clearFormation.cells = 0 := rfl; omega) (by have h9 : rmX8_clearFormation.slots = 0 := rfl; omega) (fun x331 μ330 => ?_)
        change V κ ρ (603072 - 10 * (f + 1) + 1) (7198826 - 60 * (f + 1) + 6) μ330 _ 1297 [(6, .int x328), (0, .ref b), (1, .ref v1), (2, .ref v2), (3, .ref v3), (4, .ref v4), (5, .int v5)] [.int x331]
        refine V_istore (lv' := [(7, .int x331), (6, .int x328), (0, .ref b), (1, .ref v1), (2, .ref v2), (3, .ref v3), (4, .ref v4), (5, .int v5)]) F dL_law_1297 (lt_L hNL (by decide)) rfl ?_
        refine V_aload_n F dL_law_1299 rfl 4 rfl ?_
        refine V_lV (As := []) (rest := []) (C := RX8) (N := 0) F X (metX8_thrown (Fx_G F) (Fx_l F) v2  μ330) rfl q1278 q72 q1275 q1276 q1277 ⟨by decide +kernel, by decide +kernel, by decide +kernel⟩ rfl ⟨Nat.le_of_ble_eq_true rfl, Nat.le_of_ble_eq_true rfl⟩ (Nat.le_of_ble_eq_true rfl) dL_law_1300 (by have h9 : rmX8_thrown.cells = 0 := rfl; omega) (by have h9 : rmX8_thrown.slots = 0 := rfl; omega) (fun x333 μ332 => ?_)
        change V κ ρ (603072 - 10 * (f + 1) + 1) (7198826 - 60 * (f + 1) + 6) μ332 _ 1303 [(7, .int x331), (6, .int x328), (0, .ref b), (1, .ref v1), (2, .ref v2), (3, .ref v3), (4, .ref v4), (5, .int v5)] [.int x333]
        refine V_iload F dL_law_1303 1 rfl ?_
        refine V_icmp_eq (tgt := 1310) F dL_law_1305 (by decide) (fun c334 => ?_) (fun c335 => ?_)
        · refine V_iload F dL_law_1310 1 rfl ?_
          refine V_if_ne (tgt := 1327) F dL_law_1312 (by decide) (fun c336 => ?_) (fun c337 => ?_)
          · refine V_goto (tgt := 2634) F dL_law_1327 (by decide) ?_
            refine V_iinc (lv' := [(5, .int (v5 + 4)), (7, .int x331), (6, .int x328), (0, .ref b), (1, .ref v1), (2, .ref v2), (3, .ref v3), (4, .ref v4)]) F dL_law_2634 7 rfl rfl (lt_L hNL (by decide)) rfl ?_
            refine V_goto (tgt := 28) F dL_law_2637 (by decide) ?_
            refine V_widen (k' := 603072 - 10 * f) (n' := 7198826 - 60 * f) (by omega) (by omega) ?_
            refine V_sub [3, 4, 5, 6, 7, 0] rfl ?_
            exact hk28 v1 v2 v3 v4 (v5 + 4) μ332
          · refine V_aload_n F dL_law_1315 rfl 5 rfl ?_
            refine V_iconst (v := 0) F dL_law_1316 (by decide) ?_
            refine V_aJ F dL_law_1317 (fun x338 => ?_)
            refine V_iload F dL_law_1318 0 rfl ?_
            refine V_i2l F dL_law_1320 ?_
            refine V_lcmp F dL_law_1321 ?_
            refine V_if_eq (tgt := 1327) F dL_law_1322 (by decide) (fun c339 => ?_) (fun c340 => ?_)
            · refine V_goto (tgt := 2634) F dL_law_1327 (by decide) ?_
              refine V_iinc (lv' := [(5, .int (v5 + 4)), (7, .int x331), (6, .int x328), (0, .ref b), (1, .ref v1), (2, .ref v2), (3, .ref v3), (4, .ref v4)]) F dL_law_2634 7 rfl rfl (lt_L hNL (by decide)) rfl ?_
              refine V_goto (tgt := 28) F dL_law_2637 (by decide) ?_
              refine V_widen (k' := 603072 - 10 * f) (n' := 7198826 - 60 * f) (by omega) (by omega) ?_
              refine V_sub [3, 4, 5, 6, 7, 0] rfl ?_
              exact hk28 v1 v2 v3 v4 (v5 + 4) μ332
            · refine V_iconst (v := 0) F dL_law_1325 (by decide) ?_
              exact V_none
        · refine V_iconst (v := 0) F dL_law_1308 (by decide) ?_
          exact V_none
      refine V_case (z := 19) (tgt := 1330) F dL_law_44 (by decide) rfl (by decide) (fun c341 => ?_) (fun c342 => ?_)
      · refine V_aload_n F dL_law_1330 rfl 1 rfl ?_
        refine V_aload_n F dL_law_1331 rfl 0 rfl ?_
        refine V_iload F dL_law_1332 5 rfl ?_
        refine V_iconst (v := 1) F dL_law_1334 (by decide) ?_
        refine V_iadd F dL_law_1335 ?_
        refine V_gd (fun g343 => ?_)
        refine V_sld F X g343 dL_law_1336 ?_
        refine V_aload_n F dL_law_1337 rfl 3 rfl ?_
        refine V_lSX (As := [.ref v1, .int (xs (v5 + 1).toNatClampNeg), .ref v3]) (rest := []) (N := 3) F X (metL_assign (Fx_G F) (Fx_l F) v1 (xs (v5 + 1).toNatClampNeg) v3 μ) q809 q65 q807 q808 ⟨by decide +kernel, by decide +kernel, by decide +kernel⟩ rfl ⟨Nat.le_of_ble_eq_true rfl, Nat.le_of_ble_eq_true rfl⟩ (Nat.le_of_ble_eq_true rfl) dL_law_1338 (by have h9 : rmL_assign.cells = 1 := rfl; omega) (by have h9 : rmL_assign.slots = 6 := rfl; omega) (fun x345 μ344 => ?_)
        change V κ ρ (603072 - 10 * (f + 1) + 1) (7198826 - 60 * (f + 1) + 6) μ344 _ 1341 [(0, .ref b), (1, .ref v1), (2, .ref v2), (3, .ref v3), (4, .ref v4), (5, .int v5)] [.int x345]
        refine V_istore (lv' := [(6, .int x345), (0, .ref b), (1, .ref v1), (2, .ref v2), (3, .ref v3), (4, .ref v4), (5, .int v5)]) F dL_law_1341 (lt_L hNL (by decide)) rfl ?_
        refine V_aload_n F dL_law_1343 rfl 3 rfl ?_
        refine V_aload_n F dL_law_1344 rfl 1 rfl ?_
        refine V_iload F dL_law_1345 6 rfl ?_
        refine V_iconst (v := 1) F dL_law_1347 (by decide) ?_
        refine V_iadd F dL_law_1348 ?_
        refine V_gd (fun g346 => ?_)
        refine V_sld F X g346 dL_law_1349 ?_
        refine V_lV (As := [.int (xs (v5 + 1).toNatClampNeg)]) (rest := []) (C := RX8) (N := 1) F X (metX8_assign (Fx_G F) (Fx_l F) v2 (xs (v5 + 1).toNatClampNeg) μ344) rfl q1472 q72 q1469 q1470 q1471 ⟨by decide +kernel, by decide +kernel, by decide +kernel⟩ rfl ⟨Nat.le_of_ble_eq_true rfl, Nat.le_of_ble_eq_true rfl⟩ (Nat.le_of_ble_eq_true rfl) dL_law_1350 (by have h9 : rmX8_assign.cells = 0 := rfl; omega) (by have h9 : rmX8_assign.slots = 0 := rfl; omega) (fun x348 μ347 => ?_)
        change V κ ρ (603072 - 10 * (f + 1) + 1) (7198826 - 60 * (f + 1) + 6) μ347 _ 1353 [(6, .int x345), (0, .ref b), (1, .ref v1), (2, .ref v2), (3, .ref v3), (4, .ref v4), (5, .int v5)] [.int x348]
        refine V_istore (lv' := [(7, .int x348), (6, .int x345), (0, .ref b), (1, .ref v1), (2, .ref v2), (3, .ref v3), (4, .ref v4), (5, .int v5)]) F dL_law_1353 (lt_L hNL (by decide)) rfl ?_
        refine V_aload_n F dL_law_1355 rfl 4 rfl ?_
        refine V_lV (As := []) (rest := []) (C := RX8) (N := 0) F X (metX8_thrown (Fx_G F) (Fx_l F) v2  μ347) rfl q1278 q72 q1275 q1276 q1277 ⟨by decide +kernel, by decide +kernel, by decide +kernel⟩ rfl ⟨Nat.le_of_ble_eq_true rfl, Nat.le_of_ble_eq_true rfl⟩ (Nat.le_of_ble_eq_true rfl) dL_law_1356 (by have h9 : rmX8_thrown.cells = 0 := rfl; omega) (by have h9 : rmX8_thrown.slots = 0 := rfl; omega) (fun x350 μ349 => ?_)
        change V κ ρ (603072 - 10 * (f + 1) + 1) (7198826 - 60 * (f + 1) + 6) μ349 _ 1359 [(7, .int x348), (6, .int x345), (0, .ref b), (1, .ref v1), (2, .ref v2), (3, .ref v3), (4, .ref v4), (5, .int v5)] [.int x350]
        refine V_iload F dL_law_1359 1 rfl ?_
        refine V_icmp_eq (tgt := 1366) F dL_law_1361 (by decide) (fun c351 => ?_) (fun c352 => ?_)
        · refine V_iload F dL_law_1366 1 rfl ?_
          refine V_if_ne (tgt := 1383) F dL_law_1368 (by decide) (fun c353 => ?_) (fun c354 => ?_)
          · refine V_goto (tgt := 2634) F dL_law_1383 (by decide) ?_
            refine V_iinc (lv' := [(5, .int (v5 + 4)), (7, .int x348), (6, .int x345), (0, .ref b), (1, .ref v1), (2, .ref v2), (3, .ref v3), (4, .ref v4)]) F dL_law_2634 7 rfl rfl (lt_L hNL (by decide)) rfl ?_
            refine V_goto (tgt := 28) F dL_law_2637 (by decide) ?_
            refine V_widen (k' := 603072 - 10 * f) (n' := 7198826 - 60 * f) (by omega) (by omega) ?_
            refine V_sub [3, 4, 5, 6, 7, 0] rfl ?_
            exact hk28 v1 v2 v3 v4 (v5 + 4) μ349
          · refine V_aload_n F dL_law_1371 rfl 5 rfl ?_
            refine V_iconst (v := 0) F dL_law_1372 (by decide) ?_
            refine V_aJ F dL_law_1373 (fun x355 => ?_)
            refine V_iload F dL_law_1374 0 rfl ?_
            refine V_i2l F dL_law_1376 ?_
            refine V_lcmp F dL_law_1377 ?_
            refine V_if_eq (tgt := 1383) F dL_law_1378 (by decide) (fun c356 => ?_) (fun c357 => ?_)
            · refine V_goto (tgt := 2634) F dL_law_1383 (by decide) ?_
              refine V_iinc (lv' := [(5, .int (v5 + 4)), (7, .int x348), (6, .int x345), (0, .ref b), (1, .ref v1), (2, .ref v2), (3, .ref v3), (4, .ref v4)]) F dL_law_2634 7 rfl rfl (lt_L hNL (by decide)) rfl ?_
              refine V_goto (tgt := 28) F dL_law_2637 (by decide) ?_
              refine V_widen (k' := 603072 - 10 * f) (n' := 7198826 - 60 * f) (by omega) (by omega) ?_
              refine V_sub [3, 4, 5, 6, 7, 0] rfl ?_
              exact hk28 v1 v2 v3 v4 (v5 + 4) μ349
            · refine V_iconst (v := 0) F dL_law_1381 (by decide) ?_
              exact V_none
        · refine V_iconst (v := 0) F dL_law_1364 (by decide) ?_
          exact V_none
      refine V_case (z := 20) (tgt := 1386) F dL_law_44 (by decide) rfl (by decide) (fun c358 => ?_) (fun c359 => ?_)
      · refine V_aload_n F dL_law_1386 rfl 1 rfl ?_
        refine V_aload_n F dL_law_1387 rfl 0 rfl ?_
        refine V_iload F dL_law_1388 5 rfl ?_
        refine V_iconst (v := 1) F dL_law_1390 (by decide) ?_
        refine V_iadd F dL_law_1391 ?_
        refine V_gd (fun g360 => ?_)
        refine V_sld F X g360 dL_law_1392 ?_
        refine V_aload_n F dL_law_1393 rfl 3 rfl ?_
        refine V_lSX (As := [.ref v1, .int (xs (v5 + 1).toNatClampNeg), .ref v3]) (rest := []) (N := 3) F X (metL_formationMask (Fx_G F) (Fx_l F) v1 (xs (v5 + 1).toNatClampNeg) v3 μ) q833 q65 q831 q832 ⟨by decide +kernel, by decide +kernel, by decide +kernel⟩ rfl ⟨Nat.le_of_ble_eq_true rfl, Nat.le_of_ble_eq_true rfl⟩ (Nat.le_of_ble_eq_true rfl) dL_law_1394 (by have h9 : rmL_formationMask.cells = 1 := rfl; omega) (by have h9 : rmL_formationMask.slots = 6 := rfl; omega) (fun x362 μ361 => ?_)
        change V κ ρ (603072 - 10 * (f + 1) + 1) (7198826 - 60 * (f + 1) + 6) μ361 _ 1397 [(0, .ref b), (1, .ref v1), (2, .ref v2), (3, .ref v3), (4, .ref v4), (5, .int v5)] [.int x362]
        refine V_istore (lv' := [(6, .int x362), (0, .ref b), (1, .ref v1), (2, .ref v2), (3, .ref v3), (4, .ref v4), (5, .int v5)]) F dL_law_1397 (lt_L hNL (by decide)) rfl ?_
        refine V_aload_n F dL_law_1399 rfl 3 rfl ?_
        refine V_aload_n F dL_law_1400 rfl 1 rfl ?_
        refine V_iload F dL_law_1401 6 rfl ?_
        refine V_iconst (v := 1) F dL_law_1403 (by decide) ?_
        refine V_iadd F dL_law_1404 ?_
        refine V_gd (fun g363 => ?_)
        refine V_sld F X g363 dL_law_1405 ?_
        refine V_lV (As := [.int (xs (v5 + 1).toNatClampNeg)]) (rest := []) (C := RX8) (N := 1) F X (metX8_formationMask (Fx_G F) (Fx_l F) v2 (xs (v5 + 1).toNatClampNeg) μ361) rfl q1488 q72 q1485 q1486 q1487 ⟨by decide +kernel, by decide +kernel, by decide +kernel⟩ rfl ⟨Nat.le_of_ble_eq_true rfl, Nat.le_of_ble_eq_true rfl⟩ (Nat.le_of_ble_eq_true rfl) dL_law_1406 (by have h9 : rmX8_formationMask.cells = 0 := rfl; omega) (by have h9 : rmX8_formationMask.slots = 0 := rfl; omega) (fun x365 μ364 => ?_)
        change V κ ρ (603072 - 10 * (f + 1) + 1) (7198826 - 60 * (f + 1) + 6) μ364 _ 1409 [(6, .int x362), (0, .ref b), (1, .ref v1), (2, .ref v2), (3, .ref v3), (4, .ref v4), (5, .int v5)] [.long x365]
        refine V_lstore (lv' := [(7, .long x365), (6, .int x362), (0, .ref b), (1, .ref v1), (2, .ref v2), (3, .ref v3), (4, .ref v4), (5, .int v5)]) F dL_law_1409 (lt_L hNL (by decide)) rfl ?_
        refine V_aload_n F dL_law_1411 rfl 4 rfl ?_
        refine V_lV (As := []) (rest := []) (C := RX8) (N := 0) F X (metX8_thrown (Fx_G F) (Fx_l F) v2  μ364) rfl q1278 q72 q1275 q1276 q1277 ⟨by decide +kernel, by decide +kernel, by decide +kernel⟩ rfl ⟨Nat.le_of_ble_eq_true rfl, Nat.le_of_ble_eq_true rfl⟩ (Nat.le_of_ble_eq_true rfl) dL_law_1412 (by have h9 : rmX8_thrown.cells = 0 := rfl; omega) (by have h9 : rmX8_thrown.slots = 0 := rfl; omega) (fun x367 μ366 => ?_)
        change V κ ρ (603072 - 10 * (f + 1) + 1) (7198826 - 60 * (f + 1) + 6) μ366 _ 1415 [(7, .long x365), (6, .int x362), (0, .ref b), (1, .ref v1), (2, .ref v2), (3, .ref v3), (4, .ref v4), (5, .int v5)] [.int x367]
        refine V_iload F dL_law_1415 1 rfl ?_
        refine V_icmp_eq (tgt := 1422) F dL_law_1417 (by decide) (fun c368 => ?_) (fun c369 => ?_)
        · refine V_iload F dL_law_1422 1 rfl ?_
          refine V_if_ne (tgt := 1438) F dL_law_1424 (by decide) (fun c370 => ?_) (fun c371 => ?_)
          · refine V_goto (tgt := 2634) F dL_law_1438 (by decide) ?_
            refine V_iinc (lv' := [(5, .int (v5 + 4)), (7, .long x365), (6, .int x362), (0, .ref b), (1, .ref v1), (2, .ref v2), (3, .ref v3), (4, .ref v4)]) F dL_law_2634 7 rfl rfl (lt_L hNL (by decide)) rfl ?_
            refine V_goto (tgt := 28) F dL_law_2637 (by decide) ?_
            refine V_widen (k' := 603072 - 10 * f) (n' := 7198826 - 60 * f) (by omega) (by omega) ?_
            refine V_sub [3, 4, 5, 6, 7, 0] rfl ?_
            exact hk28 v1 v2 v3 v4 (v5 + 4) μ366
          · refine V_aload_n F dL_law_1427 rfl 5 rfl ?_
            refine V_iconst (v := 0) F dL_law_1428 (by decide) ?_
            refine V_aJ F dL_law_1429 (fun x372 => ?_)
            refine V_lload F dL_law_1430 0 rfl ?_
            refine V_lcmp F dL_law_1432 ?_
            refine V_if_eq (tgt := 1438) F dL_law_1433 (by decide) (fun c373 => ?_) (fun c374 => ?_)
            · refine V_goto (tgt := 2634) F dL_law_1438 (by decide) ?_
              refine V_iinc (lv' := [(5, .int (v5 + 4)), (7, .long x365), (6, .int x362), (0, .ref b), (1, .ref v1), (2, .ref v2), (3, .ref v3), (4, .ref v4)]) F dL_law_2634 7 rfl rfl (lt_L hNL (by decide)) rfl ?_
              refine V_goto (tgt := 28) F dL_law_2637 (by decide) ?_
              refine V_widen (k' := 603072 - 10 * f) (n' := 7198826 - 60 * f) (by omega) (by omega) ?_
              refine V_sub [3, 4, 5, 6, 7, 0] rfl ?_
              exact hk28 v1 v2 v3 v4 (v5 + 4) μ366
            · refine V_iconst (v := 0) F dL_law_1436 (by decide) ?_
              exact V_none
        · refine V_iconst (v := 0) F dL_law_1420 (by decide) ?_
          exact V_none
      refine V_case (z := 21) (tgt := 1441) F dL_law_44 (by decide) rfl (by decide) (fun c375 => ?_) (fun c376 => ?_)
      · refine V_aload_n F dL_law_1441 rfl 1 rfl ?_
        refine V_lV (As := []) (rest := []) (C := RX7) (N := 0) F X (metX7_occupiedMask (Fx_G F) (Fx_l F) v1  μ) rfl q309 q66 q306 q307 q308 ⟨by decide +kernel, by decide +kernel, by decide +kernel⟩ rfl ⟨Nat.le_of_ble_eq_true rfl, Nat.le_of_ble_eq_true rfl⟩ (Nat.le_of_ble_eq_true rfl) dL_law_1442 (by have h9 : rmX7_occupiedMask.cells = 0 := rfl; omega) (by have h9 : rmX7_occupiedMask.slots = 0 := rfl; omega) (fun x378 μ377 => ?_)
        change V κ ρ (603072 - 10 * (f + 1)) (7198826 - 60 * (f + 1)) μ377 _ 1445 [(0, .ref b), (1, .ref v1), (2, .ref v2), (3, .ref v3), (4, .ref v4), (5, .int v5)] [.long x378]
        refine V_aload_n F dL_law_1445 rfl 2 rfl ?_
        refine V_lV (As := []) (rest := [.long x378]) (C := RX8) (N := 0) F X (metX8_occupiedMask (Fx_G F) (Fx_l F) v2  μ377) rfl q1493 q72 q1490 q1491 q1492 ⟨by decide +kernel, by decide +kernel, by decide +kernel⟩ rfl ⟨Nat.le_of_ble_eq_true rfl, Nat.le_of_ble_eq_true rfl⟩ (Nat.le_of_ble_eq_true rfl) dL_law_1446 (by have h9 : rmX8_occupiedMask.cells = 0 := rfl; omega) (by have h9 : rmX8_occupiedMask.slots = 0 := rfl; omega) (fun x380 μ379 => ?_)
        change V κ ρ (603072 - 10 * (f + 1)) (7198826 - 60 * (f + 1)) μ379 _ 1449 [(0, .ref b), (1, .ref v1), (2, .ref v2), (3, .ref v3), (4, .ref v4), (5, .int v5)] [.long x380, .long x378]
        refine V_lcmp F dL_law_1449 ?_
        refine V_if_eq (tgt := 2634) F dL_law_1450 (by decide) (fun c381 => ?_) (fun c382 => ?_)
        · refine V_iinc (lv' := [(5, .int (v5 + 4)), (0, .ref b), (1, .ref v1), (2, .ref v2), (3, .ref v3), (4, .ref v4)]) F dL_law_2634 5 rfl rfl (lt_L hNL (by decide)) rfl ?_
          refine V_goto (tgt := 28) F dL_law_2637 (by decide) ?_
          refine V_widen (k' := 603072 - 10 * f) (n' := 7198826 - 60 * f) (by omega) (by omega) ?_
          refine V_sub [1, 2, 3, 4, 5, 0] rfl ?_
          exact hk28 v1 v2 v3 v4 (v5 + 4) μ379
        · refine V_iconst (v := 0) F dL_law_1453 (by decide) ?_
          exact V_none
      refine V_case (z := 22) (tgt := 1455) F dL_law_44 (by decide) rfl (by decide) (fun c383 => ?_) (fun c384 => ?_)
      · refine V_aload_n F dL_law_1455 rfl 1 rfl ?_
        refine V_aload_n F dL_law_1456 rfl 0 rfl ?_
        refine V_iload F dL_law_1457 5 rfl ?_
        refine V_iconst (v := 1) F dL_law_1459 (by decide) ?_
        refine V_iadd F dL_law_1460 ?_
        refine V_gd (fun g385 => ?_)
        refine V_sld F X g385 dL_law_1461 ?_
        refine V_aload_n F dL_law_1462 rfl 3 rfl ?_
        refine V_lSX (As := [.ref v1, .int (xs (v5 + 1).toNatClampNeg), .ref v3]) (rest := []) (N := 3) F X (metL_matchCount (Fx_G F) (Fx_l F) v1 (xs (v5 + 1).toNatClampNeg) v3 μ) q845 q65 q843 q844 ⟨by decide +kernel, by decide +kernel, by decide +kernel⟩ rfl ⟨Nat.le_of_ble_eq_true rfl, Nat.le_of_ble_eq_true rfl⟩ (Nat.le_of_ble_eq_true rfl) dL_law_1463 (by have h9 : rmL_matchCount.cells = 1 := rfl; omega) (by have h9 : rmL_matchCount.slots = 6 := rfl; omega) (fun x387 μ386 => ?_)
        change V κ ρ (603072 - 10 * (f + 1) + 1) (7198826 - 60 * (f + 1) + 6) μ386 _ 1466 [(0, .ref b), (1, .ref v1), (2, .ref v2), (3, .ref v3), (4, .ref v4), (5, .int v5)] [.int x387]
        refine V_istore (lv' := [(6, .int x387), (0, .ref b), (1, .ref v1), (2, .ref v2), (3, .ref v3), (4, .ref v4), (5, .int v5)]) F dL_law_1466 (lt_L hNL (by decide)) rfl ?_
        refine V_aload_n F dL_law_1468 rfl 3 rfl ?_
        refine V_aload_n F dL_law_1469 rfl 1 rfl ?_
        refine V_iload F dL_law_1470 6 rfl ?_
        refine V_iconst (v := 1) F dL_law_1472 (by decide) ?_
        refine V_iadd F dL_law_1473 ?_
        refine V_gd (fun g388 => ?_)
        refine V_sld F X g388 dL_law_1474 ?_
        refine V_lV (As := [.int (xs (v5 + 1).toNatClampNeg)]) (rest := []) (C := RX8) (N := 1) F X (metX8_matchCount (Fx_G F) (Fx_l F) v2 (xs (v5 + 1).toNatClampNeg) μ386) rfl q1497 q72 q1494 q1495 q1496 ⟨by decide +kernel, by decide +kernel, by decide +kernel⟩ rfl ⟨Nat.le_of_ble_eq_true rfl, Nat.le_of_ble_eq_true rfl⟩ (Nat.le_of_ble_eq_true rfl) dL_law_1475 (by have h9 : rmX8_matchCount.cells = 0 := rfl; omega) (by have h9 : rmX8_matchCount.slots = 0 := rfl; omega) (fun x390 μ389 => ?_)
        change V κ ρ (603072 - 10 * (f + 1) + 1) (7198826 - 60 * (f + 1) + 6) μ389 _ 1478 [(6, .int x387), (0, .ref b), (1, .ref v1), (2, .ref v2), (3, .ref v3), (4, .ref v4), (5, .int v5)] [.int x390]
        refine V_istore (lv' := [(7, .int x390), (6, .int x387), (0, .ref b), (1, .ref v1), (2, .ref v2), (3, .ref v3), (4, .ref v4), (5, .int v5)]) F dL_law_1478 (lt_L hNL (by decide)) rfl ?_
        refine V_aload_n F dL_law_1480 rfl 4 rfl ?_
        refine V_lV (As := []) (rest := []) (C := RX8) (N := 0) F X (metX8_thrown (Fx_G F) (Fx_l F) v2  μ389) rfl q1278 q72 q1275 q1276 q1277 ⟨by decide +kernel, by decide +kernel, by decide +kernel⟩ rfl ⟨Nat.le_of_ble_eq_true rfl, Nat.le_of_ble_eq_true rfl⟩ (Nat.le_of_ble_eq_true rfl) dL_law_1481 (by have h9 : rmX8_thrown.cells = 0 := rfl; omega) (by have h9 : rmX8_thrown.slots = 0 := rfl; omega) (fun x392 μ391 => ?_)
        change V κ ρ (603072 - 10 * (f + 1) + 1) (7198826 - 60 * (f + 1) + 6) μ391 _ 1484 [(7, .int x390), (6, .int x387), (0, .ref b), (1, .ref v1), (2, .ref v2), (3, .ref v3), (4, .ref v4), (5, .int v5)] [.int x392]
        refine V_iload F dL_law_1484 1 rfl ?_
        refine V_icmp_eq (tgt := 1491) F dL_law_1486 (by decide) (fun c393 => ?_) (fun c394 => ?_)
        · refine V_iload F dL_law_1491 1 rfl ?_
          refine V_if_ne (tgt := 1508) F dL_law_1493 (by decide) (fun c395 => ?_) (fun c396 => ?_)
          · refine V_goto (tgt := 2634) F dL_law_1508 (by decide) ?_
            refine V_iinc (lv' := [(5, .int (v5 + 4)), (7, .int x390), (6, .int x387), (0, .ref b), (1, .ref v1), (2, .ref v2), (3, .ref v3), (4, .ref v4)]) F dL_law_2634 7 rfl rfl (lt_L hNL (by decide)) rfl ?_
            refine V_goto (tgt := 28) F dL_law_2637 (by decide) ?_
            refine V_widen (k' := 603072 - 10 * f) (n' := 7198826 - 60 * f) (by omega) (by omega) ?_
            refine V_sub [3, 4, 5, 6, 7, 0] rfl ?_
            exact hk28 v1 v2 v3 v4 (v5 + 4) μ391
          · refine V_aload_n F dL_law_1496 rfl 5 rfl ?_
            refine V_iconst (v := 0) F dL_law_1497 (by decide) ?_
            refine V_aJ F dL_law_1498 (fun x397 => ?_)
            refine V_iload F dL_law_1499 0 rfl ?_
            refine V_i2l F dL_law_1501 ?_
            refine V_lcmp F dL_law_1502 ?_
            refine V_if_eq (tgt := 1508) F dL_law_1503 (by decide) (fun c398 => ?_) (fun c399 => ?_)
            · refine V_goto (tgt := 2634) F dL_law_1508 (by decide) ?_
              refine V_iinc (lv' := [(5, .int (v5 + 4)), (7, .int x390), (6, .int x387), (0, .ref b), (1, .ref v1), (2, .ref v2), (3, .ref v3), (4, .ref v4)]) F dL_law_2634 7 rfl rfl (lt_L hNL (by decide)) rfl ?_
              refine V_goto (tgt := 28) F dL_law_2637 (by decide) ?_
              refine V_widen (k' := 603072 - 10 * f) (n' := 7198826 - 60 * f) (by omega) (by omega) ?_
              refine V_sub [3, 4, 5, 6, 7, 0] rfl ?_
              exact hk28 v1 v2 v3 v4 (v5 + 4) μ391
            · refine V_iconst (v := 0) F dL_law_1506 (by decide) ?_
              exact V_none
        · refine V_iconst (v := 0) F dL_law_1489 (by decide) ?_
          exact V_none
      refine V_case (z := 23) (tgt := 1511) F dL_law_44 (by decide) rfl (by decide) (fun c400 => ?_) (fun c401 => ?_)
      · refine V_aload_n F dL_law_1511 rfl 1 rfl ?_
        refine V_aload_n F dL_law_1512 rfl 0 rfl ?_
        refine V_iload F dL_law_1513 5 rfl ?_
        refine V_iconst (v := 1) F dL_law_1515 (by decide) ?_
        refine V_iadd F dL_law_1516 ?_
        refine V_gd (fun g402 => ?_)
        refine V_sld F X g402 dL_law_1517 ?_
        refine V_aload_n F dL_law_1518 rfl 3 rfl ?_
        refine V_lSX (As := [.ref v1, .int (xs (v5 + 1).toNatClampNeg), .ref v3]) (rest := []) (N := 3) F X (metL_matchCountByScan (Fx_G F) (Fx_l F) v1 (xs (v5 + 1).toNatClampNeg) v3 μ) q852 q65 q850 q851 ⟨by decide +kernel, by decide +kernel, by decide +kernel⟩ rfl ⟨Nat.le_of_ble_eq_true rfl, Nat.le_of_ble_eq_true rfl⟩ (Nat.le_of_ble_eq_true rfl) dL_law_1519 (by have h9 : rmL_matchCountByScan.cells = 1 := rfl; omega) (by have h9 : rmL_matchCountByScan.slots = 6 := rfl; omega) (fun x404 μ403 => ?_)
        change V κ ρ (603072 - 10 * (f + 1) + 1) (7198826 - 60 * (f + 1) + 6) μ403 _ 1522 [(0, .ref b), (1, .ref v1), (2, .ref v2), (3, .ref v3), (4, .ref v4), (5, .int v5)] [.int x404]
        refine V_istore (lv' := [(6, .int x404), (0, .ref b), (1, .ref v1), (2, .ref v2), (3, .ref v3), (4, .ref v4), (5, .int v5)]) F dL_law_1522 (lt_L hNL (by decide)) rfl ?_
        refine V_aload_n F dL_law_1524 rfl 3 rfl ?_
        refine V_aload_n F dL_law_1525 rfl 1 rfl ?_
        refine V_iload F dL_law_1526 6 rfl ?_
        refine V_iconst (v := 1) F dL_law_1528 (by decide) ?_
        refine V_iadd F dL_law_1529 ?_
        refine V_gd (fun g405 => ?_)
        refine V_sld F X g405 dL_law_1530 ?_
        refine V_lV (As := [.int (xs (v5 + 1).toNatClampNeg)]) (rest := []) (C := RX8) (N := 1) F X (metX8_matchCountByScan (Fx_G F) (Fx_l F) v2 (xs (v5 + 1).toNatClampNeg) μ403) rfl q1505 q72 q1502 q1503 q1504 ⟨by decide +kernel, by decide +kernel, by decide +kernel⟩ rfl ⟨Nat.le_of_ble_eq_true rfl, Nat.le_of_ble_eq_true rfl⟩ (Nat.le_of_ble_eq_true rfl) dL_law_1531 (by have h9 : rmX8_matchCountByScan.cells = 0 := rfl; omega) (by have h9 : rmX8_matchCountByScan.slots = 0 := rfl; omega) (fun x407 μ406 => ?_)
        change V κ ρ (603072 - 10 * (f + 1) + 1) (7198826 - 60 * (f + 1) + 6) μ406 _ 1534 [(6, .int x404), (0, .ref b), (1, .ref v1), (2, .ref v2), (3, .ref v3), (4, .ref v4), (5, .int v5)] [.int x407]
        refine V_istore (lv' := [(7, .int x407), (6, .int x404), (0, .ref b), (1, .ref v1), (2, .ref v2), (3, .ref v3), (4, .ref v4), (5, .int v5)]) F dL_law_1534 (lt_L hNL (by decide)) rfl ?_
        refine V_aload_n F dL_law_1536 rfl 4 rfl ?_
        refine V_lV (As := []) (rest := []) (C := RX8) (N := 0) F X (metX8_thrown (Fx_G F) (Fx_l F) v2  μ406) rfl q1278 q72 q1275 q1276 q1277 ⟨by decide +kernel, by decide +kernel, by decide +kernel⟩ rfl ⟨Nat.le_of_ble_eq_true rfl, Nat.le_of_ble_eq_true rfl⟩ (Nat.le_of_ble_eq_true rfl) dL_law_1537 (by have h9 : rmX8_thrown.cells = 0 := rfl; omega) (by have h9 : rmX8_thrown.slots = 0 := rfl; omega) (fun x409 μ408 => ?_)
        change V κ ρ (603072 - 10 * (f + 1) + 1) (7198826 - 60 * (f + 1) + 6) μ408 _ 1540 [(7, .int x407), (6, .int x404), (0, .ref b), (1, .ref v1), (2, .ref v2), (3, .ref v3), (4, .ref v4), (5, .int v5)] [.int x409]
        refine V_iload F dL_law_1540 1 rfl ?_
        refine V_icmp_eq (tgt := 1547) F dL_law_1542 (by decide) (fun c410 => ?_) (fun c411 => ?_)
        · refine V_iload F dL_law_1547 1 rfl ?_
          refine V_if_ne (tgt := 1564) F dL_law_1549 (by decide) (fun c412 => ?_) (fun c413 => ?_)
          · refine V_goto (tgt := 2634) F dL_law_1564 (by decide) ?_
            refine V_iinc (lv' := [(5, .int (v5 + 4)), (7, .int x407), (6, .int x404), (0, .ref b), (1, .ref v1), (2, .ref v2), (3, .ref v3), (4, .ref v4)]) F dL_law_2634 7 rfl rfl (lt_L hNL (by decide)) rfl ?_
            refine V_goto (tgt := 28) F dL_law_2637 (by decide) ?_
            refine V_widen (k' := 603072 - 10 * f) (n' := 7198826 - 60 * f) (by omega) (by omega) ?_
            refine V_sub [3, 4, 5, 6, 7, 0] rfl ?_
            exact hk28 v1 v2 v3 v4 (v5 + 4) μ408
          · refine V_aload_n F dL_law_1552 rfl 5 rfl ?_
            refine V_iconst (v := 0) F dL_law_1553 (by decide) ?_
            refine V_aJ F dL_law_1554 (fun x414 => ?_)
            refine V_iload F dL_law_1555 0 rfl ?_
            refine V_i2l F dL_law_1557 ?_
            refine V_lcmp F dL_law_1558 ?_
            refine V_if_eq (tgt := 1564) F dL_law_1559 (by decide) (fun c415 => ?_) (fun c416 => ?_)
            · refine V_goto (tgt := 2634) F dL_law_1564 (by decide) ?_
              refine V_iinc (lv' := [(5, .int (v5 + 4)), (7, .int x407), (6, .int x404), (0, .ref b), (1, .ref v1), (2, .ref v2), (3, .ref v3), (4, .ref v4)]) F dL_law_2634 7 rfl rfl (lt_L hNL (by decide)) rfl ?_
              refine V_goto (tgt := 28) F dL_law_2637 (by decide) ?_
              refine V_widen (k' := 603072 - 10 * f) (n' := 7198826 - 60 * f) (by omega) (by omega) ?_
              refine V_sub [3, 4, 5, 6, 7, 0] rfl ?_
              exact hk28 v1 v2 v3 v4 (v5 + 4) μ408
            · refine V_iconst (v := 0) F dL_law_1562 (by decide) ?_
              exact V_none
        · refine V_iconst (v := 0) F dL_law_1545 (by decide) ?_
          exact V_none
      refine V_case (z := 24) (tgt := 1567) F dL_law_44 (by decide) rfl (by decide) (fun c417 => ?_) (fun c418 => ?_)
      · refine V_aload_n F dL_law_1567 rfl 1 rfl ?_
        refine V_aload_n F dL_law_1568 rfl 0 rfl ?_
        refine V_iload F dL_law_1569 5 rfl ?_
        refine V_iconst (v := 1) F dL_law_1571 (by decide) ?_
        refine V_iadd F dL_law_1572 ?_
        refine V_gd (fun g419 => ?_)
        refine V_sld F X g419 dL_law_1573 ?_
        refine V_aload F dL_law_1574 4 rfl ?_
        refine V_lSX (As := [.ref v1, .int (xs (v5 + 1).toNatClampNeg), .ref v4]) (rest := []) (N := 3) F X (metL_coverage (Fx_G F) (Fx_l F) v1 (xs (v5 + 1).toNatClampNeg) v4 μ) q859 q65 q857 q858 ⟨by decide +kernel, by decide +kernel, by decide +kernel⟩ rfl ⟨Nat.le_of_ble_eq_true rfl, Nat.le_of_ble_eq_true rfl⟩ (Nat.le_of_ble_eq_true rfl) dL_law_1576 (by have h9 : rmL_coverage.cells = 2 := rfl; omega) (by have h9 : rmL_coverage.slots = 12 := rfl; omega) (fun x421 μ420 => ?_)
        change V κ ρ (603072 - 10 * (f + 1) + 2) (7198826 - 60 * (f + 1) + 12) μ420 _ 1579 [(0, .ref b), (1, .ref v1), (2, .ref v2), (3, .ref v3), (4, .ref v4), (5, .int v5)] [.int x421]
        refine V_istore (lv' := [(6, .int x421), (0, .ref b), (1, .ref v1), (2, .ref v2), (3, .ref v3), (4, .ref v4), (5, .int v5)]) F dL_law_1579 (lt_L hNL (by decide)) rfl ?_
        refine V_aload_n F dL_law_1581 rfl 3 rfl ?_
        refine V_aload_n F dL_law_1582 rfl 1 rfl ?_
        refine V_iload F dL_law_1583 6 rfl ?_
        refine V_iconst (v := 1) F dL_law_1585 (by decide) ?_
        refine V_iadd F dL_law_1586 ?_
        refine V_gd (fun g422 => ?_)
        refine V_sld F X g422 dL_law_1587 ?_
        refine V_lV (As := [.int (xs (v5 + 1).toNatClampNeg)]) (rest := []) (C := RX8) (N := 1) F X (metX8_coverage (Fx_G F) (Fx_l F) v2 (xs (v5 + 1).toNatClampNeg) μ420) rfl q1510 q72 q1507 q1508 q1509 ⟨by decide +kernel, by decide +kernel, by decide +kernel⟩ rfl ⟨Nat.le_of_ble_eq_true rfl, Nat.le_of_ble_eq_true rfl⟩ (Nat.le_of_ble_eq_true rfl) dL_law_1588 (by have h9 : rmX8_coverage.cells = 0 := rfl; omega) (by have h9 : rmX8_coverage.slots = 0 := rfl; omega) (fun x424 μ423 => ?_)
        change V κ ρ (603072 - 10 * (f + 1) + 2) (7198826 - 60 * (f + 1) + 12) μ423 _ 1591 [(6, .int x421), (0, .ref b), (1, .ref v1), (2, .ref v2), (3, .ref v3), (4, .ref v4), (5, .int v5)] [.float x424]
        refine V_fstore (lv' := [(7, .float x424), (6, .int x421), (0, .ref b), (1, .ref v1), (2, .ref v2), (3, .ref v3), (4, .ref v4), (5, .int v5)]) F dL_law_1591 (lt_L hNL (by decide)) rfl ?_
        refine V_aload_n F dL_law_1593 rfl 4 rfl ?_
        refine V_lV (As := []) (rest := []) (C := RX8) (N := 0) F X (metX8_thrown (Fx_G F) (Fx_l F) v2  μ423) rfl q1278 q72 q1275 q1276 q1277 ⟨by decide +kernel, by decide +kernel, by decide +kernel⟩ rfl ⟨Nat.le_of_ble_eq_true rfl, Nat.le_of_ble_eq_true rfl⟩ (Nat.le_of_ble_eq_true rfl) dL_law_1594 (by have h9 : rmX8_thrown.cells = 0 := rfl; omega) (by have h9 : rmX8_thrown.slots = 0 := rfl; omega) (fun x426 μ425 => ?_)
        change V κ ρ (603072 - 10 * (f + 1) + 2) (7198826 - 60 * (f + 1) + 12) μ425 _ 1597 [(7, .float x424), (6, .int x421), (0, .ref b), (1, .ref v1), (2, .ref v2), (3, .ref v3), (4, .ref v4), (5, .int v5)] [.int x426]
        refine V_iload F dL_law_1597 1 rfl ?_
        refine V_icmp_eq (tgt := 1604) F dL_law_1599 (by decide) (fun c427 => ?_) (fun c428 => ?_)
        · refine V_iload F dL_law_1604 1 rfl ?_
          refine V_if_ne (tgt := 1642) F dL_law_1606 (by decide) (fun c429 => ?_) (fun c430 => ?_)
          · refine V_goto (tgt := 2634) F dL_law_1642 (by decide) ?_
            refine V_iinc (lv' := [(5, .int (v5 + 4)), (7, .float x424), (6, .int x421), (0, .ref b), (1, .ref v1), (2, .ref v2), (3, .ref v3), (4, .ref v4)]) F dL_law_2634 7 rfl rfl (lt_L hNL (by decide)) rfl ?_
            refine V_goto (tgt := 28) F dL_law_2637 (by decide) ?_
            refine V_widen (k' := 603072 - 10 * f) (n' := 7198826 - 60 * f) (by omega) (by omega) ?_
            refine V_sub [3, 4, 5, 6, 7, 0] rfl ?_
            exact hk28 v1 v2 v3 v4 (v5 + 4) μ425
          · refine V_aload F dL_law_1609 6 rfl ?_
            refine V_iconst (v := 0) F dL_law_1611 (by decide) ?_
            refine V_aD F dL_law_1612 (fun x431 => ?_)
            refine V_fload F dL_law_1613 0 rfl ?_
            refine V_gd (fun g432 => ?_)
            refine V_f2d F dL_law_1615 g432 ?_
            refine V_dcmp F dL_law_1616 ?_
            refine V_if_eq (tgt := 1642) F dL_law_1617 (by decide) (fun c433 => ?_) (fun c434 => ?_)
            · refine V_goto (tgt := 2634) F dL_law_1642 (by decide) ?_
              refine V_iinc (lv' := [(5, .int (v5 + 4)), (7, .float x424), (6, .int x421), (0, .ref b), (1, .ref v1), (2, .ref v2), (3, .ref v3), (4, .ref v4)]) F dL_law_2634 7 rfl rfl (lt_L hNL (by decide)) rfl ?_
              refine V_goto (tgt := 28) F dL_law_2637 (by decide) ?_
              refine V_widen (k' := 603072 - 10 * f) (n' := 7198826 - 60 * f) (by omega) (by omega) ?_
              refine V_sub [3, 4, 5, 6, 7, 0] rfl ?_
              exact hk28 v1 v2 v3 v4 (v5 + 4) μ425
            · refine V_aload F dL_law_1620 6 rfl ?_
              refine V_iconst (v := 0) F dL_law_1622 (by decide) ?_
              refine V_aD F dL_law_1623 (fun x435 => ?_)
              refine V_aload F dL_law_1624 6 rfl ?_
              refine V_iconst (v := 0) F dL_law_1626 (by decide) ?_
              refine V_aD F dL_law_1627 (fun x436 => ?_)
              refine V_dcmp F dL_law_1628 ?_
              refine V_if_eq (tgt := 1640) F dL_law_1629 (by decide) (fun c437 => ?_) (fun c438 => ?_)
              · refine V_iconst (v := 0) F dL_law_1640 (by decide) ?_
                exact V_none
              · refine V_fload F dL_law_1632 0 rfl ?_
                refine V_fload F dL_law_1634 0 rfl ?_
                refine V_fcmp F dL_law_1636 ?_
                refine V_if_ne (tgt := 1642) F dL_law_1637 (by decide) (fun c439 => ?_) (fun c440 => ?_)
                · refine V_goto (tgt := 2634) F dL_law_1642 (by decide) ?_
                  refine V_iinc (lv' := [(5, .int (v5 + 4)), (7, .float x424), (6, .int x421), (0, .ref b), (1, .ref v1), (2, .ref v2), (3, .ref v3), (4, .ref v4)]) F dL_law_2634 7 rfl rfl (lt_L hNL (by decide)) rfl ?_
                  refine V_goto (tgt := 28) F dL_law_2637 (by decide) ?_
                  refine V_widen (k' := 603072 - 10 * f) (n' := 7198826 - 60 * f) (by omega) (by omega) ?_
                  refine V_sub [3, 4, 5, 6, 7, 0] rfl ?_
                  exact hk28 v1 v2 v3 v4 (v5 + 4) μ425
                · refine V_iconst (v := 0) F dL_law_1640 (by decide) ?_
                  exact V_none
        · refine V_iconst (v := 0) F dL_law_1602 (by decide) ?_
          exact V_none
      refine V_case (z := 25) (tgt := 1645) F dL_law_44 (by decide) rfl (by decide) (fun c441 => ?_) (fun c442 => ?_)
      · refine V_aload_n F dL_law_1645 rfl 1 rfl ?_
        refine V_aload_n F dL_law_1646 rfl 0 rfl ?_
        refine V_iload F dL_law_1647 5 rfl ?_
        refine V_iconst (v := 1) F dL_law_1649 (by decide) ?_
        refine V_iadd F dL_law_1650 ?_
        refine V_gd (fun g443 => ?_)
        refine V_sld F X g443 dL_law_1651 ?_
        refine V_aload_n F dL_law_1652 rfl 3 rfl ?_
        refine V_lSX (As := [.ref v1, .int (xs (v5 + 1).toNatClampNeg), .ref v3]) (rest := []) (N := 3) F X (metL_advance (Fx_G F) (Fx_l F) v1 (xs (v5 + 1).toNatClampNeg) v3 μ) q883 q65 q881 q882 ⟨by decide +kernel, by decide +kernel, by decide +kernel⟩ rfl ⟨Nat.le_of_ble_eq_true rfl, Nat.le_of_ble_eq_true rfl⟩ (Nat.le_of_ble_eq_true rfl) dL_law_1653 (by have h9 : rmL_advance.cells = 1 := rfl; omega) (by have h9 : rmL_advance.slots = 6 := rfl; omega) (fun x445 μ444 => ?_)
        change V κ ρ (603072 - 10 * (f + 1) + 1) (7198826 - 60 * (f + 1) + 6) μ444 _ 1656 [(0, .ref b), (1, .ref v1), (2, .ref v2), (3, .ref v3), (4, .ref v4), (5, .int v5)] [.int x445]
        refine V_istore (lv' := [(6, .int x445), (0, .ref b), (1, .ref v1), (2, .ref v2), (3, .ref v3), (4, .ref v4), (5, .int v5)]) F dL_law_1656 (lt_L hNL (by decide)) rfl ?_
        refine V_aload_n F dL_law_1658 rfl 3 rfl ?_
        refine V_aload_n F dL_law_1659 rfl 1 rfl ?_
        refine V_iload F dL_law_1660 6 rfl ?_
        refine V_iconst (v := 1) F dL_law_1662 (by decide) ?_
        refine V_iadd F dL_law_1663 ?_
        refine V_gd (fun g446 => ?_)
        refine V_sld F X g446 dL_law_1664 ?_
        refine V_lV (As := [.int (xs (v5 + 1).toNatClampNeg)]) (rest := []) (C := RX8) (N := 1) F X (metX8_advance (Fx_G F) (Fx_l F) v2 (xs (v5 + 1).toNatClampNeg) μ444) rfl q1514 q72 q1511 q1512 q1513 ⟨by decide +kernel, by decide +kernel, by decide +kernel⟩ rfl ⟨Nat.le_of_ble_eq_true rfl, Nat.le_of_ble_eq_true rfl⟩ (Nat.le_of_ble_eq_true rfl) dL_law_1665 (by have h9 : rmX8_advance.cells = 0 := rfl; omega) (by have h9 : rmX8_advance.slots = 0 := rfl; omega) (fun x448 μ447 => ?_)
        change V κ ρ (603072 - 10 * (f + 1) + 1) (7198826 - 60 * (f + 1) + 6) μ447 _ 1668 [(6, .int x445), (0, .ref b), (1, .ref v1), (2, .ref v2), (3, .ref v3), (4, .ref v4), (5, .int v5)] [.int x448]
        refine V_istore (lv' := [(7, .int x448), (6, .int x445), (0, .ref b), (1, .ref v1), (2, .ref v2), (3, .ref v3), (4, .ref v4), (5, .int v5)]) F dL_law_1668 (lt_L hNL (by decide)) rfl ?_
        refine V_aload_n F dL_law_1670 rfl 4 rfl ?_
        refine V_lV (As := []) (rest := []) (C := RX8) (N := 0) F X (metX8_thrown (Fx_G F) (Fx_l F) v2  μ447) rfl q1278 q72 q1275 q1276 q1277 ⟨by decide +kernel, by decide +kernel, by decide +kernel⟩ rfl ⟨Nat.le_of_ble_eq_true rfl, Nat.le_of_ble_eq_true rfl⟩ (Nat.le_of_ble_eq_true rfl) dL_law_1671 (by have h9 : rmX8_thrown.cells = 0 := rfl; omega) (by have h9 : rmX8_thrown.slots = 0 := rfl; omega) (fun x450 μ449 => ?_)
        change V κ ρ (603072 - 10 * (f + 1) + 1) (7198826 - 60 * (f + 1) + 6) μ449 _ 1674 [(7, .int x448), (6, .int x445), (0, .ref b), (1, .ref v1), (2, .ref v2), (3, .ref v3), (4, .ref v4), (5, .int v5)] [.int x450]
        refine V_iload F dL_law_1674 1 rfl ?_
        refine V_icmp_eq (tgt := 1681) F dL_law_1676 (by decide) (fun c451 => ?_) (fun c452 => ?_)
        · refine V_iload F dL_law_1681 1 rfl ?_
          refine V_if_ne (tgt := 1698) F dL_law_1683 (by decide) (fun c453 => ?_) (fun c454 => ?_)
          · refine V_goto (tgt := 2634) F dL_law_1698 (by decide) ?_
            refine V_iinc (lv' := [(5, .int (v5 + 4)), (7, .int x448), (6, .int x445), (0, .ref b), (1, .ref v1), (2, .ref v2), (3, .ref v3), (4, .ref v4)]) F dL_law_2634 7 rfl rfl (lt_L hNL (by decide)) rfl ?_
            refine V_goto (tgt := 28) F dL_law_2637 (by decide) ?_
            refine V_widen (k' := 603072 - 10 * f) (n' := 7198826 - 60 * f) (by omega) (by omega) ?_
            refine V_sub [3, 4, 5, 6, 7, 0] rfl ?_
            exact hk28 v1 v2 v3 v4 (v5 + 4) μ449
          · refine V_aload_n F dL_law_1686 rfl 5 rfl ?_
            refine V_iconst (v := 0) F dL_law_1687 (by decide) ?_
            refine V_aJ F dL_law_1688 (fun x455 => ?_)
            refine V_iload F dL_law_1689 0 rfl ?_
            refine V_i2l F dL_law_1691 ?_
            refine V_lcmp F dL_law_1692 ?_
            refine V_if_eq (tgt := 1698) F dL_law_1693 (by decide) (fun c456 => ?_) (fun c457 => ?_)
            · refine V_goto (tgt := 2634) F dL_law_1698 (by decide) ?_
              refine V_iinc (lv' := [(5, .int (v5 + 4)), (7, .int x448), (6, .int x445), (0, .ref b), (1, .ref v1), (2, .ref v2), (3, .ref v3), (4, .ref v4)]) F dL_law_2634 7 rfl rfl (lt_L hNL (by decide)) rfl ?_
              refine V_goto (tgt := 28) F dL_law_2637 (by decide) ?_
              refine V_widen (k' := 603072 - 10 * f) (n' := 7198826 - 60 * f) (by omega) (by omega) ?_
              refine V_sub [3, 4, 5, 6, 7, 0] rfl ?_
              exact hk28 v1 v2 v3 v4 (v5 + 4) μ449
            · refine V_iconst (v := 0) F dL_law_1696 (by decide) ?_
              exact V_none
        · refine V_iconst (v := 0) F dL_law_1679 (by decide) ?_
          exact V_none
      refine V_case (z := 26) (tgt := 1701) F dL_law_44 (by decide) rfl (by decide) (fun c458 => ?_) (fun c459 => ?_)
      · refine V_aload_n F dL_law_1701 rfl 1 rfl ?_
        refine V_lV (As := []) (rest := []) (C := RX7) (N := 0) F X (metX7_now (Fx_G F) (Fx_l F) v1  μ) rfl q317 q66 q314 q315 q316 ⟨by decide +kernel, by decide +kernel, by decide +kernel⟩ rfl ⟨Nat.le_of_ble_eq_true rfl, Nat.le_of_ble_eq_true rfl⟩ (Nat.le_of_ble_eq_true rfl) dL_law_1702 (by have h9 : rmX7_now.cells = 0 := rfl; omega) (by have h9 : rmX7_now.slots = 0 := rfl; omega) (fun x461 μ460 => ?_)
        change V κ ρ (603072 - 10 * (f + 1)) (7198826 - 60 * (f + 1)) μ460 _ 1705 [(0, .ref b), (1, .ref v1), (2, .ref v2), (3, .ref v3), (4, .ref v4), (5, .int v5)] [.int x461]
        refine V_aload_n F dL_law_1705 rfl 2 rfl ?_
        refine V_lV (As := []) (rest := [.int x461]) (C := RX8) (N := 0) F X (metX8_now (Fx_G F) (Fx_l F) v2  μ460) rfl q1560 q72 q1557 q1558 q1559 ⟨by decide +kernel, by decide +kernel, by decide +kernel⟩ rfl ⟨Nat.le_of_ble_eq_true rfl, Nat.le_of_ble_eq_true rfl⟩ (Nat.le_of_ble_eq_true rfl) dL_law_1706 (by have h9 : rmX8_now.cells = 0 := rfl; omega) (by have h9 : rmX8_now.slots = 0 := rfl; omega) (fun x463 μ462 => ?_)
        change V κ ρ (603072 - 10 * (f + 1)) (7198826 - 60 * (f + 1)) μ462 _ 1709 [(0, .ref b), (1, .ref v1), (2, .ref v2), (3, .ref v3), (4, .ref v4), (5, .int v5)] [.int x463, .int x461]
        refine V_icmp_eq (tgt := 2634) F dL_law_1709 (by decide) (fun c464 => ?_) (fun c465 => ?_)
        · refine V_iinc (lv' := [(5, .int (v5 + 4)), (0, .ref b), (1, .ref v1), (2, .ref v2), (3, .ref v3), (4, .ref v4)]) F dL_law_2634 5 rfl rfl (lt_L hNL (by decide)) rfl ?_
          refine V_goto (tgt := 28) F dL_law_2637 (by decide) ?_
          refine V_widen (k' := 603072 - 10 * f) (n' := 7198826 - 60 * f) (by omega) (by omega) ?_
          refine V_sub [1, 2, 3, 4, 5, 0] rfl ?_
          exact hk28 v1 v2 v3 v4 (v5 + 4) μ462
        · refine V_iconst (v := 0) F dL_law_1712 (by decide) ?_
          exact V_none
      refine V_case (z := 27) (tgt := 1714) F dL_law_44 (by decide) rfl (by decide) (fun c466 => ?_) (fun c467 => ?_)
      · refine V_aload_n F dL_law_1714 rfl 1 rfl ?_
        refine V_aload_n F dL_law_1715 rfl 0 rfl ?_
        refine V_iload F dL_law_1716 5 rfl ?_
        refine V_iconst (v := 1) F dL_law_1718 (by decide) ?_
        refine V_iadd F dL_law_1719 ?_
        refine V_gd (fun g468 => ?_)
        refine V_sld F X g468 dL_law_1720 ?_
        refine V_aload_n F dL_law_1721 rfl 3 rfl ?_
        refine V_lSX (As := [.ref v1, .int (xs (v5 + 1).toNatClampNeg), .ref v3]) (rest := []) (N := 3) F X (metL_wantedCell (Fx_G F) (Fx_l F) v1 (xs (v5 + 1).toNatClampNeg) v3 μ) q936 q65 q934 q935 ⟨by decide +kernel, by decide +kernel, by decide +kernel⟩ rfl ⟨Nat.le_of_ble_eq_true rfl, Nat.le_of_ble_eq_true rfl⟩ (Nat.le_of_ble_eq_true rfl) dL_law_1722 (by have h9 : rmL_wantedCell.cells = 2 := rfl; omega) (by have h9 : rmL_wantedCell.slots = 12 := rfl; omega) (fun x470 μ469 => ?_)
        change V κ ρ (603072 - 10 * (f + 1) + 2) (7198826 - 60 * (f + 1) + 12) μ469 _ 1725 [(0, .ref b), (1, .ref v1), (2, .ref v2), (3, .ref v3), (4, .ref v4), (5, .int v5)] [.int x470]
        refine V_istore (lv' := [(6, .int x470), (0, .ref b), (1, .ref v1), (2, .ref v2), (3, .ref v3), (4, .ref v4), (5, .int v5)]) F dL_law_1725 (lt_L hNL (by decide)) rfl ?_
        refine V_aload_n F dL_law_1727 rfl 3 rfl ?_
        refine V_aload_n F dL_law_1728 rfl 1 rfl ?_
        refine V_iload F dL_law_1729 6 rfl ?_
        refine V_iconst (v := 1) F dL_law_1731 (by decide) ?_
        refine V_iadd F dL_law_1732 ?_
        refine V_gd (fun g471 => ?_)
        refine V_sld F X g471 dL_law_1733 ?_
        refine V_lV (As := [.int (xs (v5 + 1).toNatClampNeg)]) (rest := []) (C := RX8) (N := 1) F X (metX8_wantedCell (Fx_G F) (Fx_l F) v2 (xs (v5 + 1).toNatClampNeg) μ469) rfl q1564 q72 q1561 q1562 q1563 ⟨by decide +kernel, by decide +kernel, by decide +kernel⟩ rfl ⟨Nat.le_of_ble_eq_true rfl, Nat.le_of_ble_eq_true rfl⟩ (Nat.le_of_ble_eq_true rfl) dL_law_1734 (by have h9 : rmX8_wantedCell.cells = 0 := rfl; omega) (by have h9 : rmX8_wantedCell.slots = 0 := rfl; omega) (fun x473 μ472 => ?_)
        change V κ ρ (603072 - 10 * (f + 1) + 2) (7198826 - 60 * (f + 1) + 12) μ472 _ 1737 [(6, .int x470), (0, .ref b), (1, .ref v1), (2, .ref v2), (3, .ref v3), (4, .ref v4), (5, .int v5)] [.int x473]
        refine V_istore (lv' := [(7, .int x473), (6, .int x470), (0, .ref b), (1, .ref v1), (2, .ref v2), (3, .ref v3), (4, .ref v4), (5, .int v5)]) F dL_law_1737 (lt_L hNL (by decide)) rfl ?_
        refine V_aload_n F dL_law_1739 rfl 4 rfl ?_
        refine V_lV (As := []) (rest := []) (C := RX8) (N := 0) F X (metX8_thrown (Fx_G F) (Fx_l F) v2  μ472) rfl q1278 q72 q1275 q1276 q1277 ⟨by decide +kernel, by decide +kernel, by decide +kernel⟩ rfl ⟨Nat.le_of_ble_eq_true rfl, Nat.le_of_ble_eq_true rfl⟩ (Nat.le_of_ble_eq_true rfl) dL_law_1740 (by have h9 : rmX8_thrown.cells = 0 := rfl; omega) (by have h9 : rmX8_thrown.slots = 0 := rfl; omega) (fun x475 μ474 => ?_)
        change V κ ρ (603072 - 10 * (f + 1) + 2) (7198826 - 60 * (f + 1) + 12) μ474 _ 1743 [(7, .int x473), (6, .int x470), (0, .ref b), (1, .ref v1), (2, .ref v2), (3, .ref v3), (4, .ref v4), (5, .int v5)] [.int x475]
        refine V_iload F dL_law_1743 1 rfl ?_
        refine V_icmp_eq (tgt := 1750) F dL_law_1745 (by decide) (fun c476 => ?_) (fun c477 => ?_)
        · refine V_iload F dL_law_1750 1 rfl ?_
          refine V_if_ne (tgt := 1767) F dL_law_1752 (by decide) (fun c478 => ?_) (fun c479 => ?_)
          · refine V_goto (tgt := 2634) F dL_law_1767 (by decide) ?_
            refine V_iinc (lv' := [(5, .int (v5 + 4)), (7, .int x473), (6, .int x470), (0, .ref b), (1, .ref v1), (2, .ref v2), (3, .ref v3), (4, .ref v4)]) F dL_law_2634 7 rfl rfl (lt_L hNL (by decide)) rfl ?_
            refine V_goto (tgt := 28) F dL_law_2637 (by decide) ?_
            refine V_widen (k' := 603072 - 10 * f) (n' := 7198826 - 60 * f) (by omega) (by omega) ?_
            refine V_sub [3, 4, 5, 6, 7, 0] rfl ?_
            exact hk28 v1 v2 v3 v4 (v5 + 4) μ474
          · refine V_aload_n F dL_law_1755 rfl 5 rfl ?_
            refine V_iconst (v := 0) F dL_law_1756 (by decide) ?_
            refine V_aJ F dL_law_1757 (fun x480 => ?_)
            refine V_iload F dL_law_1758 0 rfl ?_
            refine V_i2l F dL_law_1760 ?_
            refine V_lcmp F dL_law_1761 ?_
            refine V_if_eq (tgt := 1767) F dL_law_1762 (by decide) (fun c481 => ?_) (fun c482 => ?_)
            · refine V_goto (tgt := 2634) F dL_law_1767 (by decide) ?_
              refine V_iinc (lv' := [(5, .int (v5 + 4)), (7, .int x473), (6, .int x470), (0, .ref b), (1, .ref v1), (2, .ref v2), (3, .ref v3), (4, .ref v4)]) F dL_law_2634 7 rfl rfl (lt_L hNL (by decide)) rfl ?_
              refine V_goto (tgt := 28) F dL_law_2637 (by decide) ?_
              refine V_widen (k' := 603072 - 10 * f) (n' := 7198826 - 60 * f) (by omega) (by omega) ?_
              refine V_sub [3, 4, 5, 6, 7, 0] rfl ?_
              exact hk28 v1 v2 v3 v4 (v5 + 4) μ474
            · refine V_iconst (v := 0) F dL_law_1765 (by decide) ?_
              exact V_none
        · refine V_iconst (v := 0) F dL_law_1748 (by decide) ?_
          exact V_none
      refine V_case (z := 28) (tgt := 1770) F dL_law_44 (by decide) rfl (by decide) (fun c483 => ?_) (fun c484 => ?_)
      · refine V_aload_n F dL_law_1770 rfl 1 rfl ?_
        refine V_lV (As := []) (rest := []) (C := RX7) (N := 0) F X (metX7_conflictCount (Fx_G F) (Fx_l F) v1  μ) rfl q321 q66 q318 q319 q320 ⟨by decide +kernel, by decide +kernel, by decide +kernel⟩ rfl ⟨Nat.le_of_ble_eq_true rfl, Nat.le_of_ble_eq_true rfl⟩ (Nat.le_of_ble_eq_true rfl) dL_law_1771 (by have h9 : rmX7_conflictCount.cells = 0 := rfl; omega) (by have h9 : rmX7_conflictCount.slots = 0 := rfl; omega) (fun x486 μ485 => ?_)
        change V κ ρ (603072 - 10 * (f + 1)) (7198826 - 60 * (f + 1)) μ485 _ 1774 [(0, .ref b), (1, .ref v1), (2, .ref v2), (3, .ref v3), (4, .ref v4), (5, .int v5)] [.int x486]
        refine V_aload_n F dL_law_1774 rfl 2 rfl ?_
        refine V_lV (As := []) (rest := [.int x486]) (C := RX8) (N := 0) F X (metX8_conflictCount (Fx_G F) (Fx_l F) v2  μ485) rfl q1568 q72 q1565 q1566 q1567 ⟨by decide +kernel, by decide +kernel, by decide +kernel⟩ rfl ⟨Nat.le_of_ble_eq_true rfl, Nat.le_of_ble_eq_true rfl⟩ (Nat.le_of_ble_eq_true rfl) dL_law_1775 (by have h9 : rmX8_conflictCount.cells = 0 := rfl; omega) (by have h9 : rmX8_conflictCount.slots = 0 := rfl; omega) (fun x488 μ487 => ?_)
        change V κ ρ (603072 - 10 * (f + 1)) (7198826 - 60 * (f + 1)) μ487 _ 1778 [(0, .ref b), (1, .ref v1), (2, .ref v2), (3, .ref v3), (4, .ref v4), (5, .int v5)] [.int x488, .int x486]
        refine V_icmp_eq (tgt := 2634) F dL_law_1778 (by decide) (fun c489 => ?_) (fun c490 => ?_)
        · refine V_iinc (lv' := [(5, .int (v5 + 4)), (0, .ref b), (1, .ref v1), (2, .ref v2), (3, .ref v3), (4, .ref v4)]) F dL_law_2634 5 rfl rfl (lt_L hNL (by decide)) rfl ?_
          refine V_goto (tgt := 28) F dL_law_2637 (by decide) ?_
          refine V_widen (k' := 603072 - 10 * f) (n' := 7198826 - 60 * f) (by omega) (by omega) ?_
          refine V_sub [1, 2, 3, 4, 5, 0] rfl ?_
          exact hk28 v1 v2 v3 v4 (v5 + 4) μ487
        · refine V_iconst (v := 0) F dL_law_1781 (by decide) ?_
          exact V_none
      refine V_case (z := 29) (tgt := 1783) F dL_law_44 (by decide) rfl (by decide) (fun c491 => ?_) (fun c492 => ?_)
      · refine V_aload_n F dL_law_1783 rfl 1 rfl ?_
        refine V_lV (As := []) (rest := []) (C := RX7) (N := 0) F X (metX7_conflictCountByCell (Fx_G F) (Fx_l F) v1  μ) rfl q339 q66 q336 q337 q338 ⟨by decide +kernel, by decide +kernel, by decide +kernel⟩ rfl ⟨Nat.le_of_ble_eq_true rfl, Nat.le_of_ble_eq_true rfl⟩ (Nat.le_of_ble_eq_true rfl) dL_law_1784 (by have h9 : rmX7_conflictCountByCell.cells = 0 := rfl; omega) (by have h9 : rmX7_conflictCountByCell.slots = 0 := rfl; omega) (fun x494 μ493 => ?_)
        change V κ ρ (603072 - 10 * (f + 1)) (7198826 - 60 * (f + 1)) μ493 _ 1787 [(0, .ref b), (1, .ref v1), (2, .ref v2), (3, .ref v3), (4, .ref v4), (5, .int v5)] [.int x494]
        refine V_aload_n F dL_law_1787 rfl 2 rfl ?_
        refine V_lV (As := []) (rest := [.int x494]) (C := RX8) (N := 0) F X (metX8_conflictCountByCell (Fx_G F) (Fx_l F) v2  μ493) rfl q1572 q72 q1569 q1570 q1571 ⟨by decide +kernel, by decide +kernel, by decide +kernel⟩ rfl ⟨Nat.le_of_ble_eq_true rfl, Nat.le_of_ble_eq_true rfl⟩ (Nat.le_of_ble_eq_true rfl) dL_law_1788 (by have h9 : rmX8_conflictCountByCell.cells = 0 := rfl; omega) (by have h9 : rmX8_conflictCountByCell.slots = 0 := rfl; omega) (fun x496 μ495 => ?_)
        change V κ ρ (603072 - 10 * (f + 1)) (7198826 - 60 * (f + 1)) μ495 _ 1791 [(0, .ref b), (1, .ref v1), (2, .ref v2), (3, .ref v3), (4, .ref v4), (5, .int v5)] [.int x496, .int x494]
        refine V_icmp_eq (tgt := 2634) F dL_law_1791 (by decide) (fun c497 => ?_) (fun c498 => ?_)
        · refine V_iinc (lv' := [(5, .int (v5 + 4)), (0, .ref b), (1, .ref v1), (2, .ref v2), (3, .ref v3), (4, .ref v4)]) F dL_law_2634 5 rfl rfl (lt_L hNL (by decide)) rfl ?_
          refine V_goto (tgt := 28) F dL_law_2637 (by decide) ?_
          refine V_widen (k' := 603072 - 10 * f) (n' := 7198826 - 60 * f) (by omega) (by omega) ?_
          refine V_sub [1, 2, 3, 4, 5, 0] rfl ?_
          exact hk28 v1 v2 v3 v4 (v5 + 4) μ495
        · refine V_iconst (v := 0) F dL_law_1794 (by decide) ?_
          exact V_none
      refine V_case (z := 30) (tgt := 1796) F dL_law_44 (by decide) rfl (by decide) (fun c499 => ?_) (fun c500 => ?_)
      · refine V_aload_n F dL_law_1796 rfl 1 rfl ?_
        refine V_aload_n F dL_law_1797 rfl 0 rfl ?_
        refine V_iload F dL_law_1798 5 rfl ?_
        refine V_iconst (v := 1) F dL_law_1800 (by decide) ?_
        refine V_iadd F dL_law_1801 ?_
        refine V_gd (fun g501 => ?_)
        refine V_sld F X g501 dL_law_1802 ?_
        refine V_aload_n F dL_law_1803 rfl 3 rfl ?_
        refine V_lSX (As := [.ref v1, .int (xs (v5 + 1).toNatClampNeg), .ref v3]) (rest := []) (N := 3) F X (metL_droneAtRank (Fx_G F) (Fx_l F) v1 (xs (v5 + 1).toNatClampNeg) v3 μ) q943 q65 q941 q942 ⟨by decide +kernel, by decide +kernel, by decide +kernel⟩ rfl ⟨Nat.le_of_ble_eq_true rfl, Nat.le_of_ble_eq_true rfl⟩ (Nat.le_of_ble_eq_true rfl) dL_law_1804 (by have h9 : rmL_droneAtRank.cells = 1 := rfl; omega) (by have h9 : rmL_droneAtRank.slots = 6 := rfl; omega) (fun x503 μ502 => ?_)
        change V κ ρ (603072 - 10 * (f + 1) + 1) (7198826 - 60 * (f + 1) + 6) μ502 _ 1807 [(0, .ref b), (1, .ref v1), (2, .ref v2), (3, .ref v3), (4, .ref v4), (5, .int v5)] [.int x503]
        refine V_istore (lv' := [(6, .int x503), (0, .ref b), (1, .ref v1), (2, .ref v2), (3, .ref v3), (4, .ref v4), (5, .int v5)]) F dL_law_1807 (lt_L hNL (by decide)) rfl ?_
        refine V_aload_n F dL_law_1809 rfl 3 rfl ?_
        refine V_aload_n F dL_law_1810 rfl 1 rfl ?_
        refine V_iload F dL_law_1811 6 rfl ?_
        refine V_iconst (v := 1) F dL_law_1813 (by decide) ?_
        refine V_iadd F dL_law_1814 ?_
        refine V_gd (fun g504 => ?_)
        refine V_sld F X g504 dL_law_1815 ?_
        refine V_lV (As := [.int (xs (v5 + 1).toNatClampNeg)]) (rest := []) (C := RX8) (N := 1) F X (metX8_droneAtRank (Fx_G F) (Fx_l F) v2 (xs (v5 + 1).toNatClampNeg) μ502) rfl q1577 q72 q1574 q1575 q1576 ⟨by decide +kernel, by decide +kernel, by decide +kernel⟩ rfl ⟨Nat.le_of_ble_eq_true rfl, Nat.le_of_ble_eq_true rfl⟩ (Nat.le_of_ble_eq_true rfl) dL_law_1816 (by have h9 : rmX8_droneAtRank.cells = 0 := rfl; omega) (by have h9 : rmX8_droneAtRank.slots = 0 := rfl; omega) (fun x506 μ505 => ?_)
        change V κ ρ (603072 - 10 * (f + 1) + 1) (7198826 - 60 * (f + 1) + 6) μ505 _ 1819 [(6, .int x503), (0, .ref b), (1, .ref v1), (2, .ref v2), (3, .ref v3), (4, .ref v4), (5, .int v5)] [.int x506]
        refine V_istore (lv' := [(7, .int x506), (6, .int x503), (0, .ref b), (1, .ref v1), (2, .ref v2), (3, .ref v3), (4, .ref v4), (5, .int v5)]) F dL_law_1819 (lt_L hNL (by decide)) rfl ?_
        refine V_aload_n F dL_law_1821 rfl 4 rfl ?_
        refine V_lV (As := []) (rest := []) (C := RX8) (N := 0) F X (metX8_thrown (Fx_G F) (Fx_l F) v2  μ505) rfl q1278 q72 q1275 q1276 q1277 ⟨by decide +kernel, by decide +kernel, by decide +kernel⟩ rfl ⟨Nat.le_of_ble_eq_true rfl, Nat.le_of_ble_eq_true rfl⟩ (Nat.le_of_ble_eq_true rfl) dL_law_1822 (by have h9 : rmX8_thrown.cells = 0 := rfl; omega) (by have h9 : rmX8_thrown.slots = 0 := rfl; omega) (fun x508 μ507 => ?_)
        change V κ ρ (603072 - 10 * (f + 1) + 1) (7198826 - 60 * (f + 1) + 6) μ507 _ 1825 [(7, .int x506), (6, .int x503), (0, .ref b), (1, .ref v1), (2, .ref v2), (3, .ref v3), (4, .ref v4), (5, .int v5)] [.int x508]
        refine V_iload F dL_law_1825 1 rfl ?_
        refine V_icmp_eq (tgt := 1832) F dL_law_1827 (by decide) (fun c509 => ?_) (fun c510 => ?_)
        · refine V_iload F dL_law_1832 1 rfl ?_
          refine V_if_ne (tgt := 1849) F dL_law_1834 (by decide) (fun c511 => ?_) (fun c512 => ?_)
          · refine V_goto (tgt := 2634) F dL_law_1849 (by decide) ?_
            refine V_iinc (lv' := [(5, .int (v5 + 4)), (7, .int x506), (6, .int x503), (0, .ref b), (1, .ref v1), (2, .ref v2), (3, .ref v3), (4, .ref v4)]) F dL_law_2634 7 rfl rfl (lt_L hNL (by decide)) rfl ?_
            refine V_goto (tgt := 28) F dL_law_2637 (by decide) ?_
            refine V_widen (k' := 603072 - 10 * f) (n' := 7198826 - 60 * f) (by omega) (by omega) ?_
            refine V_sub [3, 4, 5, 6, 7, 0] rfl ?_
            exact hk28 v1 v2 v3 v4 (v5 + 4) μ507
          · refine V_aload_n F dL_law_1837 rfl 5 rfl ?_
            refine V_iconst (v := 0) F dL_law_1838 (by decide) ?_
            refine V_aJ F dL_law_1839 (fun x513 => ?_)
            refine V_iload F dL_law_1840 0 rfl ?_
            refine V_i2l F dL_law_1842 ?_
            refine V_lcmp F dL_law_1843 ?_
            refine V_if_eq (tgt := 1849) F dL_law_1844 (by decide) (fun c514 => ?_) (fun c515 => ?_)
            · refine V_goto (tgt := 2634) F dL_law_1849 (by decide) ?_
              refine V_iinc (lv' := [(5, .int (v5 + 4)), (7, .int x506), (6, .int x503), (0, .ref b), (1, .ref v1), (2, .ref v2), (3, .ref v3), (4, .ref v4)]) F dL_law_2634 7 rfl rfl (lt_L hNL (by decide)) rfl ?_
              refine V_goto (tgt := 28) F dL_law_2637 (by decide) ?_
              refine V_widen (k' := 603072 - 10 * f) (n' := 7198826 - 60 * f) (by omega) (by omega) ?_
              refine V_sub [3, 4, 5, 6, 7, 0] rfl ?_
              exact hk28 v1 v2 v3 v4 (v5 + 4) μ507
            · refine V_iconst (v := 0) F dL_law_1847 (by decide) ?_
              exact V_none
        · refine V_iconst (v := 0) F dL_law_1830 (by decide) ?_
          exact V_none
      refine V_case (z := 31) (tgt := 1852) F dL_law_44 (by decide) rfl (by decide) (fun c516 => ?_) (fun c517 => ?_)
      · refine V_aload_n F dL_law_1852 rfl 1 rfl ?_
        refine V_aload_n F dL_law_1853 rfl 0 rfl ?_
        refine V_iload F dL_law_1854 5 rfl ?_
        refine V_iconst (v := 1) F dL_law_1856 (by decide) ?_
        refine V_iadd F dL_law_1857 ?_
        refine V_gd (fun g518 => ?_)
        refine V_sld F X g518 dL_law_1858 ?_
        refine V_aload_n F dL_law_1859 rfl 0 rfl ?_
        refine V_iload F dL_law_1860 5 rfl ?_
        refine V_iconst (v := 2) F dL_law_1862 (by decide) ?_
        refine V_iadd F dL_law_1863 ?_
        refine V_gd (fun g519 => ?_)
        refine V_sld F X g519 dL_law_1864 ?_
        refine V_aload_n F dL_law_1865 rfl 3 rfl ?_
        refine V_lSX (As := [.ref v1, .int (xs (v5 + 1).toNatClampNeg), .int (xs (v5 + 2).toNatClampNeg), .ref v3]) (rest := []) (N := 4) F X (metL_batteryAfter (Fx_G F) (Fx_l F) v1 (xs (v5 + 1).toNatClampNeg) (xs (v5 + 2).toNatClampNeg) v3 μ) q962 q65 q960 q961 ⟨by decide +kernel, by decide +kernel, by decide +kernel⟩ rfl ⟨Nat.le_of_ble_eq_true rfl, Nat.le_of_ble_eq_true rfl⟩ (Nat.le_of_ble_eq_true rfl) dL_law_1866 (by have h9 : rmL_batteryAfter.cells = 2 := rfl; omega) (by have h9 : rmL_batteryAfter.slots = 12 := rfl; omega) (fun x521 μ520 => ?_)
        change V κ ρ (603072 - 10 * (f + 1) + 2) (7198826 - 60 * (f + 1) + 12) μ520 _ 1869 [(0, .ref b), (1, .ref v1), (2, .ref v2), (3, .ref v3), (4, .ref v4), (5, .int v5)] [.int x521]
        refine V_istore (lv' := [(6, .int x521), (0, .ref b), (1, .ref v1), (2, .ref v2), (3, .ref v3), (4, .ref v4), (5, .int v5)]) F dL_law_1869 (lt_L hNL (by decide)) rfl ?_
        refine V_aload_n F dL_law_1871 rfl 3 rfl ?_
        refine V_aload_n F dL_law_1872 rfl 1 rfl ?_
        refine V_iload F dL_law_1873 6 rfl ?_
        refine V_iconst (v := 1) F dL_law_1875 (by decide) ?_
        refine V_iadd F dL_law_1876 ?_
        refine V_gd (fun g522 => ?_)
        refine V_sld F X g522 dL_law_1877 ?_
        refine V_aload_n F dL_law_1878 rfl 1 rfl ?_
        refine V_iload F dL_law_1879 6 rfl ?_
        refine V_iconst (v := 2) F dL_law_1881 (by decide) ?_
        refine V_iadd F dL_law_1882 ?_
        refine V_gd (fun g523 => ?_)
        refine V_sld F X g523 dL_law_1883 ?_
        refine V_lV (As := [.int (xs (v5 + 1).toNatClampNeg), .int (xs (v5 + 2).toNatClampNeg)]) (rest := []) (C := RX8) (N := 2) F X (metX8_batteryAfter (Fx_G F) (Fx_l F) v2 (xs (v5 + 1).toNatClampNeg) (xs (v5 + 2).toNatClampNeg) μ520) rfl q1581 q72 q1578 q1579 q1580 ⟨by decide +kernel, by decide +kernel, by decide +kernel⟩ rfl ⟨Nat.le_of_ble_eq_true rfl, Nat.le_of_ble_eq_true rfl⟩ (Nat.le_of_ble_eq_true rfl) dL_law_1884 (by have h9 : rmX8_batteryAfter.cells = 0 := rfl; omega) (by have h9 : rmX8_batteryAfter.slots = 0 := rfl; omega) (fun x525 μ524 => ?_)
        change V κ ρ (603072 - 10 * (f + 1) + 2) (7198826 - 60 * (f + 1) + 12) μ524 _ 1887 [(6, .int x521), (0, .ref b), (1, .ref v1), (2, .ref v2), (3, .ref v3), (4, .ref v4), (5, .int v5)] [.int x525]
        refine V_istore (lv' := [(7, .int x525), (6, .int x521), (0, .ref b), (1, .ref v1), (2, .ref v2), (3, .ref v3), (4, .ref v4), (5, .int v5)]) F dL_law_1887 (lt_L hNL (by decide)) rfl ?_
        refine V_aload_n F dL_law_1889 rfl 4 rfl ?_
        refine V_lV (As := []) (rest := []) (C := RX8) (N := 0) F X (metX8_thrown (Fx_G F) (Fx_l F) v2  μ524) rfl q1278 q72 q1275 q1276 q1277 ⟨by decide +kernel, by decide +kernel, by decide +kernel⟩ rfl ⟨Nat.le_of_ble_eq_true rfl, Nat.le_of_ble_eq_true rfl⟩ (Nat.le_of_ble_eq_true rfl) dL_law_1890 (by have h9 : rmX8_thrown.cells = 0 := rfl; omega) (by have h9 : rmX8_thrown.slots = 0 := rfl; omega) (fun x527 μ526 => ?_)
        change V κ ρ (603072 - 10 * (f + 1) + 2) (7198826 - 60 * (f + 1) + 12) μ526 _ 1893 [(7, .int x525), (6, .int x521), (0, .ref b), (1, .ref v1), (2, .ref v2), (3, .ref v3), (4, .ref v4), (5, .int v5)] [.int x527]
        refine V_iload F dL_law_1893 1 rfl ?_
        refine V_icmp_eq (tgt := 1900) F dL_law_1895 (by decide) (fun c528 => ?_) (fun c529 => ?_)
        · refine V_iload F dL_law_1900 1 rfl ?_
          refine V_if_ne (tgt := 1917) F dL_law_1902 (by decide) (fun c530 => ?_) (fun c531 => ?_)
          · refine V_goto (tgt := 2634) F dL_law_1917 (by decide) ?_
            refine V_iinc (lv' := [(5, .int (v5 + 4)), (7, .int x525), (6, .int x521), (0, .ref b), (1, .ref v1), (2, .ref v2), (3, .ref v3), (4, .ref v4)]) F dL_law_2634 7 rfl rfl (lt_L hNL (by decide)) rfl ?_
            refine V_goto (tgt := 28) F dL_law_2637 (by decide) ?_
            refine V_widen (k' := 603072 - 10 * f) (n' := 7198826 - 60 * f) (by omega) (by omega) ?_
            refine V_sub [3, 4, 5, 6, 7, 0] rfl ?_
            exact hk28 v1 v2 v3 v4 (v5 + 4) μ526
          · refine V_aload_n F dL_law_1905 rfl 5 rfl ?_
            refine V_iconst (v := 0) F dL_law_1906 (by decide) ?_
            refine V_aJ F dL_law_1907 (fun x532 => ?_)
            refine V_iload F dL_law_1908 0 rfl ?_
            refine V_i2l F dL_law_1910 ?_
            refine V_lcmp F dL_law_1911 ?_
            refine V_if_eq (tgt := 1917) F dL_law_1912 (by decide) (fun c533 => ?_) (fun c534 => ?_)
            · refine V_goto (tgt := 2634) F dL_law_1917 (by decide) ?_
              refine V_iinc (lv' := [(5, .int (v5 + 4)), (7, .int x525), (6, .int x521), (0, .ref b), (1, .ref v1), (2, .ref v2), (3, .ref v3), (4, .ref v4)]) F dL_law_2634 7 rfl rfl (lt_L hNL (by decide)) rfl ?_
              refine V_goto (tgt := 28) F dL_law_2637 (by decide) ?_
              refine V_widen (k' := 603072 - 10 * f) (n' := 7198826 - 60 * f) (by omega) (by omega) ?_
              refine V_sub [3, 4, 5, 6, 7, 0] rfl ?_
              exact hk28 v1 v2 v3 v4 (v5 + 4) μ526
            · refine V_iconst (v := 0) F dL_law_1915 (by decide) ?_
              exact V_none
        · refine V_iconst (v := 0) F dL_law_1898 (by decide) ?_
          exact V_none
      refine V_case (z := 32) (tgt := 1920) F dL_law_44 (by decide) rfl (by decide) (fun c535 => ?_) (fun c536 => ?_)
      · refine V_aload_n F dL_law_1920 rfl 1 rfl ?_
        refine V_aload_n F dL_law_1921 rfl 0 rfl ?_
        refine V_iload F dL_law_1922 5 rfl ?_
        refine V_iconst (v := 1) F dL_law_1924 (by decide) ?_
        refine V_iadd F dL_law_1925 ?_
        refine V_gd (fun g537 => ?_)
        refine V_sld F X g537 dL_law_1926 ?_
        refine V_aload_n F dL_law_1927 rfl 0 rfl ?_
        refine V_iload F dL_law_1928 5 rfl ?_
        refine V_iconst (v := 2) F dL_law_1930 (by decide) ?_
        refine V_iadd F dL_law_1931 ?_
        refine V_gd (fun g538 => ?_)
        refine V_sld F X g538 dL_law_1932 ?_
        refine V_aload_n F dL_law_1933 rfl 0 rfl ?_
        refine V_iload F dL_law_1934 5 rfl ?_
        refine V_iconst (v := 3) F dL_law_1936 (by decide) ?_
        refine V_iadd F dL_law_1937 ?_
        refine V_gd (fun g539 => ?_)
        refine V_sld F X g539 dL_law_1938 ?_
        refine V_aload_n F dL_law_1939 rfl 3 rfl ?_
        refine V_lSX (As := [.ref v1, .int (xs (v5 + 1).toNatClampNeg), .int (xs (v5 + 2).toNatClampNeg), .int (xs (v5 + 3).toNatClampNeg), .ref v3]) (rest := []) (N := 5) F X (metL_cueColour (Fx_G F) (Fx_l F) v1 (xs (v5 + 1).toNatClampNeg) (xs (v5 + 2).toNatClampNeg) (xs (v5 + 3).toNatClampNeg) v3 μ) q971 q65 q969 q970 ⟨by decide +kernel, by decide +kernel, by decide +kernel⟩ rfl ⟨Nat.le_of_ble_eq_true rfl, Nat.le_of_ble_eq_true rfl⟩ (Nat.le_of_ble_eq_true rfl) dL_law_1940 (by have h9 : rmL_cueColour.cells = 1 := rfl; omega) (by have h9 : rmL_cueColour.slots = 6 := rfl; omega) (fun x541 μ540 => ?_)
        change V κ ρ (603072 - 10 * (f + 1) + 1) (7198826 - 60 * (f + 1) + 6) μ540 _ 1943 [(0, .ref b), (1, .ref v1), (2, .ref v2), (3, .ref v3), (4, .ref v4), (5, .int v5)] [.int x541]
        refine V_istore (lv' := [(6, .int x541), (0, .ref b), (1, .ref v1), (2, .ref v2), (3, .ref v3), (4, .ref v4), (5, .int v5)]) F dL_law_1943 (lt_L hNL (by decide)) rfl ?_
        refine V_aload_n F dL_law_1945 rfl 3 rfl ?_
        refine V_aload_n F dL_law_1946 rfl 1 rfl ?_
        refine V_iload F dL_law_1947 6 rfl ?_
        refine V_iconst (v := 1) F dL_law_1949 (by decide) ?_
        refine V_iadd F dL_law_1950 ?_
        refine V_gd (fun g542 => ?_)
        refine V_sld F X g542 dL_law_1951 ?_
        refine V_aload_n F dL_law_1952 rfl 1 rfl ?_
        refine V_iload F dL_law_1953 6 rfl ?_
        refine V_iconst (v := 2) F dL_law_1955 (by decide) ?_
        refine V_iadd F dL_law_1956 ?_
        refine V_gd (fun g543 => ?_)
        refine V_sld F X g543 dL_law_1957 ?_
        refine V_aload_n F dL_law_1958 rfl 1 rfl ?_
        refine V_iload F dL_law_1959 6 rfl ?_
        refine V_iconst (v := 3) F dL_law_1961 (by decide) ?_
        refine V_iadd F dL_law_1962 ?_
        refine V_gd (fun g544 => ?_)
        refine V_sld F X g544 dL_law_1963 ?_
        refine V_lV (As := [.int (xs (v5 + 1).toNatClampNeg), .int (xs (v5 + 2).toNatClampNeg), .int (xs (v5 + 3).toNatClampNeg)]) (rest := []) (C := RX8) (N := 3) F X (metX8_cueColour (Fx_G F) (Fx_l F) v2 (xs (v5 + 1).toNatClampNeg) (xs (v5 + 2).toNatClampNeg) (xs (v5 + 3).toNatClampNeg) μ540) rfl q1585 q72 q1582 q1583 q1584 ⟨by decide +kernel, by decide +kernel, by decide +kernel⟩ rfl ⟨Nat.le_of_ble_eq_true rfl, Nat.le_of_ble_eq_true rfl⟩ (Nat.le_of_ble_eq_true rfl) dL_law_1964 (by have h9 : rmX8_cueColour.cells = 0 := rfl; omega) (by have h9 : rmX8_cueColour.slots = 0 := rfl; omega) (fun x546 μ545 => ?_)
        change V κ ρ (603072 - 10 * (f + 1) + 1) (7198826 - 60 * (f + 1) + 6) μ545 _ 1967 [(6, .int x541), (0, .ref b), (1, .ref v1), (2, .ref v2), (3, .ref v3), (4, .ref v4), (5, .int v5)] [.int x546]
        refine V_istore (lv' := [(7, .int x546), (6, .int x541), (0, .ref b), (1, .ref v1), (2, .ref v2), (3, .ref v3), (4, .ref v4), (5, .int v5)]) F dL_law_1967 (lt_L hNL (by decide)) rfl ?_
        refine V_aload_n F dL_law_1969 rfl 4 rfl ?_
        refine V_lV (As := []) (rest := []) (C := RX8) (N := 0) F X (metX8_thrown (Fx_G F) (Fx_l F) v2  μ545) rfl q1278 q72 q1275 q1276 q1277 ⟨by decide +kernel, by decide +kernel, by decide +kernel⟩ rfl ⟨Nat.le_of_ble_eq_true rfl, Nat.le_of_ble_eq_true rfl⟩ (Nat.le_of_ble_eq_true rfl) dL_law_1970 (by have h9 : rmX8_thrown.cells = 0 := rfl; omega) (by have h9 : rmX8_thrown.slots = 0 := rfl; omega) (fun x548 μ547 => ?_)
        change V κ ρ (603072 - 10 * (f + 1) + 1) (7198826 - 60 * (f + 1) + 6) μ547 _ 1973 [(7, .int x546), (6, .int x541), (0, .ref b), (1, .ref v1), (2, .ref v2), (3, .ref v3), (4, .ref v4), (5, .int v5)] [.int x548]
        refine V_iload F dL_law_1973 1 rfl ?_
        refine V_icmp_eq (tgt := 1980) F dL_law_1975 (by decide) (fun c549 => ?_) (fun c550 => ?_)
        · refine V_iload F dL_law_1980 1 rfl ?_
          refine V_if_ne (tgt := 1997) F dL_law_1982 (by decide) (fun c551 => ?_) (fun c552 => ?_)
          · refine V_goto (tgt := 2634) F dL_law_1997 (by decide) ?_
            refine V_iinc (lv' := [(5, .int (v5 + 4)), (7, .int x546), (6, .int x541), (0, .ref b), (1, .ref v1), (2, .ref v2), (3, .ref v3), (4, .ref v4)]) F dL_law_2634 7 rfl rfl (lt_L hNL (by decide)) rfl ?_
            refine V_goto (tgt := 28) F dL_law_2637 (by decide) ?_
            refine V_widen (k' := 603072 - 10 * f) (n' := 7198826 - 60 * f) (by omega) (by omega) ?_
            refine V_sub [3, 4, 5, 6, 7, 0] rfl ?_
            exact hk28 v1 v2 v3 v4 (v5 + 4) μ547
          · refine V_aload_n F dL_law_1985 rfl 5 rfl ?_
            refine V_iconst (v := 0) F dL_law_1986 (by decide) ?_
            refine V_aJ F dL_law_1987 (fun x553 => ?_)
            refine V_iload F dL_law_1988 0 rfl ?_
            refine V_i2l F dL_law_1990 ?_
            refine V_lcmp F dL_law_1991 ?_
            refine V_if_eq (tgt := 1997) F dL_law_1992 (by decide) (fun c554 => ?_) (fun c555 => ?_)
            · refine V_goto (tgt := 2634) F dL_law_1997 (by decide) ?_
              refine V_iinc (lv' := [(5, .int (v5 + 4)), (7, .int x546), (6, .int x541), (0, .ref b), (1, .ref v1), (2, .ref v2), (3, .ref v3), (4, .ref v4)]) F dL_law_2634 7 rfl rfl (lt_L hNL (by decide)) rfl ?_
              refine V_goto (tgt := 28) F dL_law_2637 (by decide) ?_
              refine V_widen (k' := 603072 - 10 * f) (n' := 7198826 - 60 * f) (by omega) (by omega) ?_
              refine V_sub [3, 4, 5, 6, 7, 0] rfl ?_
              exact hk28 v1 v2 v3 v4 (v5 + 4) μ547
            · refine V_iconst (v := 0) F dL_law_1995 (by decide) ?_
              exact V_none
        · refine V_iconst (v := 0) F dL_law_1978 (by decide) ?_
          exact V_none
      refine V_case (z := 33) (tgt := 2000) F dL_law_44 (by decide) rfl (by decide) (fun c556 => ?_) (fun c557 => ?_)
      · refine V_aload_n F dL_law_2000 rfl 1 rfl ?_
        refine V_lV (As := []) (rest := []) (C := RX7) (N := 0) F X (metX7_cueCount (Fx_G F) (Fx_l F) v1  μ) rfl q348 q66 q345 q346 q347 ⟨by decide +kernel, by decide +kernel, by decide +kernel⟩ rfl ⟨Nat.le_of_ble_eq_true rfl, Nat.le_of_ble_eq_true rfl⟩ (Nat.le_of_ble_eq_true rfl) dL_law_2001 (by have h9 : rmX7_cueCount.cells = 0 := rfl; omega) (by have h9 : rmX7_cueCount.slots = 0 := rfl; omega) (fun x559 μ558 => ?_)
        change V κ ρ (603072 - 10 * (f + 1)) (7198826 - 60 * (f + 1)) μ558 _ 2004 [(0, .ref b), (1, .ref v1), (2, .ref v2), (3, .ref v3), (4, .ref v4), (5, .int v5)] [.int x559]
        refine V_aload_n F dL_law_2004 rfl 2 rfl ?_
        refine V_lV (As := []) (rest := [.int x559]) (C := RX8) (N := 0) F X (metX8_cueCount (Fx_G F) (Fx_l F) v2  μ558) rfl q1593 q72 q1590 q1591 q1592 ⟨by decide +kernel, by decide +kernel, by decide +kernel⟩ rfl ⟨Nat.le_of_ble_eq_true rfl, Nat.le_of_ble_eq_true rfl⟩ (Nat.le_of_ble_eq_true rfl) dL_law_2005 (by have h9 : rmX8_cueCount.cells = 0 := rfl; omega) (by have h9 : rmX8_cueCount.slots = 0 := rfl; omega) (fun x561 μ560 => ?_)
        change V κ ρ (603072 - 10 * (f + 1)) (7198826 - 60 * (f + 1)) μ560 _ 2008 [(0, .ref b), (1, .ref v1), (2, .ref v2), (3, .ref v3), (4, .ref v4), (5, .int v5)] [.int x561, .int x559]
        refine V_icmp_eq (tgt := 2634) F dL_law_2008 (by decide) (fun c562 => ?_) (fun c563 => ?_)
        · refine V_iinc (lv' := [(5, .int (v5 + 4)), (0, .ref b), (1, .ref v1), (2, .ref v2), (3, .ref v3), (4, .ref v4)]) F dL_law_2634 5 rfl rfl (lt_L hNL (by decide)) rfl ?_
          refine V_goto (tgt := 28) F dL_law_2637 (by decide) ?_
          refine V_widen (k' := 603072 - 10 * f) (n' := 7198826 - 60 * f) (by omega) (by omega) ?_
          refine V_sub [1, 2, 3, 4, 5, 0] rfl ?_
          exact hk28 v1 v2 v3 v4 (v5 + 4) μ560
        · refine V_iconst (v := 0) F dL_law_2011 (by decide) ?_
          exact V_none
      refine V_case (z := 34) (tgt := 2013) F dL_law_44 (by decide) rfl (by decide) (fun c564 => ?_) (fun c565 => ?_)
      · refine V_aload_n F dL_law_2013 rfl 1 rfl ?_
        refine V_aload_n F dL_law_2014 rfl 3 rfl ?_
        refine V_lSX (As := [.ref v1, .ref v3]) (rest := []) (N := 2) F X (metL_nextCueTime (Fx_G F) (Fx_l F) v1 v3 μ) q983 q65 q981 q982 ⟨by decide +kernel, by decide +kernel, by decide +kernel⟩ rfl ⟨Nat.le_of_ble_eq_true rfl, Nat.le_of_ble_eq_true rfl⟩ (Nat.le_of_ble_eq_true rfl) dL_law_2015 (by have h9 : rmL_nextCueTime.cells = 1 := rfl; omega) (by have h9 : rmL_nextCueTime.slots = 6 := rfl; omega) (fun x567 μ566 => ?_)
        change V κ ρ (603072 - 10 * (f + 1) + 1) (7198826 - 60 * (f + 1) + 6) μ566 _ 2018 [(0, .ref b), (1, .ref v1), (2, .ref v2), (3, .ref v3), (4, .ref v4), (5, .int v5)] [.int x567]
        refine V_istore (lv' := [(6, .int x567), (0, .ref b), (1, .ref v1), (2, .ref v2), (3, .ref v3), (4, .ref v4), (5, .int v5)]) F dL_law_2018 (lt_L hNL (by decide)) rfl ?_
        refine V_aload_n F dL_law_2020 rfl 3 rfl ?_
        refine V_lV (As := []) (rest := []) (C := RX8) (N := 0) F X (metX8_nextCueTime (Fx_G F) (Fx_l F) v2  μ566) rfl q1597 q72 q1594 q1595 q1596 ⟨by decide +kernel, by decide +kernel, by decide +kernel⟩ rfl ⟨Nat.le_of_ble_eq_true rfl, Nat.le_of_ble_eq_true rfl⟩ (Nat.le_of_ble_eq_true rfl) dL_law_2021 (by have h9 : rmX8_nextCueTime.cells = 0 := rfl; omega) (by have h9 : rmX8_nextCueTime.slots = 0 := rfl; omega) (fun x569 μ568 => ?_)
        change V κ ρ (603072 - 10 * (f + 1) + 1) (7198826 - 60 * (f + 1) + 6) μ568 _ 2024 [(6, .int x567), (0, .ref b), (1, .ref v1), (2, .ref v2), (3, .ref v3), (4, .ref v4), (5, .int v5)] [.int x569]
        refine V_istore (lv' := [(7, .int x569), (6, .int x567), (0, .ref b), (1, .ref v1), (2, .ref v2), (3, .ref v3), (4, .ref v4), (5, .int v5)]) F dL_law_2024 (lt_L hNL (by decide)) rfl ?_
        refine V_aload_n F dL_law_2026 rfl 4 rfl ?_
        refine V_lV (As := []) (rest := []) (C := RX8) (N := 0) F X (metX8_thrown (Fx_G F) (Fx_l F) v2  μ568) rfl q1278 q72 q1275 q1276 q1277 ⟨by decide +kernel, by decide +kernel, by decide +kernel⟩ rfl ⟨Nat.le_of_ble_eq_true rfl, Nat.le_of_ble_eq_true rfl⟩ (Nat.le_of_ble_eq_true rfl) dL_law_2027 (by have h9 : rmX8_thrown.cells = 0 := rfl; omega) (by have h9 : rmX8_thrown.slots = 0 := rfl; omega) (fun x571 μ570 => ?_)
        change V κ ρ (603072 - 10 * (f + 1) + 1) (7198826 - 60 * (f + 1) + 6) μ570 _ 2030 [(7, .int x569), (6, .int x567), (0, .ref b), (1, .ref v1), (2, .ref v2), (3, .ref v3), (4, .ref v4), (5, .int v5)] [.int x571]
        refine V_iload F dL_law_2030 1 rfl ?_
        refine V_icmp_eq (tgt := 2037) F dL_law_2032 (by decide) (fun c572 => ?_) (fun c573 => ?_)
        · refine V_iload F dL_law_2037 1 rfl ?_
          refine V_if_ne (tgt := 2054) F dL_law_2039 (by decide) (fun c574 => ?_) (fun c575 => ?_)
          · refine V_goto (tgt := 2634) F dL_law_2054 (by decide) ?_
            refine V_iinc (lv' := [(5, .int (v5 + 4)), (7, .int x569), (6, .int x567), (0, .ref b), (1, .ref v1), (2, .ref v2), (3, .ref v3), (4, .ref v4)]) F dL_law_2634 7 rfl rfl (lt_L hNL (by decide)) rfl ?_
            refine V_goto (tgt := 28) F dL_law_2637 (by decide) ?_
            refine V_widen (k' := 603072 - 10 * f) (n' := 7198826 - 60 * f) (by omega) (by omega) ?_
            refine V_sub [3, 4, 5, 6, 7, 0] rfl ?_
            exact hk28 v1 v2 v3 v4 (v5 + 4) μ570
          · refine V_aload_n F dL_law_2042 rfl 5 rfl ?_
            refine V_iconst (v := 0) F dL_law_2043 (by decide) ?_
            refine V_aJ F dL_law_2044 (fun x576 => ?_)
            refine V_iload F dL_law_2045 0 rfl ?_
            refine V_i2l F dL_law_2047 ?_
            refine V_lcmp F dL_law_2048 ?_
            refine V_if_eq (tgt := 2054) F dL_law_2049 (by decide) (fun c577 => ?_) (fun c578 => ?_)
            · refine V_goto (tgt := 2634) F dL_law_2054 (by decide) ?_
              refine V_iinc (lv' := [(5, .int (v5 + 4)), (7, .int x569), (6, .int x567), (0, .ref b), (1, .ref v1), (2, .ref v2), (3, .ref v3), (4, .ref v4)]) F dL_law_2634 7 rfl rfl (lt_L hNL (by decide)) rfl ?_
              refine V_goto (tgt := 28) F dL_law_2637 (by decide) ?_
              refine V_widen (k' := 603072 - 10 * f) (n' := 7198826 - 60 * f) (by omega) (by omega) ?_
              refine V_sub [3, 4, 5, 6, 7, 0] rfl ?_
              exact hk28 v1 v2 v3 v4 (v5 + 4) μ570
            · refine V_iconst (v := 0) F dL_law_2052 (by decide) ?_
              exact V_none
        · refine V_iconst (v := 0) F dL_law_2035 (by decide) ?_
          exact V_none
      refine V_case (z := 35) (tgt := 2057) F dL_law_44 (by decide) rfl (by decide) (fun c579 => ?_) (fun c580 => ?_)
      · refine V_aload_n F dL_law_2057 rfl 1 rfl ?_
        refine V_lV (As := []) (rest := []) (C := RX7) (N := 0) F X (metX7_movedTotal (Fx_G F) (Fx_l F) v1  μ) rfl q352 q66 q349 q350 q351 ⟨by decide +kernel, by decide +kernel, by decide +kernel⟩ rfl ⟨Nat.le_of_ble_eq_true rfl, Nat.le_of_ble_eq_true rfl⟩ (Nat.le_of_ble_eq_true rfl) dL_law_2058 (by have h9 : rmX7_movedTotal.cells = 0 := rfl; omega) (by have h9 : rmX7_movedTotal.slots = 0 := rfl; omega) (fun x582 μ581 => ?_)
        change V κ ρ (603072 - 10 * (f + 1)) (7198826 - 60 * (f + 1)) μ581 _ 2061 [(0, .ref b), (1, .ref v1), (2, .ref v2), (3, .ref v3), (4, .ref v4), (5, .int v5)] [.int x582]
        refine V_aload_n F dL_law_2061 rfl 2 rfl ?_
        refine V_lV (As := []) (rest := [.int x582]) (C := RX8) (N := 0) F X (metX8_movedTotal (Fx_G F) (Fx_l F) v2  μ581) rfl q1601 q72 q1598 q1599 q1600 ⟨by decide +kernel, by decide +kernel, by decide +kernel⟩ rfl ⟨Nat.le_of_ble_eq_true rfl, Nat.le_of_ble_eq_true rfl⟩ (Nat.le_of_ble_eq_true rfl) dL_law_2062 (by have h9 : rmX8_movedTotal.cells = 0 := rfl; omega) (by have h9 : rmX8_movedTotal.slots = 0 := rfl; omega) (fun x584 μ583 => ?_)
        change V κ ρ (603072 - 10 * (f + 1)) (7198826 - 60 * (f + 1)) μ583 _ 2065 [(0, .ref b), (1, .ref v1), (2, .ref v2), (3, .ref v3), (4, .ref v4), (5, .int v5)] [.int x584, .int x582]
        refine V_icmp_eq (tgt := 2634) F dL_law_2065 (by decide) (fun c585 => ?_) (fun c586 => ?_)
        · refine V_iinc (lv' := [(5, .int (v5 + 4)), (0, .ref b), (1, .ref v1), (2, .ref v2), (3, .ref v3), (4, .ref v4)]) F dL_law_2634 5 rfl rfl (lt_L hNL (by decide)) rfl ?_
          refine V_goto (tgt := 28) F dL_law_2637 (by decide) ?_
          refine V_widen (k' := 603072 - 10 * f) (n' := 7198826 - 60 * f) (by omega) (by omega) ?_
          refine V_sub [1, 2, 3, 4, 5, 0] rfl ?_
          exact hk28 v1 v2 v3 v4 (v5 + 4) μ583
        · refine V_iconst (v := 0) F dL_law_2068 (by decide) ?_
          exact V_none
      refine V_case (z := 36) (tgt := 2070) F dL_law_44 (by decide) rfl (by decide) (fun c587 => ?_) (fun c588 => ?_)
      · refine V_aload_n F dL_law_2070 rfl 1 rfl ?_
        refine V_lV (As := []) (rest := []) (C := RX7) (N := 0) F X (metX7_blockedTotal (Fx_G F) (Fx_l F) v1  μ) rfl q356 q66 q353 q354 q355 ⟨by decide +kernel, by decide +kernel, by decide +kernel⟩ rfl ⟨Nat.le_of_ble_eq_true rfl, Nat.le_of_ble_eq_true rfl⟩ (Nat.le_of_ble_eq_true rfl) dL_law_2071 (by have h9 : rmX7_blockedTotal.cells = 0 := rfl; omega) (by have h9 : rmX7_blockedTotal.slots = 0 := rfl; omega) (fun x590 μ589 => ?_)
        change V κ ρ (603072 - 10 * (f + 1)) (7198826 - 60 * (f + 1)) μ589 _ 2074 [(0, .ref b), (1, .ref v1), (2, .ref v2), (3, .ref v3), (4, .ref v4), (5, .int v5)] [.int x590]
        refine V_aload_n F dL_law_2074 rfl 2 rfl ?_
        refine V_lV (As := []) (rest := [.int x590]) (C := RX8) (N := 0) F X (metX8_blockedTotal (Fx_G F) (Fx_l F) v2  μ589) rfl q1605 q72 q1602 q1603 q1604 ⟨by decide +kernel, by decide +kernel, by decide +kernel⟩ rfl ⟨Nat.le_of_ble_eq_true rfl, Nat.le_of_ble_eq_true rfl⟩ (Nat.le_of_ble_eq_true rfl) dL_law_2075 (by have h9 : rmX8_blockedTotal.cells = 0 := rfl; omega) (by have h9 : rmX8_blockedTotal.slots = 0 := rfl; omega) (fun x592 μ591 => ?_)
        change V κ ρ (603072 - 10 * (f + 1)) (7198826 - 60 * (f + 1)) μ591 _ 2078 [(0, .ref b), (1, .ref v1), (2, .ref v2), (3, .ref v3), (4, .ref v4), (5, .int v5)] [.int x592, .int x590]
        refine V_icmp_eq (tgt := 2634) F dL_law_2078 (by decide) (fun c593 => ?_) (fun c594 => ?_)
        · refine V_iinc (lv' := [(5, .int (v5 + 4)), (0, .ref b), (1, .ref v1), (2, .ref v2), (3, .ref v3), (4, .ref v4)]) F dL_law_2634 5 rfl rfl (lt_L hNL (by decide)) rfl ?_
          refine V_goto (tgt := 28) F dL_law_2637 (by decide) ?_
          refine V_widen (k' := 603072 - 10 * f) (n' := 7198826 - 60 * f) (by omega) (by omega) ?_
          refine V_sub [1, 2, 3, 4, 5, 0] rfl ?_
          exact hk28 v1 v2 v3 v4 (v5 + 4) μ591
        · refine V_iconst (v := 0) F dL_law_2081 (by decide) ?_
          exact V_none
      refine V_case (z := 37) (tgt := 2083) F dL_law_44 (by decide) rfl (by decide) (fun c595 => ?_) (fun c596 => ?_)
      · refine V_aload_n F dL_law_2083 rfl 1 rfl ?_
        refine V_lV (As := []) (rest := []) (C := RX7) (N := 0) F X (metX7_emergencyTotal (Fx_G F) (Fx_l F) v1  μ) rfl q360 q66 q357 q358 q359 ⟨by decide +kernel, by decide +kernel, by decide +kernel⟩ rfl ⟨Nat.le_of_ble_eq_true rfl, Nat.le_of_ble_eq_true rfl⟩ (Nat.le_of_ble_eq_true rfl) dL_law_2084 (by have h9 : rmX7_emergencyTotal.cells = 0 := rfl; omega) (by have h9 : rmX7_emergencyTotal.slots = 0 := rfl; omega) (fun x598 μ597 => ?_)
        change V κ ρ (603072 - 10 * (f + 1)) (7198826 - 60 * (f + 1)) μ597 _ 2087 [(0, .ref b), (1, .ref v1), (2, .ref v2), (3, .ref v3), (4, .ref v4), (5, .int v5)] [.int x598]
        refine V_aload_n F dL_law_2087 rfl 2 rfl ?_
        refine V_lV (As := []) (rest := [.int x598]) (C := RX8) (N := 0) F X (metX8_emergencyTotal (Fx_G F) (Fx_l F) v2  μ597) rfl q1609 q72 q1606 q1607 q1608 ⟨by decide +kernel, by decide +kernel, by decide +kernel⟩ rfl ⟨Nat.le_of_ble_eq_true rfl, Nat.le_of_ble_eq_true rfl⟩ (Nat.le_of_ble_eq_true rfl) dL_law_2088 (by have h9 : rmX8_emergencyTotal.cells = 0 := rfl; omega) (by have h9 : rmX8_emergencyTotal.slots = 0 := rfl; omega) (fun x600 μ599 => ?_)
        change V κ ρ (603072 - 10 * (f + 1)) (7198826 - 60 * (f + 1)) μ599 _ 2091 [(0, .ref b), (1, .ref v1), (2, .ref v2), (3, .ref v3), (4, .ref v4), (5, .int v5)] [.int x600, .int x598]
        refine V_icmp_eq (tgt := 2634) F dL_law_2091 (by decide) (fun c601 => ?_) (fun c602 => ?_)
        · refine V_iinc (lv' := [(5, .int (v5 + 4)), (0, .ref b), (1, .ref v1), (2, .ref v2), (3, .ref v3), (4, .ref v4)]) F dL_law_2634 5 rfl rfl (lt_L hNL (by decide)) rfl ?_
          refine V_goto (tgt := 28) F dL_law_2637 (by decide) ?_
          refine V_widen (k' := 603072 - 10 * f) (n' := 7198826 - 60 * f) (by omega) (by omega) ?_
          refine V_sub [1, 2, 3, 4, 5, 0] rfl ?_
          exact hk28 v1 v2 v3 v4 (v5 + 4) μ599
        · refine V_iconst (v := 0) F dL_law_2094 (by decide) ?_
          exact V_none
      refine V_case (z := 38) (tgt := 2096) F dL_law_44 (by decide) rfl (by decide) (fun c603 => ?_) (fun c604 => ?_)
      · refine V_aload_n F dL_law_2096 rfl 1 rfl ?_
        refine V_lV (As := []) (rest := []) (C := RX7) (N := 0) F X (metX7_forcedTotal (Fx_G F) (Fx_l F) v1  μ) rfl q364 q66 q361 q362 q363 ⟨by decide +kernel, by decide +kernel, by decide +kernel⟩ rfl ⟨Nat.le_of_ble_eq_true rfl, Nat.le_of_ble_eq_true rfl⟩ (Nat.le_of_ble_eq_true rfl) dL_law_2097 (by have h9 : rmX7_forcedTotal.cells = 0 := rfl; omega) (by have h9 : rmX7_forcedTotal.slots = 0 := rfl; omega) (fun x606 μ605 => ?_)
        change V κ ρ (603072 - 10 * (f + 1)) (7198826 - 60 * (f + 1)) μ605 _ 2100 [(0, .ref b), (1, .ref v1), (2, .ref v2), (3, .ref v3), (4, .ref v4), (5, .int v5)] [.int x606]
        refine V_aload_n F dL_law_2100 rfl 2 rfl ?_
        refine V_lV (As := []) (rest := [.int x606]) (C := RX8) (N := 0) F X (metX8_forcedTotal (Fx_G F) (Fx_l F) v2  μ605) rfl q1613 q72 q1610 q1611 q1612 ⟨by decide +kernel, by decide +kernel, by decide +kernel⟩ rfl ⟨Nat.le_of_ble_eq_true rfl, Nat.le_of_ble_eq_true rfl⟩ (Nat.le_of_ble_eq_true rfl) dL_law_2101 (by have h9 : rmX8_forcedTotal.cells = 0 := rfl; omega) (by have h9 : rmX8_forcedTotal.slots = 0 := rfl; omega) (fun x608 μ607 => ?_)
        change V κ ρ (603072 - 10 * (f + 1)) (7198826 - 60 * (f + 1)) μ607 _ 2104 [(0, .ref b), (1, .ref v1), (2, .ref v2), (3, .ref v3), (4, .ref v4), (5, .int v5)] [.int x608, .int x606]
        refine V_icmp_eq (tgt := 2634) F dL_law_2104 (by decide) (fun c609 => ?_) (fun c610 => ?_)
        · refine V_iinc (lv' := [(5, .int (v5 + 4)), (0, .ref b), (1, .ref v1), (2, .ref v2), (3, .ref v3), (4, .ref v4)]) F dL_law_2634 5 rfl rfl (lt_L hNL (by decide)) rfl ?_
          refine V_goto (tgt := 28) F dL_law_2637 (by decide) ?_
          refine V_widen (k' := 603072 - 10 * f) (n' := 7198826 - 60 * f) (by omega) (by omega) ?_
          refine V_sub [1, 2, 3, 4, 5, 0] rfl ?_
          exact hk28 v1 v2 v3 v4 (v5 + 4) μ607
        · refine V_iconst (v := 0) F dL_law_2107 (by decide) ?_
          exact V_none
      refine V_case (z := 39) (tgt := 2109) F dL_law_44 (by decide) rfl (by decide) (fun c611 => ?_) (fun c612 => ?_)
      · refine V_aload_n F dL_law_2109 rfl 1 rfl ?_
        refine V_aload_n F dL_law_2110 rfl 0 rfl ?_
        refine V_iload F dL_law_2111 5 rfl ?_
        refine V_iconst (v := 1) F dL_law_2113 (by decide) ?_
        refine V_iadd F dL_law_2114 ?_
        refine V_gd (fun g613 => ?_)
        refine V_sld F X g613 dL_law_2115 ?_
        refine V_i2c F dL_law_2116 ?_
        refine V_aload_n F dL_law_2117 rfl 3 rfl ?_
        refine V_lSX (As := [.ref v1, .int ((((xs (v5 + 1).toNatClampNeg) : Int32).toUInt32 % 65536).toInt32), .ref v3]) (rest := []) (N := 3) F X (metL_append (Fx_G F) (Fx_l F) v1 ((((xs (v5 + 1).toNatClampNeg) : Int32).toUInt32 % 65536).toInt32) v3 μ) q994 q65 q992 q993 ⟨by decide +kernel, by decide +kernel, by decide +kernel⟩ rfl ⟨Nat.le_of_ble_eq_true rfl, Nat.le_of_ble_eq_true rfl⟩ (Nat.le_of_ble_eq_true rfl) dL_law_2118 (by have h9 : rmL_append.cells = 1 := rfl; omega) (by have h9 : rmL_append.slots = 6 := rfl; omega) (fun x615 μ614 => ?_)
        change V κ ρ (603072 - 10 * (f + 1) + 1) (7198826 - 60 * (f + 1) + 6) μ614 _ 2121 [(0, .ref b), (1, .ref v1), (2, .ref v2), (3, .ref v3), (4, .ref v4), (5, .int v5)] [.int x615]
        refine V_istore (lv' := [(6, .int x615), (0, .ref b), (1, .ref v1), (2, .ref v2), (3, .ref v3), (4, .ref v4), (5, .int v5)]) F dL_law_2121 (lt_L hNL (by decide)) rfl ?_
        refine V_aload_n F dL_law_2123 rfl 3 rfl ?_
        refine V_aload_n F dL_law_2124 rfl 1 rfl ?_
        refine V_iload F dL_law_2125 6 rfl ?_
        refine V_iconst (v := 1) F dL_law_2127 (by decide) ?_
        refine V_iadd F dL_law_2128 ?_
        refine V_gd (fun g616 => ?_)
        refine V_sld F X g616 dL_law_2129 ?_
        refine V_i2c F dL_law_2130 ?_
        refine V_lV (As := [.int ((((xs (v5 + 1).toNatClampNeg) : Int32).toUInt32 % 65536).toInt32)]) (rest := []) (C := RX8) (N := 1) F X (metX8_append (Fx_G F) (Fx_l F) v2 ((((xs (v5 + 1).toNatClampNeg) : Int32).toUInt32 % 65536).toInt32) μ614) rfl q1617 q72 q1614 q1615 q1616 ⟨by decide +kernel, by decide +kernel, by decide +kernel⟩ rfl ⟨Nat.le_of_ble_eq_true rfl, Nat.le_of_ble_eq_true rfl⟩ (Nat.le_of_ble_eq_true rfl) dL_law_2131 (by have h9 : rmX8_append.cells = 0 := rfl; omega) (by have h9 : rmX8_append.slots = 0 := rfl; omega) (fun x618 μ617 => ?_)
        change V κ ρ (603072 - 10 * (f + 1) + 1) (7198826 - 60 * (f + 1) + 6) μ617 _ 2134 [(6, .int x615), (0, .ref b), (1, .ref v1), (2, .ref v2), (3, .ref v3), (4, .ref v4), (5, .int v5)] [.int x618]
        refine V_istore (lv' := [(7, .int x618), (6, .int x615), (0, .ref b), (1, .ref v1), (2, .ref v2), (3, .ref v3), (4, .ref v4), (5, .int v5)]) F dL_law_2134 (lt_L hNL (by decide)) rfl ?_
        refine V_aload_n F dL_law_2136 rfl 4 rfl ?_
        refine V_lV (As := []) (rest := []) (C := RX8) (N := 0) F X (metX8_thrown (Fx_G F) (Fx_l F) v2  μ617) rfl q1278 q72 q1275 q1276 q1277 ⟨by decide +kernel, by decide +kernel, by decide +kernel⟩ rfl ⟨Nat.le_of_ble_eq_true rfl, Nat.le_of_ble_eq_true rfl⟩ (Nat.le_of_ble_eq_true rfl) dL_law_2137 (by have h9 : rmX8_thrown.cells = 0 := rfl; omega) (by have h9 : rmX8_thrown.slots = 0 := rfl; omega) (fun x620 μ619 => ?_)
        change V κ ρ (603072 - 10 * (f + 1) + 1) (7198826 - 60 * (f + 1) + 6) μ619 _ 2140 [(7, .int x618), (6, .int x615), (0, .ref b), (1, .ref v1), (2, .ref v2), (3, .ref v3), (4, .ref v4), (5, .int v5)] [.int x620]
        refine V_iload F dL_law_2140 1 rfl ?_
        refine V_icmp_eq (tgt := 2147) F dL_law_2142 (by decide) (fun c621 => ?_) (fun c622 => ?_)
        · refine V_iload F dL_law_2147 1 rfl ?_
          refine V_if_ne (tgt := 2164) F dL_law_2149 (by decide) (fun c623 => ?_) (fun c624 => ?_)
          · refine V_goto (tgt := 2634) F dL_law_2164 (by decide) ?_
            refine V_iinc (lv' := [(5, .int (v5 + 4)), (7, .int x618), (6, .int x615), (0, .ref b), (1, .ref v1), (2, .ref v2), (3, .ref v3), (4, .ref v4)]) F dL_law_2634 7 rfl rfl (lt_L hNL (by decide)) rfl ?_
            refine V_goto (tgt := 28) F dL_law_2637 (by decide) ?_
            refine V_widen (k' := 603072 - 10 * f) (n' := 7198826 - 60 * f) (by omega) (by omega) ?_
            refine V_sub [3, 4, 5, 6, 7, 0] rfl ?_
            exact hk28 v1 v2 v3 v4 (v5 + 4) μ619
          · refine V_aload_n F dL_law_2152 rfl 5 rfl ?_
            refine V_iconst (v := 0) F dL_law_2153 (by decide) ?_
            refine V_aJ F dL_law_2154 (fun x625 => ?_)
            refine V_iload F dL_law_2155 0 rfl ?_
            refine V_i2l F dL_law_2157 ?_
            refine V_lcmp F dL_law_2158 ?_
            refine V_if_eq (tgt := 2164) F dL_law_2159 (by decide) (fun c626 => ?_) (fun c627 => ?_)
            · refine V_goto (tgt := 2634) F dL_law_2164 (by decide) ?_
              refine V_iinc (lv' := [(5, .int (v5 + 4)), (7, .int x618), (6, .int x615), (0, .ref b), (1, .ref v1), (2, .ref v2), (3, .ref v3), (4, .ref v4)]) F dL_law_2634 7 rfl rfl (lt_L hNL (by decide)) rfl ?_
              refine V_goto (tgt := 28) F dL_law_2637 (by decide) ?_
              refine V_widen (k' := 603072 - 10 * f) (n' := 7198826 - 60 * f) (by omega) (by omega) ?_
              refine V_sub [3, 4, 5, 6, 7, 0] rfl ?_
              exact hk28 v1 v2 v3 v4 (v5 + 4) μ619
            · refine V_iconst (v := 0) F dL_law_2162 (by decide) ?_
              exact V_none
        · refine V_iconst (v := 0) F dL_law_2145 (by decide) ?_
          exact V_none
      refine V_case (z := 40) (tgt := 2167) F dL_law_44 (by decide) rfl (by decide) (fun c628 => ?_) (fun c629 => ?_)
      · refine V_aload_n F dL_law_2167 rfl 1 rfl ?_
        refine V_aload_n F dL_law_2168 rfl 3 rfl ?_
        refine V_lSX (As := [.ref v1, .ref v3]) (rest := []) (N := 2) F X (metL_run (Fx_G F) (Fx_l F) hκ v1 v3 μ) q1007 q65 q1005 q1006 ⟨by decide +kernel, by decide +kernel, by decide +kernel⟩ rfl ⟨Nat.le_of_ble_eq_true rfl, Nat.le_of_ble_eq_true rfl⟩ (Nat.le_of_ble_eq_true rfl) dL_law_2169 (by have h9 : rmL_run.cells = 1 := rfl; omega) (by have h9 : rmL_run.slots = 6 := rfl; omega) (fun x631 μ630 => ?_)
        change V κ ρ (603072 - 10 * (f + 1) + 1) (7198826 - 60 * (f + 1) + 6) μ630 _ 2172 [(0, .ref b), (1, .ref v1), (2, .ref v2), (3, .ref v3), (4, .ref v4), (5, .int v5)] [.int x631]
        refine V_istore (lv' := [(6, .int x631), (0, .ref b), (1, .ref v1), (2, .ref v2), (3, .ref v3), (4, .ref v4), (5, .int v5)]) F dL_law_2172 (lt_L hNL (by decide)) rfl ?_
        refine V_aload_n F dL_law_2174 rfl 3 rfl ?_
        refine V_lV (As := []) (rest := []) (C := RX8) (N := 0) F X (metX8_run (Fx_G F) (Fx_l F) v2  μ630) rfl q1621 q72 q1618 q1619 q1620 ⟨by decide +kernel, by decide +kernel, by decide +kernel⟩ rfl ⟨Nat.le_of_ble_eq_true rfl, Nat.le_of_ble_eq_true rfl⟩ (Nat.le_of_ble_eq_true rfl) dL_law_2175 (by have h9 : rmX8_run.cells = 0 := rfl; omega) (by have h9 : rmX8_run.slots = 0 := rfl; omega) (fun x633 μ632 => ?_)
        change V κ ρ (603072 - 10 * (f + 1) + 1) (7198826 - 60 * (f + 1) + 6) μ632 _ 2178 [(6, .int x631), (0, .ref b), (1, .ref v1), (2, .ref v2), (3, .ref v3), (4, .ref v4), (5, .int v5)] [.int x633]
        refine V_istore (lv' := [(7, .int x633), (6, .int x631), (0, .ref b), (1, .ref v1), (2, .ref v2), (3, .ref v3), (4, .ref v4), (5, .int v5)]) F dL_law_2178 (lt_L hNL (by decide)) rfl ?_
        refine V_aload_n F dL_law_2180 rfl 4 rfl ?_
        refine V_lV (As := []) (rest := []) (C := RX8) (N := 0) F X (metX8_thrown (Fx_G F) (Fx_l F) v2  μ632) rfl q1278 q72 q1275 q1276 q1277 ⟨by decide +kernel, by decide +kernel, by decide +kernel⟩ rfl ⟨Nat.le_of_ble_eq_true rfl, Nat.le_of_ble_eq_true rfl⟩ (Nat.le_of_ble_eq_true rfl) dL_law_2181 (by have h9 : rmX8_thrown.cells = 0 := rfl; omega) (by have h9 : rmX8_thrown.slots = 0 := rfl; omega) (fun x635 μ634 => ?_)
        change V κ ρ (603072 - 10 * (f + 1) + 1) (7198826 - 60 * (f + 1) + 6) μ634 _ 2184 [(7, .int x633), (6, .int x631), (0, .ref b), (1, .ref v1), (2, .ref v2), (3, .ref v3), (4, .ref v4), (5, .int v5)] [.int x635]
        refine V_iload F dL_law_2184 1 rfl ?_
        refine V_icmp_eq (tgt := 2191) F dL_law_2186 (by decide) (fun c636 => ?_) (fun c637 => ?_)
        · refine V_iload F dL_law_2191 1 rfl ?_
          refine V_if_ne (tgt := 2208) F dL_law_2193 (by decide) (fun c638 => ?_) (fun c639 => ?_)
          · refine V_goto (tgt := 2634) F dL_law_2208 (by decide) ?_
            refine V_iinc (lv' := [(5, .int (v5 + 4)), (7, .int x633), (6, .int x631), (0, .ref b), (1, .ref v1), (2, .ref v2), (3, .ref v3), (4, .ref v4)]) F dL_law_2634 7 rfl rfl (lt_L hNL (by decide)) rfl ?_
            refine V_goto (tgt := 28) F dL_law_2637 (by decide) ?_
            refine V_widen (k' := 603072 - 10 * f) (n' := 7198826 - 60 * f) (by omega) (by omega) ?_
            refine V_sub [3, 4, 5, 6, 7, 0] rfl ?_
            exact hk28 v1 v2 v3 v4 (v5 + 4) μ634
          · refine V_aload_n F dL_law_2196 rfl 5 rfl ?_
            refine V_iconst (v := 0) F dL_law_2197 (by decide) ?_
            refine V_aJ F dL_law_2198 (fun x640 => ?_)
            refine V_iload F dL_law_2199 0 rfl ?_
            refine V_i2l F dL_law_2201 ?_
            refine V_lcmp F dL_law_2202 ?_
            refine V_if_eq (tgt := 2208) F dL_law_2203 (by decide) (fun c641 => ?_) (fun c642 => ?_)
            · refine V_goto (tgt := 2634) F dL_law_2208 (by decide) ?_
              refine V_iinc (lv' := [(5, .int (v5 + 4)), (7, .int x633), (6, .int x631), (0, .ref b), (1, .ref v1), (2, .ref v2), (3, .ref v3), (4, .ref v4)]) F dL_law_2634 7 rfl rfl (lt_L hNL (by decide)) rfl ?_
              refine V_goto (tgt := 28) F dL_law_2637 (by decide) ?_
              refine V_widen (k' := 603072 - 10 * f) (n' := 7198826 - 60 * f) (by omega) (by omega) ?_
              refine V_sub [3, 4, 5, 6, 7, 0] rfl ?_
              exact hk28 v1 v2 v3 v4 (v5 + 4) μ634
            · refine V_iconst (v := 0) F dL_law_2206 (by decide) ?_
              exact V_none
        · refine V_iconst (v := 0) F dL_law_2189 (by decide) ?_
          exact V_none
      refine V_case (z := 41) (tgt := 2211) F dL_law_44 (by decide) rfl (by decide) (fun c643 => ?_) (fun c644 => ?_)
      · refine V_aload_n F dL_law_2211 rfl 1 rfl ?_
        refine V_aload_n F dL_law_2212 rfl 3 rfl ?_
        refine V_lSX (As := [.ref v1, .ref v3]) (rest := []) (N := 2) F X (metL_errorPosition (Fx_G F) (Fx_l F) v1 v3 μ) q1118 q65 q1116 q1117 ⟨by decide +kernel, by decide +kernel, by decide +kernel⟩ rfl ⟨Nat.le_of_ble_eq_true rfl, Nat.le_of_ble_eq_true rfl⟩ (Nat.le_of_ble_eq_true rfl) dL_law_2213 (by have h9 : rmL_errorPosition.cells = 1 := rfl; omega) (by have h9 : rmL_errorPosition.slots = 6 := rfl; omega) (fun x646 μ645 => ?_)
        change V κ ρ (603072 - 10 * (f + 1) + 1) (7198826 - 60 * (f + 1) + 6) μ645 _ 2216 [(0, .ref b), (1, .ref v1), (2, .ref v2), (3, .ref v3), (4, .ref v4), (5, .int v5)] [.int x646]
        refine V_istore (lv' := [(6, .int x646), (0, .ref b), (1, .ref v1), (2, .ref v2), (3, .ref v3), (4, .ref v4), (5, .int v5)]) F dL_law_2216 (lt_L hNL (by decide)) rfl ?_
        refine V_aload_n F dL_law_2218 rfl 3 rfl ?_
        refine V_lV (As := []) (rest := []) (C := RX8) (N := 0) F X (metX8_errorPosition (Fx_G F) (Fx_l F) v2  μ645) rfl q1657 q72 q1654 q1655 q1656 ⟨by decide +kernel, by decide +kernel, by decide +kernel⟩ rfl ⟨Nat.le_of_ble_eq_true rfl, Nat.le_of_ble_eq_true rfl⟩ (Nat.le_of_ble_eq_true rfl) dL_law_2219 (by have h9 : rmX8_errorPosition.cells = 0 := rfl; omega) (by have h9 : rmX8_errorPosition.slots = 0 := rfl; omega) (fun x648 μ647 => ?_)
        change V κ ρ (603072 - 10 * (f + 1) + 1) (7198826 - 60 * (f + 1) + 6) μ647 _ 2222 [(6, .int x646), (0, .ref b), (1, .ref v1), (2, .ref v2), (3, .ref v3), (4, .ref v4), (5, .int v5)] [.int x648]
        refine V_istore (lv' := [(7, .int x648), (6, .int x646), (0, .ref b), (1, .ref v1), (2, .ref v2), (3, .ref v3), (4, .ref v4), (5, .int v5)]) F dL_law_2222 (lt_L hNL (by decide)) rfl ?_
        refine V_aload_n F dL_law_2224 rfl 4 rfl ?_
        refine V_lV (As := []) (rest := []) (C := RX8) (N := 0) F X (metX8_thrown (Fx_G F) (Fx_l F) v2  μ647) rfl q1278 q72 q1275 q1276 q1277 ⟨by decide +kernel, by decide +kernel, by decide +kernel⟩ rfl ⟨Nat.le_of_ble_eq_true rfl, Nat.le_of_ble_eq_true rfl⟩ (Nat.le_of_ble_eq_true rfl) dL_law_2225 (by have h9 : rmX8_thrown.cells = 0 := rfl; omega) (by have h9 : rmX8_thrown.slots = 0 := rfl; omega) (fun x650 μ649 => ?_)
        change V κ ρ (603072 - 10 * (f + 1) + 1) (7198826 - 60 * (f + 1) + 6) μ649 _ 2228 [(7, .int x648), (6, .int x646), (0, .ref b), (1, .ref v1), (2, .ref v2), (3, .ref v3), (4, .ref v4), (5, .int v5)] [.int x650]
        refine V_iload F dL_law_2228 1 rfl ?_
        refine V_icmp_eq (tgt := 2235) F dL_law_2230 (by decide) (fun c651 => ?_) (fun c652 => ?_)
        · refine V_iload F dL_law_2235 1 rfl ?_
          refine V_if_ne (tgt := 2252) F dL_law_2237 (by decide) (fun c653 => ?_) (fun c654 => ?_)
          · refine V_goto (tgt := 2634) F dL_law_2252 (by decide) ?_
            refine V_iinc (lv' := [(5, .int (v5 + 4)), (7, .int x648), (6, .int x646), (0, .ref b), (1, .ref v1), (2, .ref v2), (3, .ref v3), (4, .ref v4)]) F dL_law_2634 7 rfl rfl (lt_L hNL (by decide)) rfl ?_
            refine V_goto (tgt := 28) F dL_law_2637 (by decide) ?_
            refine V_widen (k' := 603072 - 10 * f) (n' := 7198826 - 60 * f) (by omega) (by omega) ?_
            refine V_sub [3, 4, 5, 6, 7, 0] rfl ?_
            exact hk28 v1 v2 v3 v4 (v5 + 4) μ649
          · refine V_aload_n F dL_law_2240 rfl 5 rfl ?_
            refine V_iconst (v := 0) F dL_law_2241 (by decide) ?_
            refine V_aJ F dL_law_2242 (fun x655 => ?_)
            refine V_iload F dL_law_2243 0 rfl ?_
            refine V_i2l F dL_law_2245 ?_
            refine V_lcmp F dL_law_2246 ?_
            refine V_if_eq (tgt := 2252) F dL_law_2247 (by decide) (fun c656 => ?_) (fun c657 => ?_)
            · refine V_goto (tgt := 2634) F dL_law_2252 (by decide) ?_
              refine V_iinc (lv' := [(5, .int (v5 + 4)), (7, .int x648), (6, .int x646), (0, .ref b), (1, .ref v1), (2, .ref v2), (3, .ref v3), (4, .ref v4)]) F dL_law_2634 7 rfl rfl (lt_L hNL (by decide)) rfl ?_
              refine V_goto (tgt := 28) F dL_law_2637 (by decide) ?_
              refine V_widen (k' := 603072 - 10 * f) (n' := 7198826 - 60 * f) (by omega) (by omega) ?_
              refine V_sub [3, 4, 5, 6, 7, 0] rfl ?_
              exact hk28 v1 v2 v3 v4 (v5 + 4) μ649
            · refine V_iconst (v := 0) F dL_law_2250 (by decide) ?_
              exact V_none
        · refine V_iconst (v := 0) F dL_law_2233 (by decide) ?_
          exact V_none
      refine V_case (z := 42) (tgt := 2255) F dL_law_44 (by decide) rfl (by decide) (fun c658 => ?_) (fun c659 => ?_)
      · refine V_aload_n F dL_law_2255 rfl 1 rfl ?_
        refine V_aload_n F dL_law_2256 rfl 3 rfl ?_
        refine V_lSX (As := [.ref v1, .ref v3]) (rest := []) (N := 2) F X (metL_failedCommand (Fx_G F) (Fx_l F) v1 v3 μ) q1125 q65 q1123 q1124 ⟨by decide +kernel, by decide +kernel, by decide +kernel⟩ rfl ⟨Nat.le_of_ble_eq_true rfl, Nat.le_of_ble_eq_true rfl⟩ (Nat.le_of_ble_eq_true rfl) dL_law_2257 (by have h9 : rmL_failedCommand.cells = 1 := rfl; omega) (by have h9 : rmL_failedCommand.slots = 6 := rfl; omega) (fun x661 μ660 => ?_)
        change V κ ρ (603072 - 10 * (f + 1) + 1) (7198826 - 60 * (f + 1) + 6) μ660 _ 2260 [(0, .ref b), (1, .ref v1), (2, .ref v2), (3, .ref v3), (4, .ref v4), (5, .int v5)] [.int x661]
        refine V_istore (lv' := [(6, .int x661), (0, .ref b), (1, .ref v1), (2, .ref v2), (3, .ref v3), (4, .ref v4), (5, .int v5)]) F dL_law_2260 (lt_L hNL (by decide)) rfl ?_
        refine V_aload_n F dL_law_2262 rfl 3 rfl ?_
        refine V_lV (As := []) (rest := []) (C := RX8) (N := 0) F X (metX8_failedCommand (Fx_G F) (Fx_l F) v2  μ660) rfl q1661 q72 q1658 q1659 q1660 ⟨by decide +kernel, by decide +kernel, by decide +kernel⟩ rfl ⟨Nat.le_of_ble_eq_true rfl, Nat.le_of_ble_eq_true rfl⟩ (Nat.le_of_ble_eq_true rfl) dL_law_2263 (by have h9 : rmX8_failedCommand.cells = 0 := rfl; omega) (by have h9 : rmX8_failedCommand.slots = 0 := rfl; omega) (fun x663 μ662 => ?_)
        change V κ ρ (603072 - 10 * (f + 1) + 1) (7198826 - 60 * (f + 1) + 6) μ662 _ 2266 [(6, .int x661), (0, .ref b), (1, .ref v1), (2, .ref v2), (3, .ref v3), (4, .ref v4), (5, .int v5)] [.int x663]
        refine V_istore (lv' := [(7, .int x663), (6, .int x661), (0, .ref b), (1, .ref v1), (2, .ref v2), (3, .ref v3), (4, .ref v4), (5, .int v5)]) F dL_law_2266 (lt_L hNL (by decide)) rfl ?_
        refine V_aload_n F dL_law_2268 rfl 4 rfl ?_
        refine V_lV (As := []) (rest := []) (C := RX8) (N := 0) F X (metX8_thrown (Fx_G F) (Fx_l F) v2  μ662) rfl q1278 q72 q1275 q1276 q1277 ⟨by decide +kernel, by decide +kernel, by decide +kernel⟩ rfl ⟨Nat.le_of_ble_eq_true rfl, Nat.le_of_ble_eq_true rfl⟩ (Nat.le_of_ble_eq_true rfl) dL_law_2269 (by have h9 : rmX8_thrown.cells = 0 := rfl; omega) (by have h9 : rmX8_thrown.slots = 0 := rfl; omega) (fun x665 μ664 => ?_)
        change V κ ρ (603072 - 10 * (f + 1) + 1) (7198826 - 60 * (f + 1) + 6) μ664 _ 2272 [(7, .int x663), (6, .int x661), (0, .ref b), (1, .ref v1), (2, .ref v2), (3, .ref v3), (4, .ref v4), (5, .int v5)] [.int x665]
        refine V_iload F dL_law_2272 1 rfl ?_
        refine V_icmp_eq (tgt := 2279) F dL_law_2274 (by decide) (fun c666 => ?_) (fun c667 => ?_)
        · refine V_iload F dL_law_2279 1 rfl ?_
          refine V_if_ne (tgt := 2296) F dL_law_2281 (by decide) (fun c668 => ?_) (fun c669 => ?_)
          · refine V_goto (tgt := 2634) F dL_law_2296 (by decide) ?_
            refine V_iinc (lv' := [(5, .int (v5 + 4)), (7, .int x663), (6, .int x661), (0, .ref b), (1, .ref v1), (2, .ref v2), (3, .ref v3), (4, .ref v4)]) F dL_law_2634 7 rfl rfl (lt_L hNL (by decide)) rfl ?_
            refine V_goto (tgt := 28) F dL_law_2637 (by decide) ?_
            refine V_widen (k' := 603072 - 10 * f) (n' := 7198826 - 60 * f) (by omega) (by omega) ?_
            refine V_sub [3, 4, 5, 6, 7, 0] rfl ?_
            exact hk28 v1 v2 v3 v4 (v5 + 4) μ664
          · refine V_aload_n F dL_law_2284 rfl 5 rfl ?_
            refine V_iconst (v := 0) F dL_law_2285 (by decide) ?_
            refine V_aJ F dL_law_2286 (fun x670 => ?_)
            refine V_iload F dL_law_2287 0 rfl ?_
            refine V_i2l F dL_law_2289 ?_
            refine V_lcmp F dL_law_2290 ?_
            refine V_if_eq (tgt := 2296) F dL_law_2291 (by decide) (fun c671 => ?_) (fun c672 => ?_)
            · refine V_goto (tgt := 2634) F dL_law_2296 (by decide) ?_
              refine V_iinc (lv' := [(5, .int (v5 + 4)), (7, .int x663), (6, .int x661), (0, .ref b), (1, .ref v1), (2, .ref v2), (3, .ref v3), (4, .ref v4)]) F dL_law_2634 7 rfl rfl (lt_L hNL (by decide)) rfl ?_
              refine V_goto (tgt := 28) F dL_law_2637 (by decide) ?_
              refine V_widen (k' := 603072 - 10 * f) (n' := 7198826 - 60 * f) (by omega) (by omega) ?_
              refine V_sub [3, 4, 5, 6, 7, 0] rfl ?_
              exact hk28 v1 v2 v3 v4 (v5 + 4) μ664
            · refine V_iconst (v := 0) F dL_law_2294 (by decide) ?_
              exact V_none
        · refine V_iconst (v := 0) F dL_law_2277 (by decide) ?_
          exact V_none
      refine V_case (z := 43) (tgt := 2299) F dL_law_44 (by decide) rfl (by decide) (fun c673 => ?_) (fun c674 => ?_)
      · refine V_aload_n F dL_law_2299 rfl 1 rfl ?_
        refine V_aload_n F dL_law_2300 rfl 0 rfl ?_
        refine V_iload F dL_law_2301 5 rfl ?_
        refine V_iconst (v := 1) F dL_law_2303 (by decide) ?_
        refine V_iadd F dL_law_2304 ?_
        refine V_gd (fun g675 => ?_)
        refine V_sld F X g675 dL_law_2305 ?_
        refine V_aload_n F dL_law_2306 rfl 3 rfl ?_
        refine V_lSX (As := [.ref v1, .int (xs (v5 + 1).toNatClampNeg), .ref v3]) (rest := []) (N := 3) F X (metL_describeRow (Fx_G F) (Fx_l F) v1 (xs (v5 + 1).toNatClampNeg) v3 μ) q1132 q65 q1130 q1131 ⟨by decide +kernel, by decide +kernel, by decide +kernel⟩ rfl ⟨Nat.le_of_ble_eq_true rfl, Nat.le_of_ble_eq_true rfl⟩ (Nat.le_of_ble_eq_true rfl) dL_law_2307 (by have h9 : rmL_describeRow.cells = 1 := rfl; omega) (by have h9 : rmL_describeRow.slots = 6 := rfl; omega) (fun x677 μ676 => ?_)
        change V κ ρ (603072 - 10 * (f + 1) + 1) (7198826 - 60 * (f + 1) + 6) μ676 _ 2310 [(0, .ref b), (1, .ref v1), (2, .ref v2), (3, .ref v3), (4, .ref v4), (5, .int v5)] [.int x677]
        refine V_istore (lv' := [(6, .int x677), (0, .ref b), (1, .ref v1), (2, .ref v2), (3, .ref v3), (4, .ref v4), (5, .int v5)]) F dL_law_2310 (lt_L hNL (by decide)) rfl ?_
        refine V_aload_n F dL_law_2312 rfl 3 rfl ?_
        refine V_aload_n F dL_law_2313 rfl 1 rfl ?_
        refine V_iload F dL_law_2314 6 rfl ?_
        refine V_iconst (v := 1) F dL_law_2316 (by decide) ?_
        refine V_iadd F dL_law_2317 ?_
        refine V_gd (fun g678 => ?_)
        refine V_sld F X g678 dL_law_2318 ?_
        refine V_lV (As := [.int (xs (v5 + 1).toNatClampNeg)]) (rest := []) (C := RX8) (N := 1) F X (metX8_describeRow (Fx_G F) (Fx_l F) v2 (xs (v5 + 1).toNatClampNeg) μ676) rfl q1665 q72 q1662 q1663 q1664 ⟨by decide +kernel, by decide +kernel, by decide +kernel⟩ rfl ⟨Nat.le_of_ble_eq_true rfl, Nat.le_of_ble_eq_true rfl⟩ (Nat.le_of_ble_eq_true rfl) dL_law_2319 (by have h9 : rmX8_describeRow.cells = 0 := rfl; omega) (by have h9 : rmX8_describeRow.slots = 0 := rfl; omega) (fun x680 μ679 => ?_)
        change V κ ρ (603072 - 10 * (f + 1) + 1) (7198826 - 60 * (f + 1) + 6) μ679 _ 2322 [(6, .int x677), (0, .ref b), (1, .ref v1), (2, .ref v2), (3, .ref v3), (4, .ref v4), (5, .int v5)] [.int x680]
        refine V_istore (lv' := [(7, .int x680), (6, .int x677), (0, .ref b), (1, .ref v1), (2, .ref v2), (3, .ref v3), (4, .ref v4), (5, .int v5)]) F dL_law_2322 (lt_L hNL (by decide)) rfl ?_
        refine V_aload_n F dL_law_2324 rfl 4 rfl ?_
        refine V_lV (As := []) (rest := []) (C := RX8) (N := 0) F X (metX8_thrown (Fx_G F) (Fx_l F) v2  μ679) rfl q1278 q72 q1275 q1276 q1277 ⟨by decide +kernel, by decide +kernel, by decide +kernel⟩ rfl ⟨Nat.le_of_ble_eq_true rfl, Nat.le_of_ble_eq_true rfl⟩ (Nat.le_of_ble_eq_true rfl) dL_law_2325 (by have h9 : rmX8_thrown.cells = 0 := rfl; omega) (by have h9 : rmX8_thrown.slots = 0 := rfl; omega) (fun x682 μ681 => ?_)
        change V κ ρ (603072 - 10 * (f + 1) + 1) (7198826 - 60 * (f + 1) + 6) μ681 _ 2328 [(7, .int x680), (6, .int x677), (0, .ref b), (1, .ref v1), (2, .ref v2), (3, .ref v3), (4, .ref v4), (5, .int v5)] [.int x682]
        refine V_iload F dL_law_2328 1 rfl ?_
        refine V_icmp_eq (tgt := 2335) F dL_law_2330 (by decide) (fun c683 => ?_) (fun c684 => ?_)
        · refine V_iload F dL_law_2335 1 rfl ?_
          refine V_if_ne (tgt := 2352) F dL_law_2337 (by decide) (fun c685 => ?_) (fun c686 => ?_)
          · refine V_goto (tgt := 2634) F dL_law_2352 (by decide) ?_
            refine V_iinc (lv' := [(5, .int (v5 + 4)), (7, .int x680), (6, .int x677), (0, .ref b), (1, .ref v1), (2, .ref v2), (3, .ref v3), (4, .ref v4)]) F dL_law_2634 7 rfl rfl (lt_L hNL (by decide)) rfl ?_
            refine V_goto (tgt := 28) F dL_law_2637 (by decide) ?_
            refine V_widen (k' := 603072 - 10 * f) (n' := 7198826 - 60 * f) (by omega) (by omega) ?_
            refine V_sub [3, 4, 5, 6, 7, 0] rfl ?_
            exact hk28 v1 v2 v3 v4 (v5 + 4) μ681
          · refine V_aload_n F dL_law_2340 rfl 5 rfl ?_
            refine V_iconst (v := 0) F dL_law_2341 (by decide) ?_
            refine V_aJ F dL_law_2342 (fun x687 => ?_)
            refine V_iload F dL_law_2343 0 rfl ?_
            refine V_i2l F dL_law_2345 ?_
            refine V_lcmp F dL_law_2346 ?_
            refine V_if_eq (tgt := 2352) F dL_law_2347 (by decide) (fun c688 => ?_) (fun c689 => ?_)
            · refine V_goto (tgt := 2634) F dL_law_2352 (by decide) ?_
              refine V_iinc (lv' := [(5, .int (v5 + 4)), (7, .int x680), (6, .int x677), (0, .ref b), (1, .ref v1), (2, .ref v2), (3, .ref v3), (4, .ref v4)]) F dL_law_2634 7 rfl rfl (lt_L hNL (by decide)) rfl ?_
              refine V_goto (tgt := 28) F dL_law_2637 (by decide) ?_
              refine V_widen (k' := 603072 - 10 * f) (n' := 7198826 - 60 * f) (by omega) (by omega) ?_
              refine V_sub [3, 4, 5, 6, 7, 0] rfl ?_
              exact hk28 v1 v2 v3 v4 (v5 + 4) μ681
            · refine V_iconst (v := 0) F dL_law_2350 (by decide) ?_
              exact V_none
        · refine V_iconst (v := 0) F dL_law_2333 (by decide) ?_
          exact V_none
      refine V_case (z := 44) (tgt := 2355) F dL_law_44 (by decide) rfl (by decide) (fun c690 => ?_) (fun c691 => ?_)
      · refine V_aload_n F dL_law_2355 rfl 1 rfl ?_
        refine V_aload_n F dL_law_2356 rfl 0 rfl ?_
        refine V_iload F dL_law_2357 5 rfl ?_
        refine V_iconst (v := 1) F dL_law_2359 (by decide) ?_
        refine V_iadd F dL_law_2360 ?_
        refine V_gd (fun g692 => ?_)
        refine V_sld F X g692 dL_law_2361 ?_
        refine V_aload_n F dL_law_2362 rfl 3 rfl ?_
        refine V_lSX (As := [.ref v1, .int (xs (v5 + 1).toNatClampNeg), .ref v3]) (rest := []) (N := 3) F X (metL_lineAt (Fx_G F) (Fx_l F) v1 (xs (v5 + 1).toNatClampNeg) v3 μ) q1144 q65 q1142 q1143 ⟨by decide +kernel, by decide +kernel, by decide +kernel⟩ rfl ⟨Nat.le_of_ble_eq_true rfl, Nat.le_of_ble_eq_true rfl⟩ (Nat.le_of_ble_eq_true rfl) dL_law_2363 (by have h9 : rmL_lineAt.cells = 1 := rfl; omega) (by have h9 : rmL_lineAt.slots = 6 := rfl; omega) (fun x694 μ693 => ?_)
        change V κ ρ (603072 - 10 * (f + 1) + 1) (7198826 - 60 * (f + 1) + 6) μ693 _ 2366 [(0, .ref b), (1, .ref v1), (2, .ref v2), (3, .ref v3), (4, .ref v4), (5, .int v5)] [.int x694]
        refine V_istore (lv' := [(6, .int x694), (0, .ref b), (1, .ref v1), (2, .ref v2), (3, .ref v3), (4, .ref v4), (5, .int v5)]) F dL_law_2366 (lt_L hNL (by decide)) rfl ?_
        refine V_aload_n F dL_law_2368 rfl 3 rfl ?_
        refine V_aload_n F dL_law_2369 rfl 1 rfl ?_
        refine V_iload F dL_law_2370 6 rfl ?_
        refine V_iconst (v := 1) F dL_law_2372 (by decide) ?_
        refine V_iadd F dL_law_2373 ?_
        refine V_gd (fun g695 => ?_)
        refine V_sld F X g695 dL_law_2374 ?_
        refine V_lV (As := [.int (xs (v5 + 1).toNatClampNeg)]) (rest := []) (C := RX8) (N := 1) F X (metX8_lineAt (Fx_G F) (Fx_l F) v2 (xs (v5 + 1).toNatClampNeg) μ693) rfl q1669 q72 q1666 q1667 q1668 ⟨by decide +kernel, by decide +kernel, by decide +kernel⟩ rfl ⟨Nat.le_of_ble_eq_true rfl, Nat.le_of_ble_eq_true rfl⟩ (Nat.le_of_ble_eq_true rfl) dL_law_2375 (by have h9 : rmX8_lineAt.cells = 0 := rfl; omega) (by have h9 : rmX8_lineAt.slots = 0 := rfl; omega) (fun x697 μ696 => ?_)
        change V κ ρ (603072 - 10 * (f + 1) + 1) (7198826 - 60 * (f + 1) + 6) μ696 _ 2378 [(6, .int x694), (0, .ref b), (1, .ref v1), (2, .ref v2), (3, .ref v3), (4, .ref v4), (5, .int v5)] [.int x697]
        refine V_istore (lv' := [(7, .int x697), (6, .int x694), (0, .ref b), (1, .ref v1), (2, .ref v2), (3, .ref v3), (4, .ref v4), (5, .int v5)]) F dL_law_2378 (lt_L hNL (by decide)) rfl ?_
        refine V_aload_n F dL_law_2380 rfl 4 rfl ?_
        refine V_lV (As := []) (rest := []) (C := RX8) (N := 0) F X (metX8_thrown (Fx_G F) (Fx_l F) v2  μ696) rfl q1278 q72 q1275 q1276 q1277 ⟨by decide +kernel, by decide +kernel, by decide +kernel⟩ rfl ⟨Nat.le_of_ble_eq_true rfl, Nat.le_of_ble_eq_true rfl⟩ (Nat.le_of_ble_eq_true rfl) dL_law_2381 (by have h9 : rmX8_thrown.cells = 0 := rfl; omega) (by have h9 : rmX8_thrown.slots = 0 := rfl; omega) (fun x699 μ698 => ?_)
        change V κ ρ (603072 - 10 * (f + 1) + 1) (7198826 - 60 * (f + 1) + 6) μ698 _ 2384 [(7, .int x697), (6, .int x694), (0, .ref b), (1, .ref v1), (2, .ref v2), (3, .ref v3), (4, .ref v4), (5, .int v5)] [.int x699]
        refine V_iload F dL_law_2384 1 rfl ?_
        refine V_icmp_eq (tgt := 2391) F dL_law_2386 (by decide) (fun c700 => ?_) (fun c701 => ?_)
        · refine V_iload F dL_law_2391 1 rfl ?_
          refine V_if_ne (tgt := 2408) F dL_law_2393 (by decide) (fun c702 => ?_) (fun c703 => ?_)
          · refine V_goto (tgt := 2634) F dL_law_2408 (by decide) ?_
            refine V_iinc (lv' := [(5, .int (v5 + 4)), (7, .int x697), (6, .int x694), (0, .ref b), (1, .ref v1), (2, .ref v2), (3, .ref v3), (4, .ref v4)]) F dL_law_2634 7 rfl rfl (lt_L hNL (by decide)) rfl ?_
            refine V_goto (tgt := 28) F dL_law_2637 (by decide) ?_
            refine V_widen (k' := 603072 - 10 * f) (n' := 7198826 - 60 * f) (by omega) (by omega) ?_
            refine V_sub [3, 4, 5, 6, 7, 0] rfl ?_
            exact hk28 v1 v2 v3 v4 (v5 + 4) μ698
          · refine V_aload_n F dL_law_2396 rfl 5 rfl ?_
            refine V_iconst (v := 0) F dL_law_2397 (by decide) ?_
            refine V_aJ F dL_law_2398 (fun x704 => ?_)
            refine V_iload F dL_law_2399 0 rfl ?_
            refine V_i2l F dL_law_2401 ?_
            refine V_lcmp F dL_law_2402 ?_
            refine V_if_eq (tgt := 2408) F dL_law_2403 (by decide) (fun c705 => ?_) (fun c706 => ?_)
            · refine V_goto (tgt := 2634) F dL_law_2408 (by decide) ?_
              refine V_iinc (lv' := [(5, .int (v5 + 4)), (7, .int x697), (6, .int x694), (0, .ref b), (1, .ref v1), (2, .ref v2), (3, .ref v3), (4, .ref v4)]) F dL_law_2634 7 rfl rfl (lt_L hNL (by decide)) rfl ?_
              refine V_goto (tgt := 28) F dL_law_2637 (by decide) ?_
              refine V_widen (k' := 603072 - 10 * f) (n' := 7198826 - 60 * f) (by omega) (by omega) ?_
              refine V_sub [3, 4, 5, 6, 7, 0] rfl ?_
              exact hk28 v1 v2 v3 v4 (v5 + 4) μ698
            · refine V_iconst (v := 0) F dL_law_2406 (by decide) ?_
              exact V_none
        · refine V_iconst (v := 0) F dL_law_2389 (by decide) ?_
          exact V_none
      refine V_case (z := 45) (tgt := 2411) F dL_law_44 (by decide) rfl (by decide) (fun c707 => ?_) (fun c708 => ?_)
      · refine V_aload_n F dL_law_2411 rfl 1 rfl ?_
        refine V_aload_n F dL_law_2412 rfl 3 rfl ?_
        refine V_lSX (As := [.ref v1, .ref v3]) (rest := []) (N := 2) F X (metL_meanBatteryBits (Fx_G F) (Fx_l F) v1 v3 μ) q1152 q65 q1150 q1151 ⟨by decide +kernel, by decide +kernel, by decide +kernel⟩ rfl ⟨Nat.le_of_ble_eq_true rfl, Nat.le_of_ble_eq_true rfl⟩ (Nat.le_of_ble_eq_true rfl) dL_law_2413 (by have h9 : rmL_meanBatteryBits.cells = 1 := rfl; omega) (by have h9 : rmL_meanBatteryBits.slots = 6 := rfl; omega) (fun x710 μ709 => ?_)
        change V κ ρ (603072 - 10 * (f + 1) + 1) (7198826 - 60 * (f + 1) + 6) μ709 _ 2416 [(0, .ref b), (1, .ref v1), (2, .ref v2), (3, .ref v3), (4, .ref v4), (5, .int v5)] [.int x710]
        refine V_istore (lv' := [(6, .int x710), (0, .ref b), (1, .ref v1), (2, .ref v2), (3, .ref v3), (4, .ref v4), (5, .int v5)]) F dL_law_2416 (lt_L hNL (by decide)) rfl ?_
        refine V_aload_n F dL_law_2418 rfl 3 rfl ?_
        refine V_lV (As := []) (rest := []) (C := RX8) (N := 0) F X (metX8_meanBatteryBits (Fx_G F) (Fx_l F) v2  μ709) rfl q1673 q72 q1670 q1671 q1672 ⟨by decide +kernel, by decide +kernel, by decide +kernel⟩ rfl ⟨Nat.le_of_ble_eq_true rfl, Nat.le_of_ble_eq_true rfl⟩ (Nat.le_of_ble_eq_true rfl) dL_law_2419 (by have h9 : rmX8_meanBatteryBits.cells = 0 := rfl; omega) (by have h9 : rmX8_meanBatteryBits.slots = 0 := rfl; omega) (fun x712 μ711 => ?_)
        change V κ ρ (603072 - 10 * (f + 1) + 1) (7198826 - 60 * (f + 1) + 6) μ711 _ 2422 [(6, .int x710), (0, .ref b), (1, .ref v1), (2, .ref v2), (3, .ref v3), (4, .ref v4), (5, .int v5)] [.int x712]
        refine V_istore (lv' := [(7, .int x712), (6, .int x710), (0, .ref b), (1, .ref v1), (2, .ref v2), (3, .ref v3), (4, .ref v4), (5, .int v5)]) F dL_law_2422 (lt_L hNL (by decide)) rfl ?_
        refine V_aload_n F dL_law_2424 rfl 4 rfl ?_
        refine V_lV (As := []) (rest := []) (C := RX8) (N := 0) F X (metX8_thrown (Fx_G F) (Fx_l F) v2  μ711) rfl q1278 q72 q1275 q1276 q1277 ⟨by decide +kernel, by decide +kernel, by decide +kernel⟩ rfl ⟨Nat.le_of_ble_eq_true rfl, Nat.le_of_ble_eq_true rfl⟩ (Nat.le_of_ble_eq_true rfl) dL_law_2425 (by have h9 : rmX8_thrown.cells = 0 := rfl; omega) (by have h9 : rmX8_thrown.slots = 0 := rfl; omega) (fun x714 μ713 => ?_)
        change V κ ρ (603072 - 10 * (f + 1) + 1) (7198826 - 60 * (f + 1) + 6) μ713 _ 2428 [(7, .int x712), (6, .int x710), (0, .ref b), (1, .ref v1), (2, .ref v2), (3, .ref v3), (4, .ref v4), (5, .int v5)] [.int x714]
        refine V_iload F dL_law_2428 1 rfl ?_
        refine V_icmp_eq (tgt := 2435) F dL_law_2430 (by decide) (fun c715 => ?_) (fun c716 => ?_)
        · refine V_iload F dL_law_2435 1 rfl ?_
          refine V_if_ne (tgt := 2452) F dL_law_2437 (by decide) (fun c717 => ?_) (fun c718 => ?_)
          · refine V_goto (tgt := 2634) F dL_law_2452 (by decide) ?_
            refine V_iinc (lv' := [(5, .int (v5 + 4)), (7, .int x712), (6, .int x710), (0, .ref b), (1, .ref v1), (2, .ref v2), (3, .ref v3), (4, .ref v4)]) F dL_law_2634 7 rfl rfl (lt_L hNL (by decide)) rfl ?_
            refine V_goto (tgt := 28) F dL_law_2637 (by decide) ?_
            refine V_widen (k' := 603072 - 10 * f) (n' := 7198826 - 60 * f) (by omega) (by omega) ?_
            refine V_sub [3, 4, 5, 6, 7, 0] rfl ?_
            exact hk28 v1 v2 v3 v4 (v5 + 4) μ713
          · refine V_aload_n F dL_law_2440 rfl 5 rfl ?_
            refine V_iconst (v := 0) F dL_law_2441 (by decide) ?_
            refine V_aJ F dL_law_2442 (fun x719 => ?_)
            refine V_iload F dL_law_2443 0 rfl ?_
            refine V_i2l F dL_law_2445 ?_
            refine V_lcmp F dL_law_2446 ?_
            refine V_if_eq (tgt := 2452) F dL_law_2447 (by decide) (fun c720 => ?_) (fun c721 => ?_)
            · refine V_goto (tgt := 2634) F dL_law_2452 (by decide) ?_
              refine V_iinc (lv' := [(5, .int (v5 + 4)), (7, .int x712), (6, .int x710), (0, .ref b), (1, .ref v1), (2, .ref v2), (3, .ref v3), (4, .ref v4)]) F dL_law_2634 7 rfl rfl (lt_L hNL (by decide)) rfl ?_
              refine V_goto (tgt := 28) F dL_law_2637 (by decide) ?_
              refine V_widen (k' := 603072 - 10 * f) (n' := 7198826 - 60 * f) (by omega) (by omega) ?_
              refine V_sub [3, 4, 5, 6, 7, 0] rfl ?_
              exact hk28 v1 v2 v3 v4 (v5 + 4) μ713
            · refine V_iconst (v := 0) F dL_law_2450 (by decide) ?_
              exact V_none
        · refine V_iconst (v := 0) F dL_law_2433 (by decide) ?_
          exact V_none
      refine V_case (z := 46) (tgt := 2455) F dL_law_44 (by decide) rfl (by decide) (fun c722 => ?_) (fun c723 => ?_)
      · refine V_aload_n F dL_law_2455 rfl 1 rfl ?_
        refine V_aload F dL_law_2456 4 rfl ?_
        refine V_lSX (As := [.ref v1, .ref v4]) (rest := []) (N := 2) F X (metL_meanDistance (Fx_G F) (Fx_l F) v1 v4 μ) q1168 q65 q1166 q1167 ⟨by decide +kernel, by decide +kernel, by decide +kernel⟩ rfl ⟨Nat.le_of_ble_eq_true rfl, Nat.le_of_ble_eq_true rfl⟩ (Nat.le_of_ble_eq_true rfl) dL_law_2458 (by have h9 : rmL_meanDistance.cells = 1 := rfl; omega) (by have h9 : rmL_meanDistance.slots = 6 := rfl; omega) (fun x725 μ724 => ?_)
        change V κ ρ (603072 - 10 * (f + 1) + 1) (7198826 - 60 * (f + 1) + 6) μ724 _ 2461 [(0, .ref b), (1, .ref v1), (2, .ref v2), (3, .ref v3), (4, .ref v4), (5, .int v5)] [.int x725]
        refine V_istore (lv' := [(6, .int x725), (0, .ref b), (1, .ref v1), (2, .ref v2), (3, .ref v3), (4, .ref v4), (5, .int v5)]) F dL_law_2461 (lt_L hNL (by decide)) rfl ?_
        refine V_aload_n F dL_law_2463 rfl 3 rfl ?_
        refine V_lV (As := []) (rest := []) (C := RX8) (N := 0) F X (metX8_meanDistance (Fx_G F) (Fx_l F) v2  μ724) rfl q1687 q72 q1684 q1685 q1686 ⟨by decide +kernel, by decide +kernel, by decide +kernel⟩ rfl ⟨Nat.le_of_ble_eq_true rfl, Nat.le_of_ble_eq_true rfl⟩ (Nat.le_of_ble_eq_true rfl) dL_law_2464 (by have h9 : rmX8_meanDistance.cells = 0 := rfl; omega) (by have h9 : rmX8_meanDistance.slots = 0 := rfl; omega) (fun x727 μ726 => ?_)
        change V κ ρ (603072 - 10 * (f + 1) + 1) (7198826 - 60 * (f + 1) + 6) μ726 _ 2467 [(6, .int x725), (0, .ref b), (1, .ref v1), (2, .ref v2), (3, .ref v3), (4, .ref v4), (5, .int v5)] [.double x727]
        refine V_dstore (lv' := [(7, .double x727), (6, .int x725), (0, .ref b), (1, .ref v1), (2, .ref v2), (3, .ref v3), (4, .ref v4), (5, .int v5)]) F dL_law_2467 (lt_L hNL (by decide)) rfl ?_
        refine V_aload_n F dL_law_2469 rfl 4 rfl ?_
        refine V_lV (As := []) (rest := []) (C := RX8) (N := 0) F X (metX8_thrown (Fx_G F) (Fx_l F) v2  μ726) rfl q1278 q72 q1275 q1276 q1277 ⟨by decide +kernel, by decide +kernel, by decide +kernel⟩ rfl ⟨Nat.le_of_ble_eq_true rfl, Nat.le_of_ble_eq_true rfl⟩ (Nat.le_of_ble_eq_true rfl) dL_law_2470 (by have h9 : rmX8_thrown.cells = 0 := rfl; omega) (by have h9 : rmX8_thrown.slots = 0 := rfl; omega) (fun x729 μ728 => ?_)
        change V κ ρ (603072 - 10 * (f + 1) + 1) (7198826 - 60 * (f + 1) + 6) μ728 _ 2473 [(7, .double x727), (6, .int x725), (0, .ref b), (1, .ref v1), (2, .ref v2), (3, .ref v3), (4, .ref v4), (5, .int v5)] [.int x729]
        refine V_iload F dL_law_2473 1 rfl ?_
        refine V_icmp_eq (tgt := 2480) F dL_law_2475 (by decide) (fun c730 => ?_) (fun c731 => ?_)
        · refine V_iload F dL_law_2480 1 rfl ?_
          refine V_if_ne (tgt := 2517) F dL_law_2482 (by decide) (fun c732 => ?_) (fun c733 => ?_)
          · refine V_goto (tgt := 2634) F dL_law_2517 (by decide) ?_
            refine V_iinc (lv' := [(5, .int (v5 + 4)), (7, .double x727), (6, .int x725), (0, .ref b), (1, .ref v1), (2, .ref v2), (3, .ref v3), (4, .ref v4)]) F dL_law_2634 7 rfl rfl (lt_L hNL (by decide)) rfl ?_
            refine V_goto (tgt := 28) F dL_law_2637 (by decide) ?_
            refine V_widen (k' := 603072 - 10 * f) (n' := 7198826 - 60 * f) (by omega) (by omega) ?_
            refine V_sub [3, 4, 5, 6, 7, 0] rfl ?_
            exact hk28 v1 v2 v3 v4 (v5 + 4) μ728
          · refine V_aload F dL_law_2485 6 rfl ?_
            refine V_iconst (v := 0) F dL_law_2487 (by decide) ?_
            refine V_aD F dL_law_2488 (fun x734 => ?_)
            refine V_dload F dL_law_2489 0 rfl ?_
            refine V_dcmp F dL_law_2491 ?_
            refine V_if_eq (tgt := 2517) F dL_law_2492 (by decide) (fun c735 => ?_) (fun c736 => ?_)
            · refine V_goto (tgt := 2634) F dL_law_2517 (by decide) ?_
              refine V_iinc (lv' := [(5, .int (v5 + 4)), (7, .double x727), (6, .int x725), (0, .ref b), (1, .ref v1), (2, .ref v2), (3, .ref v3), (4, .ref v4)]) F dL_law_2634 7 rfl rfl (lt_L hNL (by decide)) rfl ?_
              refine V_goto (tgt := 28) F dL_law_2637 (by decide) ?_
              refine V_widen (k' := 603072 - 10 * f) (n' := 7198826 - 60 * f) (by omega) (by omega) ?_
              refine V_sub [3, 4, 5, 6, 7, 0] rfl ?_
              exact hk28 v1 v2 v3 v4 (v5 + 4) μ728
            · refine V_aload F dL_law_2495 6 rfl ?_
              refine V_iconst (v := 0) F dL_law_2497 (by decide) ?_
              refine V_aD F dL_law_2498 (fun x737 => ?_)
              refine V_aload F dL_law_2499 6 rfl ?_
              refine V_iconst (v := 0) F dL_law_2501 (by decide) ?_
              refine V_aD F dL_law_2502 (fun x738 => ?_)
              refine V_dcmp F dL_law_2503 ?_
              refine V_if_eq (tgt := 2515) F dL_law_2504 (by decide) (fun c739 => ?_) (fun c740 => ?_)
              · refine V_iconst (v := 0) F dL_law_2515 (by decide) ?_
                exact V_none
              · refine V_dload F dL_law_2507 0 rfl ?_
                refine V_dload F dL_law_2509 0 rfl ?_
                refine V_dcmp F dL_law_2511 ?_
                refine V_if_ne (tgt := 2517) F dL_law_2512 (by decide) (fun c741 => ?_) (fun c742 => ?_)
                · refine V_goto (tgt := 2634) F dL_law_2517 (by decide) ?_
                  refine V_iinc (lv' := [(5, .int (v5 + 4)), (7, .double x727), (6, .int x725), (0, .ref b), (1, .ref v1), (2, .ref v2), (3, .ref v3), (4, .ref v4)]) F dL_law_2634 7 rfl rfl (lt_L hNL (by decide)) rfl ?_
                  refine V_goto (tgt := 28) F dL_law_2637 (by decide) ?_
                  refine V_widen (k' := 603072 - 10 * f) (n' := 7198826 - 60 * f) (by omega) (by omega) ?_
                  refine V_sub [3, 4, 5, 6, 7, 0] rfl ?_
                  exact hk28 v1 v2 v3 v4 (v5 + 4) μ728
                · refine V_iconst (v := 0) F dL_law_2515 (by decide) ?_
                  exact V_none
        · refine V_iconst (v := 0) F dL_law_2478 (by decide) ?_
          exact V_none
      refine V_case (z := 47) (tgt := 2520) F dL_law_44 (by decide) rfl (by decide) (fun c743 => ?_) (fun c744 => ?_)
      · refine V_aload_n F dL_law_2520 rfl 1 rfl ?_
        refine V_lV (As := []) (rest := []) (C := RX7) (N := 0) F X (metX7_isConsistent (Fx_G F) (Fx_l F) v1  μ) rfl q368 q66 q365 q366 q367 ⟨by decide +kernel, by decide +kernel, by decide +kernel⟩ rfl ⟨Nat.le_of_ble_eq_true rfl, Nat.le_of_ble_eq_true rfl⟩ (Nat.le_of_ble_eq_true rfl) dL_law_2521 (by have h9 : rmX7_isConsistent.cells = 0 := rfl; omega) (by have h9 : rmX7_isConsistent.slots = 0 := rfl; omega) (fun x746 μ745 => ?_)
        change V κ ρ (603072 - 10 * (f + 1)) (7198826 - 60 * (f + 1)) μ745 _ 2524 [(0, .ref b), (1, .ref v1), (2, .ref v2), (3, .ref v3), (4, .ref v4), (5, .int v5)] [.int x746]
        refine V_aload_n F dL_law_2524 rfl 2 rfl ?_
        refine V_lV (As := []) (rest := [.int x746]) (C := RX8) (N := 0) F X (metX8_isConsistent (Fx_G F) (Fx_l F) v2  μ745) rfl q1691 q72 q1688 q1689 q1690 ⟨by decide +kernel, by decide +kernel, by decide +kernel⟩ rfl ⟨Nat.le_of_ble_eq_true rfl, Nat.le_of_ble_eq_true rfl⟩ (Nat.le_of_ble_eq_true rfl) dL_law_2525 (by have h9 : rmX8_isConsistent.cells = 0 := rfl; omega) (by have h9 : rmX8_isConsistent.slots = 0 := rfl; omega) (fun x748 μ747 => ?_)
        change V κ ρ (603072 - 10 * (f + 1)) (7198826 - 60 * (f + 1)) μ747 _ 2528 [(0, .ref b), (1, .ref v1), (2, .ref v2), (3, .ref v3), (4, .ref v4), (5, .int v5)] [.int x748, .int x746]
        refine V_icmp_eq (tgt := 2634) F dL_law_2528 (by decide) (fun c749 => ?_) (fun c750 => ?_)
        · refine V_iinc (lv' := [(5, .int (v5 + 4)), (0, .ref b), (1, .ref v1), (2, .ref v2), (3, .ref v3), (4, .ref v4)]) F dL_law_2634 5 rfl rfl (lt_L hNL (by decide)) rfl ?_
          refine V_goto (tgt := 28) F dL_law_2637 (by decide) ?_
          refine V_widen (k' := 603072 - 10 * f) (n' := 7198826 - 60 * f) (by omega) (by omega) ?_
          refine V_sub [1, 2, 3, 4, 5, 0] rfl ?_
          exact hk28 v1 v2 v3 v4 (v5 + 4) μ747
        · refine V_iconst (v := 0) F dL_law_2531 (by decide) ?_
          exact V_none
      refine V_case (z := 48) (tgt := 2533) F dL_law_44 (by decide) rfl (by decide) (fun c751 => ?_) (fun c752 => ?_)
      · refine V_aload_n F dL_law_2533 rfl 1 rfl ?_
        refine V_aload_n F dL_law_2534 rfl 3 rfl ?_
        refine V_lSX (As := [.ref v1, .ref v3]) (rest := []) (N := 2) F X (metL_undo (Fx_G F) (Fx_l F) v1 v3 μ) q1184 q65 q1182 q1183 ⟨by decide +kernel, by decide +kernel, by decide +kernel⟩ rfl ⟨Nat.le_of_ble_eq_true rfl, Nat.le_of_ble_eq_true rfl⟩ (Nat.le_of_ble_eq_true rfl) dL_law_2535 (by have h9 : rmL_undo.cells = 1 := rfl; omega) (by have h9 : rmL_undo.slots = 6 := rfl; omega) (fun x754 μ753 => ?_)
        change V κ ρ (603072 - 10 * (f + 1) + 1) (7198826 - 60 * (f + 1) + 6) μ753 _ 2538 [(0, .ref b), (1, .ref v1), (2, .ref v2), (3, .ref v3), (4, .ref v4), (5, .int v5)] [.int x754]
        refine V_istore (lv' := [(6, .int x754), (0, .ref b), (1, .ref v1), (2, .ref v2), (3, .ref v3), (4, .ref v4), (5, .int v5)]) F dL_law_2538 (lt_L hNL (by decide)) rfl ?_
        refine V_aload_n F dL_law_2540 rfl 3 rfl ?_
        refine V_lV (As := []) (rest := []) (C := RX8) (N := 0) F X (metX8_undo (Fx_G F) (Fx_l F) v2  μ753) rfl q1695 q72 q1692 q1693 q1694 ⟨by decide +kernel, by decide +kernel, by decide +kernel⟩ rfl ⟨Nat.le_of_ble_eq_true rfl, Nat.le_of_ble_eq_true rfl⟩ (Nat.le_of_ble_eq_true rfl) dL_law_2541 (by have h9 : rmX8_undo.cells = 0 := rfl; omega) (by have h9 : rmX8_undo.slots = 0 := rfl; omega) (fun x756 μ755 => ?_)
        change V κ ρ (603072 - 10 * (f + 1) + 1) (7198826 - 60 * (f + 1) + 6) μ755 _ 2544 [(6, .int x754), (0, .ref b), (1, .ref v1), (2, .ref v2), (3, .ref v3), (4, .ref v4), (5, .int v5)] [.int x756]
        refine V_istore (lv' := [(7, .int x756), (6, .int x754), (0, .ref b), (1, .ref v1), (2, .ref v2), (3, .ref v3), (4, .ref v4), (5, .int v5)]) F dL_law_2544 (lt_L hNL (by decide)) rfl ?_
        refine V_aload_n F dL_law_2546 rfl 4 rfl ?_
        refine V_lV (As := []) (rest := []) (C := RX8) (N := 0) F X (metX8_thrown (Fx_G F) (Fx_l F) v2  μ755) rfl q1278 q72 q1275 q1276 q1277 ⟨by decide +kernel, by decide +kernel, by decide +kernel⟩ rfl ⟨Nat.le_of_ble_eq_true rfl, Nat.le_of_ble_eq_true rfl⟩ (Nat.le_of_ble_eq_true rfl) dL_law_2547 (by have h9 : rmX8_thrown.cells = 0 := rfl; omega) (by have h9 : rmX8_thrown.slots = 0 := rfl; omega) (fun x758 μ757 => ?_)
        change V κ ρ (603072 - 10 * (f + 1) + 1) (7198826 - 60 * (f + 1) + 6) μ757 _ 2550 [(7, .int x756), (6, .int x754), (0, .ref b), (1, .ref v1), (2, .ref v2), (3, .ref v3), (4, .ref v4), (5, .int v5)] [.int x758]
        refine V_iload F dL_law_2550 1 rfl ?_
        refine V_icmp_eq (tgt := 2557) F dL_law_2552 (by decide) (fun c759 => ?_) (fun c760 => ?_)
        · refine V_iload F dL_law_2557 1 rfl ?_
          refine V_if_ne (tgt := 2574) F dL_law_2559 (by decide) (fun c761 => ?_) (fun c762 => ?_)
          · refine V_goto (tgt := 2634) F dL_law_2574 (by decide) ?_
            refine V_iinc (lv' := [(5, .int (v5 + 4)), (7, .int x756), (6, .int x754), (0, .ref b), (1, .ref v1), (2, .ref v2), (3, .ref v3), (4, .ref v4)]) F dL_law_2634 7 rfl rfl (lt_L hNL (by decide)) rfl ?_
            refine V_goto (tgt := 28) F dL_law_2637 (by decide) ?_
            refine V_widen (k' := 603072 - 10 * f) (n' := 7198826 - 60 * f) (by omega) (by omega) ?_
            refine V_sub [3, 4, 5, 6, 7, 0] rfl ?_
            exact hk28 v1 v2 v3 v4 (v5 + 4) μ757
          · refine V_aload_n F dL_law_2562 rfl 5 rfl ?_
            refine V_iconst (v := 0) F dL_law_2563 (by decide) ?_
            refine V_aJ F dL_law_2564 (fun x763 => ?_)
            refine V_iload F dL_law_2565 0 rfl ?_
            refine V_i2l F dL_law_2567 ?_
            refine V_lcmp F dL_law_2568 ?_
            refine V_if_eq (tgt := 2574) F dL_law_2569 (by decide) (fun c764 => ?_) (fun c765 => ?_)
            · refine V_goto (tgt := 2634) F dL_law_2574 (by decide) ?_
              refine V_iinc (lv' := [(5, .int (v5 + 4)), (7, .int x756), (6, .int x754), (0, .ref b), (1, .ref v1), (2, .ref v2), (3, .ref v3), (4, .ref v4)]) F dL_law_2634 7 rfl rfl (lt_L hNL (by decide)) rfl ?_
              refine V_goto (tgt := 28) F dL_law_2637 (by decide) ?_
              refine V_widen (k' := 603072 - 10 * f) (n' := 7198826 - 60 * f) (by omega) (by omega) ?_
              refine V_sub [3, 4, 5, 6, 7, 0] rfl ?_
              exact hk28 v1 v2 v3 v4 (v5 + 4) μ757
            · refine V_iconst (v := 0) F dL_law_2572 (by decide) ?_
              exact V_none
        · refine V_iconst (v := 0) F dL_law_2555 (by decide) ?_
          exact V_none
      refine V_case (z := 49) (tgt := 2577) F dL_law_44 (by decide) rfl (by decide) (fun c766 => ?_) (fun c767 => ?_)
      · refine V_aload_n F dL_law_2577 rfl 1 rfl ?_
        refine V_lV (As := []) (rest := []) (C := RX7) (N := 0) F X (metX7_save (Fx_G F) (Fx_l F) v1  μ) rfl q425 q66 q422 q423 q424 ⟨by decide +kernel, by decide +kernel, by decide +kernel⟩ rfl ⟨Nat.le_of_ble_eq_true rfl, Nat.le_of_ble_eq_true rfl⟩ (Nat.le_of_ble_eq_true rfl) dL_law_2578 (by have h9 : rmX7_save.cells = 0 := rfl; omega) (by have h9 : rmX7_save.slots = 0 := rfl; omega) (fun x769 μ768 => ?_)
        change V κ ρ (603072 - 10 * (f + 1)) (7198826 - 60 * (f + 1)) μ768 _ 2581 [(0, .ref b), (1, .ref v1), (2, .ref v2), (3, .ref v3), (4, .ref v4), (5, .int v5)] [.int x769]
        refine V_aload_n F dL_law_2581 rfl 2 rfl ?_
        refine V_lV (As := []) (rest := [.int x769]) (C := RX8) (N := 0) F X (metX8_save (Fx_G F) (Fx_l F) v2  μ768) rfl q1699 q72 q1696 q1697 q1698 ⟨by decide +kernel, by decide +kernel, by decide +kernel⟩ rfl ⟨Nat.le_of_ble_eq_true rfl, Nat.le_of_ble_eq_true rfl⟩ (Nat.le_of_ble_eq_true rfl) dL_law_2582 (by have h9 : rmX8_save.cells = 0 := rfl; omega) (by have h9 : rmX8_save.slots = 0 := rfl; omega) (fun x771 μ770 => ?_)
        change V κ ρ (603072 - 10 * (f + 1)) (7198826 - 60 * (f + 1)) μ770 _ 2585 [(0, .ref b), (1, .ref v1), (2, .ref v2), (3, .ref v3), (4, .ref v4), (5, .int v5)] [.int x771, .int x769]
        refine V_icmp_eq (tgt := 2634) F dL_law_2585 (by decide) (fun c772 => ?_) (fun c773 => ?_)
        · refine V_iinc (lv' := [(5, .int (v5 + 4)), (0, .ref b), (1, .ref v1), (2, .ref v2), (3, .ref v3), (4, .ref v4)]) F dL_law_2634 5 rfl rfl (lt_L hNL (by decide)) rfl ?_
          refine V_goto (tgt := 28) F dL_law_2637 (by decide) ?_
          refine V_widen (k' := 603072 - 10 * f) (n' := 7198826 - 60 * f) (by omega) (by omega) ?_
          refine V_sub [1, 2, 3, 4, 5, 0] rfl ?_
          exact hk28 v1 v2 v3 v4 (v5 + 4) μ770
        · refine V_iconst (v := 0) F dL_law_2588 (by decide) ?_
          exact V_none
      refine V_case (z := 50) (tgt := 2590) F dL_law_44 (by decide) rfl (by decide) (fun c774 => ?_) (fun c775 => ?_)
      · refine V_aload_n F dL_law_2590 rfl 1 rfl ?_
        refine V_aload_n F dL_law_2591 rfl 3 rfl ?_
        refine V_lSX (As := [.ref v1, .ref v3]) (rest := []) (N := 2) F X (metL_restore (Fx_G F) (Fx_l F) v1 v3 μ) q1196 q65 q1194 q1195 ⟨by decide +kernel, by decide +kernel, by decide +kernel⟩ rfl ⟨Nat.le_of_ble_eq_true rfl, Nat.le_of_ble_eq_true rfl⟩ (Nat.le_of_ble_eq_true rfl) dL_law_2592 (by have h9 : rmL_restore.cells = 1 := rfl; omega) (by have h9 : rmL_restore.slots = 6 := rfl; omega) (fun x777 μ776 => ?_)
        change V κ ρ (603072 - 10 * (f + 1) + 1) (7198826 - 60 * (f + 1) + 6) μ776 _ 2595 [(0, .ref b), (1, .ref v1), (2, .ref v2), (3, .ref v3), (4, .ref v4), (5, .int v5)] [.int x777]
        refine V_istore (lv' := [(6, .int x777), (0, .ref b), (1, .ref v1), (2, .ref v2), (3, .ref v3), (4, .ref v4), (5, .int v5)]) F dL_law_2595 (lt_L hNL (by decide)) rfl ?_
        refine V_aload_n F dL_law_2597 rfl 3 rfl ?_
        refine V_lV (As := []) (rest := []) (C := RX8) (N := 0) F X (metX8_restore (Fx_G F) (Fx_l F) v2  μ776) rfl q1703 q72 q1700 q1701 q1702 ⟨by decide +kernel, by decide +kernel, by decide +kernel⟩ rfl ⟨Nat.le_of_ble_eq_true rfl, Nat.le_of_ble_eq_true rfl⟩ (Nat.le_of_ble_eq_true rfl) dL_law_2598 (by have h9 : rmX8_restore.cells = 0 := rfl; omega) (by have h9 : rmX8_restore.slots = 0 := rfl; omega) (fun x779 μ778 => ?_)
        change V κ ρ (603072 - 10 * (f + 1) + 1) (7198826 - 60 * (f + 1) + 6) μ778 _ 2601 [(6, .int x777), (0, .ref b), (1, .ref v1), (2, .ref v2), (3, .ref v3), (4, .ref v4), (5, .int v5)] [.int x779]
        refine V_istore (lv' := [(7, .int x779), (6, .int x777), (0, .ref b), (1, .ref v1), (2, .ref v2), (3, .ref v3), (4, .ref v4), (5, .int v5)]) F dL_law_2601 (lt_L hNL (by decide)) rfl ?_
        refine V_aload_n F dL_law_2603 rfl 4 rfl ?_
        refine V_lV (As := []) (rest := []) (C := RX8) (N := 0) F X (metX8_thrown (Fx_G F) (Fx_l F) v2  μ778) rfl q1278 q72 q1275 q1276 q1277 ⟨by decide +kernel, by decide +kernel, by decide +kernel⟩ rfl ⟨Nat.le_of_ble_eq_true rfl, Nat.le_of_ble_eq_true rfl⟩ (Nat.le_of_ble_eq_true rfl) dL_law_2604 (by have h9 : rmX8_thrown.cells = 0 := rfl; omega) (by have h9 : rmX8_thrown.slots = 0 := rfl; omega) (fun x781 μ780 => ?_)
        change V κ ρ (603072 - 10 * (f + 1) + 1) (7198826 - 60 * (f + 1) + 6) μ780 _ 2607 [(7, .int x779), (6, .int x777), (0, .ref b), (1, .ref v1), (2, .ref v2), (3, .ref v3), (4, .ref v4), (5, .int v5)] [.int x781]
        refine V_iload F dL_law_2607 1 rfl ?_
        refine V_icmp_eq (tgt := 2614) F dL_law_2609 (by decide) (fun c782 => ?_) (fun c783 => ?_)
        · refine V_iload F dL_law_2614 1 rfl ?_
          refine V_if_ne (tgt := 2631) F dL_law_2616 (by decide) (fun c784 => ?_) (fun c785 => ?_)
          · refine V_goto (tgt := 2634) F dL_law_2631 (by decide) ?_
            refine V_iinc (lv' := [(5, .int (v5 + 4)), (7, .int x779), (6, .int x777), (0, .ref b), (1, .ref v1), (2, .ref v2), (3, .ref v3), (4, .ref v4)]) F dL_law_2634 7 rfl rfl (lt_L hNL (by decide)) rfl ?_
            refine V_goto (tgt := 28) F dL_law_2637 (by decide) ?_
            refine V_widen (k' := 603072 - 10 * f) (n' := 7198826 - 60 * f) (by omega) (by omega) ?_
            refine V_sub [3, 4, 5, 6, 7, 0] rfl ?_
            exact hk28 v1 v2 v3 v4 (v5 + 4) μ780
          · refine V_aload_n F dL_law_2619 rfl 5 rfl ?_
            refine V_iconst (v := 0) F dL_law_2620 (by decide) ?_
            refine V_aJ F dL_law_2621 (fun x786 => ?_)
            refine V_iload F dL_law_2622 0 rfl ?_
            refine V_i2l F dL_law_2624 ?_
            refine V_lcmp F dL_law_2625 ?_
            refine V_if_eq (tgt := 2631) F dL_law_2626 (by decide) (fun c787 => ?_) (fun c788 => ?_)
            · refine V_goto (tgt := 2634) F dL_law_2631 (by decide) ?_
              refine V_iinc (lv' := [(5, .int (v5 + 4)), (7, .int x779), (6, .int x777), (0, .ref b), (1, .ref v1), (2, .ref v2), (3, .ref v3), (4, .ref v4)]) F dL_law_2634 7 rfl rfl (lt_L hNL (by decide)) rfl ?_
              refine V_goto (tgt := 28) F dL_law_2637 (by decide) ?_
              refine V_widen (k' := 603072 - 10 * f) (n' := 7198826 - 60 * f) (by omega) (by omega) ?_
              refine V_sub [3, 4, 5, 6, 7, 0] rfl ?_
              exact hk28 v1 v2 v3 v4 (v5 + 4) μ780
            · refine V_iconst (v := 0) F dL_law_2629 (by decide) ?_
              exact V_none
        · refine V_iconst (v := 0) F dL_law_2612 (by decide) ?_
          exact V_none
      exact V_none
def FL_law_L28 (aC : Nat → Nat) (b L : Nat) (xs : Nat → Int32) : Nat → Nat → Nat → Nat → Nat → Int32 → Me → Rs Unit
  | 0, _, _, _, _, _, _ => none
  | f + 1, v1, v2, v3, v4, v5, μ => FL_law_B28 aC b L xs (FL_law_L28 aC b L xs f) v1 v2 v3 v4 v5 μ
theorem VL_law_L28 {κ : Cx} {ρ : (Unit ⊕ String) × Me} {aC : Nat → Nat} {b L : Nat} {xs : Nat → Int32} (F : Fx κ cL_law RL) (X : Lx κ b L xs) (hNL : κ.2.2.2.2.2.2.2.2.2.2.2.2.2.2 = 9) (hκ : κ.2.2.2.2.2.2.2.2.2.2.2.2.2.1 = aC) : ∀ (f : Nat), f ≤ 600 → ∀ (v1 : Nat) (v2 : Nat) (v3 : Nat) (v4 : Nat) (v5 : Int32) (μ : Me), V κ ρ (603072 - 10 * f) (7198826 - 60 * f) μ (FL_law_L28 aC b L xs f v1 v2 v3 v4 v5 μ) 28 [(0, .ref b), (1, .ref v1), (2, .ref v2), (3, .ref v3), (4, .ref v4), (5, .int v5)] [] := by
  intro f
  induction f with
  | zero => intros; exact V_none
  | succ f ih => intro hf v1 v2 v3 v4 v5 μ; exact VL_law_B28 f hf F X hNL hκ (fun v1 v2 v3 v4 v5 μ => ih (Nat.le_of_succ_le hf) v1 v2 v3 v4 v5 μ) v1 v2 v3 v4 v5 μ
def FL_law (aC : Nat → Nat) (b L : Nat) (xs : Nat → Int32) (μ : Me) : Rs Unit :=
  (nw μ (.inr (7, [.null, .null, .null, .int 0, .null, .null, .int 0, .int 0, .null, .int 0, .null])) (fun a1 μ2 => (bndn (FX7_init a1  μ2) (fun x4 μ3 => (nw μ3 (.inr (8, [.int 0, .int 0, .int 0, .int 0, .int 0, .null, .null, .null, .null, .null, .null, .null, .null, .null, .null, .null, .int 0, .int 0, .int 0, .int 0, .int 0, .int 0])) (fun a5 μ6 => (bndn (FX8_init a5  μ6) (fun x8 μ7 => (nw μ7 (.inl (3, (1, .inr (.inl (fun _ => 0))))) (fun a9 μ10 => (nw μ10 (.inl (4, (1, .inr (.inr (.inr (.inl (fun _ => 0))))))) (fun a11 μ12 => (FL_law_L28 aC b L xs 600 a1 a5 a9 a11 0 (dr0 μ12))))))))))))))
set_option maxHeartbeats 8000000 in
set_option maxRecDepth 100000 in
theorem VL_law {κ : Cx} {ρ : (Unit ⊕ String) × Me} {aC : Nat → Nat} {b L : Nat} {xs : Nat → Int32} (F : Fx κ cL_law RL) (X : Lx κ b L xs) (hNL : κ.2.2.2.2.2.2.2.2.2.2.2.2.2.2 = 9) (hκ : κ.2.2.2.2.2.2.2.2.2.2.2.2.2.1 = aC) (μ : Me) : V κ ρ 0 0 μ (FL_law aC b L xs μ) 0 [(0, .ref b)] [] := by
  have SGa := Fx_SGa F hκ _ rfl
  unfold FL_law
  refine V_new (ci := 7) (C := RX7) (T := TX7) (N := 11) (ty := tyX7) F (Lx_R X) rfl hinX7 tyX7_ok q92 q93 q66 dfX7 dL_law_0 (Nat.le_of_ble_eq_true rfl) (Nat.le_of_ble_eq_true rfl) (fun a1 μ2 => ?_)
  change V κ ρ 1 11 μ2 _ 3 [(0, .ref b)] [.ref a1]
  refine V_dup F dL_law_3 rfl ?_
  refine V_lI (As := []) (rest := [.ref a1]) (N := 0) F X (metX7_init (Fx_G F) (Fx_l F) a1  μ2) q96 q66 q94 q95 rfl ⟨by decide +kernel, by decide +kernel, by decide +kernel⟩ rfl ⟨Nat.le_of_ble_eq_true rfl, Nat.le_of_ble_eq_true rfl⟩ (Nat.le_of_ble_eq_true rfl) dL_law_4 (by have h9 : rmX7_init.cells = 163 := rfl; omega) (by have h9 : rmX7_init.slots = 1540 := rfl; omega) (fun x4 μ3 => ?_)
  change V κ ρ 164 1551 μ3 _ 7 [(0, .ref b)] [.ref a1]
  refine V_astore_n (lv' := [(1, .ref a1), (0, .ref b)]) F dL_law_7 rfl (lt_L hNL (by decide)) rfl ?_
  refine V_new (ci := 8) (C := RX8) (T := TX8) (N := 22) (ty := tyX8) F (Lx_R X) rfl hinX8 tyX8_ok q1202 q1203 q72 dfX8 dL_law_8 (Nat.le_of_ble_eq_true rfl) (Nat.le_of_ble_eq_true rfl) (fun a5 μ6 => ?_)
  change V κ ρ 165 1573 μ6 _ 11 [(1, .ref a1), (0, .ref b)] [.ref a5]
  refine V_dup F dL_law_11 rfl ?_
  refine V_lI (As := []) (rest := [.ref a5]) (N := 0) F X (metX8_init (Fx_G F) (Fx_l F) a5  μ6) q1206 q72 q1204 q1205 rfl ⟨by decide +kernel, by decide +kernel, by decide +kernel⟩ rfl ⟨Nat.le_of_ble_eq_true rfl, Nat.le_of_ble_eq_true rfl⟩ (Nat.le_of_ble_eq_true rfl) dL_law_12 (by have h9 : rmX8_init.cells = 11 := rfl; omega) (by have h9 : rmX8_init.slots = 1565 := rfl; omega) (fun x8 μ7 => ?_)
  change V κ ρ 176 3138 μ7 _ 15 [(1, .ref a1), (0, .ref b)] [.ref a5]
  refine V_astore_n (lv' := [(2, .ref a5), (1, .ref a1), (0, .ref b)]) F dL_law_15 rfl (lt_L hNL (by decide)) rfl ?_
  refine V_iconst (v := 1) F dL_law_16 (by decide) ?_
  refine V_na (N := 1) (ty := .long) F (Lx_R X) q212 rfl (by decide) (fun _ => rfl) (fun _ => rfl) (by decide) (by decide) (by decide) (fun _ _ => rfl) dL_law_17 (Nat.le_of_ble_eq_true rfl) (Nat.le_of_ble_eq_true rfl) (fun a9 μ10 => ?_)
  change V κ ρ 177 3139 μ10 _ 19 [(2, .ref a5), (1, .ref a1), (0, .ref b)] [.ref a9]
  refine V_astore_n (lv' := [(3, .ref a9), (2, .ref a5), (1, .ref a1), (0, .ref b)]) F dL_law_19 rfl (lt_L hNL (by decide)) rfl ?_
  refine V_iconst (v := 1) F dL_law_20 (by decide) ?_
  refine V_na (N := 1) (ty := .double) F (Lx_R X) q1704 rfl (by decide) (fun _ => rfl) (fun _ => rfl) (by decide) (by decide) (by decide) (fun _ _ => rfl) dL_law_21 (Nat.le_of_ble_eq_true rfl) (Nat.le_of_ble_eq_true rfl) (fun a11 μ12 => ?_)
  change V κ ρ 178 3140 μ12 _ 23 [(3, .ref a9), (2, .ref a5), (1, .ref a1), (0, .ref b)] [.ref a11]
  refine V_astore (lv' := [(4, .ref a11), (3, .ref a9), (2, .ref a5), (1, .ref a1), (0, .ref b)]) F dL_law_23 (lt_L hNL (by decide)) rfl ?_
  refine V_iconst (v := 0) F dL_law_25 (by decide) ?_
  refine V_istore (lv' := [(5, .int 0), (4, .ref a11), (3, .ref a9), (2, .ref a5), (1, .ref a1), (0, .ref b)]) F dL_law_26 (lt_L hNL (by decide)) rfl ?_
  refine V_drop ?_
  refine V_widen (k' := 603072 - 10 * 600) (n' := 7198826 - 60 * 600) (by decide) (by decide) ?_
  refine V_sub [5, 4, 3, 2, 1, 0] rfl ?_
  exact VL_law_L28 F X hNL hκ 600 (Nat.le_refl _) a1 a5 a9 a11 0 (dr0 μ12)
