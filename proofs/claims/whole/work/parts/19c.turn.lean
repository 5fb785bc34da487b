/-! ===== one turn of the law, and all of them ===== -/
theorem gd_y {α : Type} {c : Prop} [Decidable c] (h : c) {x : Rs α} : gd c x = x := if_pos h
section LL
variable {μ : Me} {b m o q : Nat} {S : Cg} {M : Mg} {T : Nat} {aC : Nat → Nat} {bb L : Nat} {xs : Nat → Int32}
set_option maxHeartbeats 4000000 in
set_option maxRecDepth 100000 in
theorem L_step {k28 : Nat → Nat → Nat → Nat → Int32 → Me → Rs Unit} {v5 : Int32} (hj : inj aC) (hT : T + 400 < 2 ^ 30) (hb : 0 < b) (hbm : b + 164 ≤ m) (ho : m + 12 ≤ o) (hq : m + 12 ≤ q) (hoq : o ≠ q) (hw : WK o q μ) (hR : RA T S M) (hs : ¬ nI L - 4 < v5) (i0 : inb v5 L = true) (i1 : inb (v5 + 1) L = true) (i2 : inb (v5 + 2) L = true) (i3 : inb (v5 + 3) L = true) : ∃ μ' S' M', WK o q μ' ∧ RA (T + 400) S' M' ∧ FL_law_B28 aC bb L xs k28 b m o q v5 (Wo b m μ S M) = k28 b m o q (v5 + 4) (Wo b m μ' S' M') := by
  have g0 : ∀ {α : Type} (x : Rs α), gd (inb v5 L = true) x = x := fun x => gd_y i0
  have g1 : ∀ {α : Type} (x : Rs α), gd (inb (v5 + 1) L = true) x = x := fun x => gd_y i1
  have g2 : ∀ {α : Type} (x : Rs α), gd (inb (v5 + 2) L = true) x = x := fun x => gd_y i2
  have g3 : ∀ {α : Type} (x : Rs α), gd (inb (v5 + 3) L = true) x = x := fun x => gd_y i3
  unfold FL_law_B28
  rw [if_neg hs]
  simp only [g0, g1, g2, g3]
  generalize ((xs v5.toNatClampNeg) &&& 63).toInt = t
  by_cases c : t < 0 ∨ 50 < t
  · rw [if_pos c]
    exact ⟨μ, S, M, hw, RA_up hR, rfl⟩
  rw [if_neg c]
  by_cases e0 : t = 0
  · rw [if_pos e0]
    unfold FL_addDrone; exact LCJ (K := fun μ => k28 b m o q (v5 + 4) μ) (A_addDrone (xs (v5 + 1).toNatClampNeg)) (hes3 ex_IS ex_IU ex_SU) (fun r r' h => congrArg Int32.toInt64 h) hb hbm ho hoq hw hR
  rw [if_neg e0]
  by_cases e1 : t = 1
  · rw [if_pos e1]
    unfold FL_addPad; exact LCJ (K := fun μ => k28 b m o q (v5 + 4) μ) (A_addPad (xs (v5 + 1).toNatClampNeg)) (hes3 ex_IA ex_IS ex_AS) (fun r r' h => congrArg Int32.toInt64 h) hb hbm ho hoq hw hR
  rw [if_neg e1]
  by_cases e2 : t = 2
  · rw [if_pos e2]
    unfold FL_takeOff; exact LCJ (K := fun μ => k28 b m o q (v5 + 4) μ) (A_takeOff (xs (v5 + 1).toNatClampNeg)) (hes3 ex_IS ex_IU ex_SU) (fun r r' h => congrArg Int32.toInt64 h) hb hbm ho hoq hw hR
  rw [if_neg e2]
  by_cases e3 : t = 3
  · rw [if_pos e3]
    unfold FL_land; exact LCJ (K := fun μ => k28 b m o q (v5 + 4) μ) (A_land (xs (v5 + 1).toNatClampNeg)) (hes3 ex_IS ex_IU ex_SU) (fun r r' h => congrArg Int32.toInt64 h) hb hbm ho hoq hw hR
  rw [if_neg e3]
  by_cases e4 : t = 4
  · rw [if_pos e4]
    unfold FL_sendTo; exact LCJ (K := fun μ => k28 b m o q (v5 + 4) μ) (A_sendTo (xs (v5 + 1).toNatClampNeg) (xs (v5 + 2).toNatClampNeg)) (hes2 ex_IS) (fun r r' h => congrArg Int32.toInt64 h) hb hbm ho hoq hw hR
  rw [if_neg e4]
  by_cases e5 : t = 5
  · rw [if_pos e5]
    unfold FL_setReserve; exact LCJ (K := fun μ => k28 b m o q (v5 + 4) μ) (A_setReserve (xs (v5 + 1).toNatClampNeg)) hes1 (fun r r' h => congrArg Int32.toInt64 h) hb hbm ho hoq hw hR
  rw [if_neg e5]
  by_cases e6 : t = 6
  · rw [if_pos e6]
    exact LC0 (K := fun μ => k28 b m o q (v5 + 4) μ) A_droneCount (fun r r' μ h => if_pos h) hb hbm hw hR
  rw [if_neg e6]
  by_cases e7 : t = 7
  · rw [if_pos e7]
    unfold FL_cellOf; exact LCJ (K := fun μ => k28 b m o q (v5 + 4) μ) (A_cellOf (xs (v5 + 1).toNatClampNeg)) hes1 (fun r r' h => congrArg Int32.toInt64 h) hb hbm ho hoq hw hR
  rw [if_neg e7]
  by_cases e8 : t = 8
  · rw [if_pos e8]
    unfold FL_battery; exact LCJ (K := fun μ => k28 b m o q (v5 + 4) μ) (A_battery (xs (v5 + 1).toNatClampNeg)) hes1 (fun r r' h => congrArg Int32.toInt64 h) hb hbm ho hoq hw hR
  rw [if_neg e8]
  by_cases e9 : t = 9
  · rw [if_pos e9]
    unfold FL_isFlying; exact LCB (K := fun μ => k28 b m o q (v5 + 4) μ) (fun t0 t1 μ => FL_law_B791 aC bb L xs k28 b m o q v5 t0 t1 μ) (fun z μ => by unfold FL_law_B791; exact if_pos (lg_self z)) (A_isFlying (xs (v5 + 1).toNatClampNeg)) hes1 hb hbm ho hoq hw hR
  rw [if_neg e9]
  by_cases e10 : t = 10
  · rw [if_pos e10]
    unfold FL_isInEmergency; exact LCB (K := fun μ => k28 b m o q (v5 + 4) μ) (fun t0 t1 μ => FL_law_B854 aC bb L xs k28 b m o q v5 t0 t1 μ) (fun z μ => by unfold FL_law_B854; exact if_pos (lg_self z)) (A_isInEmergency (xs (v5 + 1).toNatClampNeg)) hes1 hb hbm ho hoq hw hR
  rw [if_neg e10]
  by_cases e11 : t = 11
  · rw [if_pos e11]
    unfold FL_target; exact LCJ (K := fun μ => k28 b m o q (v5 + 4) μ) (A_target (xs (v5 + 1).toNatClampNeg)) (hes2 ex_IN) (fun r r' h => congrArg Int32.toInt64 h) hb hbm ho hoq hw hR
  rw [if_neg e11]
  by_cases e12 : t = 12
  · rw [if_pos e12]
    unfold FL_colour; exact LCJ (K := fun μ => k28 b m o q (v5 + 4) μ) (A_colour (xs (v5 + 1).toNatClampNeg)) hes1 (fun r r' h => congrArg Int32.toInt64 h) hb hbm ho hoq hw hR
  rw [if_neg e12]
  by_cases e13 : t = 13
  · rw [if_pos e13]
    unfold FL_droneAt; exact LCJ (K := fun μ => k28 b m o q (v5 + 4) μ) (A_droneAt (xs (v5 + 1).toNatClampNeg)) (hes2 ex_IN) (fun r r' h => congrArg Int32.toInt64 h) hb hbm ho hoq hw hR
  rw [if_neg e13]
  by_cases e14 : t = 14
  · rw [if_pos e14]
    unfold FL_isPad; exact LCB (K := fun μ => k28 b m o q (v5 + 4) μ) (fun t0 t1 μ => FL_law_B1085 aC bb L xs k28 b m o q v5 t0 t1 μ) (fun z μ => by unfold FL_law_B1085; exact if_pos (lg_self z)) (A_isPad (xs (v5 + 1).toNatClampNeg)) hes1 hb hbm ho hoq hw hR
  rw [if_neg e14]
  by_cases e15 : t = 15
  · rw [if_pos e15]
    unfold FL_nearestPad; exact LCJ (K := fun μ => k28 b m o q (v5 + 4) μ) (A_nearestPad (xs (v5 + 1).toNatClampNeg)) (hes2 ex_IN) (fun r r' h => congrArg Int32.toInt64 h) hb hbm ho hoq hw hR
  rw [if_neg e15]
  by_cases e16 : t = 16
  · rw [if_pos e16]
    unfold FL_nearestPadByRings; exact LCJ (K := fun μ => k28 b m o q (v5 + 4) μ) (A_nearestPadByRings (xs (v5 + 1).toNatClampNeg)) (hes2 ex_IN) (fun r r' h => congrArg Int32.toInt64 h) hb hbm ho hoq hw hR
  rw [if_neg e16]
  by_cases e17 : t = 17
  · rw [if_pos e17]
    unfold FL_addToFormation; exact LCJ (K := fun μ => k28 b m o q (v5 + 4) μ) (A_addToFormation (xs (v5 + 1).toNatClampNeg) (xs (v5 + 2).toNatClampNeg)) (hes3 ex_IA ex_IS ex_AS) (fun r r' h => congrArg Int32.toInt64 h) hb hbm ho hoq hw hR
  rw [if_neg e17]
  by_cases e18 : t = 18
  · rw [if_pos e18]
    unfold FL_clearFormation; exact LCJ (K := fun μ => k28 b m o q (v5 + 4) μ) (A_clearFormation (xs (v5 + 1).toNatClampNeg)) hes1 (fun r r' h => congrArg Int32.toInt64 h) hb hbm ho hoq hw hR
  rw [if_neg e18]
  by_cases e19 : t = 19
  · rw [if_pos e19]
    unfold FL_assign; exact LCJ (K := fun μ => k28 b m o q (v5 + 4) μ) (A_assign (xs (v5 + 1).toNatClampNeg)) (hes2 ex_IS) (fun r r' h => congrArg Int32.toInt64 h) hb hbm ho hoq hw hR
  rw [if_neg e19]
  by_cases e20 : t = 20
  · rw [if_pos e20]
    unfold FL_formationMask; exact LCJ (K := fun μ => k28 b m o q (v5 + 4) μ) (A_formationMask (xs (v5 + 1).toNatClampNeg)) hes1 (fun r r' h => h) hb hbm ho hoq hw hR
  rw [if_neg e20]
  by_cases e21 : t = 21
  · rw [if_pos e21]
    exact LC0 (K := fun μ => k28 b m o q (v5 + 4) μ) A_occupiedMask (fun r r' μ h => if_pos (h ▸ lg_self _)) hb hbm hw hR
  rw [if_neg e21]
  by_cases e22 : t = 22
  · rw [if_pos e22]
    unfold FL_matchCount; exact LCJ (K := fun μ => k28 b m o q (v5 + 4) μ) (A_matchCount (xs (v5 + 1).toNatClampNeg)) hes1 (fun r r' h => congrArg Int32.toInt64 h) hb hbm ho hoq hw hR
  rw [if_neg e22]
  by_cases e23 : t = 23
  · rw [if_pos e23]
    unfold FL_matchCountByScan; exact LCJ (K := fun μ => k28 b m o q (v5 + 4) μ) (A_matchCountByScan (xs (v5 + 1).toNatClampNeg)) hes1 (fun r r' h => congrArg Int32.toInt64 h) hb hbm ho hoq hw hR
  rw [if_neg e23]
  by_cases e24 : t = 24
  · rw [if_pos e24]
    unfold FL_coverage
    refine LC (K := fun μ => k28 b m o q (v5 + 4) μ) (A_coverage (xs (v5 + 1).toNatClampNeg)) (hes2 ex_IR) hb hbm hw hR (fun r hr => ?_)
    obtain ⟨-, -, n1, n2⟩ := hr
    obtain ⟨μ1, w1, w2, w3⟩ := e_sD (b := b) (m := m) hbm hq hoq hw (FP.f2d r)
    refine ⟨μ1, w1, fun S M => ?_, fun r' S M k => ?_⟩
    · show gd (nn64 (FP.f2d r) = true) _ = _
      rw [gd_y n1]
      exact w2 S M _
    · show aD (Wo b m μ1 S M) q 0 _ = _
      rw [w3 S M, ← k.1, gd_y n1]
      exact if_pos n2
  rw [if_neg e24]
  by_cases e25 : t = 25
  · rw [if_pos e25]
    unfold FL_advance; exact LCJ (K := fun μ => k28 b m o q (v5 + 4) μ) (A_advance (xs (v5 + 1).toNatClampNeg)) hes1 (fun r r' h => congrArg Int32.toInt64 h) hb hbm ho hoq hw hR
  rw [if_neg e25]
  by_cases e26 : t = 26
  · rw [if_pos e26]
    exact LC0 (K := fun μ => k28 b m o q (v5 + 4) μ) A_now (fun r r' μ h => if_pos h) hb hbm hw hR
  rw [if_neg e26]
  by_cases e27 : t = 27
  · rw [if_pos e27]
    unfold FL_wantedCell; exact LCJ (K := fun μ => k28 b m o q (v5 + 4) μ) (A_wantedCell (xs (v5 + 1).toNatClampNeg)) (hes2 ex_IN) (fun r r' h => congrArg Int32.toInt64 h) hb hbm ho hoq hw hR
  rw [if_neg e27]
  by_cases e28 : t = 28
  · rw [if_pos e28]
    exact LC0 (K := fun μ => k28 b m o q (v5 + 4) μ) A_conflictCount (fun r r' μ h => if_pos h) hb hbm hw hR
  rw [if_neg e28]
  by_cases e29 : t = 29
  · rw [if_pos e29]
    exact LC0 (K := fun μ => k28 b m o q (v5 + 4) μ) A_conflictCountByCell (fun r r' μ h => if_pos h) hb hbm hw hR
  rw [if_neg e29]
  by_cases e30 : t = 30
  · rw [if_pos e30]
    unfold FL_droneAtRank; exact LCJ (K := fun μ => k28 b m o q (v5 + 4) μ) (A_droneAtRank (xs (v5 + 1).toNatClampNeg)) hes1 (fun r r' h => congrArg Int32.toInt64 h) hb hbm ho hoq hw hR
  rw [if_neg e30]
  by_cases e31 : t = 31
  · rw [if_pos e31]
    unfold FL_batteryAfter; exact LCJ (K := fun μ => k28 b m o q (v5 + 4) μ) (A_batteryAfter (xs (v5 + 1).toNatClampNeg) (xs (v5 + 2).toNatClampNeg)) (hes2 ex_IA) (fun r r' h => congrArg Int32.toInt64 h) hb hbm ho hoq hw hR
  rw [if_neg e31]
  by_cases e32 : t = 32
  · rw [if_pos e32]
    unfold FL_cueColour; exact LCJ (K := fun μ => k28 b m o q (v5 + 4) μ) (A_cueColour (by omega) (xs (v5 + 1).toNatClampNeg) (xs (v5 + 2).toNatClampNeg) (xs (v5 + 3).toNatClampNeg)) (hes3 ex_IA ex_IS ex_AS) (fun r r' h => congrArg Int32.toInt64 h) hb hbm ho hoq hw hR
  rw [if_neg e32]
  by_cases e33 : t = 33
  · rw [if_pos e33]
    exact LC0 (K := fun μ => k28 b m o q (v5 + 4) μ) A_cueCount (fun r r' μ h => if_pos h) hb hbm hw hR
  rw [if_neg e33]
  by_cases e34 : t = 34
  · rw [if_pos e34]
    unfold FL_nextCueTime; exact LCJ (K := fun μ => k28 b m o q (v5 + 4) μ) (A_nextCueTime) hes1 (fun r r' h => congrArg Int32.toInt64 h) hb hbm ho hoq hw hR
  rw [if_neg e34]
  by_cases e35 : t = 35
  · rw [if_pos e35]
    exact LC0 (K := fun μ => k28 b m o q (v5 + 4) μ) A_movedTotal (fun r r' μ h => if_pos h) hb hbm hw hR
  rw [if_neg e35]
  by_cases e36 : t = 36
  · rw [if_pos e36]
    exact LC0 (K := fun μ => k28 b m o q (v5 + 4) μ) A_blockedTotal (fun r r' μ h => if_pos h) hb hbm hw hR
  rw [if_neg e36]
  by_cases e37 : t = 37
  · rw [if_pos e37]
    exact LC0 (K := fun μ => k28 b m o q (v5 + 4) μ) A_emergencyTotal (fun r r' μ h => if_pos h) hb hbm hw hR
  rw [if_neg e37]
  by_cases e38 : t = 38
  · rw [if_pos e38]
    exact LC0 (K := fun μ => k28 b m o q (v5 + 4) μ) A_forcedTotal (fun r r' μ h => if_pos h) hb hbm hw hR
  rw [if_neg e38]
  by_cases e39 : t = 39
  · rw [if_pos e39]
    unfold FL_append; exact LCJ (K := fun μ => k28 b m o q (v5 + 4) μ) (A_append ((xs (v5 + 1).toNatClampNeg).toUInt32 % 65536).toInt32) (hes2 ex_AS) (fun r r' h => congrArg Int32.toInt64 h) hb hbm ho hoq hw hR
  rw [if_neg e39]
  by_cases e40 : t = 40
  · rw [if_pos e40]
    unfold FL_run; exact LCJ (K := fun μ => k28 b m o q (v5 + 4) μ) (A_run (aC := aC) hj (by omega)) (hes2 ex_AS) (fun r r' h => congrArg Int32.toInt64 h) hb hbm ho hoq hw hR
  rw [if_neg e40]
  by_cases e41 : t = 41
  · rw [if_pos e41]
    unfold FL_errorPosition; exact LCJ (K := fun μ => k28 b m o q (v5 + 4) μ) (A_errorPosition) hes1 (fun r r' h => congrArg Int32.toInt64 h) hb hbm ho hoq hw hR
  rw [if_neg e41]
  by_cases e42 : t = 42
  · rw [if_pos e42]
    unfold FL_failedCommand; exact LCJ (K := fun μ => k28 b m o q (v5 + 4) μ) (A_failedCommand) hes1 (fun r r' h => congrArg Int32.toInt64 h) hb hbm ho hoq hw hR
  rw [if_neg e42]
  by_cases e43 : t = 43
  · rw [if_pos e43]
    unfold FL_describeRow; exact LCJ (K := fun μ => k28 b m o q (v5 + 4) μ) (A_describeRow (xs (v5 + 1).toNatClampNeg)) hes1 (fun r r' h => congrArg Int32.toInt64 h) hb hbm ho hoq hw hR
  rw [if_neg e43]
  by_cases e44 : t = 44
  · rw [if_pos e44]
    unfold FL_lineAt; exact LCJ (K := fun μ => k28 b m o q (v5 + 4) μ) (A_lineAt (xs (v5 + 1).toNatClampNeg)) hes1 (fun r r' h => congrArg Int32.toInt64 h) hb hbm ho hoq hw hR
  rw [if_neg e44]
  by_cases e45 : t = 45
  · rw [if_pos e45]
    unfold FL_meanBatteryBits; exact LCJ (K := fun μ => k28 b m o q (v5 + 4) μ) (A_meanBatteryBits) hes1 (fun r r' h => congrArg Int32.toInt64 h) hb hbm ho hoq hw hR
  rw [if_neg e45]
  by_cases e46 : t = 46
  · rw [if_pos e46]
    unfold FL_meanDistance
    refine LC (K := fun μ => k28 b m o q (v5 + 4) μ) A_meanDistance hes1 hb hbm hw hR (fun r hr => ?_)
    obtain ⟨-, -, n2⟩ := hr
    obtain ⟨μ1, w1, w2, w3⟩ := e_sD (b := b) (m := m) hbm hq hoq hw r
    refine ⟨μ1, w1, fun S M => ?_, fun r' S M k => ?_⟩
    · exact w2 S M _
    · show aD (Wo b m μ1 S M) q 0 _ = _
      rw [w3 S M, ← k.1]
      exact if_pos n2
  rw [if_neg e46]
  by_cases e47 : t = 47
  · rw [if_pos e47]
    exact LC0 (K := fun μ => k28 b m o q (v5 + 4) μ) A_isConsistent (fun r r' μ h => if_pos h) hb hbm hw hR
  rw [if_neg e47]
  by_cases e48 : t = 48
  · rw [if_pos e48]
    unfold FL_undo; exact LCJ (K := fun μ => k28 b m o q (v5 + 4) μ) (A_undo) hes1 (fun r r' h => congrArg Int32.toInt64 h) hb hbm ho hoq hw hR
  rw [if_neg e48]
  by_cases e49 : t = 49
  · rw [if_pos e49]
    exact LC0 (K := fun μ => k28 b m o q (v5 + 4) μ) A_save (fun r r' μ h => if_pos h) hb hbm hw hR
  rw [if_neg e49]
  by_cases e50 : t = 50
  · rw [if_pos e50]
    unfold FL_restore; exact LCJ (K := fun μ => k28 b m o q (v5 + 4) μ) (A_restore) hes1 (fun r r' h => congrArg Int32.toInt64 h) hb hbm ho hoq hw hR
  rw [if_neg e50]
  exact absurd c (by omega)
end LL
