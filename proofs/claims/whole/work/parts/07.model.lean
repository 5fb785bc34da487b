/-! DroneLightShowModel.<init>()V -/
abbrev rmX8_init : Room := { frames := 1, cells := 11, slots := 1565, locals := 25 }
def FX8_init (a0 : Nat) (μ : Me) : Rs Unit :=
  (pf μ a0 8 2 (.int (-1)) (fun μ1 => (pf μ1 a0 8 3 (.int (-1)) (fun μ2 => (nw μ2 (.inl (0, (117, .inl (fun _ => 0)))) (fun a3 μ4 => (pf μ4 a0 8 5 (.ref a3) (fun μ5 => (nw μ5 (.inl (0, (117, .inl (fun _ => 0)))) (fun a6 μ7 => (pf μ7 a0 8 6 (.ref a6) (fun μ8 => (nw μ8 (.inl (0, (117, .inl (fun _ => 0)))) (fun a9 μ10 => (pf μ10 a0 8 7 (.ref a9) (fun μ11 => (nw μ11 (.inl (0, (117, .inl (fun _ => 0)))) (fun a12 μ13 => (pf μ13 a0 8 8 (.ref a12) (fun μ14 => (nw μ14 (.inl (0, (936, .inl (fun _ => 0)))) (fun a15 μ16 => (pf μ16 a0 8 9 (.ref a15) (fun μ17 => (nw μ17 (.inl (0, (10, .inl (fun _ => 0)))) (fun a18 μ19 => (pf μ19 a0 8 10 (.ref a18) (fun μ20 => (nw μ20 (.inl (0, (60, .inl (fun _ => 0)))) (fun a21 μ22 => (pf μ22 a0 8 11 (.ref a21) (fun μ23 => (nw μ23 (.inl (0, (8, .inl (fun _ => 0)))) (fun a24 μ25 => (pf μ25 a0 8 12 (.ref a24) (fun μ26 => (nw μ26 (.inl (0, (11, .inl (fun _ => 0)))) (fun a27 μ28 => (pf μ28 a0 8 13 (.ref a27) (fun μ29 => (nw μ29 (.inl (0, (60, .inl (fun _ => 0)))) (fun a30 μ31 => (sI μ31 a30 0 97 (fun μ32 => (sI μ32 a30 1 100 (fun μ33 => (sI μ33 a30 2 100 (fun μ34 => (sI μ34 a30 3 32 (fun μ35 => (sI μ35 a30 4 112 (fun μ36 => (sI μ36 a30 5 97 (fun μ37 => (sI μ37 a30 6 100 (fun μ38 => (sI μ38 a30 7 32 (fun μ39 => (sI μ39 a30 8 111 (fun μ40 => (sI μ40 a30 9 102 (fun μ41 => (sI μ41 a30 10 102 (fun μ42 => (sI μ42 a30 11 32 (fun μ43 => (sI μ43 a30 12 108 (fun μ44 => (sI μ44 a30 13 97 (fun μ45 => (sI μ45 a30 14 110 (fun μ46 => (sI μ46 a30 15 100 (fun μ47 => (sI μ47 a30 16 32 (fun μ48 => (sI μ48 a30 17 115 (fun μ49 => (sI μ49 a30 18 101 (fun μ50 => (sI μ50 a30 19 110 (fun μ51 => (sI μ51 a30 20 100 (fun μ52 => (sI μ52 a30 21 32 (fun μ53 => (sI μ53 a30 22 114 (fun μ54 => (sI μ54 a30 23 101 (fun μ55 => (sI μ55 a30 24 115 (fun μ56 => (sI μ56 a30 25 101 (fun μ57 => (sI μ57 a30 26 114 (fun μ58 => (sI μ58 a30 27 118 (fun μ59 => (sI μ59 a30 28 101 (fun μ60 => (sI μ60 a30 29 32 (fun μ61 => (sI μ61 a30 30 102 (fun μ62 => (sI μ62 a30 31 111 (fun μ63 => (sI μ63 a30 32 114 (fun μ64 => (sI μ64 a30 33 109 (fun μ65 => (sI μ65 a30 34 32 (fun μ66 => (sI μ66 a30 35 99 (fun μ67 => (sI μ67 a30 36 108 (fun μ68 => (sI μ68 a30 37 101 (fun μ69 => (sI μ69 a30 38 97 (fun μ70 => (sI μ70 a30 39 114 (fun μ71 => (sI μ71 a30 40 32 (fun μ72 => (sI μ72 a30 41 97 (fun μ73 => (sI μ73 a30 42 115 (fun μ74 => (sI μ74 a30 43 115 (fun μ75 => (sI μ75 a30 44 105 (fun μ76 => (sI μ76 a30 45 103 (fun μ77 => (sI μ77 a30 46 110 (fun μ78 => (sI μ78 a30 47 32 (fun μ79 => (sI μ79 a30 48 116 (fun μ80 => (sI μ80 a30 49 105 (fun μ81 => (sI μ81 a30 50 99 (fun μ82 => (sI μ82 a30 51 107 (fun μ83 => (sI μ83 a30 52 32 (fun μ84 => (sI μ84 a30 53 99 (fun μ85 => (sI μ85 a30 54 111 (fun μ86 => (sI μ86 a30 55 108 (fun μ87 => (sI μ87 a30 56 111 (fun μ88 => (sI μ88 a30 57 117 (fun μ89 => (sI μ89 a30 58 114 (fun μ90 => (sI μ90 a30 59 32 (fun μ91 => (pf μ91 a0 8 14 (.ref a30) (fun μ92 => (nw μ92 (.inl (0, (12, .inl (fun _ => 0)))) (fun a93 μ94 => (sI μ94 a93 0 0 (fun μ95 => (sI μ95 a93 1 4 (fun μ96 => (sI μ96 a93 2 8 (fun μ97 => (sI μ97 a93 3 12 (fun μ98 => (sI μ98 a93 4 17 (fun μ99 => (sI μ99 a93 5 22 (fun μ100 => (sI μ100 a93 6 30 (fun μ101 => (sI μ101 a93 7 35 (fun μ102 => (sI μ102 a93 8 41 (fun μ103 => (sI μ103 a93 9 48 (fun μ104 => (sI μ104 a93 10 53 (fun μ105 => (sI μ105 a93 11 60 (fun μ106 => (pf μ106 a0 8 15 (.ref a93) (fun μ107 => (gR μ107 a0 8 5 (fun x108 => (sI μ107 x108 2 10 (fun μ109 => (rt () μ109)))))))))))))))))))))))))))))))))))))))))))))))))))))))))))))))))))))))))))))))))))))))))))))))))))))))))))))))))))))))))))))))))))))))))))))))))))))))))))))))))))))))))))))))))))))))))))))))))))))
set_option maxHeartbeats 4000000 in
set_option maxRecDepth 100000 in
theorem metX8_init {l : Launch} {s0 : State} {D : va_G} {aC : Nat → ClassId} (hG : Gl s0 D aC) (hl : l.stackTraces = false) (a0 : Nat) (μ : Me) : Ct l yX8_init (ws_ yX8_init cX8_init 1 none) rmX8_init s0 D aC (fun _ : Unit => none) [.ref a0] μ (FX8_init a0 μ) := by
  refine Ct_of hG hl (by decide +kernel) (Nat.le_of_ble_eq_true rfl) (fun κ ρ hNL F M hκ => ?_)
  have F : Fx κ cX8_init RX8 := F
  change V κ ρ 0 0 μ (FX8_init a0 μ) 0 [(0, .ref a0)] []
  unfold FX8_init
  refine V_aload_n F dX8_init_0 rfl 0 rfl ?_
  refine V_oinit F M q1207 q98 q99 dX8_init_1 (by decide) (Nat.le_of_ble_eq_true rfl) ?_
  refine V_aload_n F dX8_init_4 rfl 0 rfl ?_
  refine V_iconst (v := (-1)) F dX8_init_5 (by decide) ?_
  refine V_pf (ci := 8) (k9 := 2) (C := RX8) (T := TX8) (N := 22) (ty := tyX8) F rfl hinX8 tyX8_ok nmX8 (by decide) q1210 rfl rfl rfl dX8_init_6 (fun μ1 => ?_)
  refine V_aload_n F dX8_init_9 rfl 0 rfl ?_
  refine V_iconst (v := (-1)) F dX8_init_10 (by decide) ?_
  refine V_pf (ci := 8) (k9 := 3) (C := RX8) (T := TX8) (N := 22) (ty := tyX8) F rfl hinX8 tyX8_ok nmX8 (by decide) q1211 rfl rfl rfl dX8_init_11 (fun μ2 => ?_)
  refine V_aload_n F dX8_init_14 rfl 0 rfl ?_
  refine V_bipush (v := 117) F dX8_init_15 (by decide) ?_
  refine V_na (N := 117) (ty := .int) F (Mx_R M) q149 rfl (by decide) (fun _ => rfl) (fun _ => rfl) (by decide) (by decide) (by decide) (fun _ _ => rfl) dX8_init_17 (by decide) (by decide) (fun a3 μ4 => ?_)
  change V κ ρ 1 117 μ4 _ 19 [(0, .ref a0)] [.ref a3, .ref a0]
  refine V_pfF (ci := 8) (k9 := 5) (C := RX8) (T := TX8) (N := 22) (ty := tyX8) F rfl hinX8 tyX8_ok nmX8 (by decide) q1213 rfl (Mx_nm M) rfl rfl rfl dX8_init_19 (fun μ5 => ?_)
  refine V_aload_n F dX8_init_22 rfl 0 rfl ?_
  refine V_bipush (v := 117) F dX8_init_23 (by decide) ?_
  refine V_na (N := 117) (ty := .int) F (Mx_R M) q149 rfl (by decide) (fun _ => rfl) (fun _ => rfl) (by decide) (by decide) (by decide) (fun _ _ => rfl) dX8_init_25 (by decide) (by decide) (fun a6 μ7 => ?_)
  change V κ ρ 2 234 μ7 _ 27 [(0, .ref a0)] [.ref a6, .ref a0]
  refine V_pfF (ci := 8) (k9 := 6) (C := RX8) (T := TX8) (N := 22) (ty := tyX8) F rfl hinX8 tyX8_ok nmX8 (by decide) q1214 rfl (Mx_nm M) rfl rfl rfl dX8_init_27 (fun μ8 => ?_)
  refine V_aload_n F dX8_init_30 rfl 0 rfl ?_
  refine V_bipush (v := 117) F dX8_init_31 (by decide) ?_
  refine V_na (N := 117) (ty := .int) F (Mx_R M) q149 rfl (by decide) (fun _ => rfl) (fun _ => rfl) (by decide) (by decide) (by decide) (fun _ _ => rfl) dX8_init_33 (by decide) (by decide) (fun a9 μ10 => ?_)
  change V κ ρ 3 351 μ10 _ 35 [(0, .ref a0)] [.ref a9, .ref a0]
  refine V_pfF (ci := 8) (k9 := 7) (C := RX8) (T := TX8) (N := 22) (ty := tyX8) F rfl hinX8 tyX8_ok nmX8 (by decide) q1215 rfl (Mx_nm M) rfl rfl rfl dX8_init_35 (fun μ11 => ?_)
  refine V_aload_n F dX8_init_38 rfl 0 rfl ?_
  refine V_bipush (v := 117) F dX8_init_39 (by decide) ?_
  refine V_na (N := 117) (ty := .int) F (Mx_R M) q149 rfl (by decide) (fun _ => rfl) (fun _ => rfl) (by decide) (by decide) (by decide) (fun _ _ => rfl) dX8_init_41 (by decide) (by decide) (fun a12 μ13 => ?_)
  change V κ ρ 4 468 μ13 _ 43 [(0, .ref a0)] [.ref a12, .ref a0]
  refine V_pfF (ci := 8) (k9 := 8) (C := RX8) (T := TX8) (N := 22) (ty := tyX8) F rfl hinX8 tyX8_ok nmX8 (by decide) q1216 rfl (Mx_nm M) rfl rfl rfl dX8_init_43 (fun μ14 => ?_)
  refine V_aload_n F dX8_init_46 rfl 0 rfl ?_
  refine V_sipush (v := 936) F dX8_init_47 (by decide) ?_
  refine V_na (N := 936) (ty := .int) F (Mx_R M) q149 rfl (by decide) (fun _ => rfl) (fun _ => rfl) (by decide) (by decide) (by decide) (fun _ _ => rfl) dX8_init_50 (by decide) (by decide) (fun a15 μ16 => ?_)
  change V κ ρ 5 1404 μ16 _ 52 [(0, .ref a0)] [.ref a15, .ref a0]
  refine V_pfF (ci := 8) (k9 := 9) (C := RX8) (T := TX8) (N := 22) (ty := tyX8) F rfl hinX8 tyX8_ok nmX8 (by decide) q1217 rfl (Mx_nm M) rfl rfl rfl dX8_init_52 (fun μ17 => ?_)
  refine V_aload_n F dX8_init_55 rfl 0 rfl ?_
  refine V_bipush (v := 10) F dX8_init_56 (by decide) ?_
  refine V_na (N := 10) (ty := .int) F (Mx_R M) q149 rfl (by decide) (fun _ => rfl) (fun _ => rfl) (by decide) (by decide) (by decide) (fun _ _ => rfl) dX8_init_58 (by decide) (by decide) (fun a18 μ19 => ?_)
  change V κ ρ 6 1414 μ19 _ 60 [(0, .ref a0)] [.ref a18, .ref a0]
  refine V_pfF (ci := 8) (k9 := 10) (C := RX8) (T := TX8) (N := 22) (ty := tyX8) F rfl hinX8 tyX8_ok nmX8 (by decide) q1218 rfl (Mx_nm M) rfl rfl rfl dX8_init_60 (fun μ20 => ?_)
  refine V_aload_n F dX8_init_63 rfl 0 rfl ?_
  refine V_bipush (v := 60) F dX8_init_64 (by decide) ?_
  refine V_na (N := 60) (ty := .int) F (Mx_R M) q149 rfl (by decide) (fun _ => rfl) (fun _ => rfl) (by decide) (by decide) (by decide) (fun _ _ => rfl) dX8_init_66 (by decide) (by decide) (fun a21 μ22 => ?_)
  change V κ ρ 7 1474 μ22 _ 68 [(0, .ref a0)] [.ref a21, .ref a0]
  refine V_pfF (ci := 8) (k9 := 11) (C := RX8) (T := TX8) (N := 22) (ty := tyX8) F rfl hinX8 tyX8_ok nmX8 (by decide) q1219 rfl (Mx_nm M) rfl rfl rfl dX8_init_68 (fun μ23 => ?_)
  refine V_aload_n F dX8_init_71 rfl 0 rfl ?_
  refine V_bipush (v := 8) F dX8_init_72 (by decide) ?_
  refine V_na (N := 8) (ty := .int) F (Mx_R M) q149 rfl (by decide) (fun _ => rfl) (fun _ => rfl) (by decide) (by decide) (by decide) (fun _ _ => rfl) dX8_init_74 (by decide) (by decide) (fun a24 μ25 => ?_)
  change V κ ρ 8 1482 μ25 _ 76 [(0, .ref a0)] [.ref a24, .ref a0]
  refine V_pfF (ci := 8) (k9 := 12) (C := RX8) (T := TX8) (N := 22) (ty := tyX8) F rfl hinX8 tyX8_ok nmX8 (by decide) q1220 rfl (Mx_nm M) rfl rfl rfl dX8_init_76 (fun μ26 => ?_)
  refine V_aload_n F dX8_init_79 rfl 0 rfl ?_
  refine V_bipush (v := 11) F dX8_init_80 (by decide) ?_
  refine V_na (N := 11) (ty := .int) F (Mx_R M) q149 rfl (by decide) (fun _ => rfl) (fun _ => rfl) (by decide) (by decide) (by decide) (fun _ _ => rfl) dX8_init_82 (by decide) (by decide) (fun a27 μ28 => ?_)
  change V κ ρ 9 1493 μ28 _ 84 [(0, .ref a0)] [.ref a27, .ref a0]
  refine V_pfF (ci := 8) (k9 := 13) (C := RX8) (T := TX8) (N := 22) (ty := tyX8) F rfl hinX8 tyX8_ok nmX8 (by decide) q1221 rfl (Mx_nm M) rfl rfl rfl dX8_init_84 (fun μ29 => ?_)
  refine V_aload_n F dX8_init_87 rfl 0 rfl ?_
  refine V_bipush (v := 60) F dX8_init_88 (by decide) ?_
  refine V_na (N := 60) (ty := .int) F (Mx_R M) q149 rfl (by decide) (fun _ => rfl) (fun _ => rfl) (by decide) (by decide) (by decide) (fun _ _ => rfl) dX8_init_90 (by decide) (by decide) (fun a30 μ31 => ?_)
  change V κ ρ 10 1553 μ31 _ 92 [(0, .ref a0)] [.ref a30, .ref a0]
  refine V_dup F dX8_init_92 rfl ?_
  refine V_iconst (v := 0) F dX8_init_93 (by decide) ?_
  refine V_bipush (v := 97) F dX8_init_94 (by decide) ?_
  refine V_sI F dX8_init_96 (fun μ32 => ?_)
  refine V_dup F dX8_init_97 rfl ?_
  refine V_iconst (v := 1) F dX8_init_98 (by decide) ?_
  refine V_bipush (v := 100) F dX8_init_99 (by decide) ?_
  refine V_sI F dX8_init_101 (fun μ33 => ?_)
  refine V_dup F dX8_init_102 rfl ?_
  refine V_iconst (v := 2) F dX8_init_103 (by decide) ?_
  refine V_bipush (v := 100) F dX8_init_104 (by decide) ?_
  refine V_sI F dX8_init_106 (fun μ34 => ?_)
  refine V_dup F dX8_init_107 rfl ?_
  refine V_iconst (v := 3) F dX8_init_108 (by decide) ?_
  refine V_bipush (v := 32) F dX8_init_109 (by decide) ?_
  refine V_sI F dX8_init_111 (fun μ35 => ?_)
  refine V_dup F dX8_init_112 rfl ?_
  refine V_iconst (v := 4) F dX8_init_113 (by decide) ?_
  refine V_bipush (v := 112) F dX8_init_114 (by decide) ?_
  refine V_sI F dX8_init_116 (fun μ36 => ?_)
  refine V_dup F dX8_init_117 rfl ?_
  refine V_iconst (v := 5) F dX8_init_118 (by decide) ?_
  refine V_bipush (v := 97) F dX8_init_119 (by decide) ?_
  refine V_sI F dX8_init_121 (fun μ37 => ?_)
  refine V_dup F dX8_init_122 rfl ?_
  refine V_bipush (v := 6) F dX8_init_123 (by decide) ?_
  refine V_bipush (v := 100) F dX8_init_125 (by decide) ?_
  refine V_sI F dX8_init_127 (fun μ38 => ?_)
  refine V_dup F dX8_init_128 rfl ?_
  refine V_bipush (v := 7) F dX8_init_129 (by decide) ?_
  refine V_bipush (v := 32) F dX8_init_131 (by decide) ?_
  refine V_sI F dX8_init_133 (fun μ39 => ?_)
  refine V_dup F dX8_init_134 rfl ?_
  refine V_bipush (v := 8) F dX8_init_135 (by decide) ?_
  refine V_bipush (v := 111) F dX8_init_137 (by decide) ?_
  refine V_sI F dX8_init_139 (fun μ40 => ?_)
  refine V_dup F dX8_init_140 rfl ?_
  refine V_bipush (v := 9) F dX8_init_141 (by decide) ?_
  refine V_bipush (v := 102) F dX8_init_143 (by decide) ?_
  refine V_sI F dX8_init_145 (fun μ41 => ?_)
  refine V_dup F dX8_init_146 rfl ?_
  refine V_bipush (v := 10) F dX8_init_147 (by decide) ?_
  refine V_bipush (v := 102) F dX8_init_149 (by decide) ?_
  refine V_sI F dX8_init_151 (fun μ42 => ?_)
  refine V_dup F dX8_init_152 rfl ?_
  refine V_bipush (v := 11) F dX8_init_153 (by decide) ?_
  refine V_bipush (v := 32) F dX8_init_155 (by decide) ?_
  refine V_sI F dX8_init_157 (fun μ43 => ?_)
  refine V_dup F dX8_init_158 rfl ?_
  refine V_bipush (v := 12) F dX8_init_159 (by decide) ?_
  refine V_bipush (v := 108) F dX8_init_161 (by decide) ?_
  refine V_sI F dX8_init_163 (fun μ44 => ?_)
  refine V_dup F dX8_init_164 rfl ?_
  refine V_bipush (v := 13) F dX8_init_165 (by decide) ?_
  refine V_bipush (v := 97) F dX8_init_167 (by decide) ?_
  refine V_sI F dX8_init_169 (fun μ45 => ?_)
  refine V_dup F dX8_init_170 rfl ?_
  refine V_bipush (v := 14) F dX8_init_171 (by decide) ?_
  refine V_bipush (v := 110) F dX8_init_173 (by decide) ?_
  refine V_sI F dX8_init_175 (fun μ46 => ?_)
  refine V_dup F dX8_init_176 rfl ?_
  refine V_bipush (v := 15) F dX8_init_177 (by decide) ?_
  refine V_bipush (v := 100) F dX8_init_179 (by decide) ?_
  refine V_sI F dX8_init_181 (fun μ47 => ?_)
  refine V_dup F dX8_init_182 rfl ?_
  refine V_bipush (v := 16) F dX8_init_183 (by decide) ?_
  refine V_bipush (v := 32) F dX8_init_185 (by decide) ?_
  refine V_sI F dX8_init_187 (fun μ48 => ?_)
  refine V_dup F dX8_init_188 rfl ?_
  refine V_bipush (v := 17) F dX8_init_189 (by decide) ?_
  refine V_bipush (v := 115) F dX8_init_191 (by decide) ?_
  refine V_sI F dX8_init_193 (fun μ49 => ?_)
  refine V_dup F dX8_init_194 rfl ?_
  refine V_bipush (v := 18) F dX8_init_195 (by decide) ?_
  refine V_bipush (v := 101) F dX8_init_197 (by decide) ?_
  refine V_sI F dX8_init_199 (fun μ50 => ?_)
  refine V_dup F dX8_init_200 rfl ?_
  refine V_bipush (v := 19) F dX8_init_201 (by decide) ?_
  refine V_bipush (v := 110) F dX8_init_203 (by decide) ?_
  refine V_sI F dX8_init_205 (fun μ51 => ?_)
  refine V_dup F dX8_init_206 rfl ?_
  refine V_bipush (v := 20) F dX8_init_207 (by decide) ?_
  refine V_bipush (v := 100) F dX8_init_209 (by decide) ?_
  refine V_sI F dX8_init_211 (fun μ52 => ?_)
  refine V_dup F dX8_init_212 rfl ?_
  refine V_bipush (v := 21) F dX8_init_213 (by decide) ?_
  refine V_bipush (v := 32) F dX8_init_215 (by decide) ?_
  refine V_sI F dX8_init_217 (fun μ53 => ?_)
  refine V_dup F dX8_init_218 rfl ?_
  refine V_bipush (v := 22) F dX8_init_219 (by decide) ?_
  refine V_bipush (v := 114) F dX8_init_221 (by decide) ?_
  refine V_sI F dX8_init_223 (fun μ54 => ?_)
  refine V_dup F dX8_init_224 rfl ?_
  refine V_bipush (v := 23) F dX8_init_225 (by decide) ?_
  refine V_bipush (v := 101) F dX8_init_227 (by decide) ?_
  refine V_sI F dX8_init_229 (fun μ55 => ?_)
  refine V_dup F dX8_init_230 rfl ?_
  refine V_bipush (v := 24) F dX8_init_231 (by decide) ?_
  refine V_bipush (v := 115) F dX8_init_233 (by decide) ?_
  refine V_sI F dX8_init_235 (fun μ56 => ?_)
  refine V_dup F dX8_init_236 rfl ?_
  refine V_bipush (v := 25) F dX8_init_237 (by decide) ?_
  refine V_bipush (v := 101) F dX8_init_239 (by decide) ?_
  refine V_sI F dX8_init_241 (fun μ57 => ?_)
  refine V_dup F dX8_init_242 rfl ?_
  refine V_bipush (v := 26) F dX8_init_243 (by decide) ?_
  refine V_bipush (v := 114) F dX8_init_245 (by decide) ?_
  refine V_sI F dX8_init_247 (fun μ58 => ?_)
  refine V_dup F dX8_init_248 rfl ?_
  refine V_bipush (v := 27) F dX8_init_249 (by decide) ?_
  refine V_bipush (v := 118) F dX8_init_251 (by decide) ?_
  refine V_sI F dX8_init_253 (fun μ59 => ?_)
  refine V_dup F dX8_init_254 rfl ?_
  refine V_bipush (v := 28) F dX8_init_255 (by decide) ?_
  refine V_bipush (v := 101) F dX8_init_257 (by decide) ?_
  refine V_sI F dX8_init_259 (fun μ60 => ?_)
  refine V_dup F dX8_init_260 rfl ?_
  refine V_bipush (v := 29) F dX8_init_261 (by decide) ?_
  refine V_bipush (v := 32) F dX8_init_263 (by decide) ?_
  refine V_sI F dX8_init_265 (fun μ61 => ?_)
  refine V_dup F dX8_init_266 rfl ?_
  refine V_bipush (v := 30) F dX8_init_267 (by decide) ?_
  refine V_bipush (v := 102) F dX8_init_269 (by decide) ?_
  refine V_sI F dX8_init_271 (fun μ62 => ?_)
  refine V_dup F dX8_init_272 rfl ?_
  refine V_bipush (v := 31) F dX8_init_273 (by decide) ?_
  refine V_bipush (v := 111) F dX8_init_275 (by decide) ?_
  refine V_sI F dX8_init_277 (fun μ63 => ?_)
  refine V_dup F dX8_init_278 rfl ?_
  refine V_bipush (v := 32) F dX8_init_279 (by decide) ?_
  refine V_bipush (v := 114) F dX8_init_281 (by decide) ?_
  refine V_sI F dX8_init_283 (fun μ64 => ?_)
  refine V_dup F dX8_init_284 rfl ?_
  refine V_bipush (v := 33) F dX8_init_285 (by decide) ?_
  refine V_bipush (v := 109) F dX8_init_287 (by decide) ?_
  refine V_sI F dX8_init_289 (fun μ65 => ?_)
  refine V_dup F dX8_init_290 rfl ?_
  refine V_bipush (v := 34) F dX8_init_291 (by decide) ?_
  refine V_bipush (v := 32) F dX8_init_293 (by decide) ?_
  refine V_sI F dX8_init_295 (fun μ66 => ?_)
  refine V_dup F dX8_init_296 rfl ?_
  refine V_bipush (v := 35) F dX8_init_297 (by decide) ?_
  refine V_bipush (v := 99) F dX8_init_299 (by decide) ?_
  refine V_sI F dX8_init_301 (fun μ67 => ?_)
  refine V_dup F dX8_init_302 rfl ?_
  refine V_bipush (v := 36) F dX8_init_303 (by decide) ?_
  refine V_bipush (v := 108) F dX8_init_305 (by decide) ?_
  refine V_sI F dX8_init_307 (fun μ68 => ?_)
  refine V_dup F dX8_init_308 rfl ?_
  refine V_bipush (v := 37) F dX8_init_309 (by decide) ?_
  refine V_bipush (v := 101) F dX8_init_311 (by decide) ?_
  refine V_sI F dX8_init_313 (fun μ69 => ?_)
  refine V_dup F dX8_init_314 rfl ?_
  refine V_bipush (v := 38) F dX8_init_315 (by decide) ?_
  refine V_bipush (v := 97) F dX8_init_317 (by decide) ?_
  refine V_sI F dX8_init_319 (fun μ70 => ?_)
  refine V_dup F dX8_init_320 rfl ?_
  refine V_bipush (v := 39) F dX8_init_321 (by decide) ?_
  refine V_bipush (v := 114) F dX8_init_323 (by decide) ?_
  refine V_sI F dX8_init_325 (fun μ71 => ?_)
  refine V_dup F dX8_init_326 rfl ?_
  refine V_bipush (v := 40) F dX8_init_327 (by decide) ?_
  refine V_bipush (v := 32) F dX8_init_329 (by decide) ?_
  refine V_sI F dX8_init_331 (fun μ72 => ?_)
  refine V_dup F dX8_init_332 rfl ?_
  refine V_bipush (v := 41) F dX8_init_333 (by decide) ?_
  refine V_bipush (v := 97) F dX8_init_335 (by decide) ?_
  refine V_sI F dX8_init_337 (fun μ73 => ?_)
  refine V_dup F dX8_init_338 rfl ?_
  refine V_bipush (v := 42) F dX8_init_339 (by decide) ?_
  refine V_bipush (v := 115) F dX8_init_341 (by decide) ?_
  refine V_sI F dX8_init_343 (fun μ74 => ?_)
  refine V_dup F dX8_init_344 rfl ?_
  refine V_bipush (v := 43) F dX8_init_345 (by decide) ?_
  refine V_bipush (v := 115) F dX8_init_347 (by decide) ?_
  refine V_sI F dX8_init_349 (fun μ75 => ?_)
  refine V_dup F dX8_init_350 rfl ?_
  refine V_bipush (v := 44) F dX8_init_351 (by decide) ?_
  refine V_bipush (v := 105) F dX8_init_353 (by decide) ?_
  refine V_sI F dX8_init_355 (fun μ76 => ?_)
  refine V_dup F dX8_init_356 rfl ?_
  refine V_bipush (v := 45) F dX8_init_357 (by decide) ?_
  refine V_bipush (v := 103) F dX8_init_359 (by decide) ?_
  refine V_sI F dX8_init_361 (fun μ77 => ?_)
  refine V_dup F dX8_init_362 rfl ?_
  refine V_bipush (v := 46) F dX8_init_363 (by decide) ?_
  refine V_bipush (v := 110) F dX8_init_365 (by decide) ?_
  refine V_sI F dX8_init_367 (fun μ78 => ?_)
  refine V_dup F dX8_init_368 rfl ?_
  refine V_bipush (v := 47) F dX8_init_369 (by decide) ?_
  refine V_bipush (v := 32) F dX8_init_371 (by decide) ?_
  refine V_sI F dX8_init_373 (fun μ79 => ?_)
  refine V_dup F dX8_init_374 rfl ?_
  refine V_bipush (v := 48) F dX8_init_375 (by decide) ?_
  refine V_bipush (v := 116) F dX8_init_377 (by decide) ?_
  refine V_sI F dX8_init_379 (fun μ80 => ?_)
  refine V_dup F dX8_init_380 rfl ?_
  refine V_bipush (v := 49) F dX8_init_381 (by decide) ?_
  refine V_bipush (v := 105) F dX8_init_383 (by decide) ?_
  refine V_sI F dX8_init_385 (fun μ81 => ?_)
  refine V_dup F dX8_init_386 rfl ?_
  refine V_bipush (v := 50) F dX8_init_387 (by decide) ?_
  refine V_bipush (v := 99) F dX8_init_389 (by decide) ?_
  refine V_sI F dX8_init_391 (fun μ82 => ?_)
  refine V_dup F dX8_init_392 rfl ?_
  refine V_bipush (v := 51) F dX8_init_393 (by decide) ?_
  refine V_bipush (v := 107) F dX8_init_395 (by decide) ?_
  refine V_sI F dX8_init_397 (fun μ83 => ?_)
  refine V_dup F dX8_init_398 rfl ?_
  refine V_bipush (v := 52) F dX8_init_399 (by decide) ?_
  refine V_bipush (v := 32) F dX8_init_401 (by decide) ?_
  refine V_sI F dX8_init_403 (fun μ84 => ?_)
  refine V_dup F dX8_init_404 rfl ?_
  refine V_bipush (v := 53) F dX8_init_405 (by decide) ?_
  refine V_bipush (v := 99) F dX8_init_407 (by decide) ?_
  refine V_sI F dX8_init_409 (fun μ85 => ?_)
  refine V_dup F dX8_init_410 rfl ?_
  refine V_bipush (v := 54) F dX8_init_411 (by decide) ?_
  refine V_bipush (v := 111) F dX8_init_413 (by decide) ?_
  refine V_sI F dX8_init_415 (fun μ86 => ?_)
  refine V_dup F dX8_init_416 rfl ?_
  refine V_bipush (v := 55) F dX8_init_417 (by decide) ?_
  refine V_bipush (v := 108) F dX8_init_419 (by decide) ?_
  refine V_sI F dX8_init_421 (fun μ87 => ?_)
  refine V_dup F dX8_init_422 rfl ?_
  refine V_bipush (v := 56) F dX8_init_423 (by decide) ?_
  refine V_bipush (v := 111) F dX8_init_425 (by decide) ?_
  refine V_sI F dX8_init_427 (fun μ88 => ?_)
  refine V_dup F dX8_init_428 rfl ?_
  refine V_bipush (v := 57) F dX8_init_429 (by decide) ?_
  refine V_bipush (v := 117) F dX8_init_431 (by decide) ?_
  refine V_sI F dX8_init_433 (fun μ89 => ?_)
  refine V_dup F dX8_init_434 rfl ?_
  refine V_bipush (v := 58) F dX8_init_435 (by decide) ?_
  refine V_bipush (v := 114) F dX8_init_437 (by decide) ?_
  refine V_sI F dX8_init_439 (fun μ90 => ?_)
  refine V_dup F dX8_init_440 rfl ?_
  refine V_bipush (v := 59) F dX8_init_441 (by decide) ?_
  refine V_bipush (v := 32) F dX8_init_443 (by decide) ?_
  refine V_sI F dX8_init_445 (fun μ91 => ?_)
  refine V_pfF (ci := 8) (k9 := 14) (C := RX8) (T := TX8) (N := 22) (ty := tyX8) F rfl hinX8 tyX8_ok nmX8 (by decide) q1222 rfl (Mx_nm M) rfl rfl rfl dX8_init_446 (fun μ92 => ?_)
  refine V_aload_n F dX8_init_449 rfl 0 rfl ?_
  refine V_bipush (v := 12) F dX8_init_450 (by decide) ?_
  refine V_na (N := 12) (ty := .int) F (Mx_R M) q149 rfl (by decide) (fun _ => rfl) (fun _ => rfl) (by decide) (by decide) (by decide) (fun _ _ => rfl) dX8_init_452 (by decide) (by decide) (fun a93 μ94 => ?_)
  change V κ ρ 11 1565 μ94 _ 454 [(0, .ref a0)] [.ref a93, .ref a0]
  refine V_dup F dX8_init_454 rfl ?_
  refine V_iconst (v := 0) F dX8_init_455 (by decide) ?_
  refine V_iconst (v := 0) F dX8_init_456 (by decide) ?_
  refine V_sI F dX8_init_457 (fun μ95 => ?_)
  refine V_dup F dX8_init_458 rfl ?_
  refine V_iconst (v := 1) F dX8_init_459 (by decide) ?_
  refine V_iconst (v := 4) F dX8_init_460 (by decide) ?_
  refine V_sI F dX8_init_461 (fun μ96 => ?_)
  refine V_dup F dX8_init_462 rfl ?_
  refine V_iconst (v := 2) F dX8_init_463 (by decide) ?_
  refine V_bipush (v := 8) F dX8_init_464 (by decide) ?_
  refine V_sI F dX8_init_466 (fun μ97 => ?_)
  refine V_dup F dX8_init_467 rfl ?_
  refine V_iconst (v := 3) F dX8_init_468 (by decide) ?_
  refine V_bipush (v := 12) F dX8_init_469 (by decide) ?_
  refine V_sI F dX8_init_471 (fun μ98 => ?_)
  refine V_dup F dX8_init_472 rfl ?_
  refine V_iconst (v := 4) F dX8_init_473 (by decide) ?_
  refine V_bipush (v := 17) F dX8_init_474 (by decide) ?_
  refine V_sI F dX8_init_476 (fun μ99 => ?_)
  refine V_dup F dX8_init_477 rfl ?_
  refine V_iconst (v := 5) F dX8_init_478 (by decide) ?_
  refine V_bipush (v := 22) F dX8_init_479 (by decide) ?_
  refine V_sI F dX8_init_481 (fun μ100 => ?_)
  refine V_dup F dX8_init_482 rfl ?_
  refine V_bipush (v := 6) F dX8_init_483 (by decide) ?_
  refine V_bipush (v := 30) F dX8_init_485 (by decide) ?_
  refine V_sI F dX8_init_487 (fun μ101 => ?_)
  refine V_dup F dX8_init_488 rfl ?_
  refine V_bipush (v := 7) F dX8_init_489 (by decide) ?_
  refine V_bipush (v := 35) F dX8_init_491 (by decide) ?_
  refine V_sI F dX8_init_493 (fun μ102 => ?_)
  refine V_dup F dX8_init_494 rfl ?_
  refine V_bipush (v := 8) F dX8_init_495 (by decide) ?_
  refine V_bipush (v := 41) F dX8_init_497 (by decide) ?_
  refine V_sI F dX8_init_499 (fun μ103 => ?_)
  refine V_dup F dX8_init_500 rfl ?_
  refine V_bipush (v := 9) F dX8_init_501 (by decide) ?_
  refine V_bipush (v := 48) F dX8_init_503 (by decide) ?_
  refine V_sI F dX8_init_505 (fun μ104 => ?_)
  refine V_dup F dX8_init_506 rfl ?_
  refine V_bipush (v := 10) F dX8_init_507 (by decide) ?_
  refine V_bipush (v := 53) F dX8_init_509 (by decide) ?_
  refine V_sI F dX8_init_511 (fun μ105 => ?_)
  refine V_dup F dX8_init_512 rfl ?_
  refine V_bipush (v := 11) F dX8_init_513 (by decide) ?_
  refine V_bipush (v := 60) F dX8_init_515 (by decide) ?_
  refine V_sI F dX8_init_517 (fun μ106 => ?_)
  refine V_pfF (ci := 8) (k9 := 15) (C := RX8) (T := TX8) (N := 22) (ty := tyX8) F rfl hinX8 tyX8_ok nmX8 (by decide) q1223 rfl (Mx_nm M) rfl rfl rfl dX8_init_518 (fun μ107 => ?_)
  refine V_aload_n F dX8_init_521 rfl 0 rfl ?_
  refine V_gR (ci := 8) (k9 := 5) (C := RX8) (T := TX8) (N := 22) F rfl hinX8 (by decide) q1213 dX8_init_522 (fun x108 => ?_)
  refine V_iconst (v := 2) F dX8_init_525 (by decide) ?_
  refine V_bipush (v := 10) F dX8_init_526 (by decide) ?_
  refine V_sI F dX8_init_528 (fun μ109 => ?_)
  exact V_vret F M dX8_init_529 rfl (by decide) (by decide)
/-! DroneLightShowModel.thrown()I -/
abbrev rmX8_thrown : Room := { frames := 0, cells := 0, slots := 0, locals := 0 }
def FX8_thrown (a0 : Nat) (μ : Me) : Rs Int32 :=
  (gI μ a0 8 0 (fun x1 => (rt x1 μ)))
set_option maxHeartbeats 4000000 in
set_option maxRecDepth 100000 in
theorem metX8_thrown {l : Launch} {s0 : State} {D : va_G} {aC : Nat → ClassId} (hG : Gl s0 D aC) (hl : l.stackTraces = false) (a0 : Nat) (μ : Me) : Ct l yX8_thrown (ws_ yX8_thrown cX8_thrown 1 (some .int)) rmX8_thrown s0 D aC (fun r : Int32 => some (.int r)) [.ref a0] μ (FX8_thrown a0 μ) := by
  refine Ct_of hG hl (by decide +kernel) (Nat.le_of_ble_eq_true rfl) (fun κ ρ hNL F M hκ => ?_)
  have F : Fx κ cX8_thrown RX8 := F
  change V κ ρ 0 0 μ (FX8_thrown a0 μ) 0 [(0, .ref a0)] []
  unfold FX8_thrown
  refine V_aload_n F dX8_thrown_0 rfl 0 rfl ?_
  refine V_gI (ci := 8) (k9 := 0) (C := RX8) (T := TX8) (N := 22) F rfl hinX8 (by decide) q1208 dX8_thrown_1 (fun x1 => ?_)
  exact V_iret F M dX8_thrown_4 rfl (by decide) (by decide)
/-! DroneLightShowModel.fail(I)I -/
abbrev rmX8_fail : Room := { frames := 0, cells := 0, slots := 0, locals := 0 }
def FX8_fail (a0 : Nat) (p1 : Int32) (μ : Me) : Rs Int32 :=
  (pf μ a0 8 0 (.int p1) (fun μ1 => (rt 0 μ1)))
set_option maxHeartbeats 4000000 in
set_option maxRecDepth 100000 in
theorem metX8_fail {l : Launch} {s0 : State} {D : va_G} {aC : Nat → ClassId} (hG : Gl s0 D aC) (hl : l.stackTraces = false) (a0 : Nat) (p1 : Int32) (μ : Me) : Ct l yX8_fail (ws_ yX8_fail cX8_fail 2 (some .int)) rmX8_fail s0 D aC (fun r : Int32 => some (.int r)) [.ref a0, .int p1] μ (FX8_fail a0 p1 μ) := by
  refine Ct_of hG hl (by decide +kernel) (Nat.le_of_ble_eq_true rfl) (fun κ ρ hNL F M hκ => ?_)
  have F : Fx κ cX8_fail RX8 := F
  change V κ ρ 0 0 μ (FX8_fail a0 p1 μ) 0 [(0, .ref a0), (1, .int p1)] []
  unfold FX8_fail
  refine V_aload_n F dX8_fail_0 rfl 0 rfl ?_
  refine V_iload_n F dX8_fail_1 rfl 1 rfl ?_
  refine V_pf (ci := 8) (k9 := 0) (C := RX8) (T := TX8) (N := 22) (ty := tyX8) F rfl hinX8 tyX8_ok nmX8 (by decide) q1208 rfl rfl rfl dX8_fail_2 (fun μ1 => ?_)
  refine V_iconst (v := 0) F dX8_fail_5 (by decide) ?_
  exact V_iret F M dX8_fail_6 rfl (by decide) (by decide)
/-! DroneLightShowModel.isIn(III)Z -/
abbrev rmX8_isIn : Room := { frames := 0, cells := 0, slots := 0, locals := 0 }
def FX8_isIn (p1 : Int32) (p2 : Int32) (p3 : Int32) (μ : Me) : Rs Int32 :=
  (if p1 < p2 then (rt 0 μ) else (if p3 < p1 then (rt 0 μ) else (rt 1 μ)))
set_option maxHeartbeats 4000000 in
set_option maxRecDepth 100000 in
theorem metX8_isIn {l : Launch} {s0 : State} {D : va_G} {aC : Nat → ClassId} (hG : Gl s0 D aC) (hl : l.stackTraces = false) (p1 : Int32) (p2 : Int32) (p3 : Int32) (μ : Me) : Ct l yX8_isIn (ws_ yX8_isIn cX8_isIn 3 (some .boolean)) rmX8_isIn s0 D aC (fun r : Int32 => some (.int r)) [.int p1, .int p2, .int p3] μ (FX8_isIn p1 p2 p3 μ) := by
  refine Ct_of hG hl (by decide +kernel) (Nat.le_of_ble_eq_true rfl) (fun κ ρ hNL F M hκ => ?_)
  have F : Fx κ cX8_isIn RX8 := F
  change V κ ρ 0 0 μ (FX8_isIn p1 p2 p3 μ) 0 [(0, .int p1), (1, .int p2), (2, .int p3)] []
  unfold FX8_isIn
  refine V_iload_n F dX8_isIn_0 rfl 0 rfl ?_
  refine V_iload_n F dX8_isIn_1 rfl 1 rfl ?_
  refine V_icmp_lt (tgt := 14) F dX8_isIn_2 (by decide) (fun c1 => ?_) (fun c2 => ?_)
  · refine V_iconst (v := 0) F dX8_isIn_14 (by decide) ?_
    exact V_zret F M dX8_isIn_15 rfl (by decide) (by decide) (by decide)
  · refine V_iload_n F dX8_isIn_5 rfl 0 rfl ?_
    refine V_iload_n F dX8_isIn_6 rfl 2 rfl ?_
    refine V_icmp_gt (tgt := 14) F dX8_isIn_7 (by decide) (fun c3 => ?_) (fun c4 => ?_)
    · refine V_iconst (v := 0) F dX8_isIn_14 (by decide) ?_
      exact V_zret F M dX8_isIn_15 rfl (by decide) (by decide) (by decide)
    · refine V_iconst (v := 1) F dX8_isIn_10 (by decide) ?_
      refine V_goto (tgt := 15) F dX8_isIn_11 (by decide) ?_
      exact V_zret F M dX8_isIn_15 rfl (by decide) (by decide) (by decide)
/-! DroneLightShowModel.lays([I[I)V -/
abbrev rmX8_lays : Room := { frames := 0, cells := 0, slots := 0, locals := 0 }
def FX8_lays_B2 (k2 : Nat → Nat → Int32 → Me → Rs Unit) (v0 : Nat) (v1 : Nat) (v2 : Int32) (μ : Me) : Rs Unit :=
  (if 117 ≤ v2 then (rt () μ) else (aI μ v1 v2 (fun x3 => (sI μ v0 v2 x3 (fun μ4 => (k2 v0 v1 (v2 + 1) μ4))))))
set_option maxHeartbeats 4000000 in
set_option maxRecDepth 100000 in
theorem VX8_lays_B2 {κ : Cx} {ρ : (Unit ⊕ String) × Me} (F : Fx κ cX8_lays RX8) (M : Mx κ (fun _ : Unit => none) ρ rmX8_lays none [] "lays") (hNL : κ.2.2.2.2.2.2.2.2.2.2.2.2.2.2 = 3) {k2 : Nat → Nat → Int32 → Me → Rs Unit} (hk2 : ∀ (v0 : Nat) (v1 : Nat) (v2 : Int32) (μ : Me), V κ ρ 0 0 μ (k2 v0 v1 v2 μ) 2 [(0, .ref v0), (1, .ref v1), (2, .int v2)] []) (v0 : Nat) (v1 : Nat) (v2 : Int32) (μ : Me) : V κ ρ 0 0 μ (FX8_lays_B2 k2 v0 v1 v2 μ) 2 [(0, .ref v0), (1, .ref v1), (2, .int v2)] [] := by
  unfold FX8_lays_B2
  refine V_iload_n F dX8_lays_2 rfl 2 rfl ?_
  refine V_bipush (v := 117) F dX8_lays_3 (by decide) ?_
  refine V_icmp_ge (tgt := 20) F dX8_lays_5 (by decide) (fun c1 => ?_) (fun c2 => ?_)
  · exact V_vret F M dX8_lays_20 rfl (by decide) (by decide)
  · refine V_aload_n F dX8_lays_8 rfl 0 rfl ?_
    refine V_iload_n F dX8_lays_9 rfl 2 rfl ?_
    refine V_aload_n F dX8_lays_10 rfl 1 rfl ?_
    refine V_iload_n F dX8_lays_11 rfl 2 rfl ?_
    refine V_aI F dX8_lays_12 (fun x3 => ?_)
    refine V_sI F dX8_lays_13 (fun μ4 => ?_)
    refine V_iinc (lv' := [(2, .int (v2 + 1)), (0, .ref v0), (1, .ref v1)]) F dX8_lays_14 2 rfl rfl (lt_L hNL (by decide)) rfl ?_
    refine V_goto (tgt := 2) F dX8_lays_17 (by decide) ?_
    refine V_sub [1, 2, 0] rfl ?_
    exact hk2 v0 v1 (v2 + 1) μ4
def FX8_lays_L2  : Nat → Nat → Nat → Int32 → Me → Rs Unit
  | 0, _, _, _, _ => none
  | f + 1, v0, v1, v2, μ => FX8_lays_B2 (FX8_lays_L2  f) v0 v1 v2 μ
theorem VX8_lays_L2 {κ : Cx} {ρ : (Unit ⊕ String) × Me} (F : Fx κ cX8_lays RX8) (M : Mx κ (fun _ : Unit => none) ρ rmX8_lays none [] "lays") (hNL : κ.2.2.2.2.2.2.2.2.2.2.2.2.2.2 = 3)   : ∀ (f : Nat) (v0 : Nat) (v1 : Nat) (v2 : Int32) (μ : Me), V κ ρ 0 0 μ (FX8_lays_L2  f v0 v1 v2 μ) 2 [(0, .ref v0), (1, .ref v1), (2, .int v2)] [] := by
  intro f
  induction f with
  | zero => intros; exact V_none
  | succ f ih => intro v0 v1 v2 μ; exact VX8_lays_B2 F M hNL (fun v0 v1 v2 μ => ih v0 v1 v2 μ) v0 v1 v2 μ
def FX8_lays (p1 : Nat) (p2 : Nat) (μ : Me) : Rs Unit :=
  (FX8_lays_L2  FU p1 p2 0 μ)
set_option maxHeartbeats 4000000 in
set_option maxRecDepth 100000 in
theorem metX8_lays {l : Launch} {s0 : State} {D : va_G} {aC : Nat → ClassId} (hG : Gl s0 D aC) (hl : l.stackTraces = false) (p1 : Nat) (p2 : Nat) (μ : Me) : Ct l yX8_lays (ws_ yX8_lays cX8_lays 3 none) rmX8_lays s0 D aC (fun _ : Unit => none) [.ref p1, .ref p2] μ (FX8_lays p1 p2 μ) := by
  refine Ct_of hG hl (by decide +kernel) (Nat.le_of_ble_eq_true rfl) (fun κ ρ hNL F M hκ => ?_)
  have F : Fx κ cX8_lays RX8 := F
  change V κ ρ 0 0 μ (FX8_lays p1 p2 μ) 0 [(0, .ref p1), (1, .ref p2)] []
  unfold FX8_lays
  refine V_iconst (v := 0) F dX8_lays_0 (by decide) ?_
  refine V_istore_n (lv' := [(2, .int 0), (0, .ref p1), (1, .ref p2)]) F dX8_lays_1 rfl (lt_L hNL (by decide)) rfl ?_
  refine V_sub [1, 2, 0] rfl ?_
  exact VX8_lays_L2 F M hNL  FU p1 p2 0 μ
/-! DroneLightShowModel.begins()V -/
abbrev rmX8_begins : Room := { frames := 1, cells := 0, slots := 0, locals := 22 }
def FX8_begins (a0 : Nat) (μ : Me) : Rs Unit :=
  (pf μ a0 8 0 (.int 0) (fun μ1 => (gR μ1 a0 8 6 (fun x2 => (gR μ1 a0 8 5 (fun x3 => (bnd (FX8_lays x2 x3 μ1) (fun x5 μ4 => (rt () μ4)))))))))
set_option maxHeartbeats 4000000 in
set_option maxRecDepth 100000 in
theorem metX8_begins {l : Launch} {s0 : State} {D : va_G} {aC : Nat → ClassId} (hG : Gl s0 D aC) (hl : l.stackTraces = false) (a0 : Nat) (μ : Me) : Ct l yX8_begins (ws_ yX8_begins cX8_begins 1 none) rmX8_begins s0 D aC (fun _ : Unit => none) [.ref a0] μ (FX8_begins a0 μ) := by
  refine Ct_of hG hl (by decide +kernel) (Nat.le_of_ble_eq_true rfl) (fun κ ρ hNL F M hκ => ?_)
  have F : Fx κ cX8_begins RX8 := F
  change V κ ρ 0 0 μ (FX8_begins a0 μ) 0 [(0, .ref a0)] []
  unfold FX8_begins
  refine V_aload_n F dX8_begins_0 rfl 0 rfl ?_
  refine V_iconst (v := 0) F dX8_begins_1 (by decide) ?_
  refine V_pf (ci := 8) (k9 := 0) (C := RX8) (T := TX8) (N := 22) (ty := tyX8) F rfl hinX8 tyX8_ok nmX8 (by decide) q1208 rfl rfl rfl dX8_begins_2 (fun μ1 => ?_)
  refine V_aload_n F dX8_begins_5 rfl 0 rfl ?_
  refine V_gR (ci := 8) (k9 := 6) (C := RX8) (T := TX8) (N := 22) F rfl hinX8 (by decide) q1214 dX8_begins_6 (fun x2 => ?_)
  refine V_aload_n F dX8_begins_9 rfl 0 rfl ?_
  refine V_gR (ci := 8) (k9 := 5) (C := RX8) (T := TX8) (N := 22) F rfl hinX8 (by decide) q1213 dX8_begins_10 (fun x3 => ?_)
  refine V_cS (As := [.ref x2, .ref x3]) (rest := []) (N := 2) F M (metX8_lays (Fx_G F) (Fx_l F) x2 x3 μ1) q1289 q72 q1287 q1288 ⟨by decide +kernel, by decide +kernel, by decide +kernel⟩ rfl ⟨by decide, by decide⟩ (Nat.le_of_ble_eq_true rfl) dX8_begins_13 (by decide) (by decide) (fun x5 μ4 => ?_)
  change V κ ρ 0 0 μ4 _ 16 [(0, .ref a0)] []
  exact V_vret F M dX8_begins_16 rfl (by decide) (by decide)
/-! DroneLightShowModel.ends(I)I -/
abbrev rmX8_ends : Room := { frames := 1, cells := 0, slots := 0, locals := 22 }
def FX8_ends_B71 (k71 : Nat → Int32 → Int32 → Me → Rs Int32) (v0 : Nat) (v1 : Int32) (v2 : Int32) (μ : Me) : Rs Int32 :=
  (if 117 ≤ v2 then (gI μ v0 8 1 (fun x9 => (pf μ v0 8 1 (.int (x9 + 1)) (fun μ10 => (rt v1 μ10))))) else (gR μ v0 8 9 (fun x11 => (gI μ v0 8 1 (fun x12 => (gR μ v0 8 6 (fun x13 => (aI μ x13 v2 (fun x14 => (sI μ x11 ((x12 * 117) + v2) x14 (fun μ15 => (k71 v0 v1 (v2 + 1) μ15))))))))))))
set_option maxHeartbeats 4000000 in
set_option maxRecDepth 100000 in
theorem VX8_ends_B71 {κ : Cx} {ρ : (Int32 ⊕ String) × Me} (F : Fx κ cX8_ends RX8) (M : Mx κ (fun r : Int32 => some (.int r)) ρ rmX8_ends (some .int) [] "ends") (hNL : κ.2.2.2.2.2.2.2.2.2.2.2.2.2.2 = 3) {k71 : Nat → Int32 → Int32 → Me → Rs Int32} (hk71 : ∀ (v0 : Nat) (v1 : Int32) (v2 : Int32) (μ : Me), V κ ρ 0 0 μ (k71 v0 v1 v2 μ) 71 [(0, .ref v0), (1, .int v1), (2, .int v2)] []) (v0 : Nat) (v1 : Int32) (v2 : Int32) (μ : Me) : V κ ρ 0 0 μ (FX8_ends_B71 k71 v0 v1 v2 μ) 71 [(0, .ref v0), (1, .int v1), (2, .int v2)] [] := by
  unfold FX8_ends_B71
  refine V_iload_n F dX8_ends_71 rfl 2 rfl ?_
  refine V_bipush (v := 117) F dX8_ends_72 (by decide) ?_
  refine V_icmp_ge (tgt := 103) F dX8_ends_74 (by decide) (fun c7 => ?_) (fun c8 => ?_)
  · refine V_aload_n F dX8_ends_103 rfl 0 rfl ?_
    refine V_dup F dX8_ends_104 rfl ?_
    refine V_gI (ci := 8) (k9 := 1) (C := RX8) (T := TX8) (N := 22) F rfl hinX8 (by decide) q1209 dX8_ends_105 (fun x9 => ?_)
    refine V_iconst (v := 1) F dX8_ends_108 (by decide) ?_
    refine V_iadd F dX8_ends_109 ?_
    refine V_pf (ci := 8) (k9 := 1) (C := RX8) (T := TX8) (N := 22) (ty := tyX8) F rfl hinX8 tyX8_ok nmX8 (by decide) q1209 rfl rfl rfl dX8_ends_110 (fun μ10 => ?_)
    refine V_iload_n F dX8_ends_113 rfl 1 rfl ?_
    exact V_iret F M dX8_ends_114 rfl (by decide) (by decide)
  · refine V_aload_n F dX8_ends_77 rfl 0 rfl ?_
    refine V_gR (ci := 8) (k9 := 9) (C := RX8) (T := TX8) (N := 22) F rfl hinX8 (by decide) q1217 dX8_ends_78 (fun x11 => ?_)
    refine V_aload_n F dX8_ends_81 rfl 0 rfl ?_
    refine V_gI (ci := 8) (k9 := 1) (C := RX8) (T := TX8) (N := 22) F rfl hinX8 (by decide) q1209 dX8_ends_82 (fun x12 => ?_)
    refine V_bipush (v := 117) F dX8_ends_85 (by decide) ?_
    refine V_imul F dX8_ends_87 ?_
    refine V_iload_n F dX8_ends_88 rfl 2 rfl ?_
    refine V_iadd F dX8_ends_89 ?_
    refine V_aload_n F dX8_ends_90 rfl 0 rfl ?_
    refine V_gR (ci := 8) (k9 := 6) (C := RX8) (T := TX8) (N := 22) F rfl hinX8 (by decide) q1214 dX8_ends_91 (fun x13 => ?_)
    refine V_iload_n F dX8_ends_94 rfl 2 rfl ?_
    refine V_aI F dX8_ends_95 (fun x14 => ?_)
    refine V_sI F dX8_ends_96 (fun μ15 => ?_)
    refine V_iinc (lv' := [(2, .int (v2 + 1)), (0, .ref v0), (1, .int v1)]) F dX8_ends_97 2 rfl rfl (lt_L hNL (by decide)) rfl ?_
    refine V_goto (tgt := 71) F dX8_ends_100 (by decide) ?_
    refine V_sub [1, 2, 0] rfl ?_
    exact hk71 v0 v1 (v2 + 1) μ15
def FX8_ends_L71  : Nat → Nat → Int32 → Int32 → Me → Rs Int32
  | 0, _, _, _, _ => none
  | f + 1, v0, v1, v2, μ => FX8_ends_B71 (FX8_ends_L71  f) v0 v1 v2 μ
theorem VX8_ends_L71 {κ : Cx} {ρ : (Int32 ⊕ String) × Me} (F : Fx κ cX8_ends RX8) (M : Mx κ (fun r : Int32 => some (.int r)) ρ rmX8_ends (some .int) [] "ends") (hNL : κ.2.2.2.2.2.2.2.2.2.2.2.2.2.2 = 3)   : ∀ (f : Nat) (v0 : Nat) (v1 : Int32) (v2 : Int32) (μ : Me), V κ ρ 0 0 μ (FX8_ends_L71  f v0 v1 v2 μ) 71 [(0, .ref v0), (1, .int v1), (2, .int v2)] [] := by
  intro f
  induction f with
  | zero => intros; exact V_none
  | succ f ih => intro v0 v1 v2 μ; exact VX8_ends_B71 F M hNL (fun v0 v1 v2 μ => ih v0 v1 v2 μ) v0 v1 v2 μ
def FX8_ends_B31 (k31 : Nat → Int32 → Int32 → Me → Rs Int32) (v0 : Nat) (v1 : Int32) (v2 : Int32) (μ : Me) : Rs Int32 :=
  (if 819 ≤ v2 then (gI μ v0 8 1 (fun x18 => (pf μ v0 8 1 (.int (x18 - 1)) (fun μ19 => (FX8_ends_L71  FU v0 v1 0 μ19))))) else (gR μ v0 8 9 (fun x20 => (gR μ v0 8 9 (fun x21 => (aI μ x21 (v2 + 117) (fun x22 => (sI μ x20 v2 x22 (fun μ23 => (k31 v0 v1 (v2 + 1) μ23))))))))))
set_option maxHeartbeats 4000000 in
set_option maxRecDepth 100000 in
theorem VX8_ends_B31 {κ : Cx} {ρ : (Int32 ⊕ String) × Me} (F : Fx κ cX8_ends RX8) (M : Mx κ (fun r : Int32 => some (.int r)) ρ rmX8_ends (some .int) [] "ends") (hNL : κ.2.2.2.2.2.2.2.2.2.2.2.2.2.2 = 3) {k31 : Nat → Int32 → Int32 → Me → Rs Int32} (hk31 : ∀ (v0 : Nat) (v1 : Int32) (v2 : Int32) (μ : Me), V κ ρ 0 0 μ (k31 v0 v1 v2 μ) 31 [(0, .ref v0), (1, .int v1), (2, .int v2)] []) (v0 : Nat) (v1 : Int32) (v2 : Int32) (μ : Me) : V κ ρ 0 0 μ (FX8_ends_B31 k31 v0 v1 v2 μ) 31 [(0, .ref v0), (1, .int v1), (2, .int v2)] [] := by
  unfold FX8_ends_B31
  refine V_iload_n F dX8_ends_31 rfl 2 rfl ?_
  refine V_sipush (v := 819) F dX8_ends_32 (by decide) ?_
  refine V_icmp_ge (tgt := 59) F dX8_ends_35 (by decide) (fun c16 => ?_) (fun c17 => ?_)
  · refine V_aload_n F dX8_ends_59 rfl 0 rfl ?_
    refine V_dup F dX8_ends_60 rfl ?_
    refine V_gI (ci := 8) (k9 := 1) (C := RX8) (T := TX8) (N := 22) F rfl hinX8 (by decide) q1209 dX8_ends_61 (fun x18 => ?_)
    refine V_iconst (v := 1) F dX8_ends_64 (by decide) ?_
    refine V_isub F dX8_ends_65 ?_
    refine V_pf (ci := 8) (k9 := 1) (C := RX8) (T := TX8) (N := 22) (ty := tyX8) F rfl hinX8 tyX8_ok nmX8 (by decide) q1209 rfl rfl rfl dX8_ends_66 (fun μ19 => ?_)
    refine V_iconst (v := 0) F dX8_ends_69 (by decide) ?_
    refine V_istore_n (lv' := [(2, .int 0), (0, .ref v0), (1, .int v1)]) F dX8_ends_70 rfl (lt_L hNL (by decide)) rfl ?_
    refine V_sub [1, 2, 0] rfl ?_
    exact VX8_ends_L71 F M hNL  FU v0 v1 0 μ19
  · refine V_aload_n F dX8_ends_38 rfl 0 rfl ?_
    refine V_gR (ci := 8) (k9 := 9) (C := RX8) (T := TX8) (N := 22) F rfl hinX8 (by decide) q1217 dX8_ends_39 (fun x20 => ?_)
    refine V_iload_n F dX8_ends_42 rfl 2 rfl ?_
    refine V_aload_n F dX8_ends_43 rfl 0 rfl ?_
    refine V_gR (ci := 8) (k9 := 9) (C := RX8) (T := TX8) (N := 22) F rfl hinX8 (by decide) q1217 dX8_ends_44 (fun x21 => ?_)
    refine V_iload_n F dX8_ends_47 rfl 2 rfl ?_
    refine V_bipush (v := 117) F dX8_ends_48 (by decide) ?_
    refine V_iadd F dX8_ends_50 ?_
    refine V_aI F dX8_ends_51 (fun x22 => ?_)
    refine V_sI F dX8_ends_52 (fun μ23 => ?_)
    refine V_iinc (lv' := [(2, .int (v2 + 1)), (0, .ref v0), (1, .int v1)]) F dX8_ends_53 2 rfl rfl (lt_L hNL (by decide)) rfl ?_
    refine V_goto (tgt := 31) F dX8_ends_56 (by decide) ?_
    refine V_sub [1, 2, 0] rfl ?_
    exact hk31 v0 v1 (v2 + 1) μ23
def FX8_ends_L31  : Nat → Nat → Int32 → Int32 → Me → Rs Int32
  | 0, _, _, _, _ => none
  | f + 1, v0, v1, v2, μ => FX8_ends_B31 (FX8_ends_L31  f) v0 v1 v2 μ
theorem VX8_ends_L31 {κ : Cx} {ρ : (Int32 ⊕ String) × Me} (F : Fx κ cX8_ends RX8) (M : Mx κ (fun r : Int32 => some (.int r)) ρ rmX8_ends (some .int) [] "ends") (hNL : κ.2.2.2.2.2.2.2.2.2.2.2.2.2.2 = 3)   : ∀ (f : Nat) (v0 : Nat) (v1 : Int32) (v2 : Int32) (μ : Me), V κ ρ 0 0 μ (FX8_ends_L31  f v0 v1 v2 μ) 31 [(0, .ref v0), (1, .int v1), (2, .int v2)] [] := by
  intro f
  induction f with
  | zero => intros; exact V_none
  | succ f ih => intro v0 v1 v2 μ; exact VX8_ends_B31 F M hNL (fun v0 v1 v2 μ => ih v0 v1 v2 μ) v0 v1 v2 μ
def FX8_ends (a0 : Nat) (p1 : Int32) (μ : Me) : Rs Int32 :=
  (gI μ a0 8 0 (fun x1 => (if x1 = 0 then (gI μ a0 8 1 (fun x4 => (if x4 = 8 then (FX8_ends_L31  FU a0 p1 0 μ) else (FX8_ends_L71  FU a0 p1 0 μ)))) else (gR μ a0 8 5 (fun x24 => (gR μ a0 8 6 (fun x25 => (bnd (FX8_lays x24 x25 μ) (fun x27 μ26 => (rt 0 μ26))))))))))
set_option maxHeartbeats 4000000 in
set_option maxRecDepth 100000 in
theorem metX8_ends {l : Launch} {s0 : State} {D : va_G} {aC : Nat → ClassId} (hG : Gl s0 D aC) (hl : l.stackTraces = false) (a0 : Nat) (p1 : Int32) (μ : Me) : Ct l yX8_ends (ws_ yX8_ends cX8_ends 3 (some .int)) rmX8_ends s0 D aC (fun r : Int32 => some (.int r)) [.ref a0, .int p1] μ (FX8_ends a0 p1 μ) := by
  refine Ct_of hG hl (by decide +kernel) (Nat.le_of_ble_eq_true rfl) (fun κ ρ hNL F M hκ => ?_)
  have F : Fx κ cX8_ends RX8 := F
  change V κ ρ 0 0 μ (FX8_ends a0 p1 μ) 0 [(0, .ref a0), (1, .int p1)] []
  unfold FX8_ends
  refine V_aload_n F dX8_ends_0 rfl 0 rfl ?_
  refine V_gI (ci := 8) (k9 := 0) (C := RX8) (T := TX8) (N := 22) F rfl hinX8 (by decide) q1208 dX8_ends_1 (fun x1 => ?_)
  refine V_if_eq (tgt := 20) F dX8_ends_4 (by decide) (fun c2 => ?_) (fun c3 => ?_)
  · refine V_aload_n F dX8_ends_20 rfl 0 rfl ?_
    refine V_gI (ci := 8) (k9 := 1) (C := RX8) (T := TX8) (N := 22) F rfl hinX8 (by decide) q1209 dX8_ends_21 (fun x4 => ?_)
    refine V_bipush (v := 8) F dX8_ends_24 (by decide) ?_
    refine V_icmp_ne (tgt := 69) F dX8_ends_26 (by decide) (fun c5 => ?_) (fun c6 => ?_)
    · refine V_iconst (v := 0) F dX8_ends_69 (by decide) ?_
      refine V_istore_n (lv' := [(2, .int 0), (0, .ref a0), (1, .int p1)]) F dX8_ends_70 rfl (lt_L hNL (by decide)) rfl ?_
      refine V_sub [1, 2, 0] rfl ?_
      exact VX8_ends_L71 F M hNL  FU a0 p1 0 μ
    · refine V_iconst (v := 0) F dX8_ends_29 (by decide) ?_
      refine V_istore_n (lv' := [(2, .int 0), (0, .ref a0), (1, .int p1)]) F dX8_ends_30 rfl (lt_L hNL (by decide)) rfl ?_
      refine V_sub [1, 2, 0] rfl ?_
      exact VX8_ends_L31 F M hNL  FU a0 p1 0 μ
  · refine V_aload_n F dX8_ends_7 rfl 0 rfl ?_
    refine V_gR (ci := 8) (k9 := 5) (C := RX8) (T := TX8) (N := 22) F rfl hinX8 (by decide) q1213 dX8_ends_8 (fun x24 => ?_)
    refine V_aload_n F dX8_ends_11 rfl 0 rfl ?_
    refine V_gR (ci := 8) (k9 := 6) (C := RX8) (T := TX8) (N := 22) F rfl hinX8 (by decide) q1214 dX8_ends_12 (fun x25 => ?_)
    refine V_cS (As := [.ref x24, .ref x25]) (rest := []) (N := 2) F M (metX8_lays (Fx_G F) (Fx_l F) x24 x25 μ) q1289 q72 q1287 q1288 ⟨by decide +kernel, by decide +kernel, by decide +kernel⟩ rfl ⟨by decide, by decide⟩ (Nat.le_of_ble_eq_true rfl) dX8_ends_15 (by decide) (by decide) (fun x27 μ26 => ?_)
    change V κ ρ 0 0 μ26 _ 18 [(0, .ref a0), (1, .int p1)] []
    refine V_iconst (v := 0) F dX8_ends_18 (by decide) ?_
    exact V_iret F M dX8_ends_19 rfl (by decide) (by decide)
/-! DroneLightShowModel.isCell(I)Z -/
abbrev rmX8_isCell : Room := { frames := 1, cells := 0, slots := 0, locals := 22 }
def FX8_isCell (p1 : Int32) (μ : Me) : Rs Int32 :=
  (bnd (FX8_isIn p1 0 63 μ) (fun x2 μ1 => (gd (vp_nar .boolean x2 = x2) (rt x2 μ1))))
set_option maxHeartbeats 4000000 in
set_option maxRecDepth 100000 in
theorem metX8_isCell {l : Launch} {s0 : State} {D : va_G} {aC : Nat → ClassId} (hG : Gl s0 D aC) (hl : l.stackTraces = false) (p1 : Int32) (μ : Me) : Ct l yX8_isCell (ws_ yX8_isCell cX8_isCell 1 (some .boolean)) rmX8_isCell s0 D aC (fun r : Int32 => some (.int r)) [.int p1] μ (FX8_isCell p1 μ) := by
  refine Ct_of hG hl (by decide +kernel) (Nat.le_of_ble_eq_true rfl) (fun κ ρ hNL F M hκ => ?_)
  have F : Fx κ cX8_isCell RX8 := F
  change V κ ρ 0 0 μ (FX8_isCell p1 μ) 0 [(0, .int p1)] []
  unfold FX8_isCell
  refine V_iload_n F dX8_isCell_0 rfl 0 rfl ?_
  refine V_iconst (v := 0) F dX8_isCell_1 (by decide) ?_
  refine V_bipush (v := 63) F dX8_isCell_2 (by decide) ?_
  refine V_cS (As := [.int p1, .int 0, .int 63]) (rest := []) (N := 3) F M (metX8_isIn (Fx_G F) (Fx_l F) p1 0 63 μ) q1299 q72 q1297 q1298 ⟨by decide +kernel, by decide +kernel, by decide +kernel⟩ rfl ⟨by decide, by decide⟩ (Nat.le_of_ble_eq_true rfl) dX8_isCell_4 (by decide) (by decide) (fun x2 μ1 => ?_)
  change V κ ρ 0 0 μ1 _ 7 [(0, .int p1)] [.int x2]
  refine V_gd (fun g3 => ?_)
  exact V_zret F M dX8_isCell_7 rfl (nar_z g3) (by decide) (by decide)
/-! DroneLightShowModel.isDrone(I)Z -/
abbrev rmX8_isDrone : Room := { frames := 1, cells := 0, slots := 0, locals := 22 }
def FX8_isDrone (a0 : Nat) (p1 : Int32) (μ : Me) : Rs Int32 :=
  (gR μ a0 8 5 (fun x1 => (aI μ x1 0 (fun x2 => (bnd (FX8_isIn p1 0 (x2 - 1) μ) (fun x4 μ3 => (gd (vp_nar .boolean x4 = x4) (rt x4 μ3))))))))
set_option maxHeartbeats 4000000 in
set_option maxRecDepth 100000 in
theorem metX8_isDrone {l : Launch} {s0 : State} {D : va_G} {aC : Nat → ClassId} (hG : Gl s0 D aC) (hl : l.stackTraces = false) (a0 : Nat) (p1 : Int32) (μ : Me) : Ct l yX8_isDrone (ws_ yX8_isDrone cX8_isDrone 2 (some .boolean)) rmX8_isDrone s0 D aC (fun r : Int32 => some (.int r)) [.ref a0, .int p1] μ (FX8_isDrone a0 p1 μ) := by
  refine Ct_of hG hl (by decide +kernel) (Nat.le_of_ble_eq_true rfl) (fun κ ρ hNL F M hκ => ?_)
  have F : Fx κ cX8_isDrone RX8 := F
  change V κ ρ 0 0 μ (FX8_isDrone a0 p1 μ) 0 [(0, .ref a0), (1, .int p1)] []
  unfold FX8_isDrone
  refine V_iload_n F dX8_isDrone_0 rfl 1 rfl ?_
  refine V_iconst (v := 0) F dX8_isDrone_1 (by decide) ?_
  refine V_aload_n F dX8_isDrone_2 rfl 0 rfl ?_
  refine V_gR (ci := 8) (k9 := 5) (C := RX8) (T := TX8) (N := 22) F rfl hinX8 (by decide) q1213 dX8_isDrone_3 (fun x1 => ?_)
  refine V_iconst (v := 0) F dX8_isDrone_6 (by decide) ?_
  refine V_aI F dX8_isDrone_7 (fun x2 => ?_)
  refine V_iconst (v := 1) F dX8_isDrone_8 (by decide) ?_
  refine V_isub F dX8_isDrone_9 ?_
  refine V_cS (As := [.int p1, .int 0, .int (x2 - 1)]) (rest := []) (N := 3) F M (metX8_isIn (Fx_G F) (Fx_l F) p1 0 (x2 - 1) μ) q1299 q72 q1297 q1298 ⟨by decide +kernel, by decide +kernel, by decide +kernel⟩ rfl ⟨by decide, by decide⟩ (Nat.le_of_ble_eq_true rfl) dX8_isDrone_10 (by decide) (by decide) (fun x4 μ3 => ?_)
  change V κ ρ 0 0 μ3 _ 13 [(0, .ref a0), (1, .int p1)] [.int x4]
  refine V_gd (fun g5 => ?_)
  exact V_zret F M dX8_isDrone_13 rfl (nar_z g5) (by decide) (by decide)
/-! DroneLightShowModel.isForm(I)Z -/
abbrev rmX8_isForm : Room := { frames := 1, cells := 0, slots := 0, locals := 22 }
def FX8_isForm (p1 : Int32) (μ : Me) : Rs Int32 :=
  (bnd (FX8_isIn p1 0 3 μ) (fun x2 μ1 => (gd (vp_nar .boolean x2 = x2) (rt x2 μ1))))
set_option maxHeartbeats 4000000 in
set_option maxRecDepth 100000 in
theorem metX8_isForm {l : Launch} {s0 : State} {D : va_G} {aC : Nat → ClassId} (hG : Gl s0 D aC) (hl : l.stackTraces = false) (p1 : Int32) (μ : Me) : Ct l yX8_isForm (ws_ yX8_isForm cX8_isForm 1 (some .boolean)) rmX8_isForm s0 D aC (fun r : Int32 => some (.int r)) [.int p1] μ (FX8_isForm p1 μ) := by
  refine Ct_of hG hl (by decide +kernel) (Nat.le_of_ble_eq_true rfl) (fun κ ρ hNL F M hκ => ?_)
  have F : Fx κ cX8_isForm RX8 := F
  change V κ ρ 0 0 μ (FX8_isForm p1 μ) 0 [(0, .int p1)] []
  unfold FX8_isForm
  refine V_iload_n F dX8_isForm_0 rfl 0 rfl ?_
  refine V_iconst (v := 0) F dX8_isForm_1 (by decide) ?_
  refine V_iconst (v := 3) F dX8_isForm_2 (by decide) ?_
  refine V_cS (As := [.int p1, .int 0, .int 3]) (rest := []) (N := 3) F M (metX8_isIn (Fx_G F) (Fx_l F) p1 0 3 μ) q1299 q72 q1297 q1298 ⟨by decide +kernel, by decide +kernel, by decide +kernel⟩ rfl ⟨by decide, by decide⟩ (Nat.le_of_ble_eq_true rfl) dX8_isForm_3 (by decide) (by decide) (fun x2 μ1 => ?_)
  change V κ ρ 0 0 μ1 _ 6 [(0, .int p1)] [.int x2]
  refine V_gd (fun g3 => ?_)
  exact V_zret F M dX8_isForm_6 rfl (nar_z g3) (by decide) (by decide)
/-! DroneLightShowModel.of(II)I -/
abbrev rmX8_of : Room := { frames := 0, cells := 0, slots := 0, locals := 0 }
def FX8_of (p1 : Int32) (p2 : Int32) (μ : Me) : Rs Int32 :=
  (rt ((13 + (6 * p1)) + p2) μ)
set_option maxHeartbeats 4000000 in
set_option maxRecDepth 100000 in
theorem metX8_of {l : Launch} {s0 : State} {D : va_G} {aC : Nat → ClassId} (hG : Gl s0 D aC) (hl : l.stackTraces = false) (p1 : Int32) (p2 : Int32) (μ : Me) : Ct l yX8_of (ws_ yX8_of cX8_of 2 (some .int)) rmX8_of s0 D aC (fun r : Int32 => some (.int r)) [.int p1, .int p2] μ (FX8_of p1 p2 μ) := by
  refine Ct_of hG hl (by decide +kernel) (Nat.le_of_ble_eq_true rfl) (fun κ ρ hNL F M hκ => ?_)
  have F : Fx κ cX8_of RX8 := F
  change V κ ρ 0 0 μ (FX8_of p1 p2 μ) 0 [(0, .int p1), (1, .int p2)] []
  unfold FX8_of
  refine V_bipush (v := 13) F dX8_of_0 (by decide) ?_
  refine V_bipush (v := 6) F dX8_of_2 (by decide) ?_
  refine V_iload_n F dX8_of_4 rfl 0 rfl ?_
  refine V_imul F dX8_of_5 ?_
  refine V_iadd F dX8_of_6 ?_
  refine V_iload_n F dX8_of_7 rfl 1 rfl ?_
  refine V_iadd F dX8_of_8 ?_
  exact V_iret F M dX8_of_9 rfl (by decide) (by decide)
/-! DroneLightShowModel.flies(I)Z -/
abbrev rmX8_flies : Room := { frames := 1, cells := 0, slots := 0, locals := 21 }
def FX8_flies (a0 : Nat) (p1 : Int32) (μ : Me) : Rs Int32 :=
  (gR μ a0 8 5 (fun x1 => (bnd (FX8_of p1 1 μ) (fun x3 μ2 => (aI μ2 x1 x3 (fun x4 => (if x4 = 1 then (rt 1 μ2) else (rt 0 μ2))))))))
set_option maxHeartbeats 4000000 in
set_option maxRecDepth 100000 in
theorem metX8_flies {l : Launch} {s0 : State} {D : va_G} {aC : Nat → ClassId} (hG : Gl s0 D aC) (hl : l.stackTraces = false) (a0 : Nat) (p1 : Int32) (μ : Me) : Ct l yX8_flies (ws_ yX8_flies cX8_flies 2 (some .boolean)) rmX8_flies s0 D aC (fun r : Int32 => some (.int r)) [.ref a0, .int p1] μ (FX8_flies a0 p1 μ) := by
  refine Ct_of hG hl (by decide +kernel) (Nat.le_of_ble_eq_true rfl) (fun κ ρ hNL F M hκ => ?_)
  have F : Fx κ cX8_flies RX8 := F
  change V κ ρ 0 0 μ (FX8_flies a0 p1 μ) 0 [(0, .ref a0), (1, .int p1)] []
  unfold FX8_flies
  refine V_aload_n F dX8_flies_0 rfl 0 rfl ?_
  refine V_gR (ci := 8) (k9 := 5) (C := RX8) (T := TX8) (N := 22) F rfl hinX8 (by decide) q1213 dX8_flies_1 (fun x1 => ?_)
  refine V_iload_n F dX8_flies_4 rfl 1 rfl ?_
  refine V_iconst (v := 1) F dX8_flies_5 (by decide) ?_
  refine V_cS (As := [.int p1, .int 1]) (rest := [.ref x1]) (N := 2) F M (metX8_of (Fx_G F) (Fx_l F) p1 1 μ) q1310 q72 q1308 q1309 ⟨by decide +kernel, by decide +kernel, by decide +kernel⟩ rfl ⟨by decide, by decide⟩ (Nat.le_of_ble_eq_true rfl) dX8_flies_6 (by decide) (by decide) (fun x3 μ2 => ?_)
  change V κ ρ 0 0 μ2 _ 9 [(0, .ref a0), (1, .int p1)] [.int x3, .ref x1]
  refine V_aI F dX8_flies_9 (fun x4 => ?_)
  refine V_iconst (v := 1) F dX8_flies_10 (by decide) ?_
  refine V_icmp_ne (tgt := 18) F dX8_flies_11 (by decide) (fun c5 => ?_) (fun c6 => ?_)
  · refine V_iconst (v := 0) F dX8_flies_18 (by decide) ?_
    exact V_zret F M dX8_flies_19 rfl (by decide) (by decide) (by decide)
  · refine V_iconst (v := 1) F dX8_flies_14 (by decide) ?_
    refine V_goto (tgt := 19) F dX8_flies_15 (by decide) ?_
    exact V_zret F M dX8_flies_19 rfl (by decide) (by decide) (by decide)
/-! DroneLightShowModel.isUrgent(I)Z -/
abbrev rmX8_isUrgent : Room := { frames := 1, cells := 0, slots := 0, locals := 21 }
def FX8_isUrgent (a0 : Nat) (p1 : Int32) (μ : Me) : Rs Int32 :=
  (gR μ a0 8 5 (fun x1 => (bnd (FX8_of p1 5 μ) (fun x3 μ2 => (aI μ2 x1 x3 (fun x4 => (if x4 = 1 then (rt 1 μ2) else (rt 0 μ2))))))))
set_option maxHeartbeats 4000000 in
set_option maxRecDepth 100000 in
theorem metX8_isUrgent {l : Launch} {s0 : State} {D : va_G} {aC : Nat → ClassId} (hG : Gl s0 D aC) (hl : l.stackTraces = false) (a0 : Nat) (p1 : Int32) (μ : Me) : Ct l yX8_isUrgent (ws_ yX8_isUrgent cX8_isUrgent 2 (some .boolean)) rmX8_isUrgent s0 D aC (fun r : Int32 => some (.int r)) [.ref a0, .int p1] μ (FX8_isUrgent a0 p1 μ) := by
  refine Ct_of hG hl (by decide +kernel) (Nat.le_of_ble_eq_true rfl) (fun κ ρ hNL F M hκ => ?_)
  have F : Fx κ cX8_isUrgent RX8 := F
  change V κ ρ 0 0 μ (FX8_isUrgent a0 p1 μ) 0 [(0, .ref a0), (1, .int p1)] []
  unfold FX8_isUrgent
  refine V_aload_n F dX8_isUrgent_0 rfl 0 rfl ?_
  refine V_gR (ci := 8) (k9 := 5) (C := RX8) (T := TX8) (N := 22) F rfl hinX8 (by decide) q1213 dX8_isUrgent_1 (fun x1 => ?_)
  refine V_iload_n F dX8_isUrgent_4 rfl 1 rfl ?_
  refine V_iconst (v := 5) F dX8_isUrgent_5 (by decide) ?_
  refine V_cS (As := [.int p1, .int 5]) (rest := [.ref x1]) (N := 2) F M (metX8_of (Fx_G F) (Fx_l F) p1 5 μ) q1310 q72 q1308 q1309 ⟨by decide +kernel, by decide +kernel, by decide +kernel⟩ rfl ⟨by decide, by decide⟩ (Nat.le_of_ble_eq_true rfl) dX8_isUrgent_6 (by decide) (by decide) (fun x3 μ2 => ?_)
  change V κ ρ 0 0 μ2 _ 9 [(0, .ref a0), (1, .int p1)] [.int x3, .ref x1]
  refine V_aI F dX8_isUrgent_9 (fun x4 => ?_)
  refine V_iconst (v := 1) F dX8_isUrgent_10 (by decide) ?_
  refine V_icmp_ne (tgt := 18) F dX8_isUrgent_11 (by decide) (fun c5 => ?_) (fun c6 => ?_)
  · refine V_iconst (v := 0) F dX8_isUrgent_18 (by decide) ?_
    exact V_zret F M dX8_isUrgent_19 rfl (by decide) (by decide) (by decide)
  · refine V_iconst (v := 1) F dX8_isUrgent_14 (by decide) ?_
    refine V_goto (tgt := 19) F dX8_isUrgent_15 (by decide) ?_
    exact V_zret F M dX8_isUrgent_19 rfl (by decide) (by decide) (by decide)
/-! DroneLightShowModel.goal(I)I -/
abbrev rmX8_goal : Room := { frames := 1, cells := 0, slots := 0, locals := 21 }
def FX8_goal (a0 : Nat) (p1 : Int32) (μ : Me) : Rs Int32 :=
  (gR μ a0 8 5 (fun x1 => (bnd (FX8_of p1 4 μ) (fun x3 μ2 => (aI μ2 x1 x3 (fun x4 => (rt (x4 - 1) μ2)))))))
set_option maxHeartbeats 4000000 in
set_option maxRecDepth 100000 in
theorem metX8_goal {l : Launch} {s0 : State} {D : va_G} {aC : Nat → ClassId} (hG : Gl s0 D aC) (hl : l.stackTraces = false) (a0 : Nat) (p1 : Int32) (μ : Me) : Ct l yX8_goal (ws_ yX8_goal cX8_goal 2 (some .int)) rmX8_goal s0 D aC (fun r : Int32 => some (.int r)) [.ref a0, .int p1] μ (FX8_goal a0 p1 μ) := by
  refine Ct_of hG hl (by decide +kernel) (Nat.le_of_ble_eq_true rfl) (fun κ ρ hNL F M hκ => ?_)
  have F : Fx κ cX8_goal RX8 := F
  change V κ ρ 0 0 μ (FX8_goal a0 p1 μ) 0 [(0, .ref a0), (1, .int p1)] []
  unfold FX8_goal
  refine V_aload_n F dX8_goal_0 rfl 0 rfl ?_
  refine V_gR (ci := 8) (k9 := 5) (C := RX8) (T := TX8) (N := 22) F rfl hinX8 (by decide) q1213 dX8_goal_1 (fun x1 => ?_)
  refine V_iload_n F dX8_goal_4 rfl 1 rfl ?_
  refine V_iconst (v := 4) F dX8_goal_5 (by decide) ?_
  refine V_cS (As := [.int p1, .int 4]) (rest := [.ref x1]) (N := 2) F M (metX8_of (Fx_G F) (Fx_l F) p1 4 μ) q1310 q72 q1308 q1309 ⟨by decide +kernel, by decide +kernel, by decide +kernel⟩ rfl ⟨by decide, by decide⟩ (Nat.le_of_ble_eq_true rfl) dX8_goal_6 (by decide) (by decide) (fun x3 μ2 => ?_)
  change V κ ρ 0 0 μ2 _ 9 [(0, .ref a0), (1, .int p1)] [.int x3, .ref x1]
  refine V_aI F dX8_goal_9 (fun x4 => ?_)
  refine V_iconst (v := 1) F dX8_goal_10 (by decide) ?_
  refine V_isub F dX8_goal_11 ?_
  exact V_iret F M dX8_goal_12 rfl (by decide) (by decide)
/-! DroneLightShowModel.size(I)I -/
abbrev rmX8_size : Room := { frames := 0, cells := 0, slots := 0, locals := 0 }
def FX8_size (p1 : Int32) (μ : Me) : Rs Int32 :=
  (if 0 ≤ p1 then (rt p1 μ) else (rt (-p1) μ))
set_option maxHeartbeats 4000000 in
set_option maxRecDepth 100000 in
theorem metX8_size {l : Launch} {s0 : State} {D : va_G} {aC : Nat → ClassId} (hG : Gl s0 D aC) (hl : l.stackTraces = false) (p1 : Int32) (μ : Me) : Ct l yX8_size (ws_ yX8_size cX8_size 1 (some .int)) rmX8_size s0 D aC (fun r : Int32 => some (.int r)) [.int p1] μ (FX8_size p1 μ) := by
  refine Ct_of hG hl (by decide +kernel) (Nat.le_of_ble_eq_true rfl) (fun κ ρ hNL F M hκ => ?_)
  have F : Fx κ cX8_size RX8 := F
  change V κ ρ 0 0 μ (FX8_size p1 μ) 0 [(0, .int p1)] []
  unfold FX8_size
  refine V_iload_n F dX8_size_0 rfl 0 rfl ?_
  refine V_if_ge (tgt := 9) F dX8_size_1 (by decide) (fun c1 => ?_) (fun c2 => ?_)
  · refine V_iload_n F dX8_size_9 rfl 0 rfl ?_
    exact V_iret F M dX8_size_10 rfl (by decide) (by decide)
  · refine V_iload_n F dX8_size_4 rfl 0 rfl ?_
    refine V_ineg F dX8_size_5 ?_
    refine V_goto (tgt := 10) F dX8_size_6 (by decide) ?_
    exact V_iret F M dX8_size_10 rfl (by decide) (by decide)
/-! DroneLightShowModel.far(II)I -/
abbrev rmX8_far : Room := { frames := 1, cells := 0, slots := 0, locals := 20 }
def FX8_far (p1 : Int32) (p2 : Int32) (μ : Me) : Rs Int32 :=
  (bnd (FX8_size ((p1 / 8) - (p2 / 8)) μ) (fun x2 μ1 => (bnd (FX8_size ((p1 - p1 / 8 * 8) - (p2 - p2 / 8 * 8)) μ1) (fun x4 μ3 => (rt (x2 + x4) μ3)))))
set_option maxHeartbeats 4000000 in
set_option maxRecDepth 100000 in
theorem metX8_far {l : Launch} {s0 : State} {D : va_G} {aC : Nat → ClassId} (hG : Gl s0 D aC) (hl : l.stackTraces = false) (p1 : Int32) (p2 : Int32) (μ : Me) : Ct l yX8_far (ws_ yX8_far cX8_far 2 (some .int)) rmX8_far s0 D aC (fun r : Int32 => some (.int r)) [.int p1, .int p2] μ (FX8_far p1 p2 μ) := by
  refine Ct_of hG hl (by decide +kernel) (Nat.le_of_ble_eq_true rfl) (fun κ ρ hNL F M hκ => ?_)
  have F : Fx κ cX8_far RX8 := F
  change V κ ρ 0 0 μ (FX8_far p1 p2 μ) 0 [(0, .int p1), (1, .int p2)] []
  unfold FX8_far
  refine V_iload_n F dX8_far_0 rfl 0 rfl ?_
  refine V_bipush (v := 8) F dX8_far_1 (by decide) ?_
  refine V_idiv F dX8_far_3 (by decide) ?_
  refine V_iload_n F dX8_far_4 rfl 1 rfl ?_
  refine V_bipush (v := 8) F dX8_far_5 (by decide) ?_
  refine V_idiv F dX8_far_7 (by decide) ?_
  refine V_isub F dX8_far_8 ?_
  refine V_cS (As := [.int ((p1 / 8) - (p2 / 8))]) (rest := []) (N := 1) F M (metX8_size (Fx_G F) (Fx_l F) ((p1 / 8) - (p2 / 8)) μ) q1376 q72 q1374 q1375 ⟨by decide +kernel, by decide +kernel, by decide +kernel⟩ rfl ⟨by decide, by decide⟩ (Nat.le_of_ble_eq_true rfl) dX8_far_9 (by decide) (by decide) (fun x2 μ1 => ?_)
  change V κ ρ 0 0 μ1 _ 12 [(0, .int p1), (1, .int p2)] [.int x2]
  refine V_iload_n F dX8_far_12 rfl 0 rfl ?_
  refine V_bipush (v := 8) F dX8_far_13 (by decide) ?_
  refine V_irem F dX8_far_15 (by decide) ?_
  refine V_iload_n F dX8_far_16 rfl 1 rfl ?_
  refine V_bipush (v := 8) F dX8_far_17 (by decide) ?_
  refine V_irem F dX8_far_19 (by decide) ?_
  refine V_isub F dX8_far_20 ?_
  refine V_cS (As := [.int ((p1 - p1 / 8 * 8) - (p2 - p2 / 8 * 8))]) (rest := [.int x2]) (N := 1) F M (metX8_size (Fx_G F) (Fx_l F) ((p1 - p1 / 8 * 8) - (p2 - p2 / 8 * 8)) μ1) q1376 q72 q1374 q1375 ⟨by decide +kernel, by decide +kernel, by decide +kernel⟩ rfl ⟨by decide, by decide⟩ (Nat.le_of_ble_eq_true rfl) dX8_far_21 (by decide) (by decide) (fun x4 μ3 => ?_)
  change V κ ρ 0 0 μ3 _ 24 [(0, .int p1), (1, .int p2)] [.int x4, .int x2]
  refine V_iadd F dX8_far_24 ?_
  exact V_iret F M dX8_far_25 rfl (by decide) (by decide)
/-! DroneLightShowModel.in(I)I -/
abbrev rmX8_in : Room := { frames := 1, cells := 0, slots := 0, locals := 21 }
def FX8_in_B2 (k2 : Nat → Int32 → Int32 → Me → Rs Int32) (v0 : Nat) (v1 : Int32) (v2 : Int32) (μ : Me) : Rs Int32 :=
  (gR μ v0 8 5 (fun x1 => (aI μ x1 0 (fun x2 => (if x2 ≤ v2 then (rt (-1) μ) else (gR μ v0 8 5 (fun x5 => (bnd (FX8_of v2 0 μ) (fun x7 μ6 => (aI μ6 x5 x7 (fun x8 => (if x8 = v1 then (rt v2 μ6) else (k2 v0 v1 (v2 + 1) μ6)))))))))))))
set_option maxHeartbeats 4000000 in
set_option maxRecDepth 100000 in
theorem VX8_in_B2 {κ : Cx} {ρ : (Int32 ⊕ String) × Me} (F : Fx κ cX8_in RX8) (M : Mx κ (fun r : Int32 => some (.int r)) ρ rmX8_in (some .int) [] "in") (hNL : κ.2.2.2.2.2.2.2.2.2.2.2.2.2.2 = 3) {k2 : Nat → Int32 → Int32 → Me → Rs Int32} (hk2 : ∀ (v0 : Nat) (v1 : Int32) (v2 : Int32) (μ : Me), V κ ρ 0 0 μ (k2 v0 v1 v2 μ) 2 [(0, .ref v0), (1, .int v1), (2, .int v2)] []) (v0 : Nat) (v1 : Int32) (v2 : Int32) (μ : Me) : V κ ρ 0 0 μ (FX8_in_B2 k2 v0 v1 v2 μ) 2 [(0, .ref v0), (1, .int v1), (2, .int v2)] [] := by
  unfold FX8_in_B2
  refine V_iload_n F dX8_in_2 rfl 2 rfl ?_
  refine V_aload_n F dX8_in_3 rfl 0 rfl ?_
  refine V_gR (ci := 8) (k9 := 5) (C := RX8) (T := TX8) (N := 22) F rfl hinX8 (by decide) q1213 dX8_in_4 (fun x1 => ?_)
  refine V_iconst (v := 0) F dX8_in_7 (by decide) ?_
  refine V_aI F dX8_in_8 (fun x2 => ?_)
  refine V_icmp_ge (tgt := 34) F dX8_in_9 (by decide) (fun c3 => ?_) (fun c4 => ?_)
  · refine V_iconst (v := (-1)) F dX8_in_34 (by decide) ?_
    exact V_iret F M dX8_in_35 rfl (by decide) (by decide)
  · refine V_aload_n F dX8_in_12 rfl 0 rfl ?_
    refine V_gR (ci := 8) (k9 := 5) (C := RX8) (T := TX8) (N := 22) F rfl hinX8 (by decide) q1213 dX8_in_13 (fun x5 => ?_)
    refine V_iload_n F dX8_in_16 rfl 2 rfl ?_
    refine V_iconst (v := 0) F dX8_in_17 (by decide) ?_
    refine V_cS (As := [.int v2, .int 0]) (rest := [.ref x5]) (N := 2) F M (metX8_of (Fx_G F) (Fx_l F) v2 0 μ) q1310 q72 q1308 q1309 ⟨by decide +kernel, by decide +kernel, by decide +kernel⟩ rfl ⟨by decide, by decide⟩ (Nat.le_of_ble_eq_true rfl) dX8_in_18 (by decide) (by decide) (fun x7 μ6 => ?_)
    change V κ ρ 0 0 μ6 _ 21 [(0, .ref v0), (1, .int v1), (2, .int v2)] [.int x7, .ref x5]
    refine V_aI F dX8_in_21 (fun x8 => ?_)
    refine V_iload_n F dX8_in_22 rfl 1 rfl ?_
    refine V_icmp_ne (tgt := 28) F dX8_in_23 (by decide) (fun c9 => ?_) (fun c10 => ?_)
    · refine V_iinc (lv' := [(2, .int (v2 + 1)), (0, .ref v0), (1, .int v1)]) F dX8_in_28 2 rfl rfl (lt_L hNL (by decide)) rfl ?_
      refine V_goto (tgt := 2) F dX8_in_31 (by decide) ?_
      refine V_sub [1, 2, 0] rfl ?_
      exact hk2 v0 v1 (v2 + 1) μ6
    · refine V_iload_n F dX8_in_26 rfl 2 rfl ?_
      exact V_iret F M dX8_in_27 rfl (by decide) (by decide)
def FX8_in_L2  : Nat → Nat → Int32 → Int32 → Me → Rs Int32
  | 0, _, _, _, _ => none
  | f + 1, v0, v1, v2, μ => FX8_in_B2 (FX8_in_L2  f) v0 v1 v2 μ
theorem VX8_in_L2 {κ : Cx} {ρ : (Int32 ⊕ String) × Me} (F : Fx κ cX8_in RX8) (M : Mx κ (fun r : Int32 => some (.int r)) ρ rmX8_in (some .int) [] "in") (hNL : κ.2.2.2.2.2.2.2.2.2.2.2.2.2.2 = 3)   : ∀ (f : Nat) (v0 : Nat) (v1 : Int32) (v2 : Int32) (μ : Me), V κ ρ 0 0 μ (FX8_in_L2  f v0 v1 v2 μ) 2 [(0, .ref v0), (1, .int v1), (2, .int v2)] [] := by
  intro f
  induction f with
  | zero => intros; exact V_none
  | succ f ih => intro v0 v1 v2 μ; exact VX8_in_B2 F M hNL (fun v0 v1 v2 μ => ih v0 v1 v2 μ) v0 v1 v2 μ
def FX8_in (a0 : Nat) (p1 : Int32) (μ : Me) : Rs Int32 :=
  (FX8_in_L2  FU a0 p1 0 μ)
set_option maxHeartbeats 4000000 in
set_option maxRecDepth 100000 in
theorem metX8_in {l : Launch} {s0 : State} {D : va_G} {aC : Nat → ClassId} (hG : Gl s0 D aC) (hl : l.stackTraces = false) (a0 : Nat) (p1 : Int32) (μ : Me) : Ct l yX8_in (ws_ yX8_in cX8_in 3 (some .int)) rmX8_in s0 D aC (fun r : Int32 => some (.int r)) [.ref a0, .int p1] μ (FX8_in a0 p1 μ) := by
  refine Ct_of hG hl (by decide +kernel) (Nat.le_of_ble_eq_true rfl) (fun κ ρ hNL F M hκ => ?_)
  have F : Fx κ cX8_in RX8 := F
  change V κ ρ 0 0 μ (FX8_in a0 p1 μ) 0 [(0, .ref a0), (1, .int p1)] []
  unfold FX8_in
  refine V_iconst (v := 0) F dX8_in_0 (by decide) ?_
  refine V_istore_n (lv' := [(2, .int 0), (0, .ref a0), (1, .int p1)]) F dX8_in_1 rfl (lt_L hNL (by decide)) rfl ?_
  refine V_sub [1, 2, 0] rfl ?_
  exact VX8_in_L2 F M hNL  FU a0 p1 0 μ
/-! DroneLightShowModel.isPadCell(I)Z -/
abbrev rmX8_isPadCell : Room := { frames := 0, cells := 0, slots := 0, locals := 0 }
def FX8_isPadCell_B2 (k2 : Nat → Int32 → Int32 → Me → Rs Int32) (v0 : Nat) (v1 : Int32) (v2 : Int32) (μ : Me) : Rs Int32 :=
  (gR μ v0 8 5 (fun x1 => (aI μ x1 1 (fun x2 => (if x2 ≤ v2 then (rt 0 μ) else (gR μ v0 8 5 (fun x5 => (aI μ x5 (9 + v2) (fun x6 => (if x6 = v1 then (rt 1 μ) else (k2 v0 v1 (v2 + 1) μ)))))))))))
set_option maxHeartbeats 4000000 in
set_option maxRecDepth 100000 in
theorem VX8_isPadCell_B2 {κ : Cx} {ρ : (Int32 ⊕ String) × Me} (F : Fx κ cX8_isPadCell RX8) (M : Mx κ (fun r : Int32 => some (.int r)) ρ rmX8_isPadCell (some .boolean) [] "isPadCell") (hNL : κ.2.2.2.2.2.2.2.2.2.2.2.2.2.2 = 3) {k2 : Nat → Int32 → Int32 → Me → Rs Int32} (hk2 : ∀ (v0 : Nat) (v1 : Int32) (v2 : Int32) (μ : Me), V κ ρ 0 0 μ (k2 v0 v1 v2 μ) 2 [(0, .ref v0), (1, .int v1), (2, .int v2)] []) (v0 : Nat) (v1 : Int32) (v2 : Int32) (μ : Me) : V κ ρ 0 0 μ (FX8_isPadCell_B2 k2 v0 v1 v2 μ) 2 [(0, .ref v0), (1, .int v1), (2, .int v2)] [] := by
  unfold FX8_isPadCell_B2
  refine V_iload_n F dX8_isPadCell_2 rfl 2 rfl ?_
  refine V_aload_n F dX8_isPadCell_3 rfl 0 rfl ?_
  refine V_gR (ci := 8) (k9 := 5) (C := RX8) (T := TX8) (N := 22) F rfl hinX8 (by decide) q1213 dX8_isPadCell_4 (fun x1 => ?_)
  refine V_iconst (v := 1) F dX8_isPadCell_7 (by decide) ?_
  refine V_aI F dX8_isPadCell_8 (fun x2 => ?_)
  refine V_icmp_ge (tgt := 33) F dX8_isPadCell_9 (by decide) (fun c3 => ?_) (fun c4 => ?_)
  · refine V_iconst (v := 0) F dX8_isPadCell_33 (by decide) ?_
    exact V_zret F M dX8_isPadCell_34 rfl (by decide) (by decide) (by decide)
  · refine V_aload_n F dX8_isPadCell_12 rfl 0 rfl ?_
    refine V_gR (ci := 8) (k9 := 5) (C := RX8) (T := TX8) (N := 22) F rfl hinX8 (by decide) q1213 dX8_isPadCell_13 (fun x5 => ?_)
    refine V_bipush (v := 9) F dX8_isPadCell_16 (by decide) ?_
    refine V_iload_n F dX8_isPadCell_18 rfl 2 rfl ?_
    refine V_iadd F dX8_isPadCell_19 ?_
    refine V_aI F dX8_isPadCell_20 (fun x6 => ?_)
    refine V_iload_n F dX8_isPadCell_21 rfl 1 rfl ?_
    refine V_icmp_ne (tgt := 27) F dX8_isPadCell_22 (by decide) (fun c7 => ?_) (fun c8 => ?_)
    · refine V_iinc (lv' := [(2, .int (v2 + 1)), (0, .ref v0), (1, .int v1)]) F dX8_isPadCell_27 2 rfl rfl (lt_L hNL (by decide)) rfl ?_
      refine V_goto (tgt := 2) F dX8_isPadCell_30 (by decide) ?_
      refine V_sub [1, 2, 0] rfl ?_
      exact hk2 v0 v1 (v2 + 1) μ
    · refine V_iconst (v := 1) F dX8_isPadCell_25 (by decide) ?_
      exact V_zret F M dX8_isPadCell_26 rfl (by decide) (by decide) (by decide)
def FX8_isPadCell_L2  : Nat → Nat → Int32 → Int32 → Me → Rs Int32
  | 0, _, _, _, _ => none
  | f + 1, v0, v1, v2, μ => FX8_isPadCell_B2 (FX8_isPadCell_L2  f) v0 v1 v2 μ
theorem VX8_isPadCell_L2 {κ : Cx} {ρ : (Int32 ⊕ String) × Me} (F : Fx κ cX8_isPadCell RX8) (M : Mx κ (fun r : Int32 => some (.int r)) ρ rmX8_isPadCell (some .boolean) [] "isPadCell") (hNL : κ.2.2.2.2.2.2.2.2.2.2.2.2.2.2 = 3)   : ∀ (f : Nat) (v0 : Nat) (v1 : Int32) (v2 : Int32) (μ : Me), V κ ρ 0 0 μ (FX8_isPadCell_L2  f v0 v1 v2 μ) 2 [(0, .ref v0), (1, .int v1), (2, .int v2)] [] := by
  intro f
  induction f with
  | zero => intros; exact V_none
  | succ f ih => intro v0 v1 v2 μ; exact VX8_isPadCell_B2 F M hNL (fun v0 v1 v2 μ => ih v0 v1 v2 μ) v0 v1 v2 μ
def FX8_isPadCell (a0 : Nat) (p1 : Int32) (μ : Me) : Rs Int32 :=
  (FX8_isPadCell_L2  FU a0 p1 0 μ)
set_option maxHeartbeats 4000000 in
set_option maxRecDepth 100000 in
theorem metX8_isPadCell {l : Launch} {s0 : State} {D : va_G} {aC : Nat → ClassId} (hG : Gl s0 D aC) (hl : l.stackTraces = false) (a0 : Nat) (p1 : Int32) (μ : Me) : Ct l yX8_isPadCell (ws_ yX8_isPadCell cX8_isPadCell 3 (some .boolean)) rmX8_isPadCell s0 D aC (fun r : Int32 => some (.int r)) [.ref a0, .int p1] μ (FX8_isPadCell a0 p1 μ) := by
  refine Ct_of hG hl (by decide +kernel) (Nat.le_of_ble_eq_true rfl) (fun κ ρ hNL F M hκ => ?_)
  have F : Fx κ cX8_isPadCell RX8 := F
  change V κ ρ 0 0 μ (FX8_isPadCell a0 p1 μ) 0 [(0, .ref a0), (1, .int p1)] []
  unfold FX8_isPadCell
  refine V_iconst (v := 0) F dX8_isPadCell_0 (by decide) ?_
  refine V_istore_n (lv' := [(2, .int 0), (0, .ref a0), (1, .int p1)]) F dX8_isPadCell_1 rfl (lt_L hNL (by decide)) rfl ?_
  refine V_sub [1, 2, 0] rfl ?_
  exact VX8_isPadCell_L2 F M hNL  FU a0 p1 0 μ
/-! DroneLightShowModel.flying()I -/
abbrev rmX8_flying : Room := { frames := 1, cells := 0, slots := 0, locals := 21 }
def FX8_flying_B4 (k4 : Nat → Int32 → Int32 → Me → Rs Int32) (v0 : Nat) (v1 : Int32) (v2 : Int32) (μ : Me) : Rs Int32 :=
  (gR μ v0 8 5 (fun x1 => (aI μ x1 0 (fun x2 => (if x2 ≤ v2 then (rt v1 μ) else (gR μ v0 8 5 (fun x5 => (bnd (FX8_of v2 1 μ) (fun x7 μ6 => (aI μ6 x5 x7 (fun x8 => (k4 v0 (v1 + x8) (v2 + 1) μ6))))))))))))
set_option maxHeartbeats 4000000 in
set_option maxRecDepth 100000 in
theorem VX8_flying_B4 {κ : Cx} {ρ : (Int32 ⊕ String) × Me} (F : Fx κ cX8_flying RX8) (M : Mx κ (fun r : Int32 => some (.int r)) ρ rmX8_flying (some .int) [] "flying") (hNL : κ.2.2.2.2.2.2.2.2.2.2.2.2.2.2 = 3) {k4 : Nat → Int32 → Int32 → Me → Rs Int32} (hk4 : ∀ (v0 : Nat) (v1 : Int32) (v2 : Int32) (μ : Me), V κ ρ 0 0 μ (k4 v0 v1 v2 μ) 4 [(0, .ref v0), (1, .int v1), (2, .int v2)] []) (v0 : Nat) (v1 : Int32) (v2 : Int32) (μ : Me) : V κ ρ 0 0 μ (FX8_flying_B4 k4 v0 v1 v2 μ) 4 [(0, .ref v0), (1, .int v1), (2, .int v2)] [] := by
  unfold FX8_flying_B4
  refine V_iload_n F dX8_flying_4 rfl 2 rfl ?_
  refine V_aload_n F dX8_flying_5 rfl 0 rfl ?_
  refine V_gR (ci := 8) (k9 := 5) (C := RX8) (T := TX8) (N := 22) F rfl hinX8 (by decide) q1213 dX8_flying_6 (fun x1 => ?_)
  refine V_iconst (v := 0) F dX8_flying_9 (by decide) ?_
  refine V_aI F dX8_flying_10 (fun x2 => ?_)
  refine V_icmp_ge (tgt := 33) F dX8_flying_11 (by decide) (fun c3 => ?_) (fun c4 => ?_)
  · refine V_iload_n F dX8_flying_33 rfl 1 rfl ?_
    exact V_iret F M dX8_flying_34 rfl (by decide) (by decide)
  · refine V_iload_n F dX8_flying_14 rfl 1 rfl ?_
    refine V_aload_n F dX8_flying_15 rfl 0 rfl ?_
    refine V_gR (ci := 8) (k9 := 5) (C := RX8) (T := TX8) (N := 22) F rfl hinX8 (by decide) q1213 dX8_flying_16 (fun x5 => ?_)
    refine V_iload_n F dX8_flying_19 rfl 2 rfl ?_
    refine V_iconst (v := 1) F dX8_flying_20 (by decide) ?_
    refine V_cS (As := [.int v2, .int 1]) (rest := [.ref x5, .int v1]) (N := 2) F M (metX8_of (Fx_G F) (Fx_l F) v2 1 μ) q1310 q72 q1308 q1309 ⟨by decide +kernel, by decide +kernel, by decide +kernel⟩ rfl ⟨by decide, by decide⟩ (Nat.le_of_ble_eq_true rfl) dX8_flying_21 (by decide) (by decide) (fun x7 μ6 => ?_)
    change V κ ρ 0 0 μ6 _ 24 [(0, .ref v0), (1, .int v1), (2, .int v2)] [.int x7, .ref x5, .int v1]
    refine V_aI F dX8_flying_24 (fun x8 => ?_)
    refine V_iadd F dX8_flying_25 ?_
    refine V_istore_n (lv' := [(1, .int (v1 + x8)), (0, .ref v0), (2, .int v2)]) F dX8_flying_26 rfl (lt_L hNL (by decide)) rfl ?_
    refine V_iinc (lv' := [(2, .int (v2 + 1)), (1, .int (v1 + x8)), (0, .ref v0)]) F dX8_flying_27 2 rfl rfl (lt_L hNL (by decide)) rfl ?_
    refine V_goto (tgt := 4) F dX8_flying_30 (by decide) ?_
    refine V_sub [2, 1, 0] rfl ?_
    exact hk4 v0 (v1 + x8) (v2 + 1) μ6
def FX8_flying_L4  : Nat → Nat → Int32 → Int32 → Me → Rs Int32
  | 0, _, _, _, _ => none
  | f + 1, v0, v1, v2, μ => FX8_flying_B4 (FX8_flying_L4  f) v0 v1 v2 μ
theorem VX8_flying_L4 {κ : Cx} {ρ : (Int32 ⊕ String) × Me} (F : Fx κ cX8_flying RX8) (M : Mx κ (fun r : Int32 => some (.int r)) ρ rmX8_flying (some .int) [] "flying") (hNL : κ.2.2.2.2.2.2.2.2.2.2.2.2.2.2 = 3)   : ∀ (f : Nat) (v0 : Nat) (v1 : Int32) (v2 : Int32) (μ : Me), V κ ρ 0 0 μ (FX8_flying_L4  f v0 v1 v2 μ) 4 [(0, .ref v0), (1, .int v1), (2, .int v2)] [] := by
  intro f
  induction f with
  | zero => intros; exact V_none
  | succ f ih => intro v0 v1 v2 μ; exact VX8_flying_B4 F M hNL (fun v0 v1 v2 μ => ih v0 v1 v2 μ) v0 v1 v2 μ
def FX8_flying (a0 : Nat) (μ : Me) : Rs Int32 :=
  (FX8_flying_L4  FU a0 0 0 μ)
set_option maxHeartbeats 4000000 in
set_option maxRecDepth 100000 in
theorem metX8_flying {l : Launch} {s0 : State} {D : va_G} {aC : Nat → ClassId} (hG : Gl s0 D aC) (hl : l.stackTraces = false) (a0 : Nat) (μ : Me) : Ct l yX8_flying (ws_ yX8_flying cX8_flying 3 (some .int)) rmX8_flying s0 D aC (fun r : Int32 => some (.int r)) [.ref a0] μ (FX8_flying a0 μ) := by
  refine Ct_of hG hl (by decide +kernel) (Nat.le_of_ble_eq_true rfl) (fun κ ρ hNL F M hκ => ?_)
  have F : Fx κ cX8_flying RX8 := F
  change V κ ρ 0 0 μ (FX8_flying a0 μ) 0 [(0, .ref a0)] []
  unfold FX8_flying
  refine V_iconst (v := 0) F dX8_flying_0 (by decide) ?_
  refine V_istore_n (lv' := [(1, .int 0), (0, .ref a0)]) F dX8_flying_1 rfl (lt_L hNL (by decide)) rfl ?_
  refine V_iconst (v := 0) F dX8_flying_2 (by decide) ?_
  refine V_istore_n (lv' := [(2, .int 0), (1, .int 0), (0, .ref a0)]) F dX8_flying_3 rfl (lt_L hNL (by decide)) rfl ?_
  refine V_sub [2, 1, 0] rfl ?_
  exact VX8_flying_L4 F M hNL  FU a0 0 0 μ
/-! DroneLightShowModel.grounds(I)V -/
abbrev rmX8_grounds : Room := { frames := 1, cells := 0, slots := 0, locals := 21 }
def FX8_grounds (a0 : Nat) (p1 : Int32) (μ : Me) : Rs Unit :=
  (gR μ a0 8 5 (fun x1 => (bnd (FX8_of p1 1 μ) (fun x3 μ2 => (sI μ2 x1 x3 0 (fun μ4 => (gR μ4 a0 8 5 (fun x5 => (bnd (FX8_of p1 4 μ4) (fun x7 μ6 => (sI μ6 x5 x7 0 (fun μ8 => (gR μ8 a0 8 5 (fun x9 => (bnd (FX8_of p1 5 μ8) (fun x11 μ10 => (sI μ10 x9 x11 0 (fun μ12 => (rt () μ12)))))))))))))))))))
set_option maxHeartbeats 4000000 in
set_option maxRecDepth 100000 in
theorem metX8_grounds {l : Launch} {s0 : State} {D : va_G} {aC : Nat → ClassId} (hG : Gl s0 D aC) (hl : l.stackTraces = false) (a0 : Nat) (p1 : Int32) (μ : Me) : Ct l yX8_grounds (ws_ yX8_grounds cX8_grounds 2 none) rmX8_grounds s0 D aC (fun _ : Unit => none) [.ref a0, .int p1] μ (FX8_grounds a0 p1 μ) := by
  refine Ct_of hG hl (by decide +kernel) (Nat.le_of_ble_eq_true rfl) (fun κ ρ hNL F M hκ => ?_)
  have F : Fx κ cX8_grounds RX8 := F
  change V κ ρ 0 0 μ (FX8_grounds a0 p1 μ) 0 [(0, .ref a0), (1, .int p1)] []
  unfold FX8_grounds
  refine V_aload_n F dX8_grounds_0 rfl 0 rfl ?_
  refine V_gR (ci := 8) (k9 := 5) (C := RX8) (T := TX8) (N := 22) F rfl hinX8 (by decide) q1213 dX8_grounds_1 (fun x1 => ?_)
  refine V_iload_n F dX8_grounds_4 rfl 1 rfl ?_
  refine V_iconst (v := 1) F dX8_grounds_5 (by decide) ?_
  refine V_cS (As := [.int p1, .int 1]) (rest := [.ref x1]) (N := 2) F M (metX8_of (Fx_G F) (Fx_l F) p1 1 μ) q1310 q72 q1308 q1309 ⟨by decide +kernel, by decide +kernel, by decide +kernel⟩ rfl ⟨by decide, by decide⟩ (Nat.le_of_ble_eq_true rfl) dX8_grounds_6 (by decide) (by decide) (fun x3 μ2 => ?_)
  change V κ ρ 0 0 μ2 _ 9 [(0, .ref a0), (1, .int p1)] [.int x3, .ref x1]
  refine V_iconst (v := 0) F dX8_grounds_9 (by decide) ?_
  refine V_sI F dX8_grounds_10 (fun μ4 => ?_)
  refine V_aload_n F dX8_grounds_11 rfl 0 rfl ?_
  refine V_gR (ci := 8) (k9 := 5) (C := RX8) (T := TX8) (N := 22) F rfl hinX8 (by decide) q1213 dX8_grounds_12 (fun x5 => ?_)
  refine V_iload_n F dX8_grounds_15 rfl 1 rfl ?_
  refine V_iconst (v := 4) F dX8_grounds_16 (by decide) ?_
  refine V_cS (As := [.int p1, .int 4]) (rest := [.ref x5]) (N := 2) F M (metX8_of (Fx_G F) (Fx_l F) p1 4 μ4) q1310 q72 q1308 q1309 ⟨by decide +kernel, by decide +kernel, by decide +kernel⟩ rfl ⟨by decide, by decide⟩ (Nat.le_of_ble_eq_true rfl) dX8_grounds_17 (by decide) (by decide) (fun x7 μ6 => ?_)
  change V κ ρ 0 0 μ6 _ 20 [(0, .ref a0), (1, .int p1)] [.int x7, .ref x5]
  refine V_iconst (v := 0) F dX8_grounds_20 (by decide) ?_
  refine V_sI F dX8_grounds_21 (fun μ8 => ?_)
  refine V_aload_n F dX8_grounds_22 rfl 0 rfl ?_
  refine V_gR (ci := 8) (k9 := 5) (C := RX8) (T := TX8) (N := 22) F rfl hinX8 (by decide) q1213 dX8_grounds_23 (fun x9 => ?_)
  refine V_iload_n F dX8_grounds_26 rfl 1 rfl ?_
  refine V_iconst (v := 5) F dX8_grounds_27 (by decide) ?_
  refine V_cS (As := [.int p1, .int 5]) (rest := [.ref x9]) (N := 2) F M (metX8_of (Fx_G F) (Fx_l F) p1 5 μ8) q1310 q72 q1308 q1309 ⟨by decide +kernel, by decide +kernel, by decide +kernel⟩ rfl ⟨by decide, by decide⟩ (Nat.le_of_ble_eq_true rfl) dX8_grounds_28 (by decide) (by decide) (fun x11 μ10 => ?_)
  change V κ ρ 0 0 μ10 _ 31 [(0, .ref a0), (1, .int p1)] [.int x11, .ref x9]
  refine V_iconst (v := 0) F dX8_grounds_31 (by decide) ?_
  refine V_sI F dX8_grounds_32 (fun μ12 => ?_)
  exact V_vret F M dX8_grounds_33 rfl (by decide) (by decide)
/-! DroneLightShowModel.adds(I)I -/
abbrev rmX8_adds : Room := { frames := 2, cells := 0, slots := 0, locals := 43 }
def FX8_adds (a0 : Nat) (p1 : Int32) (μ : Me) : Rs Int32 :=
  (bnd (FX8_isCell p1 μ) (fun x2 μ1 => (if x2 = 0 then (bnd (vc μ1 a0 8 (FX8_fail a0 1 μ1)) (fun x37 μ36 => (rt x37 μ36))) else (gR μ1 a0 8 5 (fun x5 => (aI μ1 x5 0 (fun x6 => (if x6 = 10 then (bnd (vc μ1 a0 8 (FX8_fail a0 2 μ1)) (fun x35 μ34 => (rt x35 μ34))) else (bnd (vc μ1 a0 8 (FX8_in a0 p1 μ1)) (fun x10 μ9 => (if x10 < 0 then (gR μ9 a0 8 5 (fun x13 => (aI μ9 x13 0 (fun x14 => (gR μ9 a0 8 5 (fun x15 => (bnd (FX8_of x14 0 μ9) (fun x17 μ16 => (sI μ16 x15 x17 p1 (fun μ18 => (gR μ18 a0 8 5 (fun x19 => (bnd (FX8_of x14 2 μ18) (fun x21 μ20 => (sI μ20 x19 x21 100 (fun μ22 => (gR μ22 a0 8 5 (fun x23 => (bnd (FX8_of x14 3 μ22) (fun x25 μ24 => (sI μ24 x23 x25 0 (fun μ26 => (bnd (vc μ26 a0 8 (FX8_grounds a0 x14 μ26)) (fun x28 μ27 => (gR μ27 a0 8 5 (fun x29 => (aI μ27 x29 0 (fun x30 => (sI μ27 x29 0 (x30 + 1) (fun μ31 => (rt x14 μ31))))))))))))))))))))))))))))))) else (bnd (vc μ9 a0 8 (FX8_fail a0 3 μ9)) (fun x33 μ32 => (rt x33 μ32))))))))))))))
set_option maxHeartbeats 4000000 in
set_option maxRecDepth 100000 in
theorem metX8_adds {l : Launch} {s0 : State} {D : va_G} {aC : Nat → ClassId} (hG : Gl s0 D aC) (hl : l.stackTraces = false) (a0 : Nat) (p1 : Int32) (μ : Me) : Ct l yX8_adds (ws_ yX8_adds cX8_adds 3 (some .int)) rmX8_adds s0 D aC (fun r : Int32 => some (.int r)) [.ref a0, .int p1] μ (FX8_adds a0 p1 μ) := by
  refine Ct_of hG hl (by decide +kernel) (Nat.le_of_ble_eq_true rfl) (fun κ ρ hNL F M hκ => ?_)
  have F : Fx κ cX8_adds RX8 := F
  change V κ ρ 0 0 μ (FX8_adds a0 p1 μ) 0 [(0, .ref a0), (1, .int p1)] []
  unfold FX8_adds
  refine V_iload_n F dX8_adds_0 rfl 1 rfl ?_
  refine V_cS (As := [.int p1]) (rest := []) (N := 1) F M (metX8_isCell (Fx_G F) (Fx_l F) p1 μ) q1296 q72 q1294 q1295 ⟨by decide +kernel, by decide +kernel, by decide +kernel⟩ rfl ⟨by decide, by decide⟩ (Nat.le_of_ble_eq_true rfl) dX8_adds_1 (by decide) (by decide) (fun x2 μ1 => ?_)
  change V κ ρ 0 0 μ1 _ 4 [(0, .ref a0), (1, .int p1)] [.int x2]
  refine V_if_ne (tgt := 13) F dX8_adds_4 (by decide) (fun c3 => ?_) (fun c4 => ?_)
  · refine V_aload_n F dX8_adds_13 rfl 0 rfl ?_
    refine V_gR (ci := 8) (k9 := 5) (C := RX8) (T := TX8) (N := 22) F rfl hinX8 (by decide) q1213 dX8_adds_14 (fun x5 => ?_)
    refine V_iconst (v := 0) F dX8_adds_17 (by decide) ?_
    refine V_aI F dX8_adds_18 (fun x6 => ?_)
    refine V_bipush (v := 10) F dX8_adds_19 (by decide) ?_
    refine V_icmp_ne (tgt := 30) F dX8_adds_21 (by decide) (fun c7 => ?_) (fun c8 => ?_)
    · refine V_aload_n F dX8_adds_30 rfl 0 rfl ?_
      refine V_iload_n F dX8_adds_31 rfl 1 rfl ?_
      refine V_cV (As := [.int p1]) (rest := []) (C := RX8) (N := 1) F M (metX8_in (Fx_G F) (Fx_l F) a0 p1 μ1) rfl q1307 q72 q1304 q1306 q23 ⟨by decide +kernel, by decide +kernel, by decide +kernel⟩ rfl ⟨by decide, by decide⟩ (Nat.le_of_ble_eq_true rfl) dX8_adds_32 (by decide) (by decide) (fun x10 μ9 => ?_)
      change V κ ρ 0 0 μ9 _ 35 [(0, .ref a0), (1, .int p1)] [.int x10]
      refine V_if_lt (tgt := 44) F dX8_adds_35 (by decide) (fun c11 => ?_) (fun c12 => ?_)
      · refine V_aload_n F dX8_adds_44 rfl 0 rfl ?_
        refine V_gR (ci := 8) (k9 := 5) (C := RX8) (T := TX8) (N := 22) F rfl hinX8 (by decide) q1213 dX8_adds_45 (fun x13 => ?_)
        refine V_iconst (v := 0) F dX8_adds_48 (by decide) ?_
        refine V_aI F dX8_adds_49 (fun x14 => ?_)
        refine V_istore_n (lv' := [(2, .int x14), (0, .ref a0), (1, .int p1)]) F dX8_adds_50 rfl (lt_L hNL (by decide)) rfl ?_
        refine V_aload_n F dX8_adds_51 rfl 1 rfl ?_
        refine V_gR (ci := 8) (k9 := 5) (C := RX8) (T := TX8) (N := 22) F rfl hinX8 (by decide) q1213 dX8_adds_52 (fun x15 => ?_)
        refine V_iload_n F dX8_adds_55 rfl 0 rfl ?_
        refine V_iconst (v := 0) F dX8_adds_56 (by decide) ?_
        refine V_cS (As := [.int x14, .int 0]) (rest := [.ref x15]) (N := 2) F M (metX8_of (Fx_G F) (Fx_l F) x14 0 μ9) q1310 q72 q1308 q1309 ⟨by decide +kernel, by decide +kernel, by decide +kernel⟩ rfl ⟨by decide, by decide⟩ (Nat.le_of_ble_eq_true rfl) dX8_adds_57 (by decide) (by decide) (fun x17 μ16 => ?_)
        change V κ ρ 0 0 μ16 _ 60 [(2, .int x14), (0, .ref a0), (1, .int p1)] [.int x17, .ref x15]
        refine V_iload_n F dX8_adds_60 rfl 2 rfl ?_
        refine V_sI F dX8_adds_61 (fun μ18 => ?_)
        refine V_aload_n F dX8_adds_62 rfl 1 rfl ?_
        refine V_gR (ci := 8) (k9 := 5) (C := RX8) (T := TX8) (N := 22) F rfl hinX8 (by decide) q1213 dX8_adds_63 (fun x19 => ?_)
        refine V_iload_n F dX8_adds_66 rfl 0 rfl ?_
        refine V_iconst (v := 2) F dX8_adds_67 (by decide) ?_
        refine V_cS (As := [.int x14, .int 2]) (rest := [.ref x19]) (N := 2) F M (metX8_of (Fx_G F) (Fx_l F) x14 2 μ18) q1310 q72 q1308 q1309 ⟨by decide +kernel, by decide +kernel, by decide +kernel⟩ rfl ⟨by decide, by decide⟩ (Nat.le_of_ble_eq_true rfl) dX8_adds_68 (by decide) (by decide) (fun x21 μ20 => ?_)
        change V κ ρ 0 0 μ20 _ 71 [(2, .int x14), (0, .ref a0), (1, .int p1)] [.int x21, .ref x19]
        refine V_bipush (v := 100) F dX8_adds_71 (by decide) ?_
        refine V_sI F dX8_adds_73 (fun μ22 => ?_)
        refine V_aload_n F dX8_adds_74 rfl 1 rfl ?_
        refine V_gR (ci := 8) (k9 := 5) (C := RX8) (T := TX8) (N := 22) F rfl hinX8 (by decide) q1213 dX8_adds_75 (fun x23 => ?_)
        refine V_iload_n F dX8_adds_78 rfl 0 rfl ?_
        refine V_iconst (v := 3) F dX8_adds_79 (by decide) ?_
        refine V_cS (As := [.int x14, .int 3]) (rest := [.ref x23]) (N := 2) F M (metX8_of (Fx_G F) (Fx_l F) x14 3 μ22) q1310 q72 q1308 q1309 ⟨by decide +kernel, by decide +kernel, by decide +kernel⟩ rfl ⟨by decide, by decide⟩ (Nat.le_of_ble_eq_true rfl) dX8_adds_80 (by decide) (by decide) (fun x25 μ24 => ?_)
        change V κ ρ 0 0 μ24 _ 83 [(2, .int x14), (0, .ref a0), (1, .int p1)] [.int x25, .ref x23]
        refine V_iconst (v := 0) F dX8_adds_83 (by decide) ?_
        refine V_sI F dX8_adds_84 (fun μ26 => ?_)
        refine V_aload_n F dX8_adds_85 rfl 1 rfl ?_
        refine V_iload_n F dX8_adds_86 rfl 0 rfl ?_
        refine V_cV (As := [.int x14]) (rest := []) (C := RX8) (N := 1) F M (metX8_grounds (Fx_G F) (Fx_l F) a0 x14 μ26) rfl q1314 q72 q1311 q1313 q24 ⟨by decide +kernel, by decide +kernel, by decide +kernel⟩ rfl ⟨by decide, by decide⟩ (Nat.le_of_ble_eq_true rfl) dX8_adds_87 (by decide) (by decide) (fun x28 μ27 => ?_)
        change V κ ρ 0 0 μ27 _ 90 [(2, .int x14), (0, .ref a0), (1, .int p1)] []
        refine V_aload_n F dX8_adds_90 rfl 1 rfl ?_
        refine V_gR (ci := 8) (k9 := 5) (C := RX8) (T := TX8) (N := 22) F rfl hinX8 (by decide) q1213 dX8_adds_91 (fun x29 => ?_)
        refine V_iconst (v := 0) F dX8_adds_94 (by decide) ?_
        refine V_dup2 F dX8_adds_95 rfl rfl ?_
        refine V_aI F dX8_adds_96 (fun x30 => ?_)
        refine V_iconst (v := 1) F dX8_adds_97 (by decide) ?_
        refine V_iadd F dX8_adds_98 ?_
        refine V_sI F dX8_adds_99 (fun μ31 => ?_)
        refine V_iload_n F dX8_adds_100 rfl 0 rfl ?_
        exact V_iret F M dX8_adds_101 rfl (by decide) (by decide)
      · refine V_aload_n F dX8_adds_38 rfl 0 rfl ?_
        refine V_iconst (v := 3) F dX8_adds_39 (by decide) ?_
        refine V_cV (As := [.int 3]) (rest := []) (C := RX8) (N := 1) F M (metX8_fail (Fx_G F) (Fx_l F) a0 3 μ9) rfl q1303 q72 q1300 q1302 q22 ⟨by decide +kernel, by decide +kernel, by decide +kernel⟩ rfl ⟨by decide, by decide⟩ (Nat.le_of_ble_eq_true rfl) dX8_adds_40 (by decide) (by decide) (fun x33 μ32 => ?_)
        change V κ ρ 0 0 μ32 _ 43 [(0, .ref a0), (1, .int p1)] [.int x33]
        exact V_iret F M dX8_adds_43 rfl (by decide) (by decide)
    · refine V_aload_n F dX8_adds_24 rfl 0 rfl ?_
      refine V_iconst (v := 2) F dX8_adds_25 (by decide) ?_
      refine V_cV (As := [.int 2]) (rest := []) (C := RX8) (N := 1) F M (metX8_fail (Fx_G F) (Fx_l F) a0 2 μ1) rfl q1303 q72 q1300 q1302 q22 ⟨by decide +kernel, by decide +kernel, by decide +kernel⟩ rfl ⟨by decide, by decide⟩ (Nat.le_of_ble_eq_true rfl) dX8_adds_26 (by decide) (by decide) (fun x35 μ34 => ?_)
      change V κ ρ 0 0 μ34 _ 29 [(0, .ref a0), (1, .int p1)] [.int x35]
      exact V_iret F M dX8_adds_29 rfl (by decide) (by decide)
  · refine V_aload_n F dX8_adds_7 rfl 0 rfl ?_
    refine V_iconst (v := 1) F dX8_adds_8 (by decide) ?_
    refine V_cV (As := [.int 1]) (rest := []) (C := RX8) (N := 1) F M (metX8_fail (Fx_G F) (Fx_l F) a0 1 μ1) rfl q1303 q72 q1300 q1302 q22 ⟨by decide +kernel, by decide +kernel, by decide +kernel⟩ rfl ⟨by decide, by decide⟩ (Nat.le_of_ble_eq_true rfl) dX8_adds_9 (by decide) (by decide) (fun x37 μ36 => ?_)
    change V κ ρ 0 0 μ36 _ 12 [(0, .ref a0), (1, .int p1)] [.int x37]
    exact V_iret F M dX8_adds_12 rfl (by decide) (by decide)
/-! DroneLightShowModel.addDrone(I)I -/
abbrev rmX8_addDrone : Room := { frames := 3, cells := 0, slots := 0, locals := 65 }
def FX8_addDrone (a0 : Nat) (p1 : Int32) (μ : Me) : Rs Int32 :=
  (bnd (vc μ a0 8 (FX8_begins a0  μ)) (fun x2 μ1 => (bnd (vc μ1 a0 8 (FX8_adds a0 p1 μ1)) (fun x4 μ3 => (bnd (vc μ3 a0 8 (FX8_ends a0 x4 μ3)) (fun x6 μ5 => (rt x6 μ5)))))))
set_option maxHeartbeats 4000000 in
set_option maxRecDepth 100000 in
theorem metX8_addDrone {l : Launch} {s0 : State} {D : va_G} {aC : Nat → ClassId} (hG : Gl s0 D aC) (hl : l.stackTraces = false) (a0 : Nat) (p1 : Int32) (μ : Me) : Ct l yX8_addDrone (ws_ yX8_addDrone cX8_addDrone 2 (some .int)) rmX8_addDrone s0 D aC (fun r : Int32 => some (.int r)) [.ref a0, .int p1] μ (FX8_addDrone a0 p1 μ) := by
  refine Ct_of hG hl (by decide +kernel) (Nat.le_of_ble_eq_true rfl) (fun κ ρ hNL F M hκ => ?_)
  have F : Fx κ cX8_addDrone RX8 := F
  change V κ ρ 0 0 μ (FX8_addDrone a0 p1 μ) 0 [(0, .ref a0), (1, .int p1)] []
  unfold FX8_addDrone
  refine V_aload_n F dX8_addDrone_0 rfl 0 rfl ?_
  refine V_cV (As := []) (rest := []) (C := RX8) (N := 0) F M (metX8_begins (Fx_G F) (Fx_l F) a0  μ) rfl q1286 q72 q1283 q1285 q20 ⟨by decide +kernel, by decide +kernel, by decide +kernel⟩ rfl ⟨by decide, by decide⟩ (Nat.le_of_ble_eq_true rfl) dX8_addDrone_1 (by decide) (by decide) (fun x2 μ1 => ?_)
  change V κ ρ 0 0 μ1 _ 4 [(0, .ref a0), (1, .int p1)] []
  refine V_aload_n F dX8_addDrone_4 rfl 0 rfl ?_
  refine V_aload_n F dX8_addDrone_5 rfl 0 rfl ?_
  refine V_iload_n F dX8_addDrone_6 rfl 1 rfl ?_
  refine V_cV (As := [.int p1]) (rest := [.ref a0]) (C := RX8) (N := 1) F M (metX8_adds (Fx_G F) (Fx_l F) a0 p1 μ1) rfl q1293 q72 q1290 q1292 q21 ⟨by decide +kernel, by decide +kernel, by decide +kernel⟩ rfl ⟨by decide, by decide⟩ (Nat.le_of_ble_eq_true rfl) dX8_addDrone_7 (by decide) (by decide) (fun x4 μ3 => ?_)
  change V κ ρ 0 0 μ3 _ 10 [(0, .ref a0), (1, .int p1)] [.int x4, .ref a0]
  refine V_cV (As := [.int x4]) (rest := []) (C := RX8) (N := 1) F M (metX8_ends (Fx_G F) (Fx_l F) a0 x4 μ3) rfl q1318 q72 q1315 q1317 q25 ⟨by decide +kernel, by decide +kernel, by decide +kernel⟩ rfl ⟨by decide, by decide⟩ (Nat.le_of_ble_eq_true rfl) dX8_addDrone_10 (by decide) (by decide) (fun x6 μ5 => ?_)
  change V κ ρ 0 0 μ5 _ 13 [(0, .ref a0), (1, .int p1)] [.int x6]
  exact V_iret F M dX8_addDrone_13 rfl (by decide) (by decide)
/-! DroneLightShowModel.addsPad(I)I -/
abbrev rmX8_addsPad : Room := { frames := 2, cells := 0, slots := 0, locals := 42 }
def FX8_addsPad (a0 : Nat) (p1 : Int32) (μ : Me) : Rs Int32 :=
  (bnd (FX8_isCell p1 μ) (fun x2 μ1 => (if x2 = 0 then (bnd (vc μ1 a0 8 (FX8_fail a0 1 μ1)) (fun x27 μ26 => (rt x27 μ26))) else (bnd (vc μ1 a0 8 (FX8_isPadCell a0 p1 μ1)) (fun x6 μ5 => (if x6 = 0 then (gR μ5 a0 8 5 (fun x9 => (aI μ5 x9 1 (fun x10 => (if x10 = 4 then (bnd (vc μ5 a0 8 (FX8_fail a0 3 μ5)) (fun x23 μ22 => (rt x23 μ22))) else (gR μ5 a0 8 5 (fun x13 => (gR μ5 a0 8 5 (fun x14 => (aI μ5 x14 1 (fun x15 => (sI μ5 x13 (9 + x15) p1 (fun μ16 => (gR μ16 a0 8 5 (fun x17 => (aI μ16 x17 1 (fun x18 => (sI μ16 x17 1 (x18 + 1) (fun μ19 => (gR μ19 a0 8 5 (fun x20 => (aI μ19 x20 1 (fun x21 => (rt x21 μ19)))))))))))))))))))))))) else (bnd (vc μ5 a0 8 (FX8_fail a0 2 μ5)) (fun x25 μ24 => (rt x25 μ24)))))))))
set_option maxHeartbeats 4000000 in
set_option maxRecDepth 100000 in
theorem metX8_addsPad {l : Launch} {s0 : State} {D : va_G} {aC : Nat → ClassId} (hG : Gl s0 D aC) (hl : l.stackTraces = false) (a0 : Nat) (p1 : Int32) (μ : Me) : Ct l yX8_addsPad (ws_ yX8_addsPad cX8_addsPad 2 (some .int)) rmX8_addsPad s0 D aC (fun r : Int32 => some (.int r)) [.ref a0, .int p1] μ (FX8_addsPad a0 p1 μ) := by
  refine Ct_of hG hl (by decide +kernel) (Nat.le_of_ble_eq_true rfl) (fun κ ρ hNL F M hκ => ?_)
  have F : Fx κ cX8_addsPad RX8 := F
  change V κ ρ 0 0 μ (FX8_addsPad a0 p1 μ) 0 [(0, .ref a0), (1, .int p1)] []
  unfold FX8_addsPad
  refine V_iload_n F dX8_addsPad_0 rfl 1 rfl ?_
  refine V_cS (As := [.int p1]) (rest := []) (N := 1) F M (metX8_isCell (Fx_G F) (Fx_l F) p1 μ) q1296 q72 q1294 q1295 ⟨by decide +kernel, by decide +kernel, by decide +kernel⟩ rfl ⟨by decide, by decide⟩ (Nat.le_of_ble_eq_true rfl) dX8_addsPad_1 (by decide) (by decide) (fun x2 μ1 => ?_)
  change V κ ρ 0 0 μ1 _ 4 [(0, .ref a0), (1, .int p1)] [.int x2]
  refine V_if_ne (tgt := 13) F dX8_addsPad_4 (by decide) (fun c3 => ?_) (fun c4 => ?_)
  · refine V_aload_n F dX8_addsPad_13 rfl 0 rfl ?_
    refine V_iload_n F dX8_addsPad_14 rfl 1 rfl ?_
    refine V_cV (As := [.int p1]) (rest := []) (C := RX8) (N := 1) F M (metX8_isPadCell (Fx_G F) (Fx_l F) a0 p1 μ1) rfl q1330 q72 q1327 q1329 q27 ⟨by decide +kernel, by decide +kernel, by decide +kernel⟩ rfl ⟨by decide, by decide⟩ (Nat.le_of_ble_eq_true rfl) dX8_addsPad_15 (by decide) (by decide) (fun x6 μ5 => ?_)
    change V κ ρ 0 0 μ5 _ 18 [(0, .ref a0), (1, .int p1)] [.int x6]
    refine V_if_eq (tgt := 27) F dX8_addsPad_18 (by decide) (fun c7 => ?_) (fun c8 => ?_)
    · refine V_aload_n F dX8_addsPad_27 rfl 0 rfl ?_
      refine V_gR (ci := 8) (k9 := 5) (C := RX8) (T := TX8) (N := 22) F rfl hinX8 (by decide) q1213 dX8_addsPad_28 (fun x9 => ?_)
      refine V_iconst (v := 1) F dX8_addsPad_31 (by decide) ?_
      refine V_aI F dX8_addsPad_32 (fun x10 => ?_)
      refine V_iconst (v := 4) F dX8_addsPad_33 (by decide) ?_
      refine V_icmp_ne (tgt := 43) F dX8_addsPad_34 (by decide) (fun c11 => ?_) (fun c12 => ?_)
      · refine V_aload_n F dX8_addsPad_43 rfl 0 rfl ?_
        refine V_gR (ci := 8) (k9 := 5) (C := RX8) (T := TX8) (N := 22) F rfl hinX8 (by decide) q1213 dX8_addsPad_44 (fun x13 => ?_)
        refine V_bipush (v := 9) F dX8_addsPad_47 (by decide) ?_
        refine V_aload_n F dX8_addsPad_49 rfl 0 rfl ?_
        refine V_gR (ci := 8) (k9 := 5) (C := RX8) (T := TX8) (N := 22) F rfl hinX8 (by decide) q1213 dX8_addsPad_50 (fun x14 => ?_)
        refine V_iconst (v := 1) F dX8_addsPad_53 (by decide) ?_
        refine V_aI F dX8_addsPad_54 (fun x15 => ?_)
        refine V_iadd F dX8_addsPad_55 ?_
        refine V_iload_n F dX8_addsPad_56 rfl 1 rfl ?_
        refine V_sI F dX8_addsPad_57 (fun μ16 => ?_)
        refine V_aload_n F dX8_addsPad_58 rfl 0 rfl ?_
        refine V_gR (ci := 8) (k9 := 5) (C := RX8) (T := TX8) (N := 22) F rfl hinX8 (by decide) q1213 dX8_addsPad_59 (fun x17 => ?_)
        refine V_iconst (v := 1) F dX8_addsPad_62 (by decide) ?_
        refine V_dup2 F dX8_addsPad_63 rfl rfl ?_
        refine V_aI F dX8_addsPad_64 (fun x18 => ?_)
        refine V_iconst (v := 1) F dX8_addsPad_65 (by decide) ?_
        refine V_iadd F dX8_addsPad_66 ?_
        refine V_sI F dX8_addsPad_67 (fun μ19 => ?_)
        refine V_aload_n F dX8_addsPad_68 rfl 0 rfl ?_
        refine V_gR (ci := 8) (k9 := 5) (C := RX8) (T := TX8) (N := 22) F rfl hinX8 (by decide) q1213 dX8_addsPad_69 (fun x20 => ?_)
        refine V_iconst (v := 1) F dX8_addsPad_72 (by decide) ?_
        refine V_aI F dX8_addsPad_73 (fun x21 => ?_)
        exact V_iret F M dX8_addsPad_74 rfl (by decide) (by decide)
      · refine V_aload_n F dX8_addsPad_37 rfl 0 rfl ?_
        refine V_iconst (v := 3) F dX8_addsPad_38 (by decide) ?_
        refine V_cV (As := [.int 3]) (rest := []) (C := RX8) (N := 1) F M (metX8_fail (Fx_G F) (Fx_l F) a0 3 μ5) rfl q1303 q72 q1300 q1302 q22 ⟨by decide +kernel, by decide +kernel, by decide +kernel⟩ rfl ⟨by decide, by decide⟩ (Nat.le_of_ble_eq_true rfl) dX8_addsPad_39 (by decide) (by decide) (fun x23 μ22 => ?_)
        change V κ ρ 0 0 μ22 _ 42 [(0, .ref a0), (1, .int p1)] [.int x23]
        exact V_iret F M dX8_addsPad_42 rfl (by decide) (by decide)
    · refine V_aload_n F dX8_addsPad_21 rfl 0 rfl ?_
      refine V_iconst (v := 2) F dX8_addsPad_22 (by decide) ?_
      refine V_cV (As := [.int 2]) (rest := []) (C := RX8) (N := 1) F M (metX8_fail (Fx_G F) (Fx_l F) a0 2 μ5) rfl q1303 q72 q1300 q1302 q22 ⟨by decide +kernel, by decide +kernel, by decide +kernel⟩ rfl ⟨by decide, by decide⟩ (Nat.le_of_ble_eq_true rfl) dX8_addsPad_23 (by decide) (by decide) (fun x25 μ24 => ?_)
      change V κ ρ 0 0 μ24 _ 26 [(0, .ref a0), (1, .int p1)] [.int x25]
      exact V_iret F M dX8_addsPad_26 rfl (by decide) (by decide)
  · refine V_aload_n F dX8_addsPad_7 rfl 0 rfl ?_
    refine V_iconst (v := 1) F dX8_addsPad_8 (by decide) ?_
    refine V_cV (As := [.int 1]) (rest := []) (C := RX8) (N := 1) F M (metX8_fail (Fx_G F) (Fx_l F) a0 1 μ1) rfl q1303 q72 q1300 q1302 q22 ⟨by decide +kernel, by decide +kernel, by decide +kernel⟩ rfl ⟨by decide, by decide⟩ (Nat.le_of_ble_eq_true rfl) dX8_addsPad_9 (by decide) (by decide) (fun x27 μ26 => ?_)
    change V κ ρ 0 0 μ26 _ 12 [(0, .ref a0), (1, .int p1)] [.int x27]
    exact V_iret F M dX8_addsPad_12 rfl (by decide) (by decide)
/-! DroneLightShowModel.addPad(I)I -/
abbrev rmX8_addPad : Room := { frames := 3, cells := 0, slots := 0, locals := 63 }
def FX8_addPad (a0 : Nat) (p1 : Int32) (μ : Me) : Rs Int32 :=
  (bnd (vc μ a0 8 (FX8_begins a0  μ)) (fun x2 μ1 => (bnd (vc μ1 a0 8 (FX8_addsPad a0 p1 μ1)) (fun x4 μ3 => (bnd (vc μ3 a0 8 (FX8_ends a0 x4 μ3)) (fun x6 μ5 => (rt x6 μ5)))))))
set_option maxHeartbeats 4000000 in
set_option maxRecDepth 100000 in
theorem metX8_addPad {l : Launch} {s0 : State} {D : va_G} {aC : Nat → ClassId} (hG : Gl s0 D aC) (hl : l.stackTraces = false) (a0 : Nat) (p1 : Int32) (μ : Me) : Ct l yX8_addPad (ws_ yX8_addPad cX8_addPad 2 (some .int)) rmX8_addPad s0 D aC (fun r : Int32 => some (.int r)) [.ref a0, .int p1] μ (FX8_addPad a0 p1 μ) := by
  refine Ct_of hG hl (by decide +kernel) (Nat.le_of_ble_eq_true rfl) (fun κ ρ hNL F M hκ => ?_)
  have F : Fx κ cX8_addPad RX8 := F
  change V κ ρ 0 0 μ (FX8_addPad a0 p1 μ) 0 [(0, .ref a0), (1, .int p1)] []
  unfold FX8_addPad
  refine V_aload_n F dX8_addPad_0 rfl 0 rfl ?_
  refine V_cV (As := []) (rest := []) (C := RX8) (N := 0) F M (metX8_begins (Fx_G F) (Fx_l F) a0  μ) rfl q1286 q72 q1283 q1285 q20 ⟨by decide +kernel, by decide +kernel, by decide +kernel⟩ rfl ⟨by decide, by decide⟩ (Nat.le_of_ble_eq_true rfl) dX8_addPad_1 (by decide) (by decide) (fun x2 μ1 => ?_)
  change V κ ρ 0 0 μ1 _ 4 [(0, .ref a0), (1, .int p1)] []
  refine V_aload_n F dX8_addPad_4 rfl 0 rfl ?_
  refine V_aload_n F dX8_addPad_5 rfl 0 rfl ?_
  refine V_iload_n F dX8_addPad_6 rfl 1 rfl ?_
  refine V_cV (As := [.int p1]) (rest := [.ref a0]) (C := RX8) (N := 1) F M (metX8_addsPad (Fx_G F) (Fx_l F) a0 p1 μ1) rfl q1326 q72 q1323 q1325 q26 ⟨by decide +kernel, by decide +kernel, by decide +kernel⟩ rfl ⟨by decide, by decide⟩ (Nat.le_of_ble_eq_true rfl) dX8_addPad_7 (by decide) (by decide) (fun x4 μ3 => ?_)
  change V κ ρ 0 0 μ3 _ 10 [(0, .ref a0), (1, .int p1)] [.int x4, .ref a0]
  refine V_cV (As := [.int x4]) (rest := []) (C := RX8) (N := 1) F M (metX8_ends (Fx_G F) (Fx_l F) a0 x4 μ3) rfl q1318 q72 q1315 q1317 q25 ⟨by decide +kernel, by decide +kernel, by decide +kernel⟩ rfl ⟨by decide, by decide⟩ (Nat.le_of_ble_eq_true rfl) dX8_addPad_10 (by decide) (by decide) (fun x6 μ5 => ?_)
  change V κ ρ 0 0 μ5 _ 13 [(0, .ref a0), (1, .int p1)] [.int x6]
  exact V_iret F M dX8_addPad_13 rfl (by decide) (by decide)
/-! DroneLightShowModel.starts(I)I -/
abbrev rmX8_starts : Room := { frames := 2, cells := 0, slots := 0, locals := 43 }
def FX8_starts (a0 : Nat) (p1 : Int32) (μ : Me) : Rs Int32 :=
  (bnd (vc μ a0 8 (FX8_isDrone a0 p1 μ)) (fun x2 μ1 => (if x2 = 0 then (bnd (vc μ1 a0 8 (FX8_fail a0 1 μ1)) (fun x28 μ27 => (rt x28 μ27))) else (bnd (vc μ1 a0 8 (FX8_flies a0 p1 μ1)) (fun x6 μ5 => (if x6 = 0 then (gR μ5 a0 8 5 (fun x9 => (bnd (FX8_of p1 2 μ5) (fun x11 μ10 => (aI μ10 x9 x11 (fun x12 => (gR μ10 a0 8 5 (fun x13 => (aI μ10 x13 2 (fun x14 => (if x14 < x12 then (gR μ10 a0 8 5 (fun x17 => (bnd (FX8_of p1 1 μ10) (fun x19 μ18 => (sI μ18 x17 x19 1 (fun μ20 => (bnd (vc μ20 a0 8 (FX8_flying a0  μ20)) (fun x22 μ21 => (rt x22 μ21))))))))) else (bnd (vc μ10 a0 8 (FX8_fail a0 3 μ10)) (fun x24 μ23 => (rt x24 μ23)))))))))))))) else (bnd (vc μ5 a0 8 (FX8_fail a0 2 μ5)) (fun x26 μ25 => (rt x26 μ25)))))))))
set_option maxHeartbeats 4000000 in
set_option maxRecDepth 100000 in
theorem metX8_starts {l : Launch} {s0 : State} {D : va_G} {aC : Nat → ClassId} (hG : Gl s0 D aC) (hl : l.stackTraces = false) (a0 : Nat) (p1 : Int32) (μ : Me) : Ct l yX8_starts (ws_ yX8_starts cX8_starts 2 (some .int)) rmX8_starts s0 D aC (fun r : Int32 => some (.int r)) [.ref a0, .int p1] μ (FX8_starts a0 p1 μ) := by
  refine Ct_of hG hl (by decide +kernel) (Nat.le_of_ble_eq_true rfl) (fun κ ρ hNL F M hκ => ?_)
  have F : Fx κ cX8_starts RX8 := F
  change V κ ρ 0 0 μ (FX8_starts a0 p1 μ) 0 [(0, .ref a0), (1, .int p1)] []
  unfold FX8_starts
  refine V_aload_n F dX8_starts_0 rfl 0 rfl ?_
  refine V_iload_n F dX8_starts_1 rfl 1 rfl ?_
  refine V_cV (As := [.int p1]) (rest := []) (C := RX8) (N := 1) F M (metX8_isDrone (Fx_G F) (Fx_l F) a0 p1 μ) rfl q1342 q72 q1339 q1341 q29 ⟨by decide +kernel, by decide +kernel, by decide +kernel⟩ rfl ⟨by decide, by decide⟩ (Nat.le_of_ble_eq_true rfl) dX8_starts_2 (by decide) (by decide) (fun x2 μ1 => ?_)
  change V κ ρ 0 0 μ1 _ 5 [(0, .ref a0), (1, .int p1)] [.int x2]
  refine V_if_ne (tgt := 14) F dX8_starts_5 (by decide) (fun c3 => ?_) (fun c4 => ?_)
  · refine V_aload_n F dX8_starts_14 rfl 0 rfl ?_
    refine V_iload_n F dX8_starts_15 rfl 1 rfl ?_
    refine V_cV (As := [.int p1]) (rest := []) (C := RX8) (N := 1) F M (metX8_flies (Fx_G F) (Fx_l F) a0 p1 μ1) rfl q1346 q72 q1343 q1345 q30 ⟨by decide +kernel, by decide +kernel, by decide +kernel⟩ rfl ⟨by decide, by decide⟩ (Nat.le_of_ble_eq_true rfl) dX8_starts_16 (by decide) (by decide) (fun x6 μ5 => ?_)
    change V κ ρ 0 0 μ5 _ 19 [(0, .ref a0), (1, .int p1)] [.int x6]
    refine V_if_eq (tgt := 28) F dX8_starts_19 (by decide) (fun c7 => ?_) (fun c8 => ?_)
    · refine V_aload_n F dX8_starts_28 rfl 0 rfl ?_
      refine V_gR (ci := 8) (k9 := 5) (C := RX8) (T := TX8) (N := 22) F rfl hinX8 (by decide) q1213 dX8_starts_29 (fun x9 => ?_)
      refine V_iload_n F dX8_starts_32 rfl 1 rfl ?_
      refine V_iconst (v := 2) F dX8_starts_33 (by decide) ?_
      refine V_cS (As := [.int p1, .int 2]) (rest := [.ref x9]) (N := 2) F M (metX8_of (Fx_G F) (Fx_l F) p1 2 μ5) q1310 q72 q1308 q1309 ⟨by decide +kernel, by decide +kernel, by decide +kernel⟩ rfl ⟨by decide, by decide⟩ (Nat.le_of_ble_eq_true rfl) dX8_starts_34 (by decide) (by decide) (fun x11 μ10 => ?_)
      change V κ ρ 0 0 μ10 _ 37 [(0, .ref a0), (1, .int p1)] [.int x11, .ref x9]
      refine V_aI F dX8_starts_37 (fun x12 => ?_)
      refine V_aload_n F dX8_starts_38 rfl 0 rfl ?_
      refine V_gR (ci := 8) (k9 := 5) (C := RX8) (T := TX8) (N := 22) F rfl hinX8 (by decide) q1213 dX8_starts_39 (fun x13 => ?_)
      refine V_iconst (v := 2) F dX8_starts_42 (by decide) ?_
      refine V_aI F dX8_starts_43 (fun x14 => ?_)
      refine V_icmp_gt (tgt := 53) F dX8_starts_44 (by decide) (fun c15 => ?_) (fun c16 => ?_)
      · refine V_aload_n F dX8_starts_53 rfl 0 rfl ?_
        refine V_gR (ci := 8) (k9 := 5) (C := RX8) (T := TX8) (N := 22) F rfl hinX8 (by decide) q1213 dX8_starts_54 (fun x17 => ?_)
        refine V_iload_n F dX8_starts_57 rfl 1 rfl ?_
        refine V_iconst (v := 1) F dX8_starts_58 (by decide) ?_
        refine V_cS (As := [.int p1, .int 1]) (rest := [.ref x17]) (N := 2) F M (metX8_of (Fx_G F) (Fx_l F) p1 1 μ10) q1310 q72 q1308 q1309 ⟨by decide +kernel, by decide +kernel, by decide +kernel⟩ rfl ⟨by decide, by decide⟩ (Nat.le_of_ble_eq_true rfl) dX8_starts_59 (by decide) (by decide) (fun x19 μ18 => ?_)
        change V κ ρ 0 0 μ18 _ 62 [(0, .ref a0), (1, .int p1)] [.int x19, .ref x17]
        refine V_iconst (v := 1) F dX8_starts_62 (by decide) ?_
        refine V_sI F dX8_starts_63 (fun μ20 => ?_)
        refine V_aload_n F dX8_starts_64 rfl 0 rfl ?_
        refine V_cV (As := []) (rest := []) (C := RX8) (N := 0) F M (metX8_flying (Fx_G F) (Fx_l F) a0  μ20) rfl q1350 q72 q1347 q1349 q31 ⟨by decide +kernel, by decide +kernel, by decide +kernel⟩ rfl ⟨by decide, by decide⟩ (Nat.le_of_ble_eq_true rfl) dX8_starts_65 (by decide) (by decide) (fun x22 μ21 => ?_)
        change V κ ρ 0 0 μ21 _ 68 [(0, .ref a0), (1, .int p1)] [.int x22]
        exact V_iret F M dX8_starts_68 rfl (by decide) (by decide)
      · refine V_aload_n F dX8_starts_47 rfl 0 rfl ?_
        refine V_iconst (v := 3) F dX8_starts_48 (by decide) ?_
        refine V_cV (As := [.int 3]) (rest := []) (C := RX8) (N := 1) F M (metX8_fail (Fx_G F) (Fx_l F) a0 3 μ10) rfl q1303 q72 q1300 q1302 q22 ⟨by decide +kernel, by decide +kernel, by decide +kernel⟩ rfl ⟨by decide, by decide⟩ (Nat.le_of_ble_eq_true rfl) dX8_starts_49 (by decide) (by decide) (fun x24 μ23 => ?_)
        change V κ ρ 0 0 μ23 _ 52 [(0, .ref a0), (1, .int p1)] [.int x24]
        exact V_iret F M dX8_starts_52 rfl (by decide) (by decide)
    · refine V_aload_n F dX8_starts_22 rfl 0 rfl ?_
      refine V_iconst (v := 2) F dX8_starts_23 (by decide) ?_
      refine V_cV (As := [.int 2]) (rest := []) (C := RX8) (N := 1) F M (metX8_fail (Fx_G F) (Fx_l F) a0 2 μ5) rfl q1303 q72 q1300 q1302 q22 ⟨by decide +kernel, by decide +kernel, by decide +kernel⟩ rfl ⟨by decide, by decide⟩ (Nat.le_of_ble_eq_true rfl) dX8_starts_24 (by decide) (by decide) (fun x26 μ25 => ?_)
      change V κ ρ 0 0 μ25 _ 27 [(0, .ref a0), (1, .int p1)] [.int x26]
      exact V_iret F M dX8_starts_27 rfl (by decide) (by decide)
  · refine V_aload_n F dX8_starts_8 rfl 0 rfl ?_
    refine V_iconst (v := 1) F dX8_starts_9 (by decide) ?_
    refine V_cV (As := [.int 1]) (rest := []) (C := RX8) (N := 1) F M (metX8_fail (Fx_G F) (Fx_l F) a0 1 μ1) rfl q1303 q72 q1300 q1302 q22 ⟨by decide +kernel, by decide +kernel, by decide +kernel⟩ rfl ⟨by decide, by decide⟩ (Nat.le_of_ble_eq_true rfl) dX8_starts_10 (by decide) (by decide) (fun x28 μ27 => ?_)
    change V κ ρ 0 0 μ27 _ 13 [(0, .ref a0), (1, .int p1)] [.int x28]
    exact V_iret F M dX8_starts_13 rfl (by decide) (by decide)
/-! DroneLightShowModel.takeOff(I)I -/
abbrev rmX8_takeOff : Room := { frames := 3, cells := 0, slots := 0, locals := 64 }
def FX8_takeOff (a0 : Nat) (p1 : Int32) (μ : Me) : Rs Int32 :=
  (bnd (vc μ a0 8 (FX8_begins a0  μ)) (fun x2 μ1 => (bnd (vc μ1 a0 8 (FX8_starts a0 p1 μ1)) (fun x4 μ3 => (bnd (vc μ3 a0 8 (FX8_ends a0 x4 μ3)) (fun x6 μ5 => (rt x6 μ5)))))))
set_option maxHeartbeats 4000000 in
set_option maxRecDepth 100000 in
theorem metX8_takeOff {l : Launch} {s0 : State} {D : va_G} {aC : Nat → ClassId} (hG : Gl s0 D aC) (hl : l.stackTraces = false) (a0 : Nat) (p1 : Int32) (μ : Me) : Ct l yX8_takeOff (ws_ yX8_takeOff cX8_takeOff 2 (some .int)) rmX8_takeOff s0 D aC (fun r : Int32 => some (.int r)) [.ref a0, .int p1] μ (FX8_takeOff a0 p1 μ) := by
  refine Ct_of hG hl (by decide +kernel) (Nat.le_of_ble_eq_true rfl) (fun κ ρ hNL F M hκ => ?_)
  have F : Fx κ cX8_takeOff RX8 := F
  change V κ ρ 0 0 μ (FX8_takeOff a0 p1 μ) 0 [(0, .ref a0), (1, .int p1)] []
  unfold FX8_takeOff
  refine V_aload_n F dX8_takeOff_0 rfl 0 rfl ?_
  refine V_cV (As := []) (rest := []) (C := RX8) (N := 0) F M (metX8_begins (Fx_G F) (Fx_l F) a0  μ) rfl q1286 q72 q1283 q1285 q20 ⟨by decide +kernel, by decide +kernel, by decide +kernel⟩ rfl ⟨by decide, by decide⟩ (Nat.le_of_ble_eq_true rfl) dX8_takeOff_1 (by decide) (by decide) (fun x2 μ1 => ?_)
  change V κ ρ 0 0 μ1 _ 4 [(0, .ref a0), (1, .int p1)] []
  refine V_aload_n F dX8_takeOff_4 rfl 0 rfl ?_
  refine V_aload_n F dX8_takeOff_5 rfl 0 rfl ?_
  refine V_iload_n F dX8_takeOff_6 rfl 1 rfl ?_
  refine V_cV (As := [.int p1]) (rest := [.ref a0]) (C := RX8) (N := 1) F M (metX8_starts (Fx_G F) (Fx_l F) a0 p1 μ1) rfl q1338 q72 q1335 q1337 q28 ⟨by decide +kernel, by decide +kernel, by decide +kernel⟩ rfl ⟨by decide, by decide⟩ (Nat.le_of_ble_eq_true rfl) dX8_takeOff_7 (by decide) (by decide) (fun x4 μ3 => ?_)
  change V κ ρ 0 0 μ3 _ 10 [(0, .ref a0), (1, .int p1)] [.int x4, .ref a0]
  refine V_cV (As := [.int x4]) (rest := []) (C := RX8) (N := 1) F M (metX8_ends (Fx_G F) (Fx_l F) a0 x4 μ3) rfl q1318 q72 q1315 q1317 q25 ⟨by decide +kernel, by decide +kernel, by decide +kernel⟩ rfl ⟨by decide, by decide⟩ (Nat.le_of_ble_eq_true rfl) dX8_takeOff_10 (by decide) (by decide) (fun x6 μ5 => ?_)
  change V κ ρ 0 0 μ5 _ 13 [(0, .ref a0), (1, .int p1)] [.int x6]
  exact V_iret F M dX8_takeOff_13 rfl (by decide) (by decide)
/-! DroneLightShowModel.lands(I)I -/
abbrev rmX8_lands : Room := { frames := 2, cells := 0, slots := 0, locals := 43 }
def FX8_lands (a0 : Nat) (p1 : Int32) (μ : Me) : Rs Int32 :=
  (bnd (vc μ a0 8 (FX8_isDrone a0 p1 μ)) (fun x2 μ1 => (if x2 = 0 then (bnd (vc μ1 a0 8 (FX8_fail a0 1 μ1)) (fun x26 μ25 => (rt x26 μ25))) else (bnd (vc μ1 a0 8 (FX8_flies a0 p1 μ1)) (fun x6 μ5 => (if x6 = 0 then (bnd (vc μ5 a0 8 (FX8_fail a0 2 μ5)) (fun x24 μ23 => (rt x24 μ23))) else (gR μ5 a0 8 5 (fun x9 => (bnd (FX8_of p1 0 μ5) (fun x11 μ10 => (aI μ10 x9 x11 (fun x12 => (bnd (vc μ10 a0 8 (FX8_isPadCell a0 x12 μ10)) (fun x14 μ13 => (if x14 = 0 then (bnd (vc μ13 a0 8 (FX8_fail a0 3 μ13)) (fun x22 μ21 => (rt x22 μ21))) else (bnd (vc μ13 a0 8 (FX8_grounds a0 p1 μ13)) (fun x18 μ17 => (bnd (vc μ17 a0 8 (FX8_flying a0  μ17)) (fun x20 μ19 => (rt x20 μ19))))))))))))))))))))
set_option maxHeartbeats 4000000 in
set_option maxRecDepth 100000 in
theorem metX8_lands {l : Launch} {s0 : State} {D : va_G} {aC : Nat → ClassId} (hG : Gl s0 D aC) (hl : l.stackTraces = false) (a0 : Nat) (p1 : Int32) (μ : Me) : Ct l yX8_lands (ws_ yX8_lands cX8_lands 2 (some .int)) rmX8_lands s0 D aC (fun r : Int32 => some (.int r)) [.ref a0, .int p1] μ (FX8_lands a0 p1 μ) := by
  refine Ct_of hG hl (by decide +kernel) (Nat.le_of_ble_eq_true rfl) (fun κ ρ hNL F M hκ => ?_)
  have F : Fx κ cX8_lands RX8 := F
  change V κ ρ 0 0 μ (FX8_lands a0 p1 μ) 0 [(0, .ref a0), (1, .int p1)] []
  unfold FX8_lands
  refine V_aload_n F dX8_lands_0 rfl 0 rfl ?_
  refine V_iload_n F dX8_lands_1 rfl 1 rfl ?_
  refine V_cV (As := [.int p1]) (rest := []) (C := RX8) (N := 1) F M (metX8_isDrone (Fx_G F) (Fx_l F) a0 p1 μ) rfl q1342 q72 q1339 q1341 q29 ⟨by decide +kernel, by decide +kernel, by decide +kernel⟩ rfl ⟨by decide, by decide⟩ (Nat.le_of_ble_eq_true rfl) dX8_lands_2 (by decide) (by decide) (fun x2 μ1 => ?_)
  change V κ ρ 0 0 μ1 _ 5 [(0, .ref a0), (1, .int p1)] [.int x2]
  refine V_if_ne (tgt := 14) F dX8_lands_5 (by decide) (fun c3 => ?_) (fun c4 => ?_)
  · refine V_aload_n F dX8_lands_14 rfl 0 rfl ?_
    refine V_iload_n F dX8_lands_15 rfl 1 rfl ?_
    refine V_cV (As := [.int p1]) (rest := []) (C := RX8) (N := 1) F M (metX8_flies (Fx_G F) (Fx_l F) a0 p1 μ1) rfl q1346 q72 q1343 q1345 q30 ⟨by decide +kernel, by decide +kernel, by decide +kernel⟩ rfl ⟨by decide, by decide⟩ (Nat.le_of_ble_eq_true rfl) dX8_lands_16 (by decide) (by decide) (fun x6 μ5 => ?_)
    change V κ ρ 0 0 μ5 _ 19 [(0, .ref a0), (1, .int p1)] [.int x6]
    refine V_if_ne (tgt := 28) F dX8_lands_19 (by decide) (fun c7 => ?_) (fun c8 => ?_)
    · refine V_aload_n F dX8_lands_28 rfl 0 rfl ?_
      refine V_aload_n F dX8_lands_29 rfl 0 rfl ?_
      refine V_gR (ci := 8) (k9 := 5) (C := RX8) (T := TX8) (N := 22) F rfl hinX8 (by decide) q1213 dX8_lands_30 (fun x9 => ?_)
      refine V_iload_n F dX8_lands_33 rfl 1 rfl ?_
      refine V_iconst (v := 0) F dX8_lands_34 (by decide) ?_
      refine V_cS (As := [.int p1, .int 0]) (rest := [.ref x9, .ref a0]) (N := 2) F M (metX8_of (Fx_G F) (Fx_l F) p1 0 μ5) q1310 q72 q1308 q1309 ⟨by decide +kernel, by decide +kernel, by decide +kernel⟩ rfl ⟨by decide, by decide⟩ (Nat.le_of_ble_eq_true rfl) dX8_lands_35 (by decide) (by decide) (fun x11 μ10 => ?_)
      change V κ ρ 0 0 μ10 _ 38 [(0, .ref a0), (1, .int p1)] [.int x11, .ref x9, .ref a0]
      refine V_aI F dX8_lands_38 (fun x12 => ?_)
      refine V_cV (As := [.int x12]) (rest := []) (C := RX8) (N := 1) F M (metX8_isPadCell (Fx_G F) (Fx_l F) a0 x12 μ10) rfl q1330 q72 q1327 q1329 q27 ⟨by decide +kernel, by decide +kernel, by decide +kernel⟩ rfl ⟨by decide, by decide⟩ (Nat.le_of_ble_eq_true rfl) dX8_lands_39 (by decide) (by decide) (fun x14 μ13 => ?_)
      change V κ ρ 0 0 μ13 _ 42 [(0, .ref a0), (1, .int p1)] [.int x14]
      refine V_if_ne (tgt := 51) F dX8_lands_42 (by decide) (fun c15 => ?_) (fun c16 => ?_)
      · refine V_aload_n F dX8_lands_51 rfl 0 rfl ?_
        refine V_iload_n F dX8_lands_52 rfl 1 rfl ?_
        refine V_cV (As := [.int p1]) (rest := []) (C := RX8) (N := 1) F M (metX8_grounds (Fx_G F) (Fx_l F) a0 p1 μ13) rfl q1314 q72 q1311 q1313 q24 ⟨by decide +kernel, by decide +kernel, by decide +kernel⟩ rfl ⟨by decide, by decide⟩ (Nat.le_of_ble_eq_true rfl) dX8_lands_53 (by decide) (by decide) (fun x18 μ17 => ?_)
        change V κ ρ 0 0 μ17 _ 56 [(0, .ref a0), (1, .int p1)] []
        refine V_aload_n F dX8_lands_56 rfl 0 rfl ?_
        refine V_cV (As := []) (rest := []) (C := RX8) (N := 0) F M (metX8_flying (Fx_G F) (Fx_l F) a0  μ17) rfl q1350 q72 q1347 q1349 q31 ⟨by decide +kernel, by decide +kernel, by decide +kernel⟩ rfl ⟨by decide, by decide⟩ (Nat.le_of_ble_eq_true rfl) dX8_lands_57 (by decide) (by decide) (fun x20 μ19 => ?_)
        change V κ ρ 0 0 μ19 _ 60 [(0, .ref a0), (1, .int p1)] [.int x20]
        exact V_iret F M dX8_lands_60 rfl (by decide) (by decide)
      · refine V_aload_n F dX8_lands_45 rfl 0 rfl ?_
        refine V_iconst (v := 3) F dX8_lands_46 (by decide) ?_
        refine V_cV (As := [.int 3]) (rest := []) (C := RX8) (N := 1) F M (metX8_fail (Fx_G F) (Fx_l F) a0 3 μ13) rfl q1303 q72 q1300 q1302 q22 ⟨by decide +kernel, by decide +kernel, by decide +kernel⟩ rfl ⟨by decide, by decide⟩ (Nat.le_of_ble_eq_true rfl) dX8_lands_47 (by decide) (by decide) (fun x22 μ21 => ?_)
        change V κ ρ 0 0 μ21 _ 50 [(0, .ref a0), (1, .int p1)] [.int x22]
        exact V_iret F M dX8_lands_50 rfl (by decide) (by decide)
    · refine V_aload_n F dX8_lands_22 rfl 0 rfl ?_
      refine V_iconst (v := 2) F dX8_lands_23 (by decide) ?_
      refine V_cV (As := [.int 2]) (rest := []) (C := RX8) (N := 1) F M (metX8_fail (Fx_G F) (Fx_l F) a0 2 μ5) rfl q1303 q72 q1300 q1302 q22 ⟨by decide +kernel, by decide +kernel, by decide +kernel⟩ rfl ⟨by decide, by decide⟩ (Nat.le_of_ble_eq_true rfl) dX8_lands_24 (by decide) (by decide) (fun x24 μ23 => ?_)
      change V κ ρ 0 0 μ23 _ 27 [(0, .ref a0), (1, .int p1)] [.int x24]
      exact V_iret F M dX8_lands_27 rfl (by decide) (by decide)
  · refine V_aload_n F dX8_lands_8 rfl 0 rfl ?_
    refine V_iconst (v := 1) F dX8_lands_9 (by decide) ?_
    refine V_cV (As := [.int 1]) (rest := []) (C := RX8) (N := 1) F M (metX8_fail (Fx_G F) (Fx_l F) a0 1 μ1) rfl q1303 q72 q1300 q1302 q22 ⟨by decide +kernel, by decide +kernel, by decide +kernel⟩ rfl ⟨by decide, by decide⟩ (Nat.le_of_ble_eq_true rfl) dX8_lands_10 (by decide) (by decide) (fun x26 μ25 => ?_)
    change V κ ρ 0 0 μ25 _ 13 [(0, .ref a0), (1, .int p1)] [.int x26]
    exact V_iret F M dX8_lands_13 rfl (by decide) (by decide)
/-! DroneLightShowModel.land(I)I -/
abbrev rmX8_land : Room := { frames := 3, cells := 0, slots := 0, locals := 64 }
def FX8_land (a0 : Nat) (p1 : Int32) (μ : Me) : Rs Int32 :=
  (bnd (vc μ a0 8 (FX8_begins a0  μ)) (fun x2 μ1 => (bnd (vc μ1 a0 8 (FX8_lands a0 p1 μ1)) (fun x4 μ3 => (bnd (vc μ3 a0 8 (FX8_ends a0 x4 μ3)) (fun x6 μ5 => (rt x6 μ5)))))))
set_option maxHeartbeats 4000000 in
set_option maxRecDepth 100000 in
theorem metX8_land {l : Launch} {s0 : State} {D : va_G} {aC : Nat → ClassId} (hG : Gl s0 D aC) (hl : l.stackTraces = false) (a0 : Nat) (p1 : Int32) (μ : Me) : Ct l yX8_land (ws_ yX8_land cX8_land 2 (some .int)) rmX8_land s0 D aC (fun r : Int32 => some (.int r)) [.ref a0, .int p1] μ (FX8_land a0 p1 μ) := by
  refine Ct_of hG hl (by decide +kernel) (Nat.le_of_ble_eq_true rfl) (fun κ ρ hNL F M hκ => ?_)
  have F : Fx κ cX8_land RX8 := F
  change V κ ρ 0 0 μ (FX8_land a0 p1 μ) 0 [(0, .ref a0), (1, .int p1)] []
  unfold FX8_land
  refine V_aload_n F dX8_land_0 rfl 0 rfl ?_
  refine V_cV (As := []) (rest := []) (C := RX8) (N := 0) F M (metX8_begins (Fx_G F) (Fx_l F) a0  μ) rfl q1286 q72 q1283 q1285 q20 ⟨by decide +kernel, by decide +kernel, by decide +kernel⟩ rfl ⟨by decide, by decide⟩ (Nat.le_of_ble_eq_true rfl) dX8_land_1 (by decide) (by decide) (fun x2 μ1 => ?_)
  change V κ ρ 0 0 μ1 _ 4 [(0, .ref a0), (1, .int p1)] []
  refine V_aload_n F dX8_land_4 rfl 0 rfl ?_
  refine V_aload_n F dX8_land_5 rfl 0 rfl ?_
  refine V_iload_n F dX8_land_6 rfl 1 rfl ?_
  refine V_cV (As := [.int p1]) (rest := [.ref a0]) (C := RX8) (N := 1) F M (metX8_lands (Fx_G F) (Fx_l F) a0 p1 μ1) rfl q1358 q72 q1355 q1357 q32 ⟨by decide +kernel, by decide +kernel, by decide +kernel⟩ rfl ⟨by decide, by decide⟩ (Nat.le_of_ble_eq_true rfl) dX8_land_7 (by decide) (by decide) (fun x4 μ3 => ?_)
  change V κ ρ 0 0 μ3 _ 10 [(0, .ref a0), (1, .int p1)] [.int x4, .ref a0]
  refine V_cV (As := [.int x4]) (rest := []) (C := RX8) (N := 1) F M (metX8_ends (Fx_G F) (Fx_l F) a0 x4 μ3) rfl q1318 q72 q1315 q1317 q25 ⟨by decide +kernel, by decide +kernel, by decide +kernel⟩ rfl ⟨by decide, by decide⟩ (Nat.le_of_ble_eq_true rfl) dX8_land_10 (by decide) (by decide) (fun x6 μ5 => ?_)
  change V κ ρ 0 0 μ5 _ 13 [(0, .ref a0), (1, .int p1)] [.int x6]
  exact V_iret F M dX8_land_13 rfl (by decide) (by decide)
/-! DroneLightShowModel.sends(II)I -/
abbrev rmX8_sends : Room := { frames := 2, cells := 0, slots := 0, locals := 43 }
def FX8_sends_B15  (v0 : Nat) (μ : Me) : Rs Int32 :=
  (bnd (vc μ v0 8 (FX8_fail v0 1 μ)) (fun x6 μ5 => (rt x6 μ5)))
set_option maxHeartbeats 4000000 in
set_option maxRecDepth 100000 in
theorem VX8_sends_B15 {κ : Cx} {ρ : (Int32 ⊕ String) × Me} (F : Fx κ cX8_sends RX8) (M : Mx κ (fun r : Int32 => some (.int r)) ρ rmX8_sends (some .int) [] "sends") (hNL : κ.2.2.2.2.2.2.2.2.2.2.2.2.2.2 = 3)   (v0 : Nat) (μ : Me) : V κ ρ 0 0 μ (FX8_sends_B15  v0 μ) 15 [(0, .ref v0)] [] := by
  unfold FX8_sends_B15
  refine V_aload_n F dX8_sends_15 rfl 0 rfl ?_
  refine V_iconst (v := 1) F dX8_sends_16 (by decide) ?_
  refine V_cV (As := [.int 1]) (rest := []) (C := RX8) (N := 1) F M (metX8_fail (Fx_G F) (Fx_l F) v0 1 μ) rfl q1303 q72 q1300 q1302 q22 ⟨by decide +kernel, by decide +kernel, by decide +kernel⟩ rfl ⟨by decide, by decide⟩ (Nat.le_of_ble_eq_true rfl) dX8_sends_17 (by decide) (by decide) (fun x6 μ5 => ?_)
  change V κ ρ 0 0 μ5 _ 20 [(0, .ref v0)] [.int x6]
  exact V_iret F M dX8_sends_20 rfl (by decide) (by decide)
def FX8_sends_B37  (v0 : Nat) (μ : Me) : Rs Int32 :=
  (bnd (vc μ v0 8 (FX8_fail v0 2 μ)) (fun x16 μ15 => (rt x16 μ15)))
set_option maxHeartbeats 4000000 in
set_option maxRecDepth 100000 in
theorem VX8_sends_B37 {κ : Cx} {ρ : (Int32 ⊕ String) × Me} (F : Fx κ cX8_sends RX8) (M : Mx κ (fun r : Int32 => some (.int r)) ρ rmX8_sends (some .int) [] "sends") (hNL : κ.2.2.2.2.2.2.2.2.2.2.2.2.2.2 = 3)   (v0 : Nat) (μ : Me) : V κ ρ 0 0 μ (FX8_sends_B37  v0 μ) 37 [(0, .ref v0)] [] := by
  unfold FX8_sends_B37
  refine V_aload_n F dX8_sends_37 rfl 0 rfl ?_
  refine V_iconst (v := 2) F dX8_sends_38 (by decide) ?_
  refine V_cV (As := [.int 2]) (rest := []) (C := RX8) (N := 1) F M (metX8_fail (Fx_G F) (Fx_l F) v0 2 μ) rfl q1303 q72 q1300 q1302 q22 ⟨by decide +kernel, by decide +kernel, by decide +kernel⟩ rfl ⟨by decide, by decide⟩ (Nat.le_of_ble_eq_true rfl) dX8_sends_39 (by decide) (by decide) (fun x16 μ15 => ?_)
  change V κ ρ 0 0 μ15 _ 42 [(0, .ref v0)] [.int x16]
  exact V_iret F M dX8_sends_42 rfl (by decide) (by decide)
def FX8_sends (a0 : Nat) (p1 : Int32) (p2 : Int32) (μ : Me) : Rs Int32 :=
  (bnd (vc μ a0 8 (FX8_isDrone a0 p1 μ)) (fun x2 μ1 => (if x2 = 0 then (FX8_sends_B15  a0 μ1) else (bnd (FX8_isCell p2 μ1) (fun x8 μ7 => (if x8 = 0 then (FX8_sends_B15  a0 μ7) else (bnd (vc μ7 a0 8 (FX8_flies a0 p1 μ7)) (fun x12 μ11 => (if x12 = 0 then (FX8_sends_B37  a0 μ11) else (bnd (vc μ11 a0 8 (FX8_isUrgent a0 p1 μ11)) (fun x18 μ17 => (if x18 = 0 then (gR μ17 a0 8 5 (fun x21 => (bnd (FX8_of p1 4 μ17) (fun x23 μ22 => (sI μ22 x21 x23 (p2 + 1) (fun μ24 => (gR μ24 a0 8 5 (fun x25 => (bnd (FX8_of p1 0 μ24) (fun x27 μ26 => (aI μ26 x25 x27 (fun x28 => (bnd (FX8_far x28 p2 μ26) (fun x30 μ29 => (rt x30 μ29))))))))))))))) else (FX8_sends_B37  a0 μ17)))))))))))))
set_option maxHeartbeats 4000000 in
set_option maxRecDepth 100000 in
theorem metX8_sends {l : Launch} {s0 : State} {D : va_G} {aC : Nat → ClassId} (hG : Gl s0 D aC) (hl : l.stackTraces = false) (a0 : Nat) (p1 : Int32) (p2 : Int32) (μ : Me) : Ct l yX8_sends (ws_ yX8_sends cX8_sends 3 (some .int)) rmX8_sends s0 D aC (fun r : Int32 => some (.int r)) [.ref a0, .int p1, .int p2] μ (FX8_sends a0 p1 p2 μ) := by
  refine Ct_of hG hl (by decide +kernel) (Nat.le_of_ble_eq_true rfl) (fun κ ρ hNL F M hκ => ?_)
  have F : Fx κ cX8_sends RX8 := F
  change V κ ρ 0 0 μ (FX8_sends a0 p1 p2 μ) 0 [(0, .ref a0), (1, .int p1), (2, .int p2)] []
  unfold FX8_sends
  refine V_aload_n F dX8_sends_0 rfl 0 rfl ?_
  refine V_iload_n F dX8_sends_1 rfl 1 rfl ?_
  refine V_cV (As := [.int p1]) (rest := []) (C := RX8) (N := 1) F M (metX8_isDrone (Fx_G F) (Fx_l F) a0 p1 μ) rfl q1342 q72 q1339 q1341 q29 ⟨by decide +kernel, by decide +kernel, by decide +kernel⟩ rfl ⟨by decide, by decide⟩ (Nat.le_of_ble_eq_true rfl) dX8_sends_2 (by decide) (by decide) (fun x2 μ1 => ?_)
  change V κ ρ 0 0 μ1 _ 5 [(0, .ref a0), (1, .int p1), (2, .int p2)] [.int x2]
  refine V_if_eq (tgt := 15) F dX8_sends_5 (by decide) (fun c3 => ?_) (fun c4 => ?_)
  · refine V_sub [0] rfl ?_
    exact VX8_sends_B15 F M hNL  a0 μ1
  · refine V_iload_n F dX8_sends_8 rfl 2 rfl ?_
    refine V_cS (As := [.int p2]) (rest := []) (N := 1) F M (metX8_isCell (Fx_G F) (Fx_l F) p2 μ1) q1296 q72 q1294 q1295 ⟨by decide +kernel, by decide +kernel, by decide +kernel⟩ rfl ⟨by decide, by decide⟩ (Nat.le_of_ble_eq_true rfl) dX8_sends_9 (by decide) (by decide) (fun x8 μ7 => ?_)
    change V κ ρ 0 0 μ7 _ 12 [(0, .ref a0), (1, .int p1), (2, .int p2)] [.int x8]
    refine V_if_ne (tgt := 21) F dX8_sends_12 (by decide) (fun c9 => ?_) (fun c10 => ?_)
    · refine V_aload_n F dX8_sends_21 rfl 0 rfl ?_
      refine V_iload_n F dX8_sends_22 rfl 1 rfl ?_
      refine V_cV (As := [.int p1]) (rest := []) (C := RX8) (N := 1) F M (metX8_flies (Fx_G F) (Fx_l F) a0 p1 μ7) rfl q1346 q72 q1343 q1345 q30 ⟨by decide +kernel, by decide +kernel, by decide +kernel⟩ rfl ⟨by decide, by decide⟩ (Nat.le_of_ble_eq_true rfl) dX8_sends_23 (by decide) (by decide) (fun x12 μ11 => ?_)
      change V κ ρ 0 0 μ11 _ 26 [(0, .ref a0), (1, .int p1), (2, .int p2)] [.int x12]
      refine V_if_eq (tgt := 37) F dX8_sends_26 (by decide) (fun c13 => ?_) (fun c14 => ?_)
      · refine V_sub [0] rfl ?_
        exact VX8_sends_B37 F M hNL  a0 μ11
      · refine V_aload_n F dX8_sends_29 rfl 0 rfl ?_
        refine V_iload_n F dX8_sends_30 rfl 1 rfl ?_
        refine V_cV (As := [.int p1]) (rest := []) (C := RX8) (N := 1) F M (metX8_isUrgent (Fx_G F) (Fx_l F) a0 p1 μ11) rfl q1370 q72 q1367 q1369 q34 ⟨by decide +kernel, by decide +kernel, by decide +kernel⟩ rfl ⟨by decide, by decide⟩ (Nat.le_of_ble_eq_true rfl) dX8_sends_31 (by decide) (by decide) (fun x18 μ17 => ?_)
        change V κ ρ 0 0 μ17 _ 34 [(0, .ref a0), (1, .int p1), (2, .int p2)] [.int x18]
        refine V_if_eq (tgt := 43) F dX8_sends_34 (by decide) (fun c19 => ?_) (fun c20 => ?_)
        · refine V_aload_n F dX8_sends_43 rfl 0 rfl ?_
          refine V_gR (ci := 8) (k9 := 5) (C := RX8) (T := TX8) (N := 22) F rfl hinX8 (by decide) q1213 dX8_sends_44 (fun x21 => ?_)
          refine V_iload_n F dX8_sends_47 rfl 1 rfl ?_
          refine V_iconst (v := 4) F dX8_sends_48 (by decide) ?_
          refine V_cS (As := [.int p1, .int 4]) (rest := [.ref x21]) (N := 2) F M (metX8_of (Fx_G F) (Fx_l F) p1 4 μ17) q1310 q72 q1308 q1309 ⟨by decide +kernel, by decide +kernel, by decide +kernel⟩ rfl ⟨by decide, by decide⟩ (Nat.le_of_ble_eq_true rfl) dX8_sends_49 (by decide) (by decide) (fun x23 μ22 => ?_)
          change V κ ρ 0 0 μ22 _ 52 [(0, .ref a0), (1, .int p1), (2, .int p2)] [.int x23, .ref x21]
          refine V_iload_n F dX8_sends_52 rfl 2 rfl ?_
          refine V_iconst (v := 1) F dX8_sends_53 (by decide) ?_
          refine V_iadd F dX8_sends_54 ?_
          refine V_sI F dX8_sends_55 (fun μ24 => ?_)
          refine V_aload_n F dX8_sends_56 rfl 0 rfl ?_
          refine V_gR (ci := 8) (k9 := 5) (C := RX8) (T := TX8) (N := 22) F rfl hinX8 (by decide) q1213 dX8_sends_57 (fun x25 => ?_)
          refine V_iload_n F dX8_sends_60 rfl 1 rfl ?_
          refine V_iconst (v := 0) F dX8_sends_61 (by decide) ?_
          refine V_cS (As := [.int p1, .int 0]) (rest := [.ref x25]) (N := 2) F M (metX8_of (Fx_G F) (Fx_l F) p1 0 μ24) q1310 q72 q1308 q1309 ⟨by decide +kernel, by decide +kernel, by decide +kernel⟩ rfl ⟨by decide, by decide⟩ (Nat.le_of_ble_eq_true rfl) dX8_sends_62 (by decide) (by decide) (fun x27 μ26 => ?_)
          change V κ ρ 0 0 μ26 _ 65 [(0, .ref a0), (1, .int p1), (2, .int p2)] [.int x27, .ref x25]
          refine V_aI F dX8_sends_65 (fun x28 => ?_)
          refine V_iload_n F dX8_sends_66 rfl 2 rfl ?_
          refine V_cS (As := [.int x28, .int p2]) (rest := []) (N := 2) F M (metX8_far (Fx_G F) (Fx_l F) x28 p2 μ26) q1373 q72 q1371 q1372 ⟨by decide +kernel, by decide +kernel, by decide +kernel⟩ rfl ⟨by decide, by decide⟩ (Nat.le_of_ble_eq_true rfl) dX8_sends_67 (by decide) (by decide) (fun x30 μ29 => ?_)
          change V κ ρ 0 0 μ29 _ 70 [(0, .ref a0), (1, .int p1), (2, .int p2)] [.int x30]
          exact V_iret F M dX8_sends_70 rfl (by decide) (by decide)
        · refine V_sub [0] rfl ?_
          exact VX8_sends_B37 F M hNL  a0 μ17
    · refine V_sub [0] rfl ?_
      exact VX8_sends_B15 F M hNL  a0 μ7
/-! DroneLightShowModel.sendTo(II)I -/
abbrev rmX8_sendTo : Room := { frames := 3, cells := 0, slots := 0, locals := 65 }
def FX8_sendTo (a0 : Nat) (p1 : Int32) (p2 : Int32) (μ : Me) : Rs Int32 :=
  (bnd (vc μ a0 8 (FX8_begins a0  μ)) (fun x2 μ1 => (bnd (vc μ1 a0 8 (FX8_sends a0 p1 p2 μ1)) (fun x4 μ3 => (bnd (vc μ3 a0 8 (FX8_ends a0 x4 μ3)) (fun x6 μ5 => (rt x6 μ5)))))))
set_option maxHeartbeats 4000000 in
set_option maxRecDepth 100000 in
theorem metX8_sendTo {l : Launch} {s0 : State} {D : va_G} {aC : Nat → ClassId} (hG : Gl s0 D aC) (hl : l.stackTraces = false) (a0 : Nat) (p1 : Int32) (p2 : Int32) (μ : Me) : Ct l yX8_sendTo (ws_ yX8_sendTo cX8_sendTo 3 (some .int)) rmX8_sendTo s0 D aC (fun r : Int32 => some (.int r)) [.ref a0, .int p1, .int p2] μ (FX8_sendTo a0 p1 p2 μ) := by
  refine Ct_of hG hl (by decide +kernel) (Nat.le_of_ble_eq_true rfl) (fun κ ρ hNL F M hκ => ?_)
  have F : Fx κ cX8_sendTo RX8 := F
  change V κ ρ 0 0 μ (FX8_sendTo a0 p1 p2 μ) 0 [(0, .ref a0), (1, .int p1), (2, .int p2)] []
  unfold FX8_sendTo
  refine V_aload_n F dX8_sendTo_0 rfl 0 rfl ?_
  refine V_cV (As := []) (rest := []) (C := RX8) (N := 0) F M (metX8_begins (Fx_G F) (Fx_l F) a0  μ) rfl q1286 q72 q1283 q1285 q20 ⟨by decide +kernel, by decide +kernel, by decide +kernel⟩ rfl ⟨by decide, by decide⟩ (Nat.le_of_ble_eq_true rfl) dX8_sendTo_1 (by decide) (by decide) (fun x2 μ1 => ?_)
  change V κ ρ 0 0 μ1 _ 4 [(0, .ref a0), (1, .int p1), (2, .int p2)] []
  refine V_aload_n F dX8_sendTo_4 rfl 0 rfl ?_
  refine V_aload_n F dX8_sendTo_5 rfl 0 rfl ?_
  refine V_iload_n F dX8_sendTo_6 rfl 1 rfl ?_
  refine V_iload_n F dX8_sendTo_7 rfl 2 rfl ?_
  refine V_cV (As := [.int p1, .int p2]) (rest := [.ref a0]) (C := RX8) (N := 2) F M (metX8_sends (Fx_G F) (Fx_l F) a0 p1 p2 μ1) rfl q1366 q72 q1363 q1365 q33 ⟨by decide +kernel, by decide +kernel, by decide +kernel⟩ rfl ⟨by decide, by decide⟩ (Nat.le_of_ble_eq_true rfl) dX8_sendTo_8 (by decide) (by decide) (fun x4 μ3 => ?_)
  change V κ ρ 0 0 μ3 _ 11 [(0, .ref a0), (1, .int p1), (2, .int p2)] [.int x4, .ref a0]
  refine V_cV (As := [.int x4]) (rest := []) (C := RX8) (N := 1) F M (metX8_ends (Fx_G F) (Fx_l F) a0 x4 μ3) rfl q1318 q72 q1315 q1317 q25 ⟨by decide +kernel, by decide +kernel, by decide +kernel⟩ rfl ⟨by decide, by decide⟩ (Nat.le_of_ble_eq_true rfl) dX8_sendTo_11 (by decide) (by decide) (fun x6 μ5 => ?_)
  change V κ ρ 0 0 μ5 _ 14 [(0, .ref a0), (1, .int p1), (2, .int p2)] [.int x6]
  exact V_iret F M dX8_sendTo_14 rfl (by decide) (by decide)
/-! DroneLightShowModel.reserves(I)I -/
abbrev rmX8_reserves : Room := { frames := 1, cells := 0, slots := 0, locals := 22 }
def FX8_reserves (a0 : Nat) (p1 : Int32) (μ : Me) : Rs Int32 :=
  (bnd (FX8_isIn p1 5 30 μ) (fun x2 μ1 => (if x2 = 0 then (bnd (vc μ1 a0 8 (FX8_fail a0 1 μ1)) (fun x10 μ9 => (rt x10 μ9))) else (gR μ1 a0 8 5 (fun x5 => (aI μ1 x5 2 (fun x6 => (gR μ1 a0 8 5 (fun x7 => (sI μ1 x7 2 p1 (fun μ8 => (rt x6 μ8))))))))))))
set_option maxHeartbeats 4000000 in
set_option maxRecDepth 100000 in
theorem metX8_reserves {l : Launch} {s0 : State} {D : va_G} {aC : Nat → ClassId} (hG : Gl s0 D aC) (hl : l.stackTraces = false) (a0 : Nat) (p1 : Int32) (μ : Me) : Ct l yX8_reserves (ws_ yX8_reserves cX8_reserves 3 (some .int)) rmX8_reserves s0 D aC (fun r : Int32 => some (.int r)) [.ref a0, .int p1] μ (FX8_reserves a0 p1 μ) := by
  refine Ct_of hG hl (by decide +kernel) (Nat.le_of_ble_eq_true rfl) (fun κ ρ hNL F M hκ => ?_)
  have F : Fx κ cX8_reserves RX8 := F
  change V κ ρ 0 0 μ (FX8_reserves a0 p1 μ) 0 [(0, .ref a0), (1, .int p1)] []
  unfold FX8_reserves
  refine V_iload_n F dX8_reserves_0 rfl 1 rfl ?_
  refine V_iconst (v := 5) F dX8_reserves_1 (by decide) ?_
  refine V_bipush (v := 30) F dX8_reserves_2 (by decide) ?_
  refine V_cS (As := [.int p1, .int 5, .int 30]) (rest := []) (N := 3) F M (metX8_isIn (Fx_G F) (Fx_l F) p1 5 30 μ) q1299 q72 q1297 q1298 ⟨by decide +kernel, by decide +kernel, by decide +kernel⟩ rfl ⟨by decide, by decide⟩ (Nat.le_of_ble_eq_true rfl) dX8_reserves_4 (by decide) (by decide) (fun x2 μ1 => ?_)
  change V κ ρ 0 0 μ1 _ 7 [(0, .ref a0), (1, .int p1)] [.int x2]
  refine V_if_ne (tgt := 16) F dX8_reserves_7 (by decide) (fun c3 => ?_) (fun c4 => ?_)
  · refine V_aload_n F dX8_reserves_16 rfl 0 rfl ?_
    refine V_gR (ci := 8) (k9 := 5) (C := RX8) (T := TX8) (N := 22) F rfl hinX8 (by decide) q1213 dX8_reserves_17 (fun x5 => ?_)
    refine V_iconst (v := 2) F dX8_reserves_20 (by decide) ?_
    refine V_aI F dX8_reserves_21 (fun x6 => ?_)
    refine V_istore_n (lv' := [(2, .int x6), (0, .ref a0), (1, .int p1)]) F dX8_reserves_22 rfl (lt_L hNL (by decide)) rfl ?_
    refine V_aload_n F dX8_reserves_23 rfl 1 rfl ?_
    refine V_gR (ci := 8) (k9 := 5) (C := RX8) (T := TX8) (N := 22) F rfl hinX8 (by decide) q1213 dX8_reserves_24 (fun x7 => ?_)
    refine V_iconst (v := 2) F dX8_reserves_27 (by decide) ?_
    refine V_iload_n F dX8_reserves_28 rfl 2 rfl ?_
    refine V_sI F dX8_reserves_29 (fun μ8 => ?_)
    refine V_iload_n F dX8_reserves_30 rfl 0 rfl ?_
    exact V_iret F M dX8_reserves_31 rfl (by decide) (by decide)
  · refine V_aload_n F dX8_reserves_10 rfl 0 rfl ?_
    refine V_iconst (v := 1) F dX8_reserves_11 (by decide) ?_
    refine V_cV (As := [.int 1]) (rest := []) (C := RX8) (N := 1) F M (metX8_fail (Fx_G F) (Fx_l F) a0 1 μ1) rfl q1303 q72 q1300 q1302 q22 ⟨by decide +kernel, by decide +kernel, by decide +kernel⟩ rfl ⟨by decide, by decide⟩ (Nat.le_of_ble_eq_true rfl) dX8_reserves_12 (by decide) (by decide) (fun x10 μ9 => ?_)
    change V κ ρ 0 0 μ9 _ 15 [(0, .ref a0), (1, .int p1)] [.int x10]
    exact V_iret F M dX8_reserves_15 rfl (by decide) (by decide)
/-! DroneLightShowModel.setReserve(I)I -/
abbrev rmX8_setReserve : Room := { frames := 2, cells := 0, slots := 0, locals := 44 }
def FX8_setReserve (a0 : Nat) (p1 : Int32) (μ : Me) : Rs Int32 :=
  (bnd (vc μ a0 8 (FX8_begins a0  μ)) (fun x2 μ1 => (bnd (vc μ1 a0 8 (FX8_reserves a0 p1 μ1)) (fun x4 μ3 => (bnd (vc μ3 a0 8 (FX8_ends a0 x4 μ3)) (fun x6 μ5 => (rt x6 μ5)))))))
set_option maxHeartbeats 4000000 in
set_option maxRecDepth 100000 in
theorem metX8_setReserve {l : Launch} {s0 : State} {D : va_G} {aC : Nat → ClassId} (hG : Gl s0 D aC) (hl : l.stackTraces = false) (a0 : Nat) (p1 : Int32) (μ : Me) : Ct l yX8_setReserve (ws_ yX8_setReserve cX8_setReserve 2 (some .int)) rmX8_setReserve s0 D aC (fun r : Int32 => some (.int r)) [.ref a0, .int p1] μ (FX8_setReserve a0 p1 μ) := by
  refine Ct_of hG hl (by decide +kernel) (Nat.le_of_ble_eq_true rfl) (fun κ ρ hNL F M hκ => ?_)
  have F : Fx κ cX8_setReserve RX8 := F
  change V κ ρ 0 0 μ (FX8_setReserve a0 p1 μ) 0 [(0, .ref a0), (1, .int p1)] []
  unfold FX8_setReserve
  refine V_aload_n F dX8_setReserve_0 rfl 0 rfl ?_
  refine V_cV (As := []) (rest := []) (C := RX8) (N := 0) F M (metX8_begins (Fx_G F) (Fx_l F) a0  μ) rfl q1286 q72 q1283 q1285 q20 ⟨by decide +kernel, by decide +kernel, by decide +kernel⟩ rfl ⟨by decide, by decide⟩ (Nat.le_of_ble_eq_true rfl) dX8_setReserve_1 (by decide) (by decide) (fun x2 μ1 => ?_)
  change V κ ρ 0 0 μ1 _ 4 [(0, .ref a0), (1, .int p1)] []
  refine V_aload_n F dX8_setReserve_4 rfl 0 rfl ?_
  refine V_aload_n F dX8_setReserve_5 rfl 0 rfl ?_
  refine V_iload_n F dX8_setReserve_6 rfl 1 rfl ?_
  refine V_cV (As := [.int p1]) (rest := [.ref a0]) (C := RX8) (N := 1) F M (metX8_reserves (Fx_G F) (Fx_l F) a0 p1 μ1) rfl q1384 q72 q1381 q1383 q35 ⟨by decide +kernel, by decide +kernel, by decide +kernel⟩ rfl ⟨by decide, by decide⟩ (Nat.le_of_ble_eq_true rfl) dX8_setReserve_7 (by decide) (by decide) (fun x4 μ3 => ?_)
  change V κ ρ 0 0 μ3 _ 10 [(0, .ref a0), (1, .int p1)] [.int x4, .ref a0]
  refine V_cV (As := [.int x4]) (rest := []) (C := RX8) (N := 1) F M (metX8_ends (Fx_G F) (Fx_l F) a0 x4 μ3) rfl q1318 q72 q1315 q1317 q25 ⟨by decide +kernel, by decide +kernel, by decide +kernel⟩ rfl ⟨by decide, by decide⟩ (Nat.le_of_ble_eq_true rfl) dX8_setReserve_10 (by decide) (by decide) (fun x6 μ5 => ?_)
  change V κ ρ 0 0 μ5 _ 13 [(0, .ref a0), (1, .int p1)] [.int x6]
  exact V_iret F M dX8_setReserve_13 rfl (by decide) (by decide)
/-! DroneLightShowModel.droneCount()I -/
abbrev rmX8_droneCount : Room := { frames := 0, cells := 0, slots := 0, locals := 0 }
def FX8_droneCount (a0 : Nat) (μ : Me) : Rs Int32 :=
  (pf μ a0 8 0 (.int 0) (fun μ1 => (gR μ1 a0 8 5 (fun x2 => (aI μ1 x2 0 (fun x3 => (rt x3 μ1)))))))
set_option maxHeartbeats 4000000 in
set_option maxRecDepth 100000 in
theorem metX8_droneCount {l : Launch} {s0 : State} {D : va_G} {aC : Nat → ClassId} (hG : Gl s0 D aC) (hl : l.stackTraces = false) (a0 : Nat) (μ : Me) : Ct l yX8_droneCount (ws_ yX8_droneCount cX8_droneCount 1 (some .int)) rmX8_droneCount s0 D aC (fun r : Int32 => some (.int r)) [.ref a0] μ (FX8_droneCount a0 μ) := by
  refine Ct_of hG hl (by decide +kernel) (Nat.le_of_ble_eq_true rfl) (fun κ ρ hNL F M hκ => ?_)
  have F : Fx κ cX8_droneCount RX8 := F
  change V κ ρ 0 0 μ (FX8_droneCount a0 μ) 0 [(0, .ref a0)] []
  unfold FX8_droneCount
  refine V_aload_n F dX8_droneCount_0 rfl 0 rfl ?_
  refine V_iconst (v := 0) F dX8_droneCount_1 (by decide) ?_
  refine V_pf (ci := 8) (k9 := 0) (C := RX8) (T := TX8) (N := 22) (ty := tyX8) F rfl hinX8 tyX8_ok nmX8 (by decide) q1208 rfl rfl rfl dX8_droneCount_2 (fun μ1 => ?_)
  refine V_aload_n F dX8_droneCount_5 rfl 0 rfl ?_
  refine V_gR (ci := 8) (k9 := 5) (C := RX8) (T := TX8) (N := 22) F rfl hinX8 (by decide) q1213 dX8_droneCount_6 (fun x2 => ?_)
  refine V_iconst (v := 0) F dX8_droneCount_9 (by decide) ?_
  refine V_aI F dX8_droneCount_10 (fun x3 => ?_)
  exact V_iret F M dX8_droneCount_11 rfl (by decide) (by decide)
/-! DroneLightShowModel.tells(II)I -/
abbrev rmX8_tells : Room := { frames := 2, cells := 0, slots := 0, locals := 43 }
def FX8_tells_B14  (v0 : Nat) (v1 : Int32) (v2 : Int32) (t0 : Int32) (t1 : Nat) (μ : Me) : Rs Int32 :=
  (pf μ t1 8 0 (.int t0) (fun μ5 => (gI μ5 v0 8 0 (fun x6 => (if x6 = 0 then (gR μ5 v0 8 5 (fun x9 => (bnd (FX8_of v1 v2 μ5) (fun x11 μ10 => (aI μ10 x9 x11 (fun x12 => (rt x12 μ10))))))) else (rt 0 μ5))))))
set_option maxHeartbeats 4000000 in
set_option maxRecDepth 100000 in
theorem VX8_tells_B14 {κ : Cx} {ρ : (Int32 ⊕ String) × Me} (F : Fx κ cX8_tells RX8) (M : Mx κ (fun r : Int32 => some (.int r)) ρ rmX8_tells (some .int) [] "tells") (hNL : κ.2.2.2.2.2.2.2.2.2.2.2.2.2.2 = 3)   (v0 : Nat) (v1 : Int32) (v2 : Int32) (t0 : Int32) (t1 : Nat) (μ : Me) : V κ ρ 0 0 μ (FX8_tells_B14  v0 v1 v2 t0 t1 μ) 14 [(0, .ref v0), (1, .int v1), (2, .int v2)] [.int t0, .ref t1] := by
  unfold FX8_tells_B14
  refine V_pf (ci := 8) (k9 := 0) (C := RX8) (T := TX8) (N := 22) (ty := tyX8) F rfl hinX8 tyX8_ok nmX8 (by decide) q1208 rfl rfl rfl dX8_tells_14 (fun μ5 => ?_)
  refine V_aload_n F dX8_tells_17 rfl 0 rfl ?_
  refine V_gI (ci := 8) (k9 := 0) (C := RX8) (T := TX8) (N := 22) F rfl hinX8 (by decide) q1208 dX8_tells_18 (fun x6 => ?_)
  refine V_if_ne (tgt := 37) F dX8_tells_21 (by decide) (fun c7 => ?_) (fun c8 => ?_)
  · refine V_iconst (v := 0) F dX8_tells_37 (by decide) ?_
    exact V_iret F M dX8_tells_38 rfl (by decide) (by decide)
  · refine V_aload_n F dX8_tells_24 rfl 0 rfl ?_
    refine V_gR (ci := 8) (k9 := 5) (C := RX8) (T := TX8) (N := 22) F rfl hinX8 (by decide) q1213 dX8_tells_25 (fun x9 => ?_)
    refine V_iload_n F dX8_tells_28 rfl 1 rfl ?_
    refine V_iload_n F dX8_tells_29 rfl 2 rfl ?_
    refine V_cS (As := [.int v1, .int v2]) (rest := [.ref x9]) (N := 2) F M (metX8_of (Fx_G F) (Fx_l F) v1 v2 μ5) q1310 q72 q1308 q1309 ⟨by decide +kernel, by decide +kernel, by decide +kernel⟩ rfl ⟨by decide, by decide⟩ (Nat.le_of_ble_eq_true rfl) dX8_tells_30 (by decide) (by decide) (fun x11 μ10 => ?_)
    change V κ ρ 0 0 μ10 _ 33 [(0, .ref v0), (1, .int v1), (2, .int v2)] [.int x11, .ref x9]
    refine V_aI F dX8_tells_33 (fun x12 => ?_)
    refine V_goto (tgt := 38) F dX8_tells_34 (by decide) ?_
    exact V_iret F M dX8_tells_38 rfl (by decide) (by decide)
def FX8_tells (a0 : Nat) (p1 : Int32) (p2 : Int32) (μ : Me) : Rs Int32 :=
  (bnd (vc μ a0 8 (FX8_isDrone a0 p1 μ)) (fun x2 μ1 => (if x2 = 0 then (FX8_tells_B14  a0 p1 p2 1 a0 μ1) else (FX8_tells_B14  a0 p1 p2 0 a0 μ1))))
set_option maxHeartbeats 4000000 in
set_option maxRecDepth 100000 in
theorem metX8_tells {l : Launch} {s0 : State} {D : va_G} {aC : Nat → ClassId} (hG : Gl s0 D aC) (hl : l.stackTraces = false) (a0 : Nat) (p1 : Int32) (p2 : Int32) (μ : Me) : Ct l yX8_tells (ws_ yX8_tells cX8_tells 3 (some .int)) rmX8_tells s0 D aC (fun r : Int32 => some (.int r)) [.ref a0, .int p1, .int p2] μ (FX8_tells a0 p1 p2 μ) := by
  refine Ct_of hG hl (by decide +kernel) (Nat.le_of_ble_eq_true rfl) (fun κ ρ hNL F M hκ => ?_)
  have F : Fx κ cX8_tells RX8 := F
  change V κ ρ 0 0 μ (FX8_tells a0 p1 p2 μ) 0 [(0, .ref a0), (1, .int p1), (2, .int p2)] []
  unfold FX8_tells
  refine V_aload_n F dX8_tells_0 rfl 0 rfl ?_
  refine V_aload_n F dX8_tells_1 rfl 0 rfl ?_
  refine V_iload_n F dX8_tells_2 rfl 1 rfl ?_
  refine V_cV (As := [.int p1]) (rest := [.ref a0]) (C := RX8) (N := 1) F M (metX8_isDrone (Fx_G F) (Fx_l F) a0 p1 μ) rfl q1342 q72 q1339 q1341 q29 ⟨by decide +kernel, by decide +kernel, by decide +kernel⟩ rfl ⟨by decide, by decide⟩ (Nat.le_of_ble_eq_true rfl) dX8_tells_3 (by decide) (by decide) (fun x2 μ1 => ?_)
  change V κ ρ 0 0 μ1 _ 6 [(0, .ref a0), (1, .int p1), (2, .int p2)] [.int x2, .ref a0]
  refine V_if_eq (tgt := 13) F dX8_tells_6 (by decide) (fun c3 => ?_) (fun c4 => ?_)
  · refine V_iconst (v := 1) F dX8_tells_13 (by decide) ?_
    refine V_sub [0, 1, 2] rfl ?_
    exact VX8_tells_B14 F M hNL  a0 p1 p2 1 a0 μ1
  · refine V_iconst (v := 0) F dX8_tells_9 (by decide) ?_
    refine V_goto (tgt := 14) F dX8_tells_10 (by decide) ?_
    refine V_sub [0, 1, 2] rfl ?_
    exact VX8_tells_B14 F M hNL  a0 p1 p2 0 a0 μ1
/-! DroneLightShowModel.cellOf(I)I -/
abbrev rmX8_cellOf : Room := { frames := 3, cells := 0, slots := 0, locals := 65 }
def FX8_cellOf (a0 : Nat) (p1 : Int32) (μ : Me) : Rs Int32 :=
  (bnd (vc μ a0 8 (FX8_tells a0 p1 0 μ)) (fun x2 μ1 => (rt x2 μ1)))
set_option maxHeartbeats 4000000 in
set_option maxRecDepth 100000 in
theorem metX8_cellOf {l : Launch} {s0 : State} {D : va_G} {aC : Nat → ClassId} (hG : Gl s0 D aC) (hl : l.stackTraces = false) (a0 : Nat) (p1 : Int32) (μ : Me) : Ct l yX8_cellOf (ws_ yX8_cellOf cX8_cellOf 2 (some .int)) rmX8_cellOf s0 D aC (fun r : Int32 => some (.int r)) [.ref a0, .int p1] μ (FX8_cellOf a0 p1 μ) := by
  refine Ct_of hG hl (by decide +kernel) (Nat.le_of_ble_eq_true rfl) (fun κ ρ hNL F M hκ => ?_)
  have F : Fx κ cX8_cellOf RX8 := F
  change V κ ρ 0 0 μ (FX8_cellOf a0 p1 μ) 0 [(0, .ref a0), (1, .int p1)] []
  unfold FX8_cellOf
  refine V_aload_n F dX8_cellOf_0 rfl 0 rfl ?_
  refine V_iload_n F dX8_cellOf_1 rfl 1 rfl ?_
  refine V_iconst (v := 0) F dX8_cellOf_2 (by decide) ?_
  refine V_cV (As := [.int p1, .int 0]) (rest := []) (C := RX8) (N := 2) F M (metX8_tells (Fx_G F) (Fx_l F) a0 p1 0 μ) rfl q1396 q72 q1393 q1395 q36 ⟨by decide +kernel, by decide +kernel, by decide +kernel⟩ rfl ⟨by decide, by decide⟩ (Nat.le_of_ble_eq_true rfl) dX8_cellOf_3 (by decide) (by decide) (fun x2 μ1 => ?_)
  change V κ ρ 0 0 μ1 _ 6 [(0, .ref a0), (1, .int p1)] [.int x2]
  exact V_iret F M dX8_cellOf_6 rfl (by decide) (by decide)
/-! DroneLightShowModel.battery(I)I -/
abbrev rmX8_battery : Room := { frames := 3, cells := 0, slots := 0, locals := 65 }
def FX8_battery (a0 : Nat) (p1 : Int32) (μ : Me) : Rs Int32 :=
  (bnd (vc μ a0 8 (FX8_tells a0 p1 2 μ)) (fun x2 μ1 => (rt x2 μ1)))
set_option maxHeartbeats 4000000 in
set_option maxRecDepth 100000 in
theorem metX8_battery {l : Launch} {s0 : State} {D : va_G} {aC : Nat → ClassId} (hG : Gl s0 D aC) (hl : l.stackTraces = false) (a0 : Nat) (p1 : Int32) (μ : Me) : Ct l yX8_battery (ws_ yX8_battery cX8_battery 2 (some .int)) rmX8_battery s0 D aC (fun r : Int32 => some (.int r)) [.ref a0, .int p1] μ (FX8_battery a0 p1 μ) := by
  refine Ct_of hG hl (by decide +kernel) (Nat.le_of_ble_eq_true rfl) (fun κ ρ hNL F M hκ => ?_)
  have F : Fx κ cX8_battery RX8 := F
  change V κ ρ 0 0 μ (FX8_battery a0 p1 μ) 0 [(0, .ref a0), (1, .int p1)] []
  unfold FX8_battery
  refine V_aload_n F dX8_battery_0 rfl 0 rfl ?_
  refine V_iload_n F dX8_battery_1 rfl 1 rfl ?_
  refine V_iconst (v := 2) F dX8_battery_2 (by decide) ?_
  refine V_cV (As := [.int p1, .int 2]) (rest := []) (C := RX8) (N := 2) F M (metX8_tells (Fx_G F) (Fx_l F) a0 p1 2 μ) rfl q1396 q72 q1393 q1395 q36 ⟨by decide +kernel, by decide +kernel, by decide +kernel⟩ rfl ⟨by decide, by decide⟩ (Nat.le_of_ble_eq_true rfl) dX8_battery_3 (by decide) (by decide) (fun x2 μ1 => ?_)
  change V κ ρ 0 0 μ1 _ 6 [(0, .ref a0), (1, .int p1)] [.int x2]
  exact V_iret F M dX8_battery_6 rfl (by decide) (by decide)
/-! DroneLightShowModel.isFlying(I)Z -/
abbrev rmX8_isFlying : Room := { frames := 3, cells := 0, slots := 0, locals := 65 }
def FX8_isFlying (a0 : Nat) (p1 : Int32) (μ : Me) : Rs Int32 :=
  (bnd (vc μ a0 8 (FX8_tells a0 p1 1 μ)) (fun x2 μ1 => (if x2 = 1 then (rt 1 μ1) else (rt 0 μ1))))
set_option maxHeartbeats 4000000 in
set_option maxRecDepth 100000 in
theorem metX8_isFlying {l : Launch} {s0 : State} {D : va_G} {aC : Nat → ClassId} (hG : Gl s0 D aC) (hl : l.stackTraces = false) (a0 : Nat) (p1 : Int32) (μ : Me) : Ct l yX8_isFlying (ws_ yX8_isFlying cX8_isFlying 2 (some .boolean)) rmX8_isFlying s0 D aC (fun r : Int32 => some (.int r)) [.ref a0, .int p1] μ (FX8_isFlying a0 p1 μ) := by
  refine Ct_of hG hl (by decide +kernel) (Nat.le_of_ble_eq_true rfl) (fun κ ρ hNL F M hκ => ?_)
  have F : Fx κ cX8_isFlying RX8 := F
  change V κ ρ 0 0 μ (FX8_isFlying a0 p1 μ) 0 [(0, .ref a0), (1, .int p1)] []
  unfold FX8_isFlying
  refine V_aload_n F dX8_isFlying_0 rfl 0 rfl ?_
  refine V_iload_n F dX8_isFlying_1 rfl 1 rfl ?_
  refine V_iconst (v := 1) F dX8_isFlying_2 (by decide) ?_
  refine V_cV (As := [.int p1, .int 1]) (rest := []) (C := RX8) (N := 2) F M (metX8_tells (Fx_G F) (Fx_l F) a0 p1 1 μ) rfl q1396 q72 q1393 q1395 q36 ⟨by decide +kernel, by decide +kernel, by decide +kernel⟩ rfl ⟨by decide, by decide⟩ (Nat.le_of_ble_eq_true rfl) dX8_isFlying_3 (by decide) (by decide) (fun x2 μ1 => ?_)
  change V κ ρ 0 0 μ1 _ 6 [(0, .ref a0), (1, .int p1)] [.int x2]
  refine V_iconst (v := 1) F dX8_isFlying_6 (by decide) ?_
  refine V_icmp_ne (tgt := 14) F dX8_isFlying_7 (by decide) (fun c3 => ?_) (fun c4 => ?_)
  · refine V_iconst (v := 0) F dX8_isFlying_14 (by decide) ?_
    exact V_zret F M dX8_isFlying_15 rfl (by decide) (by decide) (by decide)
  · refine V_iconst (v := 1) F dX8_isFlying_10 (by decide) ?_
    refine V_goto (tgt := 15) F dX8_isFlying_11 (by decide) ?_
    exact V_zret F M dX8_isFlying_15 rfl (by decide) (by decide) (by decide)
/-! DroneLightShowModel.isInEmergency(I)Z -/
abbrev rmX8_isInEmergency : Room := { frames := 3, cells := 0, slots := 0, locals := 65 }
def FX8_isInEmergency (a0 : Nat) (p1 : Int32) (μ : Me) : Rs Int32 :=
  (bnd (vc μ a0 8 (FX8_tells a0 p1 5 μ)) (fun x2 μ1 => (if x2 = 1 then (rt 1 μ1) else (rt 0 μ1))))
set_option maxHeartbeats 4000000 in
set_option maxRecDepth 100000 in
theorem metX8_isInEmergency {l : Launch} {s0 : State} {D : va_G} {aC : Nat → ClassId} (hG : Gl s0 D aC) (hl : l.stackTraces = false) (a0 : Nat) (p1 : Int32) (μ : Me) : Ct l yX8_isInEmergency (ws_ yX8_isInEmergency cX8_isInEmergency 2 (some .boolean)) rmX8_isInEmergency s0 D aC (fun r : Int32 => some (.int r)) [.ref a0, .int p1] μ (FX8_isInEmergency a0 p1 μ) := by
  refine Ct_of hG hl (by decide +kernel) (Nat.le_of_ble_eq_true rfl) (fun κ ρ hNL F M hκ => ?_)
  have F : Fx κ cX8_isInEmergency RX8 := F
  change V κ ρ 0 0 μ (FX8_isInEmergency a0 p1 μ) 0 [(0, .ref a0), (1, .int p1)] []
  unfold FX8_isInEmergency
  refine V_aload_n F dX8_isInEmergency_0 rfl 0 rfl ?_
  refine V_iload_n F dX8_isInEmergency_1 rfl 1 rfl ?_
  refine V_iconst (v := 5) F dX8_isInEmergency_2 (by decide) ?_
  refine V_cV (As := [.int p1, .int 5]) (rest := []) (C := RX8) (N := 2) F M (metX8_tells (Fx_G F) (Fx_l F) a0 p1 5 μ) rfl q1396 q72 q1393 q1395 q36 ⟨by decide +kernel, by decide +kernel, by decide +kernel⟩ rfl ⟨by decide, by decide⟩ (Nat.le_of_ble_eq_true rfl) dX8_isInEmergency_3 (by decide) (by decide) (fun x2 μ1 => ?_)
  change V κ ρ 0 0 μ1 _ 6 [(0, .ref a0), (1, .int p1)] [.int x2]
  refine V_iconst (v := 1) F dX8_isInEmergency_6 (by decide) ?_
  refine V_icmp_ne (tgt := 14) F dX8_isInEmergency_7 (by decide) (fun c3 => ?_) (fun c4 => ?_)
  · refine V_iconst (v := 0) F dX8_isInEmergency_14 (by decide) ?_
    exact V_zret F M dX8_isInEmergency_15 rfl (by decide) (by decide) (by decide)
  · refine V_iconst (v := 1) F dX8_isInEmergency_10 (by decide) ?_
    refine V_goto (tgt := 15) F dX8_isInEmergency_11 (by decide) ?_
    exact V_zret F M dX8_isInEmergency_15 rfl (by decide) (by decide) (by decide)
/-! DroneLightShowModel.target(I)I -/
abbrev rmX8_target : Room := { frames := 2, cells := 0, slots := 0, locals := 43 }
def FX8_target_B26  (v0 : Nat) (v1 : Int32) (t0 : Int32) (t1 : Nat) (μ : Me) : Rs Int32 :=
  (pf μ t1 8 0 (.int t0) (fun μ9 => (gI μ9 v0 8 0 (fun x10 => (if x10 = 0 then (bnd (vc μ9 v0 8 (FX8_goal v0 v1 μ9)) (fun x14 μ13 => (rt x14 μ13))) else (rt 0 μ9))))))
set_option maxHeartbeats 4000000 in
set_option maxRecDepth 100000 in
theorem VX8_target_B26 {κ : Cx} {ρ : (Int32 ⊕ String) × Me} (F : Fx κ cX8_target RX8) (M : Mx κ (fun r : Int32 => some (.int r)) ρ rmX8_target (some .int) [] "target") (hNL : κ.2.2.2.2.2.2.2.2.2.2.2.2.2.2 = 2)   (v0 : Nat) (v1 : Int32) (t0 : Int32) (t1 : Nat) (μ : Me) : V κ ρ 0 0 μ (FX8_target_B26  v0 v1 t0 t1 μ) 26 [(0, .ref v0), (1, .int v1)] [.int t0, .ref t1] := by
  unfold FX8_target_B26
  refine V_pf (ci := 8) (k9 := 0) (C := RX8) (T := TX8) (N := 22) (ty := tyX8) F rfl hinX8 tyX8_ok nmX8 (by decide) q1208 rfl rfl rfl dX8_target_26 (fun μ9 => ?_)
  refine V_aload_n F dX8_target_29 rfl 0 rfl ?_
  refine V_gI (ci := 8) (k9 := 0) (C := RX8) (T := TX8) (N := 22) F rfl hinX8 (by decide) q1208 dX8_target_30 (fun x10 => ?_)
  refine V_if_ne (tgt := 44) F dX8_target_33 (by decide) (fun c11 => ?_) (fun c12 => ?_)
  · refine V_iconst (v := 0) F dX8_target_44 (by decide) ?_
    exact V_iret F M dX8_target_45 rfl (by decide) (by decide)
  · refine V_aload_n F dX8_target_36 rfl 0 rfl ?_
    refine V_iload_n F dX8_target_37 rfl 1 rfl ?_
    refine V_cV (As := [.int v1]) (rest := []) (C := RX8) (N := 1) F M (metX8_goal (Fx_G F) (Fx_l F) v0 v1 μ9) rfl q1416 q72 q1413 q1415 q37 ⟨by decide +kernel, by decide +kernel, by decide +kernel⟩ rfl ⟨by decide, by decide⟩ (Nat.le_of_ble_eq_true rfl) dX8_target_38 (by decide) (by decide) (fun x14 μ13 => ?_)
    change V κ ρ 0 0 μ13 _ 41 [(0, .ref v0), (1, .int v1)] [.int x14]
    refine V_goto (tgt := 45) F dX8_target_41 (by decide) ?_
    exact V_iret F M dX8_target_45 rfl (by decide) (by decide)
def FX8_target (a0 : Nat) (p1 : Int32) (μ : Me) : Rs Int32 :=
  (bnd (vc μ a0 8 (FX8_isDrone a0 p1 μ)) (fun x2 μ1 => (if x2 = 0 then (FX8_target_B26  a0 p1 1 a0 μ1) else (bnd (vc μ1 a0 8 (FX8_goal a0 p1 μ1)) (fun x6 μ5 => (if 0 ≤ x6 then (FX8_target_B26  a0 p1 0 a0 μ5) else (FX8_target_B26  a0 p1 2 a0 μ5)))))))
set_option maxHeartbeats 4000000 in
set_option maxRecDepth 100000 in
theorem metX8_target {l : Launch} {s0 : State} {D : va_G} {aC : Nat → ClassId} (hG : Gl s0 D aC) (hl : l.stackTraces = false) (a0 : Nat) (p1 : Int32) (μ : Me) : Ct l yX8_target (ws_ yX8_target cX8_target 2 (some .int)) rmX8_target s0 D aC (fun r : Int32 => some (.int r)) [.ref a0, .int p1] μ (FX8_target a0 p1 μ) := by
  refine Ct_of hG hl (by decide +kernel) (Nat.le_of_ble_eq_true rfl) (fun κ ρ hNL F M hκ => ?_)
  have F : Fx κ cX8_target RX8 := F
  change V κ ρ 0 0 μ (FX8_target a0 p1 μ) 0 [(0, .ref a0), (1, .int p1)] []
  unfold FX8_target
  refine V_aload_n F dX8_target_0 rfl 0 rfl ?_
  refine V_aload_n F dX8_target_1 rfl 0 rfl ?_
  refine V_iload_n F dX8_target_2 rfl 1 rfl ?_
  refine V_cV (As := [.int p1]) (rest := [.ref a0]) (C := RX8) (N := 1) F M (metX8_isDrone (Fx_G F) (Fx_l F) a0 p1 μ) rfl q1342 q72 q1339 q1341 q29 ⟨by decide +kernel, by decide +kernel, by decide +kernel⟩ rfl ⟨by decide, by decide⟩ (Nat.le_of_ble_eq_true rfl) dX8_target_3 (by decide) (by decide) (fun x2 μ1 => ?_)
  change V κ ρ 0 0 μ1 _ 6 [(0, .ref a0), (1, .int p1)] [.int x2, .ref a0]
  refine V_if_ne (tgt := 13) F dX8_target_6 (by decide) (fun c3 => ?_) (fun c4 => ?_)
  · refine V_aload_n F dX8_target_13 rfl 0 rfl ?_
    refine V_iload_n F dX8_target_14 rfl 1 rfl ?_
    refine V_cV (As := [.int p1]) (rest := [.ref a0]) (C := RX8) (N := 1) F M (metX8_goal (Fx_G F) (Fx_l F) a0 p1 μ1) rfl q1416 q72 q1413 q1415 q37 ⟨by decide +kernel, by decide +kernel, by decide +kernel⟩ rfl ⟨by decide, by decide⟩ (Nat.le_of_ble_eq_true rfl) dX8_target_15 (by decide) (by decide) (fun x6 μ5 => ?_)
    change V κ ρ 0 0 μ5 _ 18 [(0, .ref a0), (1, .int p1)] [.int x6, .ref a0]
    refine V_if_ge (tgt := 25) F dX8_target_18 (by decide) (fun c7 => ?_) (fun c8 => ?_)
    · refine V_iconst (v := 0) F dX8_target_25 (by decide) ?_
      refine V_sub [0, 1] rfl ?_
      exact VX8_target_B26 F M hNL  a0 p1 0 a0 μ5
    · refine V_iconst (v := 2) F dX8_target_21 (by decide) ?_
      refine V_goto (tgt := 26) F dX8_target_22 (by decide) ?_
      refine V_sub [0, 1] rfl ?_
      exact VX8_target_B26 F M hNL  a0 p1 2 a0 μ5
  · refine V_iconst (v := 1) F dX8_target_9 (by decide) ?_
    refine V_goto (tgt := 26) F dX8_target_10 (by decide) ?_
    refine V_sub [0, 1] rfl ?_
    exact VX8_target_B26 F M hNL  a0 p1 1 a0 μ1
/-! DroneLightShowModel.colour(I)I -/
abbrev rmX8_colour : Room := { frames := 3, cells := 0, slots := 0, locals := 65 }
def FX8_colour (a0 : Nat) (p1 : Int32) (μ : Me) : Rs Int32 :=
  (bnd (vc μ a0 8 (FX8_tells a0 p1 3 μ)) (fun x2 μ1 => (rt x2 μ1)))
set_option maxHeartbeats 4000000 in
set_option maxRecDepth 100000 in
theorem metX8_colour {l : Launch} {s0 : State} {D : va_G} {aC : Nat → ClassId} (hG : Gl s0 D aC) (hl : l.stackTraces = false) (a0 : Nat) (p1 : Int32) (μ : Me) : Ct l yX8_colour (ws_ yX8_colour cX8_colour 2 (some .int)) rmX8_colour s0 D aC (fun r : Int32 => some (.int r)) [.ref a0, .int p1] μ (FX8_colour a0 p1 μ) := by
  refine Ct_of hG hl (by decide +kernel) (Nat.le_of_ble_eq_true rfl) (fun κ ρ hNL F M hκ => ?_)
  have F : Fx κ cX8_colour RX8 := F
  change V κ ρ 0 0 μ (FX8_colour a0 p1 μ) 0 [(0, .ref a0), (1, .int p1)] []
  unfold FX8_colour
  refine V_aload_n F dX8_colour_0 rfl 0 rfl ?_
  refine V_iload_n F dX8_colour_1 rfl 1 rfl ?_
  refine V_iconst (v := 3) F dX8_colour_2 (by decide) ?_
  refine V_cV (As := [.int p1, .int 3]) (rest := []) (C := RX8) (N := 2) F M (metX8_tells (Fx_G F) (Fx_l F) a0 p1 3 μ) rfl q1396 q72 q1393 q1395 q36 ⟨by decide +kernel, by decide +kernel, by decide +kernel⟩ rfl ⟨by decide, by decide⟩ (Nat.le_of_ble_eq_true rfl) dX8_colour_3 (by decide) (by decide) (fun x2 μ1 => ?_)
  change V κ ρ 0 0 μ1 _ 6 [(0, .ref a0), (1, .int p1)] [.int x2]
  exact V_iret F M dX8_colour_6 rfl (by decide) (by decide)
/-! DroneLightShowModel.droneAt(I)I -/
abbrev rmX8_droneAt : Room := { frames := 2, cells := 0, slots := 0, locals := 43 }
def FX8_droneAt_B29  (v0 : Nat) (v2 : Int32) (t0 : Int32) (t1 : Nat) (μ : Me) : Rs Int32 :=
  (pf μ t1 8 0 (.int t0) (fun μ9 => (gI μ9 v0 8 0 (fun x10 => (if x10 = 0 then (rt v2 μ9) else (rt 0 μ9))))))
set_option maxHeartbeats 4000000 in
set_option maxRecDepth 100000 in
theorem VX8_droneAt_B29 {κ : Cx} {ρ : (Int32 ⊕ String) × Me} (F : Fx κ cX8_droneAt RX8) (M : Mx κ (fun r : Int32 => some (.int r)) ρ rmX8_droneAt (some .int) [] "droneAt") (hNL : κ.2.2.2.2.2.2.2.2.2.2.2.2.2.2 = 3)   (v0 : Nat) (v2 : Int32) (t0 : Int32) (t1 : Nat) (μ : Me) : V κ ρ 0 0 μ (FX8_droneAt_B29  v0 v2 t0 t1 μ) 29 [(0, .ref v0), (2, .int v2)] [.int t0, .ref t1] := by
  unfold FX8_droneAt_B29
  refine V_pf (ci := 8) (k9 := 0) (C := RX8) (T := TX8) (N := 22) (ty := tyX8) F rfl hinX8 tyX8_ok nmX8 (by decide) q1208 rfl rfl rfl dX8_droneAt_29 (fun μ9 => ?_)
  refine V_aload_n F dX8_droneAt_32 rfl 0 rfl ?_
  refine V_gI (ci := 8) (k9 := 0) (C := RX8) (T := TX8) (N := 22) F rfl hinX8 (by decide) q1208 dX8_droneAt_33 (fun x10 => ?_)
  refine V_if_ne (tgt := 43) F dX8_droneAt_36 (by decide) (fun c11 => ?_) (fun c12 => ?_)
  · refine V_iconst (v := 0) F dX8_droneAt_43 (by decide) ?_
    exact V_iret F M dX8_droneAt_44 rfl (by decide) (by decide)
  · refine V_iload_n F dX8_droneAt_39 rfl 1 rfl ?_
    refine V_goto (tgt := 44) F dX8_droneAt_40 (by decide) ?_
    exact V_iret F M dX8_droneAt_44 rfl (by decide) (by decide)
def FX8_droneAt (a0 : Nat) (p1 : Int32) (μ : Me) : Rs Int32 :=
  (bnd (FX8_isCell p1 μ) (fun x2 μ1 => (if x2 = 0 then (bnd (vc μ1 a0 8 (FX8_fail a0 1 μ1)) (fun x14 μ13 => (rt x14 μ13))) else (bnd (vc μ1 a0 8 (FX8_in a0 p1 μ1)) (fun x6 μ5 => (if 0 ≤ x6 then (FX8_droneAt_B29  a0 x6 0 a0 μ5) else (FX8_droneAt_B29  a0 x6 2 a0 μ5)))))))
set_option maxHeartbeats 4000000 in
set_option maxRecDepth 100000 in
theorem metX8_droneAt {l : Launch} {s0 : State} {D : va_G} {aC : Nat → ClassId} (hG : Gl s0 D aC) (hl : l.stackTraces = false) (a0 : Nat) (p1 : Int32) (μ : Me) : Ct l yX8_droneAt (ws_ yX8_droneAt cX8_droneAt 3 (some .int)) rmX8_droneAt s0 D aC (fun r : Int32 => some (.int r)) [.ref a0, .int p1] μ (FX8_droneAt a0 p1 μ) := by
  refine Ct_of hG hl (by decide +kernel) (Nat.le_of_ble_eq_true rfl) (fun κ ρ hNL F M hκ => ?_)
  have F : Fx κ cX8_droneAt RX8 := F
  change V κ ρ 0 0 μ (FX8_droneAt a0 p1 μ) 0 [(0, .ref a0), (1, .int p1)] []
  unfold FX8_droneAt
  refine V_iload_n F dX8_droneAt_0 rfl 1 rfl ?_
  refine V_cS (As := [.int p1]) (rest := []) (N := 1) F M (metX8_isCell (Fx_G F) (Fx_l F) p1 μ) q1296 q72 q1294 q1295 ⟨by decide +kernel, by decide +kernel, by decide +kernel⟩ rfl ⟨by decide, by decide⟩ (Nat.le_of_ble_eq_true rfl) dX8_droneAt_1 (by decide) (by decide) (fun x2 μ1 => ?_)
  change V κ ρ 0 0 μ1 _ 4 [(0, .ref a0), (1, .int p1)] [.int x2]
  refine V_if_ne (tgt := 13) F dX8_droneAt_4 (by decide) (fun c3 => ?_) (fun c4 => ?_)
  · refine V_aload_n F dX8_droneAt_13 rfl 0 rfl ?_
    refine V_iload_n F dX8_droneAt_14 rfl 1 rfl ?_
    refine V_cV (As := [.int p1]) (rest := []) (C := RX8) (N := 1) F M (metX8_in (Fx_G F) (Fx_l F) a0 p1 μ1) rfl q1307 q72 q1304 q1306 q23 ⟨by decide +kernel, by decide +kernel, by decide +kernel⟩ rfl ⟨by decide, by decide⟩ (Nat.le_of_ble_eq_true rfl) dX8_droneAt_15 (by decide) (by decide) (fun x6 μ5 => ?_)
    change V κ ρ 0 0 μ5 _ 18 [(0, .ref a0), (1, .int p1)] [.int x6]
    refine V_istore_n (lv' := [(2, .int x6), (0, .ref a0), (1, .int p1)]) F dX8_droneAt_18 rfl (lt_L hNL (by decide)) rfl ?_
    refine V_aload_n F dX8_droneAt_19 rfl 1 rfl ?_
    refine V_iload_n F dX8_droneAt_20 rfl 0 rfl ?_
    refine V_if_ge (tgt := 28) F dX8_droneAt_21 (by decide) (fun c7 => ?_) (fun c8 => ?_)
    · refine V_iconst (v := 0) F dX8_droneAt_28 (by decide) ?_
      refine V_sub [1, 0] rfl ?_
      exact VX8_droneAt_B29 F M hNL  a0 x6 0 a0 μ5
    · refine V_iconst (v := 2) F dX8_droneAt_24 (by decide) ?_
      refine V_goto (tgt := 29) F dX8_droneAt_25 (by decide) ?_
      refine V_sub [1, 0] rfl ?_
      exact VX8_droneAt_B29 F M hNL  a0 x6 2 a0 μ5
  · refine V_aload_n F dX8_droneAt_7 rfl 0 rfl ?_
    refine V_iconst (v := 1) F dX8_droneAt_8 (by decide) ?_
    refine V_cV (As := [.int 1]) (rest := []) (C := RX8) (N := 1) F M (metX8_fail (Fx_G F) (Fx_l F) a0 1 μ1) rfl q1303 q72 q1300 q1302 q22 ⟨by decide +kernel, by decide +kernel, by decide +kernel⟩ rfl ⟨by decide, by decide⟩ (Nat.le_of_ble_eq_true rfl) dX8_droneAt_9 (by decide) (by decide) (fun x14 μ13 => ?_)
    change V κ ρ 0 0 μ13 _ 12 [(0, .ref a0), (1, .int p1)] [.int x14]
    exact V_iret F M dX8_droneAt_12 rfl (by decide) (by decide)
/-! DroneLightShowModel.isPad(I)Z -/
abbrev rmX8_isPad : Room := { frames := 2, cells := 0, slots := 0, locals := 42 }
def FX8_isPad_B13  (v0 : Nat) (v1 : Int32) (t0 : Int32) (t1 : Nat) (μ : Me) : Rs Int32 :=
  (pf μ t1 8 0 (.int t0) (fun μ5 => (gI μ5 v0 8 0 (fun x6 => (if x6 = 0 then (bnd (vc μ5 v0 8 (FX8_isPadCell v0 v1 μ5)) (fun x10 μ9 => (if x10 = 0 then (rt 0 μ9) else (rt 1 μ9)))) else (rt 0 μ5))))))
set_option maxHeartbeats 4000000 in
set_option maxRecDepth 100000 in
theorem VX8_isPad_B13 {κ : Cx} {ρ : (Int32 ⊕ String) × Me} (F : Fx κ cX8_isPad RX8) (M : Mx κ (fun r : Int32 => some (.int r)) ρ rmX8_isPad (some .boolean) [] "isPad") (hNL : κ.2.2.2.2.2.2.2.2.2.2.2.2.2.2 = 2)   (v0 : Nat) (v1 : Int32) (t0 : Int32) (t1 : Nat) (μ : Me) : V κ ρ 0 0 μ (FX8_isPad_B13  v0 v1 t0 t1 μ) 13 [(0, .ref v0), (1, .int v1)] [.int t0, .ref t1] := by
  unfold FX8_isPad_B13
  refine V_pf (ci := 8) (k9 := 0) (C := RX8) (T := TX8) (N := 22) (ty := tyX8) F rfl hinX8 tyX8_ok nmX8 (by decide) q1208 rfl rfl rfl dX8_isPad_13 (fun μ5 => ?_)
  refine V_aload_n F dX8_isPad_16 rfl 0 rfl ?_
  refine V_gI (ci := 8) (k9 := 0) (C := RX8) (T := TX8) (N := 22) F rfl hinX8 (by decide) q1208 dX8_isPad_17 (fun x6 => ?_)
  refine V_if_ne (tgt := 35) F dX8_isPad_20 (by decide) (fun c7 => ?_) (fun c8 => ?_)
  · refine V_iconst (v := 0) F dX8_isPad_35 (by decide) ?_
    exact V_zret F M dX8_isPad_36 rfl (by decide) (by decide) (by decide)
  · refine V_aload_n F dX8_isPad_23 rfl 0 rfl ?_
    refine V_iload_n F dX8_isPad_24 rfl 1 rfl ?_
    refine V_cV (As := [.int v1]) (rest := []) (C := RX8) (N := 1) F M (metX8_isPadCell (Fx_G F) (Fx_l F) v0 v1 μ5) rfl q1330 q72 q1327 q1329 q27 ⟨by decide +kernel, by decide +kernel, by decide +kernel⟩ rfl ⟨by decide, by decide⟩ (Nat.le_of_ble_eq_true rfl) dX8_isPad_25 (by decide) (by decide) (fun x10 μ9 => ?_)
    change V κ ρ 0 0 μ9 _ 28 [(0, .ref v0), (1, .int v1)] [.int x10]
    refine V_if_eq (tgt := 35) F dX8_isPad_28 (by decide) (fun c11 => ?_) (fun c12 => ?_)
    · refine V_iconst (v := 0) F dX8_isPad_35 (by decide) ?_
      exact V_zret F M dX8_isPad_36 rfl (by decide) (by decide) (by decide)
    · refine V_iconst (v := 1) F dX8_isPad_31 (by decide) ?_
      refine V_goto (tgt := 36) F dX8_isPad_32 (by decide) ?_
      exact V_zret F M dX8_isPad_36 rfl (by decide) (by decide) (by decide)
def FX8_isPad (a0 : Nat) (p1 : Int32) (μ : Me) : Rs Int32 :=
  (bnd (FX8_isCell p1 μ) (fun x2 μ1 => (if x2 = 0 then (FX8_isPad_B13  a0 p1 1 a0 μ1) else (FX8_isPad_B13  a0 p1 0 a0 μ1))))
set_option maxHeartbeats 4000000 in
set_option maxRecDepth 100000 in
theorem metX8_isPad {l : Launch} {s0 : State} {D : va_G} {aC : Nat → ClassId} (hG : Gl s0 D aC) (hl : l.stackTraces = false) (a0 : Nat) (p1 : Int32) (μ : Me) : Ct l yX8_isPad (ws_ yX8_isPad cX8_isPad 2 (some .boolean)) rmX8_isPad s0 D aC (fun r : Int32 => some (.int r)) [.ref a0, .int p1] μ (FX8_isPad a0 p1 μ) := by
  refine Ct_of hG hl (by decide +kernel) (Nat.le_of_ble_eq_true rfl) (fun κ ρ hNL F M hκ => ?_)
  have F : Fx κ cX8_isPad RX8 := F
  change V κ ρ 0 0 μ (FX8_isPad a0 p1 μ) 0 [(0, .ref a0), (1, .int p1)] []
  unfold FX8_isPad
  refine V_aload_n F dX8_isPad_0 rfl 0 rfl ?_
  refine V_iload_n F dX8_isPad_1 rfl 1 rfl ?_
  refine V_cS (As := [.int p1]) (rest := [.ref a0]) (N := 1) F M (metX8_isCell (Fx_G F) (Fx_l F) p1 μ) q1296 q72 q1294 q1295 ⟨by decide +kernel, by decide +kernel, by decide +kernel⟩ rfl ⟨by decide, by decide⟩ (Nat.le_of_ble_eq_true rfl) dX8_isPad_2 (by decide) (by decide) (fun x2 μ1 => ?_)
  change V κ ρ 0 0 μ1 _ 5 [(0, .ref a0), (1, .int p1)] [.int x2, .ref a0]
  refine V_if_eq (tgt := 12) F dX8_isPad_5 (by decide) (fun c3 => ?_) (fun c4 => ?_)
  · refine V_iconst (v := 1) F dX8_isPad_12 (by decide) ?_
    refine V_sub [0, 1] rfl ?_
    exact VX8_isPad_B13 F M hNL  a0 p1 1 a0 μ1
  · refine V_iconst (v := 0) F dX8_isPad_8 (by decide) ?_
    refine V_goto (tgt := 13) F dX8_isPad_9 (by decide) ?_
    refine V_sub [0, 1] rfl ?_
    exact VX8_isPad_B13 F M hNL  a0 p1 0 a0 μ1
/-! DroneLightShowModel.nearest(I)I -/
abbrev rmX8_nearest : Room := { frames := 2, cells := 0, slots := 0, locals := 41 }
def FX8_nearest_B79 (k22 : Nat → Int32 → Int32 → Int32 → Me → Rs Int32) (v0 : Nat) (v2 : Int32) (v4 : Int32) (μ : Me) : Rs Int32 :=
  (gR μ v0 8 5 (fun x19 => (aI μ x19 (9 + v4) (fun x20 => (k22 v0 v2 x20 (v4 + 1) μ)))))
set_option maxHeartbeats 4000000 in
set_option maxRecDepth 100000 in
theorem VX8_nearest_B79 {κ : Cx} {ρ : (Int32 ⊕ String) × Me} (F : Fx κ cX8_nearest RX8) (M : Mx κ (fun r : Int32 => some (.int r)) ρ rmX8_nearest (some .int) [] "nearest") (hNL : κ.2.2.2.2.2.2.2.2.2.2.2.2.2.2 = 6) {k22 : Nat → Int32 → Int32 → Int32 → Me → Rs Int32} (hk22 : ∀ (v0 : Nat) (v2 : Int32) (v3 : Int32) (v4 : Int32) (μ : Me), V κ ρ 0 0 μ (k22 v0 v2 v3 v4 μ) 22 [(0, .ref v0), (2, .int v2), (3, .int v3), (4, .int v4)] []) (v0 : Nat) (v2 : Int32) (v4 : Int32) (μ : Me) : V κ ρ 0 0 μ (FX8_nearest_B79 k22 v0 v2 v4 μ) 79 [(0, .ref v0), (2, .int v2), (4, .int v4)] [] := by
  unfold FX8_nearest_B79
  refine V_aload_n F dX8_nearest_79 rfl 0 rfl ?_
  refine V_gR (ci := 8) (k9 := 5) (C := RX8) (T := TX8) (N := 22) F rfl hinX8 (by decide) q1213 dX8_nearest_80 (fun x19 => ?_)
  refine V_bipush (v := 9) F dX8_nearest_83 (by decide) ?_
  refine V_iload F dX8_nearest_85 2 rfl ?_
  refine V_iadd F dX8_nearest_87 ?_
  refine V_aI F dX8_nearest_88 (fun x20 => ?_)
  refine V_goto (tgt := 93) F dX8_nearest_89 (by decide) ?_
  refine V_istore_n (lv' := [(3, .int x20), (0, .ref v0), (2, .int v2), (4, .int v4)]) F dX8_nearest_93 rfl (lt_L hNL (by decide)) rfl ?_
  refine V_iinc (lv' := [(4, .int (v4 + 1)), (3, .int x20), (0, .ref v0), (2, .int v2)]) F dX8_nearest_94 3 rfl rfl (lt_L hNL (by decide)) rfl ?_
  refine V_goto (tgt := 22) F dX8_nearest_97 (by decide) ?_
  refine V_sub [2, 3, 1, 0] rfl ?_
  exact hk22 v0 v2 x20 (v4 + 1) μ
def FX8_nearest_B22 (k22 : Nat → Int32 → Int32 → Int32 → Me → Rs Int32) (v0 : Nat) (v2 : Int32) (v3 : Int32) (v4 : Int32) (μ : Me) : Rs Int32 :=
  (gR μ v0 8 5 (fun x7 => (aI μ x7 1 (fun x8 => (if x8 ≤ v4 then (rt v3 μ) else (gR μ v0 8 5 (fun x11 => (aI μ x11 (9 + v4) (fun x12 => (bnd (FX8_far v2 x12 μ) (fun x14 μ13 => (bnd (FX8_far v2 v3 μ13) (fun x16 μ15 => (if (x14 - x16) < 0 then (FX8_nearest_B79 k22 v0 v2 v4 μ15) else (if (x14 - x16) = 0 then (gR μ15 v0 8 5 (fun x23 => (aI μ15 x23 (9 + v4) (fun x24 => (if v3 ≤ x24 then (k22 v0 v2 v3 (v4 + 1) μ15) else (FX8_nearest_B79 k22 v0 v2 v4 μ15)))))) else (k22 v0 v2 v3 (v4 + 1) μ15))))))))))))))))
set_option maxHeartbeats 4000000 in
set_option maxRecDepth 100000 in
theorem VX8_nearest_B22 {κ : Cx} {ρ : (Int32 ⊕ String) × Me} (F : Fx κ cX8_nearest RX8) (M : Mx κ (fun r : Int32 => some (.int r)) ρ rmX8_nearest (some .int) [] "nearest") (hNL : κ.2.2.2.2.2.2.2.2.2.2.2.2.2.2 = 6) {k22 : Nat → Int32 → Int32 → Int32 → Me → Rs Int32} (hk22 : ∀ (v0 : Nat) (v2 : Int32) (v3 : Int32) (v4 : Int32) (μ : Me), V κ ρ 0 0 μ (k22 v0 v2 v3 v4 μ) 22 [(0, .ref v0), (2, .int v2), (3, .int v3), (4, .int v4)] []) (v0 : Nat) (v2 : Int32) (v3 : Int32) (v4 : Int32) (μ : Me) : V κ ρ 0 0 μ (FX8_nearest_B22 k22 v0 v2 v3 v4 μ) 22 [(0, .ref v0), (2, .int v2), (3, .int v3), (4, .int v4)] [] := by
  unfold FX8_nearest_B22
  refine V_iload F dX8_nearest_22 3 rfl ?_
  refine V_aload_n F dX8_nearest_24 rfl 0 rfl ?_
  refine V_gR (ci := 8) (k9 := 5) (C := RX8) (T := TX8) (N := 22) F rfl hinX8 (by decide) q1213 dX8_nearest_25 (fun x7 => ?_)
  refine V_iconst (v := 1) F dX8_nearest_28 (by decide) ?_
  refine V_aI F dX8_nearest_29 (fun x8 => ?_)
  refine V_icmp_ge (tgt := 100) F dX8_nearest_30 (by decide) (fun c9 => ?_) (fun c10 => ?_)
  · refine V_iload_n F dX8_nearest_100 rfl 2 rfl ?_
    exact V_iret F M dX8_nearest_101 rfl (by decide) (by decide)
  · refine V_iload_n F dX8_nearest_33 rfl 1 rfl ?_
    refine V_aload_n F dX8_nearest_34 rfl 0 rfl ?_
    refine V_gR (ci := 8) (k9 := 5) (C := RX8) (T := TX8) (N := 22) F rfl hinX8 (by decide) q1213 dX8_nearest_35 (fun x11 => ?_)
    refine V_bipush (v := 9) F dX8_nearest_38 (by decide) ?_
    refine V_iload F dX8_nearest_40 3 rfl ?_
    refine V_iadd F dX8_nearest_42 ?_
    refine V_aI F dX8_nearest_43 (fun x12 => ?_)
    refine V_cS (As := [.int v2, .int x12]) (rest := []) (N := 2) F M (metX8_far (Fx_G F) (Fx_l F) v2 x12 μ) q1373 q72 q1371 q1372 ⟨by decide +kernel, by decide +kernel, by decide +kernel⟩ rfl ⟨by decide, by decide⟩ (Nat.le_of_ble_eq_true rfl) dX8_nearest_44 (by decide) (by decide) (fun x14 μ13 => ?_)
    change V κ ρ 0 0 μ13 _ 47 [(0, .ref v0), (2, .int v2), (3, .int v3), (4, .int v4)] [.int x14]
    refine V_iload_n F dX8_nearest_47 rfl 1 rfl ?_
    refine V_iload_n F dX8_nearest_48 rfl 2 rfl ?_
    refine V_cS (As := [.int v2, .int v3]) (rest := [.int x14]) (N := 2) F M (metX8_far (Fx_G F) (Fx_l F) v2 v3 μ13) q1373 q72 q1371 q1372 ⟨by decide +kernel, by decide +kernel, by decide +kernel⟩ rfl ⟨by decide, by decide⟩ (Nat.le_of_ble_eq_true rfl) dX8_nearest_49 (by decide) (by decide) (fun x16 μ15 => ?_)
    change V κ ρ 0 0 μ15 _ 52 [(0, .ref v0), (2, .int v2), (3, .int v3), (4, .int v4)] [.int x16, .int x14]
    refine V_isub F dX8_nearest_52 ?_
    refine V_istore (lv' := [(5, .int (x14 - x16)), (0, .ref v0), (2, .int v2), (3, .int v3), (4, .int v4)]) F dX8_nearest_53 (lt_L hNL (by decide)) rfl ?_
    refine V_iload F dX8_nearest_55 0 rfl ?_
    refine V_if_lt (tgt := 79) F dX8_nearest_57 (by decide) (fun c17 => ?_) (fun c18 => ?_)
    · refine V_sub [1, 2, 4] rfl ?_
      exact VX8_nearest_B79 F M hNL hk22 v0 v2 v4 μ15
    · refine V_iload F dX8_nearest_60 0 rfl ?_
      refine V_if_ne (tgt := 92) F dX8_nearest_62 (by decide) (fun c21 => ?_) (fun c22 => ?_)
      · refine V_iload_n F dX8_nearest_92 rfl 3 rfl ?_
        refine V_istore_n (lv' := [(3, .int v3), (5, .int (x14 - x16)), (0, .ref v0), (2, .int v2), (4, .int v4)]) F dX8_nearest_93 rfl (lt_L hNL (by decide)) rfl ?_
        refine V_iinc (lv' := [(4, .int (v4 + 1)), (3, .int v3), (5, .int (x14 - x16)), (0, .ref v0), (2, .int v2)]) F dX8_nearest_94 4 rfl rfl (lt_L hNL (by decide)) rfl ?_
        refine V_goto (tgt := 22) F dX8_nearest_97 (by decide) ?_
        refine V_sub [3, 4, 1, 0] rfl ?_
        exact hk22 v0 v2 v3 (v4 + 1) μ15
      · refine V_aload_n F dX8_nearest_65 rfl 1 rfl ?_
        refine V_gR (ci := 8) (k9 := 5) (C := RX8) (T := TX8) (N := 22) F rfl hinX8 (by decide) q1213 dX8_nearest_66 (fun x23 => ?_)
        refine V_bipush (v := 9) F dX8_nearest_69 (by decide) ?_
        refine V_iload F dX8_nearest_71 4 rfl ?_
        refine V_iadd F dX8_nearest_73 ?_
        refine V_aI F dX8_nearest_74 (fun x24 => ?_)
        refine V_iload_n F dX8_nearest_75 rfl 3 rfl ?_
        refine V_icmp_ge (tgt := 92) F dX8_nearest_76 (by decide) (fun c25 => ?_) (fun c26 => ?_)
        · refine V_iload_n F dX8_nearest_92 rfl 3 rfl ?_
          refine V_istore_n (lv' := [(3, .int v3), (5, .int (x14 - x16)), (0, .ref v0), (2, .int v2), (4, .int v4)]) F dX8_nearest_93 rfl (lt_L hNL (by decide)) rfl ?_
          refine V_iinc (lv' := [(4, .int (v4 + 1)), (3, .int v3), (5, .int (x14 - x16)), (0, .ref v0), (2, .int v2)]) F dX8_nearest_94 4 rfl rfl (lt_L hNL (by decide)) rfl ?_
          refine V_goto (tgt := 22) F dX8_nearest_97 (by decide) ?_
          refine V_sub [3, 4, 1, 0] rfl ?_
          exact hk22 v0 v2 v3 (v4 + 1) μ15
        · refine V_sub [1, 2, 4] rfl ?_
          exact VX8_nearest_B79 F M hNL hk22 v0 v2 v4 μ15
def FX8_nearest_L22  : Nat → Nat → Int32 → Int32 → Int32 → Me → Rs Int32
  | 0, _, _, _, _, _ => none
  | f + 1, v0, v2, v3, v4, μ => FX8_nearest_B22 (FX8_nearest_L22  f) v0 v2 v3 v4 μ
theorem VX8_nearest_L22 {κ : Cx} {ρ : (Int32 ⊕ String) × Me} (F : Fx κ cX8_nearest RX8) (M : Mx κ (fun r : Int32 => some (.int r)) ρ rmX8_nearest (some .int) [] "nearest") (hNL : κ.2.2.2.2.2.2.2.2.2.2.2.2.2.2 = 6)   : ∀ (f : Nat) (v0 : Nat) (v2 : Int32) (v3 : Int32) (v4 : Int32) (μ : Me), V κ ρ 0 0 μ (FX8_nearest_L22  f v0 v2 v3 v4 μ) 22 [(0, .ref v0), (2, .int v2), (3, .int v3), (4, .int v4)] [] := by
  intro f
  induction f with
  | zero => intros; exact V_none
  | succ f ih => intro v0 v2 v3 v4 μ; exact VX8_nearest_B22 F M hNL (fun v0 v2 v3 v4 μ => ih v0 v2 v3 v4 μ) v0 v2 v3 v4 μ
def FX8_nearest (a0 : Nat) (p1 : Int32) (μ : Me) : Rs Int32 :=
  (gR μ a0 8 5 (fun x1 => (bnd (FX8_of p1 0 μ) (fun x3 μ2 => (aI μ2 x1 x3 (fun x4 => (gR μ2 a0 8 5 (fun x5 => (aI μ2 x5 9 (fun x6 => (FX8_nearest_L22  FU a0 x4 x6 1 μ2)))))))))))
set_option maxHeartbeats 4000000 in
set_option maxRecDepth 100000 in
theorem metX8_nearest {l : Launch} {s0 : State} {D : va_G} {aC : Nat → ClassId} (hG : Gl s0 D aC) (hl : l.stackTraces = false) (a0 : Nat) (p1 : Int32) (μ : Me) : Ct l yX8_nearest (ws_ yX8_nearest cX8_nearest 6 (some .int)) rmX8_nearest s0 D aC (fun r : Int32 => some (.int r)) [.ref a0, .int p1] μ (FX8_nearest a0 p1 μ) := by
  refine Ct_of hG hl (by decide +kernel) (Nat.le_of_ble_eq_true rfl) (fun κ ρ hNL F M hκ => ?_)
  have F : Fx κ cX8_nearest RX8 := F
  change V κ ρ 0 0 μ (FX8_nearest a0 p1 μ) 0 [(0, .ref a0), (1, .int p1)] []
  unfold FX8_nearest
  refine V_aload_n F dX8_nearest_0 rfl 0 rfl ?_
  refine V_gR (ci := 8) (k9 := 5) (C := RX8) (T := TX8) (N := 22) F rfl hinX8 (by decide) q1213 dX8_nearest_1 (fun x1 => ?_)
  refine V_iload_n F dX8_nearest_4 rfl 1 rfl ?_
  refine V_iconst (v := 0) F dX8_nearest_5 (by decide) ?_
  refine V_cS (As := [.int p1, .int 0]) (rest := [.ref x1]) (N := 2) F M (metX8_of (Fx_G F) (Fx_l F) p1 0 μ) q1310 q72 q1308 q1309 ⟨by decide +kernel, by decide +kernel, by decide +kernel⟩ rfl ⟨by decide, by decide⟩ (Nat.le_of_ble_eq_true rfl) dX8_nearest_6 (by decide) (by decide) (fun x3 μ2 => ?_)
  change V κ ρ 0 0 μ2 _ 9 [(0, .ref a0), (1, .int p1)] [.int x3, .ref x1]
  refine V_aI F dX8_nearest_9 (fun x4 => ?_)
  refine V_istore_n (lv' := [(2, .int x4), (0, .ref a0), (1, .int p1)]) F dX8_nearest_10 rfl (lt_L hNL (by decide)) rfl ?_
  refine V_aload_n F dX8_nearest_11 rfl 1 rfl ?_
  refine V_gR (ci := 8) (k9 := 5) (C := RX8) (T := TX8) (N := 22) F rfl hinX8 (by decide) q1213 dX8_nearest_12 (fun x5 => ?_)
  refine V_bipush (v := 9) F dX8_nearest_15 (by decide) ?_
  refine V_aI F dX8_nearest_17 (fun x6 => ?_)
  refine V_istore_n (lv' := [(3, .int x6), (2, .int x4), (0, .ref a0), (1, .int p1)]) F dX8_nearest_18 rfl (lt_L hNL (by decide)) rfl ?_
  refine V_iconst (v := 1) F dX8_nearest_19 (by decide) ?_
  refine V_istore (lv' := [(4, .int 1), (3, .int x6), (2, .int x4), (0, .ref a0), (1, .int p1)]) F dX8_nearest_20 (lt_L hNL (by decide)) rfl ?_
  refine V_sub [3, 2, 1, 0] rfl ?_
  exact VX8_nearest_L22 F M hNL  FU a0 x4 x6 1 μ2
/-! DroneLightShowModel.nearestPad(I)I -/
abbrev rmX8_nearestPad : Room := { frames := 3, cells := 0, slots := 0, locals := 66 }
def FX8_nearestPad_B27  (v0 : Nat) (v1 : Int32) (t0 : Int32) (t1 : Nat) (μ : Me) : Rs Int32 :=
  (pf μ t1 8 0 (.int t0) (fun μ9 => (gI μ9 v0 8 0 (fun x10 => (if x10 = 0 then (bnd (vc μ9 v0 8 (FX8_nearest v0 v1 μ9)) (fun x14 μ13 => (rt x14 μ13))) else (rt 0 μ9))))))
set_option maxHeartbeats 4000000 in
set_option maxRecDepth 100000 in
theorem VX8_nearestPad_B27 {κ : Cx} {ρ : (Int32 ⊕ String) × Me} (F : Fx κ cX8_nearestPad RX8) (M : Mx κ (fun r : Int32 => some (.int r)) ρ rmX8_nearestPad (some .int) [] "nearestPad") (hNL : κ.2.2.2.2.2.2.2.2.2.2.2.2.2.2 = 2)   (v0 : Nat) (v1 : Int32) (t0 : Int32) (t1 : Nat) (μ : Me) : V κ ρ 0 0 μ (FX8_nearestPad_B27  v0 v1 t0 t1 μ) 27 [(0, .ref v0), (1, .int v1)] [.int t0, .ref t1] := by
  unfold FX8_nearestPad_B27
  refine V_pf (ci := 8) (k9 := 0) (C := RX8) (T := TX8) (N := 22) (ty := tyX8) F rfl hinX8 tyX8_ok nmX8 (by decide) q1208 rfl rfl rfl dX8_nearestPad_27 (fun μ9 => ?_)
  refine V_aload_n F dX8_nearestPad_30 rfl 0 rfl ?_
  refine V_gI (ci := 8) (k9 := 0) (C := RX8) (T := TX8) (N := 22) F rfl hinX8 (by decide) q1208 dX8_nearestPad_31 (fun x10 => ?_)
  refine V_if_ne (tgt := 45) F dX8_nearestPad_34 (by decide) (fun c11 => ?_) (fun c12 => ?_)
  · refine V_iconst (v := 0) F dX8_nearestPad_45 (by decide) ?_
    exact V_iret F M dX8_nearestPad_46 rfl (by decide) (by decide)
  · refine V_aload_n F dX8_nearestPad_37 rfl 0 rfl ?_
    refine V_iload_n F dX8_nearestPad_38 rfl 1 rfl ?_
    refine V_cV (As := [.int v1]) (rest := []) (C := RX8) (N := 1) F M (metX8_nearest (Fx_G F) (Fx_l F) v0 v1 μ9) rfl q1436 q72 q1433 q1435 q38 ⟨by decide +kernel, by decide +kernel, by decide +kernel⟩ rfl ⟨by decide, by decide⟩ (Nat.le_of_ble_eq_true rfl) dX8_nearestPad_39 (by decide) (by decide) (fun x14 μ13 => ?_)
    change V κ ρ 0 0 μ13 _ 42 [(0, .ref v0), (1, .int v1)] [.int x14]
    refine V_goto (tgt := 46) F dX8_nearestPad_42 (by decide) ?_
    exact V_iret F M dX8_nearestPad_46 rfl (by decide) (by decide)
def FX8_nearestPad (a0 : Nat) (p1 : Int32) (μ : Me) : Rs Int32 :=
  (bnd (vc μ a0 8 (FX8_isDrone a0 p1 μ)) (fun x2 μ1 => (if x2 = 0 then (FX8_nearestPad_B27  a0 p1 1 a0 μ1) else (gR μ1 a0 8 5 (fun x5 => (aI μ1 x5 1 (fun x6 => (if x6 = 0 then (FX8_nearestPad_B27  a0 p1 2 a0 μ1) else (FX8_nearestPad_B27  a0 p1 0 a0 μ1)))))))))
set_option maxHeartbeats 4000000 in
set_option maxRecDepth 100000 in
theorem metX8_nearestPad {l : Launch} {s0 : State} {D : va_G} {aC : Nat → ClassId} (hG : Gl s0 D aC) (hl : l.stackTraces = false) (a0 : Nat) (p1 : Int32) (μ : Me) : Ct l yX8_nearestPad (ws_ yX8_nearestPad cX8_nearestPad 2 (some .int)) rmX8_nearestPad s0 D aC (fun r : Int32 => some (.int r)) [.ref a0, .int p1] μ (FX8_nearestPad a0 p1 μ) := by
  refine Ct_of hG hl (by decide +kernel) (Nat.le_of_ble_eq_true rfl) (fun κ ρ hNL F M hκ => ?_)
  have F : Fx κ cX8_nearestPad RX8 := F
  change V κ ρ 0 0 μ (FX8_nearestPad a0 p1 μ) 0 [(0, .ref a0), (1, .int p1)] []
  unfold FX8_nearestPad
  refine V_aload_n F dX8_nearestPad_0 rfl 0 rfl ?_
  refine V_aload_n F dX8_nearestPad_1 rfl 0 rfl ?_
  refine V_iload_n F dX8_nearestPad_2 rfl 1 rfl ?_
  refine V_cV (As := [.int p1]) (rest := [.ref a0]) (C := RX8) (N := 1) F M (metX8_isDrone (Fx_G F) (Fx_l F) a0 p1 μ) rfl q1342 q72 q1339 q1341 q29 ⟨by decide +kernel, by decide +kernel, by decide +kernel⟩ rfl ⟨by decide, by decide⟩ (Nat.le_of_ble_eq_true rfl) dX8_nearestPad_3 (by decide) (by decide) (fun x2 μ1 => ?_)
  change V κ ρ 0 0 μ1 _ 6 [(0, .ref a0), (1, .int p1)] [.int x2, .ref a0]
  refine V_if_ne (tgt := 13) F dX8_nearestPad_6 (by decide) (fun c3 => ?_) (fun c4 => ?_)
  · refine V_aload_n F dX8_nearestPad_13 rfl 0 rfl ?_
    refine V_gR (ci := 8) (k9 := 5) (C := RX8) (T := TX8) (N := 22) F rfl hinX8 (by decide) q1213 dX8_nearestPad_14 (fun x5 => ?_)
    refine V_iconst (v := 1) F dX8_nearestPad_17 (by decide) ?_
    refine V_aI F dX8_nearestPad_18 (fun x6 => ?_)
    refine V_if_ne (tgt := 26) F dX8_nearestPad_19 (by decide) (fun c7 => ?_) (fun c8 => ?_)
    · refine V_iconst (v := 0) F dX8_nearestPad_26 (by decide) ?_
      refine V_sub [0, 1] rfl ?_
      exact VX8_nearestPad_B27 F M hNL  a0 p1 0 a0 μ1
    · refine V_iconst (v := 2) F dX8_nearestPad_22 (by decide) ?_
      refine V_goto (tgt := 27) F dX8_nearestPad_23 (by decide) ?_
      refine V_sub [0, 1] rfl ?_
      exact VX8_nearestPad_B27 F M hNL  a0 p1 2 a0 μ1
  · refine V_iconst (v := 1) F dX8_nearestPad_9 (by decide) ?_
    refine V_goto (tgt := 27) F dX8_nearestPad_10 (by decide) ?_
    refine V_sub [0, 1] rfl ?_
    exact VX8_nearestPad_B27 F M hNL  a0 p1 1 a0 μ1
/-! DroneLightShowModel.nearestPadByRings(I)I -/
abbrev rmX8_nearestPadByRings : Room := { frames := 4, cells := 0, slots := 0, locals := 87 }
def FX8_nearestPadByRings (a0 : Nat) (p1 : Int32) (μ : Me) : Rs Int32 :=
  (bnd (vc μ a0 8 (FX8_nearestPad a0 p1 μ)) (fun x2 μ1 => (rt x2 μ1)))
set_option maxHeartbeats 4000000 in
set_option maxRecDepth 100000 in
theorem metX8_nearestPadByRings {l : Launch} {s0 : State} {D : va_G} {aC : Nat → ClassId} (hG : Gl s0 D aC) (hl : l.stackTraces = false) (a0 : Nat) (p1 : Int32) (μ : Me) : Ct l yX8_nearestPadByRings (ws_ yX8_nearestPadByRings cX8_nearestPadByRings 2 (some .int)) rmX8_nearestPadByRings s0 D aC (fun r : Int32 => some (.int r)) [.ref a0, .int p1] μ (FX8_nearestPadByRings a0 p1 μ) := by
  refine Ct_of hG hl (by decide +kernel) (Nat.le_of_ble_eq_true rfl) (fun κ ρ hNL F M hκ => ?_)
  have F : Fx κ cX8_nearestPadByRings RX8 := F
  change V κ ρ 0 0 μ (FX8_nearestPadByRings a0 p1 μ) 0 [(0, .ref a0), (1, .int p1)] []
  unfold FX8_nearestPadByRings
  refine V_aload_n F dX8_nearestPadByRings_0 rfl 0 rfl ?_
  refine V_iload_n F dX8_nearestPadByRings_1 rfl 1 rfl ?_
  refine V_cV (As := [.int p1]) (rest := []) (C := RX8) (N := 1) F M (metX8_nearestPad (Fx_G F) (Fx_l F) a0 p1 μ) rfl q1432 q72 q1441 q1430 q1431 ⟨by decide +kernel, by decide +kernel, by decide +kernel⟩ rfl ⟨by decide, by decide⟩ (Nat.le_of_ble_eq_true rfl) dX8_nearestPadByRings_2 (by decide) (by decide) (fun x2 μ1 => ?_)
  change V κ ρ 0 0 μ1 _ 5 [(0, .ref a0), (1, .int p1)] [.int x2]
  exact V_iret F M dX8_nearestPadByRings_5 rfl (by decide) (by decide)
/-! DroneLightShowModel.belongs(II)Z -/
abbrev rmX8_belongs : Room := { frames := 0, cells := 0, slots := 0, locals := 0 }
def FX8_belongs_B27  (v2 : Int32) (t0 : Int32) (μ : Me) : Rs Int32 :=
  (if ((t0 >>> ((v2 - v2 / 32 * 32) &&& 31)) &&& 1) = 1 then (rt 1 μ) else (rt 0 μ))
set_option maxHeartbeats 4000000 in
set_option maxRecDepth 100000 in
theorem VX8_belongs_B27 {κ : Cx} {ρ : (Int32 ⊕ String) × Me} (F : Fx κ cX8_belongs RX8) (M : Mx κ (fun r : Int32 => some (.int r)) ρ rmX8_belongs (some .boolean) [] "belongs") (hNL : κ.2.2.2.2.2.2.2.2.2.2.2.2.2.2 = 4)   (v2 : Int32) (t0 : Int32) (μ : Me) : V κ ρ 0 0 μ (FX8_belongs_B27  v2 t0 μ) 27 [(2, .int v2)] [.int t0] := by
  unfold FX8_belongs_B27
  refine V_istore_n (lv' := [(3, .int t0), (2, .int v2)]) F dX8_belongs_27 rfl (lt_L hNL (by decide)) rfl ?_
  refine V_iload_n F dX8_belongs_28 rfl 0 rfl ?_
  refine V_iload_n F dX8_belongs_29 rfl 1 rfl ?_
  refine V_bipush (v := 32) F dX8_belongs_30 (by decide) ?_
  refine V_irem F dX8_belongs_32 (by decide) ?_
  refine V_ishr F dX8_belongs_33 ?_
  refine V_iconst (v := 1) F dX8_belongs_34 (by decide) ?_
  refine V_iand F dX8_belongs_35 ?_
  refine V_iconst (v := 1) F dX8_belongs_36 (by decide) ?_
  refine V_icmp_ne (tgt := 44) F dX8_belongs_37 (by decide) (fun c5 => ?_) (fun c6 => ?_)
  · refine V_iconst (v := 0) F dX8_belongs_44 (by decide) ?_
    exact V_zret F M dX8_belongs_45 rfl (by decide) (by decide) (by decide)
  · refine V_iconst (v := 1) F dX8_belongs_40 (by decide) ?_
    refine V_goto (tgt := 45) F dX8_belongs_41 (by decide) ?_
    exact V_zret F M dX8_belongs_45 rfl (by decide) (by decide) (by decide)
def FX8_belongs (a0 : Nat) (p1 : Int32) (p2 : Int32) (μ : Me) : Rs Int32 :=
  (if 32 ≤ p2 then (gR μ a0 8 5 (fun x3 => (aI μ x3 (77 + p1) (fun x4 => (FX8_belongs_B27  p2 x4 μ))))) else (gR μ a0 8 5 (fun x7 => (aI μ x7 (73 + p1) (fun x8 => (FX8_belongs_B27  p2 x8 μ))))))
set_option maxHeartbeats 4000000 in
set_option maxRecDepth 100000 in
theorem metX8_belongs {l : Launch} {s0 : State} {D : va_G} {aC : Nat → ClassId} (hG : Gl s0 D aC) (hl : l.stackTraces = false) (a0 : Nat) (p1 : Int32) (p2 : Int32) (μ : Me) : Ct l yX8_belongs (ws_ yX8_belongs cX8_belongs 4 (some .boolean)) rmX8_belongs s0 D aC (fun r : Int32 => some (.int r)) [.ref a0, .int p1, .int p2] μ (FX8_belongs a0 p1 p2 μ) := by
  refine Ct_of hG hl (by decide +kernel) (Nat.le_of_ble_eq_true rfl) (fun κ ρ hNL F M hκ => ?_)
  have F : Fx κ cX8_belongs RX8 := F
  change V κ ρ 0 0 μ (FX8_belongs a0 p1 p2 μ) 0 [(0, .ref a0), (1, .int p1), (2, .int p2)] []
  unfold FX8_belongs
  refine V_iload_n F dX8_belongs_0 rfl 2 rfl ?_
  refine V_bipush (v := 32) F dX8_belongs_1 (by decide) ?_
  refine V_icmp_ge (tgt := 18) F dX8_belongs_3 (by decide) (fun c1 => ?_) (fun c2 => ?_)
  · refine V_aload_n F dX8_belongs_18 rfl 0 rfl ?_
    refine V_gR (ci := 8) (k9 := 5) (C := RX8) (T := TX8) (N := 22) F rfl hinX8 (by decide) q1213 dX8_belongs_19 (fun x3 => ?_)
    refine V_bipush (v := 77) F dX8_belongs_22 (by decide) ?_
    refine V_iload_n F dX8_belongs_24 rfl 1 rfl ?_
    refine V_iadd F dX8_belongs_25 ?_
    refine V_aI F dX8_belongs_26 (fun x4 => ?_)
    refine V_sub [2] rfl ?_
    exact VX8_belongs_B27 F M hNL  p2 x4 μ
  · refine V_aload_n F dX8_belongs_6 rfl 0 rfl ?_
    refine V_gR (ci := 8) (k9 := 5) (C := RX8) (T := TX8) (N := 22) F rfl hinX8 (by decide) q1213 dX8_belongs_7 (fun x7 => ?_)
    refine V_bipush (v := 73) F dX8_belongs_10 (by decide) ?_
    refine V_iload_n F dX8_belongs_12 rfl 1 rfl ?_
    refine V_iadd F dX8_belongs_13 ?_
    refine V_aI F dX8_belongs_14 (fun x8 => ?_)
    refine V_goto (tgt := 27) F dX8_belongs_15 (by decide) ?_
    refine V_sub [2] rfl ?_
    exact VX8_belongs_B27 F M hNL  p2 x8 μ
/-! DroneLightShowModel.cells(I)I -/
abbrev rmX8_cells : Room := { frames := 1, cells := 0, slots := 0, locals := 23 }
def FX8_cells_B4 (k4 : Nat → Int32 → Int32 → Int32 → Me → Rs Int32) (v0 : Nat) (v1 : Int32) (v2 : Int32) (v3 : Int32) (μ : Me) : Rs Int32 :=
  (if 64 ≤ v3 then (rt v2 μ) else (bnd (vc μ v0 8 (FX8_belongs v0 v1 v3 μ)) (fun x4 μ3 => (if x4 = 0 then (k4 v0 v1 (v2 + 0) (v3 + 1) μ3) else (k4 v0 v1 (v2 + 1) (v3 + 1) μ3)))))
set_option maxHeartbeats 4000000 in
set_option maxRecDepth 100000 in
theorem VX8_cells_B4 {κ : Cx} {ρ : (Int32 ⊕ String) × Me} (F : Fx κ cX8_cells RX8) (M : Mx κ (fun r : Int32 => some (.int r)) ρ rmX8_cells (some .int) [] "cells") (hNL : κ.2.2.2.2.2.2.2.2.2.2.2.2.2.2 = 4) {k4 : Nat → Int32 → Int32 → Int32 → Me → Rs Int32} (hk4 : ∀ (v0 : Nat) (v1 : Int32) (v2 : Int32) (v3 : Int32) (μ : Me), V κ ρ 0 0 μ (k4 v0 v1 v2 v3 μ) 4 [(0, .ref v0), (1, .int v1), (2, .int v2), (3, .int v3)] []) (v0 : Nat) (v1 : Int32) (v2 : Int32) (v3 : Int32) (μ : Me) : V κ ρ 0 0 μ (FX8_cells_B4 k4 v0 v1 v2 v3 μ) 4 [(0, .ref v0), (1, .int v1), (2, .int v2), (3, .int v3)] [] := by
  unfold FX8_cells_B4
  refine V_iload_n F dX8_cells_4 rfl 3 rfl ?_
  refine V_bipush (v := 64) F dX8_cells_5 (by decide) ?_
  refine V_icmp_ge (tgt := 33) F dX8_cells_7 (by decide) (fun c1 => ?_) (fun c2 => ?_)
  · refine V_iload_n F dX8_cells_33 rfl 2 rfl ?_
    exact V_iret F M dX8_cells_34 rfl (by decide) (by decide)
  · refine V_iload_n F dX8_cells_10 rfl 2 rfl ?_
    refine V_aload_n F dX8_cells_11 rfl 0 rfl ?_
    refine V_iload_n F dX8_cells_12 rfl 1 rfl ?_
    refine V_iload_n F dX8_cells_13 rfl 3 rfl ?_
    refine V_cV (As := [.int v1, .int v3]) (rest := [.int v2]) (C := RX8) (N := 2) F M (metX8_belongs (Fx_G F) (Fx_l F) v0 v1 v3 μ) rfl q1456 q72 q1453 q1455 q40 ⟨by decide +kernel, by decide +kernel, by decide +kernel⟩ rfl ⟨by decide, by decide⟩ (Nat.le_of_ble_eq_true rfl) dX8_cells_14 (by decide) (by decide) (fun x4 μ3 => ?_)
    change V κ ρ 0 0 μ3 _ 17 [(0, .ref v0), (1, .int v1), (2, .int v2), (3, .int v3)] [.int x4, .int v2]
    refine V_if_eq (tgt := 24) F dX8_cells_17 (by decide) (fun c5 => ?_) (fun c6 => ?_)
    · refine V_iconst (v := 0) F dX8_cells_24 (by decide) ?_
      refine V_iadd F dX8_cells_25 ?_
      refine V_istore_n (lv' := [(2, .int (v2 + 0)), (0, .ref v0), (1, .int v1), (3, .int v3)]) F dX8_cells_26 rfl (lt_L hNL (by decide)) rfl ?_
      refine V_iinc (lv' := [(3, .int (v3 + 1)), (2, .int (v2 + 0)), (0, .ref v0), (1, .int v1)]) F dX8_cells_27 3 rfl rfl (lt_L hNL (by decide)) rfl ?_
      refine V_goto (tgt := 4) F dX8_cells_30 (by decide) ?_
      refine V_sub [2, 3, 1, 0] rfl ?_
      exact hk4 v0 v1 (v2 + 0) (v3 + 1) μ3
    · refine V_iconst (v := 1) F dX8_cells_20 (by decide) ?_
      refine V_goto (tgt := 25) F dX8_cells_21 (by decide) ?_
      refine V_iadd F dX8_cells_25 ?_
      refine V_istore_n (lv' := [(2, .int (v2 + 1)), (0, .ref v0), (1, .int v1), (3, .int v3)]) F dX8_cells_26 rfl (lt_L hNL (by decide)) rfl ?_
      refine V_iinc (lv' := [(3, .int (v3 + 1)), (2, .int (v2 + 1)), (0, .ref v0), (1, .int v1)]) F dX8_cells_27 3 rfl rfl (lt_L hNL (by decide)) rfl ?_
      refine V_goto (tgt := 4) F dX8_cells_30 (by decide) ?_
      refine V_sub [2, 3, 1, 0] rfl ?_
      exact hk4 v0 v1 (v2 + 1) (v3 + 1) μ3
def FX8_cells_L4  : Nat → Nat → Int32 → Int32 → Int32 → Me → Rs Int32
  | 0, _, _, _, _, _ => none
  | f + 1, v0, v1, v2, v3, μ => FX8_cells_B4 (FX8_cells_L4  f) v0 v1 v2 v3 μ
theorem VX8_cells_L4 {κ : Cx} {ρ : (Int32 ⊕ String) × Me} (F : Fx κ cX8_cells RX8) (M : Mx κ (fun r : Int32 => some (.int r)) ρ rmX8_cells (some .int) [] "cells") (hNL : κ.2.2.2.2.2.2.2.2.2.2.2.2.2.2 = 4)   : ∀ (f : Nat) (v0 : Nat) (v1 : Int32) (v2 : Int32) (v3 : Int32) (μ : Me), V κ ρ 0 0 μ (FX8_cells_L4  f v0 v1 v2 v3 μ) 4 [(0, .ref v0), (1, .int v1), (2, .int v2), (3, .int v3)] [] := by
  intro f
  induction f with
  | zero => intros; exact V_none
  | succ f ih => intro v0 v1 v2 v3 μ; exact VX8_cells_B4 F M hNL (fun v0 v1 v2 v3 μ => ih v0 v1 v2 v3 μ) v0 v1 v2 v3 μ
def FX8_cells (a0 : Nat) (p1 : Int32) (μ : Me) : Rs Int32 :=
  (FX8_cells_L4  FU a0 p1 0 0 μ)
set_option maxHeartbeats 4000000 in
set_option maxRecDepth 100000 in
theorem metX8_cells {l : Launch} {s0 : State} {D : va_G} {aC : Nat → ClassId} (hG : Gl s0 D aC) (hl : l.stackTraces = false) (a0 : Nat) (p1 : Int32) (μ : Me) : Ct l yX8_cells (ws_ yX8_cells cX8_cells 4 (some .int)) rmX8_cells s0 D aC (fun r : Int32 => some (.int r)) [.ref a0, .int p1] μ (FX8_cells a0 p1 μ) := by
  refine Ct_of hG hl (by decide +kernel) (Nat.le_of_ble_eq_true rfl) (fun κ ρ hNL F M hκ => ?_)
  have F : Fx κ cX8_cells RX8 := F
  change V κ ρ 0 0 μ (FX8_cells a0 p1 μ) 0 [(0, .ref a0), (1, .int p1)] []
  unfold FX8_cells
  refine V_iconst (v := 0) F dX8_cells_0 (by decide) ?_
  refine V_istore_n (lv' := [(2, .int 0), (0, .ref a0), (1, .int p1)]) F dX8_cells_1 rfl (lt_L hNL (by decide)) rfl ?_
  refine V_iconst (v := 0) F dX8_cells_2 (by decide) ?_
  refine V_istore_n (lv' := [(3, .int 0), (2, .int 0), (0, .ref a0), (1, .int p1)]) F dX8_cells_3 rfl (lt_L hNL (by decide)) rfl ?_
  refine V_sub [2, 3, 1, 0] rfl ?_
  exact VX8_cells_L4 F M hNL  FU a0 p1 0 0 μ
/-! DroneLightShowModel.forms(II)I -/
abbrev rmX8_forms : Room := { frames := 2, cells := 0, slots := 0, locals := 46 }
def FX8_forms_B14  (v0 : Nat) (μ : Me) : Rs Int32 :=
  (bnd (vc μ v0 8 (FX8_fail v0 1 μ)) (fun x6 μ5 => (rt x6 μ5)))
set_option maxHeartbeats 4000000 in
set_option maxRecDepth 100000 in
theorem VX8_forms_B14 {κ : Cx} {ρ : (Int32 ⊕ String) × Me} (F : Fx κ cX8_forms RX8) (M : Mx κ (fun r : Int32 => some (.int r)) ρ rmX8_forms (some .int) [] "forms") (hNL : κ.2.2.2.2.2.2.2.2.2.2.2.2.2.2 = 4)   (v0 : Nat) (μ : Me) : V κ ρ 0 0 μ (FX8_forms_B14  v0 μ) 14 [(0, .ref v0)] [] := by
  unfold FX8_forms_B14
  refine V_aload_n F dX8_forms_14 rfl 0 rfl ?_
  refine V_iconst (v := 1) F dX8_forms_15 (by decide) ?_
  refine V_cV (As := [.int 1]) (rest := []) (C := RX8) (N := 1) F M (metX8_fail (Fx_G F) (Fx_l F) v0 1 μ) rfl q1303 q72 q1300 q1302 q22 ⟨by decide +kernel, by decide +kernel, by decide +kernel⟩ rfl ⟨by decide, by decide⟩ (Nat.le_of_ble_eq_true rfl) dX8_forms_16 (by decide) (by decide) (fun x6 μ5 => ?_)
  change V κ ρ 0 0 μ5 _ 19 [(0, .ref v0)] [.int x6]
  exact V_iret F M dX8_forms_19 rfl (by decide) (by decide)
def FX8_forms_B68  (v0 : Nat) (v1 : Int32) (v2 : Int32) (t0 : Int32) (μ : Me) : Rs Int32 :=
  (gR μ v0 8 5 (fun x21 => (aI μ x21 t0 (fun x22 => (sI μ x21 t0 (x22 ||| (1 <<< ((v2 - v2 / 32 * 32) &&& 31))) (fun μ23 => (bnd (vc μ23 v0 8 (FX8_cells v0 v1 μ23)) (fun x25 μ24 => (rt x25 μ24)))))))))
set_option maxHeartbeats 4000000 in
set_option maxRecDepth 100000 in
theorem VX8_forms_B68 {κ : Cx} {ρ : (Int32 ⊕ String) × Me} (F : Fx κ cX8_forms RX8) (M : Mx κ (fun r : Int32 => some (.int r)) ρ rmX8_forms (some .int) [] "forms") (hNL : κ.2.2.2.2.2.2.2.2.2.2.2.2.2.2 = 4)   (v0 : Nat) (v1 : Int32) (v2 : Int32) (t0 : Int32) (μ : Me) : V κ ρ 0 0 μ (FX8_forms_B68  v0 v1 v2 t0 μ) 68 [(0, .ref v0), (1, .int v1), (2, .int v2)] [.int t0] := by
  unfold FX8_forms_B68
  refine V_istore_n (lv' := [(3, .int t0), (0, .ref v0), (1, .int v1), (2, .int v2)]) F dX8_forms_68 rfl (lt_L hNL (by decide)) rfl ?_
  refine V_aload_n F dX8_forms_69 rfl 1 rfl ?_
  refine V_gR (ci := 8) (k9 := 5) (C := RX8) (T := TX8) (N := 22) F rfl hinX8 (by decide) q1213 dX8_forms_70 (fun x21 => ?_)
  refine V_iload_n F dX8_forms_73 rfl 0 rfl ?_
  refine V_dup2 F dX8_forms_74 rfl rfl ?_
  refine V_aI F dX8_forms_75 (fun x22 => ?_)
  refine V_iconst (v := 1) F dX8_forms_76 (by decide) ?_
  refine V_iload_n F dX8_forms_77 rfl 3 rfl ?_
  refine V_bipush (v := 32) F dX8_forms_78 (by decide) ?_
  refine V_irem F dX8_forms_80 (by decide) ?_
  refine V_ishl F dX8_forms_81 ?_
  refine V_ior F dX8_forms_82 ?_
  refine V_sI F dX8_forms_83 (fun μ23 => ?_)
  refine V_aload_n F dX8_forms_84 rfl 1 rfl ?_
  refine V_iload_n F dX8_forms_85 rfl 2 rfl ?_
  refine V_cV (As := [.int v1]) (rest := []) (C := RX8) (N := 1) F M (metX8_cells (Fx_G F) (Fx_l F) v0 v1 μ23) rfl q1460 q72 q1457 q1459 q41 ⟨by decide +kernel, by decide +kernel, by decide +kernel⟩ rfl ⟨by decide, by decide⟩ (Nat.le_of_ble_eq_true rfl) dX8_forms_86 (by decide) (by decide) (fun x25 μ24 => ?_)
  change V κ ρ 0 0 μ24 _ 89 [(3, .int t0), (0, .ref v0), (1, .int v1), (2, .int v2)] [.int x25]
  exact V_iret F M dX8_forms_89 rfl (by decide) (by decide)
def FX8_forms (a0 : Nat) (p1 : Int32) (p2 : Int32) (μ : Me) : Rs Int32 :=
  (bnd (FX8_isForm p1 μ) (fun x2 μ1 => (if x2 = 0 then (FX8_forms_B14  a0 μ1) else (bnd (FX8_isCell p2 μ1) (fun x8 μ7 => (if x8 = 0 then (FX8_forms_B14  a0 μ7) else (bnd (vc μ7 a0 8 (FX8_belongs a0 p1 p2 μ7)) (fun x12 μ11 => (if x12 = 0 then (bnd (vc μ11 a0 8 (FX8_cells a0 p1 μ11)) (fun x16 μ15 => (if x16 = 10 then (bnd (vc μ15 a0 8 (FX8_fail a0 3 μ15)) (fun x27 μ26 => (rt x27 μ26))) else (if 32 ≤ p2 then (FX8_forms_B68  a0 p1 p2 (77 + p1) μ15) else (FX8_forms_B68  a0 p1 p2 (73 + p1) μ15))))) else (bnd (vc μ11 a0 8 (FX8_fail a0 2 μ11)) (fun x29 μ28 => (rt x29 μ28))))))))))))
set_option maxHeartbeats 4000000 in
set_option maxRecDepth 100000 in
theorem metX8_forms {l : Launch} {s0 : State} {D : va_G} {aC : Nat → ClassId} (hG : Gl s0 D aC) (hl : l.stackTraces = false) (a0 : Nat) (p1 : Int32) (p2 : Int32) (μ : Me) : Ct l yX8_forms (ws_ yX8_forms cX8_forms 4 (some .int)) rmX8_forms s0 D aC (fun r : Int32 => some (.int r)) [.ref a0, .int p1, .int p2] μ (FX8_forms a0 p1 p2 μ) := by
  refine Ct_of hG hl (by decide +kernel) (Nat.le_of_ble_eq_true rfl) (fun κ ρ hNL F M hκ => ?_)
  have F : Fx κ cX8_forms RX8 := F
  change V κ ρ 0 0 μ (FX8_forms a0 p1 p2 μ) 0 [(0, .ref a0), (1, .int p1), (2, .int p2)] []
  unfold FX8_forms
  refine V_iload_n F dX8_forms_0 rfl 1 rfl ?_
  refine V_cS (As := [.int p1]) (rest := []) (N := 1) F M (metX8_isForm (Fx_G F) (Fx_l F) p1 μ) q1452 q72 q1450 q1451 ⟨by decide +kernel, by decide +kernel, by decide +kernel⟩ rfl ⟨by decide, by decide⟩ (Nat.le_of_ble_eq_true rfl) dX8_forms_1 (by decide) (by decide) (fun x2 μ1 => ?_)
  change V κ ρ 0 0 μ1 _ 4 [(0, .ref a0), (1, .int p1), (2, .int p2)] [.int x2]
  refine V_if_eq (tgt := 14) F dX8_forms_4 (by decide) (fun c3 => ?_) (fun c4 => ?_)
  · refine V_sub [0] rfl ?_
    exact VX8_forms_B14 F M hNL  a0 μ1
  · refine V_iload_n F dX8_forms_7 rfl 2 rfl ?_
    refine V_cS (As := [.int p2]) (rest := []) (N := 1) F M (metX8_isCell (Fx_G F) (Fx_l F) p2 μ1) q1296 q72 q1294 q1295 ⟨by decide +kernel, by decide +kernel, by decide +kernel⟩ rfl ⟨by decide, by decide⟩ (Nat.le_of_ble_eq_true rfl) dX8_forms_8 (by decide) (by decide) (fun x8 μ7 => ?_)
    change V κ ρ 0 0 μ7 _ 11 [(0, .ref a0), (1, .int p1), (2, .int p2)] [.int x8]
    refine V_if_ne (tgt := 20) F dX8_forms_11 (by decide) (fun c9 => ?_) (fun c10 => ?_)
    · refine V_aload_n F dX8_forms_20 rfl 0 rfl ?_
      refine V_iload_n F dX8_forms_21 rfl 1 rfl ?_
      refine V_iload_n F dX8_forms_22 rfl 2 rfl ?_
      refine V_cV (As := [.int p1, .int p2]) (rest := []) (C := RX8) (N := 2) F M (metX8_belongs (Fx_G F) (Fx_l F) a0 p1 p2 μ7) rfl q1456 q72 q1453 q1455 q40 ⟨by decide +kernel, by decide +kernel, by decide +kernel⟩ rfl ⟨by decide, by decide⟩ (Nat.le_of_ble_eq_true rfl) dX8_forms_23 (by decide) (by decide) (fun x12 μ11 => ?_)
      change V κ ρ 0 0 μ11 _ 26 [(0, .ref a0), (1, .int p1), (2, .int p2)] [.int x12]
      refine V_if_eq (tgt := 35) F dX8_forms_26 (by decide) (fun c13 => ?_) (fun c14 => ?_)
      · refine V_aload_n F dX8_forms_35 rfl 0 rfl ?_
        refine V_iload_n F dX8_forms_36 rfl 1 rfl ?_
        refine V_cV (As := [.int p1]) (rest := []) (C := RX8) (N := 1) F M (metX8_cells (Fx_G F) (Fx_l F) a0 p1 μ11) rfl q1460 q72 q1457 q1459 q41 ⟨by decide +kernel, by decide +kernel, by decide +kernel⟩ rfl ⟨by decide, by decide⟩ (Nat.le_of_ble_eq_true rfl) dX8_forms_37 (by decide) (by decide) (fun x16 μ15 => ?_)
        change V κ ρ 0 0 μ15 _ 40 [(0, .ref a0), (1, .int p1), (2, .int p2)] [.int x16]
        refine V_bipush (v := 10) F dX8_forms_40 (by decide) ?_
        refine V_icmp_ne (tgt := 51) F dX8_forms_42 (by decide) (fun c17 => ?_) (fun c18 => ?_)
        · refine V_iload_n F dX8_forms_51 rfl 2 rfl ?_
          refine V_bipush (v := 32) F dX8_forms_52 (by decide) ?_
          refine V_icmp_ge (tgt := 64) F dX8_forms_54 (by decide) (fun c19 => ?_) (fun c20 => ?_)
          · refine V_bipush (v := 77) F dX8_forms_64 (by decide) ?_
            refine V_iload_n F dX8_forms_66 rfl 1 rfl ?_
            refine V_iadd F dX8_forms_67 ?_
            refine V_sub [0, 1, 2] rfl ?_
            exact VX8_forms_B68 F M hNL  a0 p1 p2 (77 + p1) μ15
          · refine V_bipush (v := 73) F dX8_forms_57 (by decide) ?_
            refine V_iload_n F dX8_forms_59 rfl 1 rfl ?_
            refine V_iadd F dX8_forms_60 ?_
            refine V_goto (tgt := 68) F dX8_forms_61 (by decide) ?_
            refine V_sub [0, 1, 2] rfl ?_
            exact VX8_forms_B68 F M hNL  a0 p1 p2 (73 + p1) μ15
        · refine V_aload_n F dX8_forms_45 rfl 0 rfl ?_
          refine V_iconst (v := 3) F dX8_forms_46 (by decide) ?_
          refine V_cV (As := [.int 3]) (rest := []) (C := RX8) (N := 1) F M (metX8_fail (Fx_G F) (Fx_l F) a0 3 μ15) rfl q1303 q72 q1300 q1302 q22 ⟨by decide +kernel, by decide +kernel, by decide +kernel⟩ rfl ⟨by decide, by decide⟩ (Nat.le_of_ble_eq_true rfl) dX8_forms_47 (by decide) (by decide) (fun x27 μ26 => ?_)
          change V κ ρ 0 0 μ26 _ 50 [(0, .ref a0), (1, .int p1), (2, .int p2)] [.int x27]
          exact V_iret F M dX8_forms_50 rfl (by decide) (by decide)
      · refine V_aload_n F dX8_forms_29 rfl 0 rfl ?_
        refine V_iconst (v := 2) F dX8_forms_30 (by decide) ?_
        refine V_cV (As := [.int 2]) (rest := []) (C := RX8) (N := 1) F M (metX8_fail (Fx_G F) (Fx_l F) a0 2 μ11) rfl q1303 q72 q1300 q1302 q22 ⟨by decide +kernel, by decide +kernel, by decide +kernel⟩ rfl ⟨by decide, by decide⟩ (Nat.le_of_ble_eq_true rfl) dX8_forms_31 (by decide) (by decide) (fun x29 μ28 => ?_)
        change V κ ρ 0 0 μ28 _ 34 [(0, .ref a0), (1, .int p1), (2, .int p2)] [.int x29]
        exact V_iret F M dX8_forms_34 rfl (by decide) (by decide)
    · refine V_sub [0] rfl ?_
      exact VX8_forms_B14 F M hNL  a0 μ7
/-! DroneLightShowModel.addToFormation(II)I -/
abbrev rmX8_addToFormation : Room := { frames := 3, cells := 0, slots := 0, locals := 69 }
def FX8_addToFormation (a0 : Nat) (p1 : Int32) (p2 : Int32) (μ : Me) : Rs Int32 :=
  (bnd (vc μ a0 8 (FX8_begins a0  μ)) (fun x2 μ1 => (bnd (vc μ1 a0 8 (FX8_forms a0 p1 p2 μ1)) (fun x4 μ3 => (bnd (vc μ3 a0 8 (FX8_ends a0 x4 μ3)) (fun x6 μ5 => (rt x6 μ5)))))))
set_option maxHeartbeats 4000000 in
set_option maxRecDepth 100000 in
theorem metX8_addToFormation {l : Launch} {s0 : State} {D : va_G} {aC : Nat → ClassId} (hG : Gl s0 D aC) (hl : l.stackTraces = false) (a0 : Nat) (p1 : Int32) (p2 : Int32) (μ : Me) : Ct l yX8_addToFormation (ws_ yX8_addToFormation cX8_addToFormation 3 (some .int)) rmX8_addToFormation s0 D aC (fun r : Int32 => some (.int r)) [.ref a0, .int p1, .int p2] μ (FX8_addToFormation a0 p1 p2 μ) := by
  refine Ct_of hG hl (by decide +kernel) (Nat.le_of_ble_eq_true rfl) (fun κ ρ hNL F M hκ => ?_)
  have F : Fx κ cX8_addToFormation RX8 := F
  change V κ ρ 0 0 μ (FX8_addToFormation a0 p1 p2 μ) 0 [(0, .ref a0), (1, .int p1), (2, .int p2)] []
  unfold FX8_addToFormation
  refine V_aload_n F dX8_addToFormation_0 rfl 0 rfl ?_
  refine V_cV (As := []) (rest := []) (C := RX8) (N := 0) F M (metX8_begins (Fx_G F) (Fx_l F) a0  μ) rfl q1286 q72 q1283 q1285 q20 ⟨by decide +kernel, by decide +kernel, by decide +kernel⟩ rfl ⟨by decide, by decide⟩ (Nat.le_of_ble_eq_true rfl) dX8_addToFormation_1 (by decide) (by decide) (fun x2 μ1 => ?_)
  change V κ ρ 0 0 μ1 _ 4 [(0, .ref a0), (1, .int p1), (2, .int p2)] []
  refine V_aload_n F dX8_addToFormation_4 rfl 0 rfl ?_
  refine V_aload_n F dX8_addToFormation_5 rfl 0 rfl ?_
  refine V_iload_n F dX8_addToFormation_6 rfl 1 rfl ?_
  refine V_iload_n F dX8_addToFormation_7 rfl 2 rfl ?_
  refine V_cV (As := [.int p1, .int p2]) (rest := [.ref a0]) (C := RX8) (N := 2) F M (metX8_forms (Fx_G F) (Fx_l F) a0 p1 p2 μ1) rfl q1449 q72 q1446 q1448 q39 ⟨by decide +kernel, by decide +kernel, by decide +kernel⟩ rfl ⟨by decide, by decide⟩ (Nat.le_of_ble_eq_true rfl) dX8_addToFormation_8 (by decide) (by decide) (fun x4 μ3 => ?_)
  change V κ ρ 0 0 μ3 _ 11 [(0, .ref a0), (1, .int p1), (2, .int p2)] [.int x4, .ref a0]
  refine V_cV (As := [.int x4]) (rest := []) (C := RX8) (N := 1) F M (metX8_ends (Fx_G F) (Fx_l F) a0 x4 μ3) rfl q1318 q72 q1315 q1317 q25 ⟨by decide +kernel, by decide +kernel, by decide +kernel⟩ rfl ⟨by decide, by decide⟩ (Nat.le_of_ble_eq_true rfl) dX8_addToFormation_11 (by decide) (by decide) (fun x6 μ5 => ?_)
  change V κ ρ 0 0 μ5 _ 14 [(0, .ref a0), (1, .int p1), (2, .int p2)] [.int x6]
  exact V_iret F M dX8_addToFormation_14 rfl (by decide) (by decide)
/-! DroneLightShowModel.clears(I)I -/
abbrev rmX8_clears : Room := { frames := 2, cells := 0, slots := 0, locals := 46 }
def FX8_clears (a0 : Nat) (p1 : Int32) (μ : Me) : Rs Int32 :=
  (bnd (FX8_isForm p1 μ) (fun x2 μ1 => (if x2 = 0 then (bnd (vc μ1 a0 8 (FX8_fail a0 1 μ1)) (fun x12 μ11 => (rt x12 μ11))) else (bnd (vc μ1 a0 8 (FX8_cells a0 p1 μ1)) (fun x6 μ5 => (gR μ5 a0 8 5 (fun x7 => (sI μ5 x7 (73 + p1) 0 (fun μ8 => (gR μ8 a0 8 5 (fun x9 => (sI μ8 x9 (77 + p1) 0 (fun μ10 => (rt x6 μ10))))))))))))))
set_option maxHeartbeats 4000000 in
set_option maxRecDepth 100000 in
theorem metX8_clears {l : Launch} {s0 : State} {D : va_G} {aC : Nat → ClassId} (hG : Gl s0 D aC) (hl : l.stackTraces = false) (a0 : Nat) (p1 : Int32) (μ : Me) : Ct l yX8_clears (ws_ yX8_clears cX8_clears 3 (some .int)) rmX8_clears s0 D aC (fun r : Int32 => some (.int r)) [.ref a0, .int p1] μ (FX8_clears a0 p1 μ) := by
  refine Ct_of hG hl (by decide +kernel) (Nat.le_of_ble_eq_true rfl) (fun κ ρ hNL F M hκ => ?_)
  have F : Fx κ cX8_clears RX8 := F
  change V κ ρ 0 0 μ (FX8_clears a0 p1 μ) 0 [(0, .ref a0), (1, .int p1)] []
  unfold FX8_clears
  refine V_iload_n F dX8_clears_0 rfl 1 rfl ?_
  refine V_cS (As := [.int p1]) (rest := []) (N := 1) F M (metX8_isForm (Fx_G F) (Fx_l F) p1 μ) q1452 q72 q1450 q1451 ⟨by decide +kernel, by decide +kernel, by decide +kernel⟩ rfl ⟨by decide, by decide⟩ (Nat.le_of_ble_eq_true rfl) dX8_clears_1 (by decide) (by decide) (fun x2 μ1 => ?_)
  change V κ ρ 0 0 μ1 _ 4 [(0, .ref a0), (1, .int p1)] [.int x2]
  refine V_if_ne (tgt := 13) F dX8_clears_4 (by decide) (fun c3 => ?_) (fun c4 => ?_)
  · refine V_aload_n F dX8_clears_13 rfl 0 rfl ?_
    refine V_iload_n F dX8_clears_14 rfl 1 rfl ?_
    refine V_cV (As := [.int p1]) (rest := []) (C := RX8) (N := 1) F M (metX8_cells (Fx_G F) (Fx_l F) a0 p1 μ1) rfl q1460 q72 q1457 q1459 q41 ⟨by decide +kernel, by decide +kernel, by decide +kernel⟩ rfl ⟨by decide, by decide⟩ (Nat.le_of_ble_eq_true rfl) dX8_clears_15 (by decide) (by decide) (fun x6 μ5 => ?_)
    change V κ ρ 0 0 μ5 _ 18 [(0, .ref a0), (1, .int p1)] [.int x6]
    refine V_istore_n (lv' := [(2, .int x6), (0, .ref a0), (1, .int p1)]) F dX8_clears_18 rfl (lt_L hNL (by decide)) rfl ?_
    refine V_aload_n F dX8_clears_19 rfl 1 rfl ?_
    refine V_gR (ci := 8) (k9 := 5) (C := RX8) (T := TX8) (N := 22) F rfl hinX8 (by decide) q1213 dX8_clears_20 (fun x7 => ?_)
    refine V_bipush (v := 73) F dX8_clears_23 (by decide) ?_
    refine V_iload_n F dX8_clears_25 rfl 2 rfl ?_
    refine V_iadd F dX8_clears_26 ?_
    refine V_iconst (v := 0) F dX8_clears_27 (by decide) ?_
    refine V_sI F dX8_clears_28 (fun μ8 => ?_)
    refine V_aload_n F dX8_clears_29 rfl 1 rfl ?_
    refine V_gR (ci := 8) (k9 := 5) (C := RX8) (T := TX8) (N := 22) F rfl hinX8 (by decide) q1213 dX8_clears_30 (fun x9 => ?_)
    refine V_bipush (v := 77) F dX8_clears_33 (by decide) ?_
    refine V_iload_n F dX8_clears_35 rfl 2 rfl ?_
    refine V_iadd F dX8_clears_36 ?_
    refine V_iconst (v := 0) F dX8_clears_37 (by decide) ?_
    refine V_sI F dX8_clears_38 (fun μ10 => ?_)
    refine V_iload_n F dX8_clears_39 rfl 0 rfl ?_
    exact V_iret F M dX8_clears_40 rfl (by decide) (by decide)
  · refine V_aload_n F dX8_clears_7 rfl 0 rfl ?_
    refine V_iconst (v := 1) F dX8_clears_8 (by decide) ?_
    refine V_cV (As := [.int 1]) (rest := []) (C := RX8) (N := 1) F M (metX8_fail (Fx_G F) (Fx_l F) a0 1 μ1) rfl q1303 q72 q1300 q1302 q22 ⟨by decide +kernel, by decide +kernel, by decide +kernel⟩ rfl ⟨by decide, by decide⟩ (Nat.le_of_ble_eq_true rfl) dX8_clears_9 (by decide) (by decide) (fun x12 μ11 => ?_)
    change V κ ρ 0 0 μ11 _ 12 [(0, .ref a0), (1, .int p1)] [.int x12]
    exact V_iret F M dX8_clears_12 rfl (by decide) (by decide)
/-! DroneLightShowModel.clearFormation(I)I -/
abbrev rmX8_clearFormation : Room := { frames := 3, cells := 0, slots := 0, locals := 68 }
def FX8_clearFormation (a0 : Nat) (p1 : Int32) (μ : Me) : Rs Int32 :=
  (bnd (vc μ a0 8 (FX8_begins a0  μ)) (fun x2 μ1 => (bnd (vc μ1 a0 8 (FX8_clears a0 p1 μ1)) (fun x4 μ3 => (bnd (vc μ3 a0 8 (FX8_ends a0 x4 μ3)) (fun x6 μ5 => (rt x6 μ5)))))))
set_option maxHeartbeats 4000000 in
set_option maxRecDepth 100000 in
theorem metX8_clearFormation {l : Launch} {s0 : State} {D : va_G} {aC : Nat → ClassId} (hG : Gl s0 D aC) (hl : l.stackTraces = false) (a0 : Nat) (p1 : Int32) (μ : Me) : Ct l yX8_clearFormation (ws_ yX8_clearFormation cX8_clearFormation 2 (some .int)) rmX8_clearFormation s0 D aC (fun r : Int32 => some (.int r)) [.ref a0, .int p1] μ (FX8_clearFormation a0 p1 μ) := by
  refine Ct_of hG hl (by decide +kernel) (Nat.le_of_ble_eq_true rfl) (fun κ ρ hNL F M hκ => ?_)
  have F : Fx κ cX8_clearFormation RX8 := F
  change V κ ρ 0 0 μ (FX8_clearFormation a0 p1 μ) 0 [(0, .ref a0), (1, .int p1)] []
  unfold FX8_clearFormation
  refine V_aload_n F dX8_clearFormation_0 rfl 0 rfl ?_
  refine V_cV (As := []) (rest := []) (C := RX8) (N := 0) F M (metX8_begins (Fx_G F) (Fx_l F) a0  μ) rfl q1286 q72 q1283 q1285 q20 ⟨by decide +kernel, by decide +kernel, by decide +kernel⟩ rfl ⟨by decide, by decide⟩ (Nat.le_of_ble_eq_true rfl) dX8_clearFormation_1 (by decide) (by decide) (fun x2 μ1 => ?_)
  change V κ ρ 0 0 μ1 _ 4 [(0, .ref a0), (1, .int p1)] []
  refine V_aload_n F dX8_clearFormation_4 rfl 0 rfl ?_
  refine V_aload_n F dX8_clearFormation_5 rfl 0 rfl ?_
  refine V_iload_n F dX8_clearFormation_6 rfl 1 rfl ?_
  refine V_cV (As := [.int p1]) (rest := [.ref a0]) (C := RX8) (N := 1) F M (metX8_clears (Fx_G F) (Fx_l F) a0 p1 μ1) rfl q1468 q72 q1465 q1467 q42 ⟨by decide +kernel, by decide +kernel, by decide +kernel⟩ rfl ⟨by decide, by decide⟩ (Nat.le_of_ble_eq_true rfl) dX8_clearFormation_7 (by decide) (by decide) (fun x4 μ3 => ?_)
  change V κ ρ 0 0 μ3 _ 10 [(0, .ref a0), (1, .int p1)] [.int x4, .ref a0]
  refine V_cV (As := [.int x4]) (rest := []) (C := RX8) (N := 1) F M (metX8_ends (Fx_G F) (Fx_l F) a0 x4 μ3) rfl q1318 q72 q1315 q1317 q25 ⟨by decide +kernel, by decide +kernel, by decide +kernel⟩ rfl ⟨by decide, by decide⟩ (Nat.le_of_ble_eq_true rfl) dX8_clearFormation_10 (by decide) (by decide) (fun x6 μ5 => ?_)
  change V κ ρ 0 0 μ5 _ 13 [(0, .ref a0), (1, .int p1)] [.int x6]
  exact V_iret F M dX8_clearFormation_13 rfl (by decide) (by decide)
/-! DroneLightShowModel.takesPart(I)Z -/
abbrev rmX8_takesPart : Room := { frames := 2, cells := 0, slots := 0, locals := 42 }
def FX8_takesPart (a0 : Nat) (p1 : Int32) (μ : Me) : Rs Int32 :=
  (bnd (vc μ a0 8 (FX8_flies a0 p1 μ)) (fun x2 μ1 => (if x2 = 0 then (rt 0 μ1) else (bnd (vc μ1 a0 8 (FX8_isUrgent a0 p1 μ1)) (fun x6 μ5 => (if x6 = 0 then (rt 1 μ5) else (rt 0 μ5)))))))
set_option maxHeartbeats 4000000 in
set_option maxRecDepth 100000 in
theorem metX8_takesPart {l : Launch} {s0 : State} {D : va_G} {aC : Nat → ClassId} (hG : Gl s0 D aC) (hl : l.stackTraces = false) (a0 : Nat) (p1 : Int32) (μ : Me) : Ct l yX8_takesPart (ws_ yX8_takesPart cX8_takesPart 2 (some .boolean)) rmX8_takesPart s0 D aC (fun r : Int32 => some (.int r)) [.ref a0, .int p1] μ (FX8_takesPart a0 p1 μ) := by
  refine Ct_of hG hl (by decide +kernel) (Nat.le_of_ble_eq_true rfl) (fun κ ρ hNL F M hκ => ?_)
  have F : Fx κ cX8_takesPart RX8 := F
  change V κ ρ 0 0 μ (FX8_takesPart a0 p1 μ) 0 [(0, .ref a0), (1, .int p1)] []
  unfold FX8_takesPart
  refine V_aload_n F dX8_takesPart_0 rfl 0 rfl ?_
  refine V_iload_n F dX8_takesPart_1 rfl 1 rfl ?_
  refine V_cV (As := [.int p1]) (rest := []) (C := RX8) (N := 1) F M (metX8_flies (Fx_G F) (Fx_l F) a0 p1 μ) rfl q1346 q72 q1343 q1345 q30 ⟨by decide +kernel, by decide +kernel, by decide +kernel⟩ rfl ⟨by decide, by decide⟩ (Nat.le_of_ble_eq_true rfl) dX8_takesPart_2 (by decide) (by decide) (fun x2 μ1 => ?_)
  change V κ ρ 0 0 μ1 _ 5 [(0, .ref a0), (1, .int p1)] [.int x2]
  refine V_if_eq (tgt := 20) F dX8_takesPart_5 (by decide) (fun c3 => ?_) (fun c4 => ?_)
  · refine V_iconst (v := 0) F dX8_takesPart_20 (by decide) ?_
    exact V_zret F M dX8_takesPart_21 rfl (by decide) (by decide) (by decide)
  · refine V_aload_n F dX8_takesPart_8 rfl 0 rfl ?_
    refine V_iload_n F dX8_takesPart_9 rfl 1 rfl ?_
    refine V_cV (As := [.int p1]) (rest := []) (C := RX8) (N := 1) F M (metX8_isUrgent (Fx_G F) (Fx_l F) a0 p1 μ1) rfl q1370 q72 q1367 q1369 q34 ⟨by decide +kernel, by decide +kernel, by decide +kernel⟩ rfl ⟨by decide, by decide⟩ (Nat.le_of_ble_eq_true rfl) dX8_takesPart_10 (by decide) (by decide) (fun x6 μ5 => ?_)
    change V κ ρ 0 0 μ5 _ 13 [(0, .ref a0), (1, .int p1)] [.int x6]
    refine V_if_ne (tgt := 20) F dX8_takesPart_13 (by decide) (fun c7 => ?_) (fun c8 => ?_)
    · refine V_iconst (v := 0) F dX8_takesPart_20 (by decide) ?_
      exact V_zret F M dX8_takesPart_21 rfl (by decide) (by decide) (by decide)
    · refine V_iconst (v := 1) F dX8_takesPart_16 (by decide) ?_
      refine V_goto (tgt := 21) F dX8_takesPart_17 (by decide) ?_
      exact V_zret F M dX8_takesPart_21 rfl (by decide) (by decide) (by decide)
/-! DroneLightShowModel.nearestFor(I)I -/
abbrev rmX8_nearestFor : Room := { frames := 3, cells := 0, slots := 0, locals := 63 }
def FX8_nearestFor_B4 (k4 : Nat → Int32 → Int32 → Int32 → Me → Rs Int32) (v0 : Nat) (v1 : Int32) (v2 : Int32) (v3 : Int32) (μ : Me) : Rs Int32 :=
  (gR μ v0 8 5 (fun x1 => (aI μ x1 0 (fun x2 => (if x2 ≤ v3 then (rt v2 μ) else (bnd (vc μ v0 8 (FX8_takesPart v0 v3 μ)) (fun x6 μ5 => (if x6 = 0 then (k4 v0 v1 v2 (v3 + 1) μ5) else (bnd (vc μ5 v0 8 (FX8_goal v0 v3 μ5)) (fun x10 μ9 => (if x10 < 0 then (if v2 < 0 then (k4 v0 v1 v3 (v3 + 1) μ9) else (gR μ9 v0 8 5 (fun x15 => (bnd (FX8_of v3 0 μ9) (fun x17 μ16 => (aI μ16 x15 x17 (fun x18 => (bnd (FX8_far x18 v1 μ16) (fun x20 μ19 => (gR μ19 v0 8 5 (fun x21 => (bnd (FX8_of v2 0 μ19) (fun x23 μ22 => (aI μ22 x21 x23 (fun x24 => (bnd (FX8_far x24 v1 μ22) (fun x26 μ25 => (if x26 ≤ x20 then (k4 v0 v1 v2 (v3 + 1) μ25) else (k4 v0 v1 v3 (v3 + 1) μ25))))))))))))))))))) else (k4 v0 v1 v2 (v3 + 1) μ9))))))))))))
set_option maxHeartbeats 4000000 in
set_option maxRecDepth 100000 in
theorem VX8_nearestFor_B4 {κ : Cx} {ρ : (Int32 ⊕ String) × Me} (F : Fx κ cX8_nearestFor RX8) (M : Mx κ (fun r : Int32 => some (.int r)) ρ rmX8_nearestFor (some .int) [] "nearestFor") (hNL : κ.2.2.2.2.2.2.2.2.2.2.2.2.2.2 = 4) {k4 : Nat → Int32 → Int32 → Int32 → Me → Rs Int32} (hk4 : ∀ (v0 : Nat) (v1 : Int32) (v2 : Int32) (v3 : Int32) (μ : Me), V κ ρ 0 0 μ (k4 v0 v1 v2 v3 μ) 4 [(0, .ref v0), (1, .int v1), (2, .int v2), (3, .int v3)] []) (v0 : Nat) (v1 : Int32) (v2 : Int32) (v3 : Int32) (μ : Me) : V κ ρ 0 0 μ (FX8_nearestFor_B4 k4 v0 v1 v2 v3 μ) 4 [(0, .ref v0), (1, .int v1), (2, .int v2), (3, .int v3)] [] := by
  unfold FX8_nearestFor_B4
  refine V_iload_n F dX8_nearestFor_4 rfl 3 rfl ?_
  refine V_aload_n F dX8_nearestFor_5 rfl 0 rfl ?_
  refine V_gR (ci := 8) (k9 := 5) (C := RX8) (T := TX8) (N := 22) F rfl hinX8 (by decide) q1213 dX8_nearestFor_6 (fun x1 => ?_)
  refine V_iconst (v := 0) F dX8_nearestFor_9 (by decide) ?_
  refine V_aI F dX8_nearestFor_10 (fun x2 => ?_)
  refine V_icmp_ge (tgt := 80) F dX8_nearestFor_11 (by decide) (fun c3 => ?_) (fun c4 => ?_)
  · refine V_iload_n F dX8_nearestFor_80 rfl 2 rfl ?_
    exact V_iret F M dX8_nearestFor_81 rfl (by decide) (by decide)
  · refine V_aload_n F dX8_nearestFor_14 rfl 0 rfl ?_
    refine V_iload_n F dX8_nearestFor_15 rfl 3 rfl ?_
    refine V_cV (As := [.int v3]) (rest := []) (C := RX8) (N := 1) F M (metX8_takesPart (Fx_G F) (Fx_l F) v0 v3 μ) rfl q1480 q72 q1477 q1479 q44 ⟨by decide +kernel, by decide +kernel, by decide +kernel⟩ rfl ⟨by decide, by decide⟩ (Nat.le_of_ble_eq_true rfl) dX8_nearestFor_16 (by decide) (by decide) (fun x6 μ5 => ?_)
    change V κ ρ 0 0 μ5 _ 19 [(0, .ref v0), (1, .int v1), (2, .int v2), (3, .int v3)] [.int x6]
    refine V_if_eq (tgt := 74) F dX8_nearestFor_19 (by decide) (fun c7 => ?_) (fun c8 => ?_)
    · refine V_iinc (lv' := [(3, .int (v3 + 1)), (0, .ref v0), (1, .int v1), (2, .int v2)]) F dX8_nearestFor_74 3 rfl rfl (lt_L hNL (by decide)) rfl ?_
      refine V_goto (tgt := 4) F dX8_nearestFor_77 (by decide) ?_
      refine V_sub [1, 2, 3, 0] rfl ?_
      exact hk4 v0 v1 v2 (v3 + 1) μ5
    · refine V_aload_n F dX8_nearestFor_22 rfl 0 rfl ?_
      refine V_iload_n F dX8_nearestFor_23 rfl 3 rfl ?_
      refine V_cV (As := [.int v3]) (rest := []) (C := RX8) (N := 1) F M (metX8_goal (Fx_G F) (Fx_l F) v0 v3 μ5) rfl q1416 q72 q1413 q1415 q37 ⟨by decide +kernel, by decide +kernel, by decide +kernel⟩ rfl ⟨by decide, by decide⟩ (Nat.le_of_ble_eq_true rfl) dX8_nearestFor_24 (by decide) (by decide) (fun x10 μ9 => ?_)
      change V κ ρ 0 0 μ9 _ 27 [(0, .ref v0), (1, .int v1), (2, .int v2), (3, .int v3)] [.int x10]
      refine V_if_lt (tgt := 33) F dX8_nearestFor_27 (by decide) (fun c11 => ?_) (fun c12 => ?_)
      · refine V_iload_n F dX8_nearestFor_33 rfl 2 rfl ?_
        refine V_if_lt (tgt := 68) F dX8_nearestFor_34 (by decide) (fun c13 => ?_) (fun c14 => ?_)
        · refine V_iload_n F dX8_nearestFor_68 rfl 3 rfl ?_
          refine V_goto (tgt := 73) F dX8_nearestFor_69 (by decide) ?_
          refine V_istore_n (lv' := [(2, .int v3), (0, .ref v0), (1, .int v1), (3, .int v3)]) F dX8_nearestFor_73 rfl (lt_L hNL (by decide)) rfl ?_
          refine V_iinc (lv' := [(3, .int (v3 + 1)), (2, .int v3), (0, .ref v0), (1, .int v1)]) F dX8_nearestFor_74 3 rfl rfl (lt_L hNL (by decide)) rfl ?_
          refine V_goto (tgt := 4) F dX8_nearestFor_77 (by decide) ?_
          refine V_sub [2, 3, 1, 0] rfl ?_
          exact hk4 v0 v1 v3 (v3 + 1) μ9
        · refine V_aload_n F dX8_nearestFor_37 rfl 0 rfl ?_
          refine V_gR (ci := 8) (k9 := 5) (C := RX8) (T := TX8) (N := 22) F rfl hinX8 (by decide) q1213 dX8_nearestFor_38 (fun x15 => ?_)
          refine V_iload_n F dX8_nearestFor_41 rfl 3 rfl ?_
          refine V_iconst (v := 0) F dX8_nearestFor_42 (by decide) ?_
          refine V_cS (As := [.int v3, .int 0]) (rest := [.ref x15]) (N := 2) F M (metX8_of (Fx_G F) (Fx_l F) v3 0 μ9) q1310 q72 q1308 q1309 ⟨by decide +kernel, by decide +kernel, by decide +kernel⟩ rfl ⟨by decide, by decide⟩ (Nat.le_of_ble_eq_true rfl) dX8_nearestFor_43 (by decide) (by decide) (fun x17 μ16 => ?_)
          change V κ ρ 0 0 μ16 _ 46 [(0, .ref v0), (1, .int v1), (2, .int v2), (3, .int v3)] [.int x17, .ref x15]
          refine V_aI F dX8_nearestFor_46 (fun x18 => ?_)
          refine V_iload_n F dX8_nearestFor_47 rfl 1 rfl ?_
          refine V_cS (As := [.int x18, .int v1]) (rest := []) (N := 2) F M (metX8_far (Fx_G F) (Fx_l F) x18 v1 μ16) q1373 q72 q1371 q1372 ⟨by decide +kernel, by decide +kernel, by decide +kernel⟩ rfl ⟨by decide, by decide⟩ (Nat.le_of_ble_eq_true rfl) dX8_nearestFor_48 (by decide) (by decide) (fun x20 μ19 => ?_)
          change V κ ρ 0 0 μ19 _ 51 [(0, .ref v0), (1, .int v1), (2, .int v2), (3, .int v3)] [.int x20]
          refine V_aload_n F dX8_nearestFor_51 rfl 0 rfl ?_
          refine V_gR (ci := 8) (k9 := 5) (C := RX8) (T := TX8) (N := 22) F rfl hinX8 (by decide) q1213 dX8_nearestFor_52 (fun x21 => ?_)
          refine V_iload_n F dX8_nearestFor_55 rfl 2 rfl ?_
          refine V_iconst (v := 0) F dX8_nearestFor_56 (by decide) ?_
          refine V_cS (As := [.int v2, .int 0]) (rest := [.ref x21, .int x20]) (N := 2) F M (metX8_of (Fx_G F) (Fx_l F) v2 0 μ19) q1310 q72 q1308 q1309 ⟨by decide +kernel, by decide +kernel, by decide +kernel⟩ rfl ⟨by decide, by decide⟩ (Nat.le_of_ble_eq_true rfl) dX8_nearestFor_57 (by decide) (by decide) (fun x23 μ22 => ?_)
          change V κ ρ 0 0 μ22 _ 60 [(0, .ref v0), (1, .int v1), (2, .int v2), (3, .int v3)] [.int x23, .ref x21, .int x20]
          refine V_aI F dX8_nearestFor_60 (fun x24 => ?_)
          refine V_iload_n F dX8_nearestFor_61 rfl 1 rfl ?_
          refine V_cS (As := [.int x24, .int v1]) (rest := [.int x20]) (N := 2) F M (metX8_far (Fx_G F) (Fx_l F) x24 v1 μ22) q1373 q72 q1371 q1372 ⟨by decide +kernel, by decide +kernel, by decide +kernel⟩ rfl ⟨by decide, by decide⟩ (Nat.le_of_ble_eq_true rfl) dX8_nearestFor_62 (by decide) (by decide) (fun x26 μ25 => ?_)
          change V κ ρ 0 0 μ25 _ 65 [(0, .ref v0), (1, .int v1), (2, .int v2), (3, .int v3)] [.int x26, .int x20]
          refine V_icmp_ge (tgt := 72) F dX8_nearestFor_65 (by decide) (fun c27 => ?_) (fun c28 => ?_)
          · refine V_iload_n F dX8_nearestFor_72 rfl 2 rfl ?_
            refine V_istore_n (lv' := [(2, .int v2), (0, .ref v0), (1, .int v1), (3, .int v3)]) F dX8_nearestFor_73 rfl (lt_L hNL (by decide)) rfl ?_
            refine V_iinc (lv' := [(3, .int (v3 + 1)), (2, .int v2), (0, .ref v0), (1, .int v1)]) F dX8_nearestFor_74 3 rfl rfl (lt_L hNL (by decide)) rfl ?_
            refine V_goto (tgt := 4) F dX8_nearestFor_77 (by decide) ?_
            refine V_sub [2, 3, 1, 0] rfl ?_
            exact hk4 v0 v1 v2 (v3 + 1) μ25
          · refine V_iload_n F dX8_nearestFor_68 rfl 3 rfl ?_
            refine V_goto (tgt := 73) F dX8_nearestFor_69 (by decide) ?_
            refine V_istore_n (lv' := [(2, .int v3), (0, .ref v0), (1, .int v1), (3, .int v3)]) F dX8_nearestFor_73 rfl (lt_L hNL (by decide)) rfl ?_
            refine V_iinc (lv' := [(3, .int (v3 + 1)), (2, .int v3), (0, .ref v0), (1, .int v1)]) F dX8_nearestFor_74 3 rfl rfl (lt_L hNL (by decide)) rfl ?_
            refine V_goto (tgt := 4) F dX8_nearestFor_77 (by decide) ?_
            refine V_sub [2, 3, 1, 0] rfl ?_
            exact hk4 v0 v1 v3 (v3 + 1) μ25
      · refine V_goto (tgt := 74) F dX8_nearestFor_30 (by decide) ?_
        refine V_iinc (lv' := [(3, .int (v3 + 1)), (0, .ref v0), (1, .int v1), (2, .int v2)]) F dX8_nearestFor_74 3 rfl rfl (lt_L hNL (by decide)) rfl ?_
        refine V_goto (tgt := 4) F dX8_nearestFor_77 (by decide) ?_
        refine V_sub [1, 2, 3, 0] rfl ?_
        exact hk4 v0 v1 v2 (v3 + 1) μ9
def FX8_nearestFor_L4  : Nat → Nat → Int32 → Int32 → Int32 → Me → Rs Int32
  | 0, _, _, _, _, _ => none
  | f + 1, v0, v1, v2, v3, μ => FX8_nearestFor_B4 (FX8_nearestFor_L4  f) v0 v1 v2 v3 μ
theorem VX8_nearestFor_L4 {κ : Cx} {ρ : (Int32 ⊕ String) × Me} (F : Fx κ cX8_nearestFor RX8) (M : Mx κ (fun r : Int32 => some (.int r)) ρ rmX8_nearestFor (some .int) [] "nearestFor") (hNL : κ.2.2.2.2.2.2.2.2.2.2.2.2.2.2 = 4)   : ∀ (f : Nat) (v0 : Nat) (v1 : Int32) (v2 : Int32) (v3 : Int32) (μ : Me), V κ ρ 0 0 μ (FX8_nearestFor_L4  f v0 v1 v2 v3 μ) 4 [(0, .ref v0), (1, .int v1), (2, .int v2), (3, .int v3)] [] := by
  intro f
  induction f with
  | zero => intros; exact V_none
  | succ f ih => intro v0 v1 v2 v3 μ; exact VX8_nearestFor_B4 F M hNL (fun v0 v1 v2 v3 μ => ih v0 v1 v2 v3 μ) v0 v1 v2 v3 μ
def FX8_nearestFor (a0 : Nat) (p1 : Int32) (μ : Me) : Rs Int32 :=
  (FX8_nearestFor_L4  FU a0 p1 (-1) 0 μ)
set_option maxHeartbeats 4000000 in
set_option maxRecDepth 100000 in
theorem metX8_nearestFor {l : Launch} {s0 : State} {D : va_G} {aC : Nat → ClassId} (hG : Gl s0 D aC) (hl : l.stackTraces = false) (a0 : Nat) (p1 : Int32) (μ : Me) : Ct l yX8_nearestFor (ws_ yX8_nearestFor cX8_nearestFor 4 (some .int)) rmX8_nearestFor s0 D aC (fun r : Int32 => some (.int r)) [.ref a0, .int p1] μ (FX8_nearestFor a0 p1 μ) := by
  refine Ct_of hG hl (by decide +kernel) (Nat.le_of_ble_eq_true rfl) (fun κ ρ hNL F M hκ => ?_)
  have F : Fx κ cX8_nearestFor RX8 := F
  change V κ ρ 0 0 μ (FX8_nearestFor a0 p1 μ) 0 [(0, .ref a0), (1, .int p1)] []
  unfold FX8_nearestFor
  refine V_iconst (v := (-1)) F dX8_nearestFor_0 (by decide) ?_
  refine V_istore_n (lv' := [(2, .int (-1)), (0, .ref a0), (1, .int p1)]) F dX8_nearestFor_1 rfl (lt_L hNL (by decide)) rfl ?_
  refine V_iconst (v := 0) F dX8_nearestFor_2 (by decide) ?_
  refine V_istore_n (lv' := [(3, .int 0), (2, .int (-1)), (0, .ref a0), (1, .int p1)]) F dX8_nearestFor_3 rfl (lt_L hNL (by decide)) rfl ?_
  refine V_sub [2, 3, 1, 0] rfl ?_
  exact VX8_nearestFor_L4 F M hNL  FU a0 p1 (-1) 0 μ
/-! DroneLightShowModel.assigns(I)I -/
abbrev rmX8_assigns : Room := { frames := 4, cells := 0, slots := 0, locals := 86 }
def FX8_assigns_B92 (k68 : Nat → Int32 → Int32 → Int32 → Me → Rs Int32) (v0 : Nat) (v1 : Int32) (v2 : Int32) (v3 : Int32) (t0 : Int32) (μ : Me) : Rs Int32 :=
  (if 0 ≤ t0 then (gR μ v0 8 5 (fun x21 => (bnd (FX8_of t0 4 μ) (fun x23 μ22 => (sI μ22 x21 x23 (v3 + 1) (fun μ24 => (k68 v0 v1 (v2 + 1) (v3 + 1) μ24))))))) else (k68 v0 v1 v2 (v3 + 1) μ))
set_option maxHeartbeats 4000000 in
set_option maxRecDepth 100000 in
theorem VX8_assigns_B92 {κ : Cx} {ρ : (Int32 ⊕ String) × Me} (F : Fx κ cX8_assigns RX8) (M : Mx κ (fun r : Int32 => some (.int r)) ρ rmX8_assigns (some .int) [] "assigns") (hNL : κ.2.2.2.2.2.2.2.2.2.2.2.2.2.2 = 5) {k68 : Nat → Int32 → Int32 → Int32 → Me → Rs Int32} (hk68 : ∀ (v0 : Nat) (v1 : Int32) (v2 : Int32) (v3 : Int32) (μ : Me), V κ ρ 0 0 μ (k68 v0 v1 v2 v3 μ) 68 [(0, .ref v0), (1, .int v1), (2, .int v2), (3, .int v3)] []) (v0 : Nat) (v1 : Int32) (v2 : Int32) (v3 : Int32) (t0 : Int32) (μ : Me) : V κ ρ 0 0 μ (FX8_assigns_B92 k68 v0 v1 v2 v3 t0 μ) 92 [(0, .ref v0), (1, .int v1), (2, .int v2), (3, .int v3)] [.int t0] := by
  unfold FX8_assigns_B92
  refine V_istore (lv' := [(4, .int t0), (0, .ref v0), (1, .int v1), (2, .int v2), (3, .int v3)]) F dX8_assigns_92 (lt_L hNL (by decide)) rfl ?_
  refine V_iload F dX8_assigns_94 0 rfl ?_
  refine V_if_ge (tgt := 102) F dX8_assigns_96 (by decide) (fun c19 => ?_) (fun c20 => ?_)
  · refine V_aload_n F dX8_assigns_102 rfl 1 rfl ?_
    refine V_gR (ci := 8) (k9 := 5) (C := RX8) (T := TX8) (N := 22) F rfl hinX8 (by decide) q1213 dX8_assigns_103 (fun x21 => ?_)
    refine V_iload F dX8_assigns_106 0 rfl ?_
    refine V_iconst (v := 4) F dX8_assigns_108 (by decide) ?_
    refine V_cS (As := [.int t0, .int 4]) (rest := [.ref x21]) (N := 2) F M (metX8_of (Fx_G F) (Fx_l F) t0 4 μ) q1310 q72 q1308 q1309 ⟨by decide +kernel, by decide +kernel, by decide +kernel⟩ rfl ⟨by decide, by decide⟩ (Nat.le_of_ble_eq_true rfl) dX8_assigns_109 (by decide) (by decide) (fun x23 μ22 => ?_)
    change V κ ρ 0 0 μ22 _ 112 [(4, .int t0), (0, .ref v0), (1, .int v1), (2, .int v2), (3, .int v3)] [.int x23, .ref x21]
    refine V_iload_n F dX8_assigns_112 rfl 4 rfl ?_
    refine V_iconst (v := 1) F dX8_assigns_113 (by decide) ?_
    refine V_iadd F dX8_assigns_114 ?_
    refine V_sI F dX8_assigns_115 (fun μ24 => ?_)
    refine V_iinc (lv' := [(2, .int (v2 + 1)), (4, .int t0), (0, .ref v0), (1, .int v1), (3, .int v3)]) F dX8_assigns_116 3 rfl rfl (lt_L hNL (by decide)) rfl ?_
    refine V_iinc (lv' := [(3, .int (v3 + 1)), (2, .int (v2 + 1)), (4, .int t0), (0, .ref v0), (1, .int v1)]) F dX8_assigns_119 4 rfl rfl (lt_L hNL (by decide)) rfl ?_
    refine V_goto (tgt := 68) F dX8_assigns_122 (by decide) ?_
    refine V_sub [3, 4, 1, 0] rfl ?_
    exact hk68 v0 v1 (v2 + 1) (v3 + 1) μ24
  · refine V_goto (tgt := 119) F dX8_assigns_99 (by decide) ?_
    refine V_iinc (lv' := [(3, .int (v3 + 1)), (4, .int t0), (0, .ref v0), (1, .int v1), (2, .int v2)]) F dX8_assigns_119 4 rfl rfl (lt_L hNL (by decide)) rfl ?_
    refine V_goto (tgt := 68) F dX8_assigns_122 (by decide) ?_
    refine V_sub [2, 3, 4, 0] rfl ?_
    exact hk68 v0 v1 v2 (v3 + 1) μ
def FX8_assigns_B68 (k68 : Nat → Int32 → Int32 → Int32 → Me → Rs Int32) (v0 : Nat) (v1 : Int32) (v2 : Int32) (v3 : Int32) (μ : Me) : Rs Int32 :=
  (if 64 ≤ v3 then (rt v2 μ) else (bnd (vc μ v0 8 (FX8_belongs v0 v1 v3 μ)) (fun x16 μ15 => (if x16 = 0 then (FX8_assigns_B92 k68 v0 v1 v2 v3 (-1) μ15) else (bnd (vc μ15 v0 8 (FX8_nearestFor v0 v3 μ15)) (fun x26 μ25 => (FX8_assigns_B92 k68 v0 v1 v2 v3 x26 μ25)))))))
set_option maxHeartbeats 4000000 in
set_option maxRecDepth 100000 in
theorem VX8_assigns_B68 {κ : Cx} {ρ : (Int32 ⊕ String) × Me} (F : Fx κ cX8_assigns RX8) (M : Mx κ (fun r : Int32 => some (.int r)) ρ rmX8_assigns (some .int) [] "assigns") (hNL : κ.2.2.2.2.2.2.2.2.2.2.2.2.2.2 = 5) {k68 : Nat → Int32 → Int32 → Int32 → Me → Rs Int32} (hk68 : ∀ (v0 : Nat) (v1 : Int32) (v2 : Int32) (v3 : Int32) (μ : Me), V κ ρ 0 0 μ (k68 v0 v1 v2 v3 μ) 68 [(0, .ref v0), (1, .int v1), (2, .int v2), (3, .int v3)] []) (v0 : Nat) (v1 : Int32) (v2 : Int32) (v3 : Int32) (μ : Me) : V κ ρ 0 0 μ (FX8_assigns_B68 k68 v0 v1 v2 v3 μ) 68 [(0, .ref v0), (1, .int v1), (2, .int v2), (3, .int v3)] [] := by
  unfold FX8_assigns_B68
  refine V_iload_n F dX8_assigns_68 rfl 3 rfl ?_
  refine V_bipush (v := 64) F dX8_assigns_69 (by decide) ?_
  refine V_icmp_ge (tgt := 125) F dX8_assigns_71 (by decide) (fun c13 => ?_) (fun c14 => ?_)
  · refine V_iload_n F dX8_assigns_125 rfl 2 rfl ?_
    exact V_iret F M dX8_assigns_126 rfl (by decide) (by decide)
  · refine V_aload_n F dX8_assigns_74 rfl 0 rfl ?_
    refine V_iload_n F dX8_assigns_75 rfl 1 rfl ?_
    refine V_iload_n F dX8_assigns_76 rfl 3 rfl ?_
    refine V_cV (As := [.int v1, .int v3]) (rest := []) (C := RX8) (N := 2) F M (metX8_belongs (Fx_G F) (Fx_l F) v0 v1 v3 μ) rfl q1456 q72 q1453 q1455 q40 ⟨by decide +kernel, by decide +kernel, by decide +kernel⟩ rfl ⟨by decide, by decide⟩ (Nat.le_of_ble_eq_true rfl) dX8_assigns_77 (by decide) (by decide) (fun x16 μ15 => ?_)
    change V κ ρ 0 0 μ15 _ 80 [(0, .ref v0), (1, .int v1), (2, .int v2), (3, .int v3)] [.int x16]
    refine V_if_eq (tgt := 91) F dX8_assigns_80 (by decide) (fun c17 => ?_) (fun c18 => ?_)
    · refine V_iconst (v := (-1)) F dX8_assigns_91 (by decide) ?_
      refine V_sub [0, 1, 2, 3] rfl ?_
      exact VX8_assigns_B92 F M hNL hk68 v0 v1 v2 v3 (-1) μ15
    · refine V_aload_n F dX8_assigns_83 rfl 0 rfl ?_
      refine V_iload_n F dX8_assigns_84 rfl 3 rfl ?_
      refine V_cV (As := [.int v3]) (rest := []) (C := RX8) (N := 1) F M (metX8_nearestFor (Fx_G F) (Fx_l F) v0 v3 μ15) rfl q1484 q72 q1481 q1483 q45 ⟨by decide +kernel, by decide +kernel, by decide +kernel⟩ rfl ⟨by decide, by decide⟩ (Nat.le_of_ble_eq_true rfl) dX8_assigns_85 (by decide) (by decide) (fun x26 μ25 => ?_)
      change V κ ρ 0 0 μ25 _ 88 [(0, .ref v0), (1, .int v1), (2, .int v2), (3, .int v3)] [.int x26]
      refine V_goto (tgt := 92) F dX8_assigns_88 (by decide) ?_
      refine V_sub [0, 1, 2, 3] rfl ?_
      exact VX8_assigns_B92 F M hNL hk68 v0 v1 v2 v3 x26 μ25
def FX8_assigns_L68  : Nat → Nat → Int32 → Int32 → Int32 → Me → Rs Int32
  | 0, _, _, _, _, _ => none
  | f + 1, v0, v1, v2, v3, μ => FX8_assigns_B68 (FX8_assigns_L68  f) v0 v1 v2 v3 μ
theorem VX8_assigns_L68 {κ : Cx} {ρ : (Int32 ⊕ String) × Me} (F : Fx κ cX8_assigns RX8) (M : Mx κ (fun r : Int32 => some (.int r)) ρ rmX8_assigns (some .int) [] "assigns") (hNL : κ.2.2.2.2.2.2.2.2.2.2.2.2.2.2 = 5)   : ∀ (f : Nat) (v0 : Nat) (v1 : Int32) (v2 : Int32) (v3 : Int32) (μ : Me), V κ ρ 0 0 μ (FX8_assigns_L68  f v0 v1 v2 v3 μ) 68 [(0, .ref v0), (1, .int v1), (2, .int v2), (3, .int v3)] [] := by
  intro f
  induction f with
  | zero => intros; exact V_none
  | succ f ih => intro v0 v1 v2 v3 μ; exact VX8_assigns_B68 F M hNL (fun v0 v1 v2 v3 μ => ih v0 v1 v2 v3 μ) v0 v1 v2 v3 μ
def FX8_assigns_B31 (k31 : Nat → Int32 → Int32 → Int32 → Me → Rs Int32) (v0 : Nat) (v1 : Int32) (v2 : Int32) (v3 : Int32) (μ : Me) : Rs Int32 :=
  (gR μ v0 8 5 (fun x9 => (aI μ x9 0 (fun x10 => (if x10 ≤ v3 then (FX8_assigns_L68  FU v0 v1 v2 0 μ) else (bnd (vc μ v0 8 (FX8_takesPart v0 v3 μ)) (fun x28 μ27 => (if x28 = 0 then (k31 v0 v1 v2 (v3 + 1) μ27) else (gR μ27 v0 8 5 (fun x31 => (bnd (FX8_of v3 4 μ27) (fun x33 μ32 => (sI μ32 x31 x33 0 (fun μ34 => (k31 v0 v1 v2 (v3 + 1) μ34)))))))))))))))
set_option maxHeartbeats 4000000 in
set_option maxRecDepth 100000 in
theorem VX8_assigns_B31 {κ : Cx} {ρ : (Int32 ⊕ String) × Me} (F : Fx κ cX8_assigns RX8) (M : Mx κ (fun r : Int32 => some (.int r)) ρ rmX8_assigns (some .int) [] "assigns") (hNL : κ.2.2.2.2.2.2.2.2.2.2.2.2.2.2 = 5) {k31 : Nat → Int32 → Int32 → Int32 → Me → Rs Int32} (hk31 : ∀ (v0 : Nat) (v1 : Int32) (v2 : Int32) (v3 : Int32) (μ : Me), V κ ρ 0 0 μ (k31 v0 v1 v2 v3 μ) 31 [(0, .ref v0), (1, .int v1), (2, .int v2), (3, .int v3)] []) (v0 : Nat) (v1 : Int32) (v2 : Int32) (v3 : Int32) (μ : Me) : V κ ρ 0 0 μ (FX8_assigns_B31 k31 v0 v1 v2 v3 μ) 31 [(0, .ref v0), (1, .int v1), (2, .int v2), (3, .int v3)] [] := by
  unfold FX8_assigns_B31
  refine V_iload_n F dX8_assigns_31 rfl 3 rfl ?_
  refine V_aload_n F dX8_assigns_32 rfl 0 rfl ?_
  refine V_gR (ci := 8) (k9 := 5) (C := RX8) (T := TX8) (N := 22) F rfl hinX8 (by decide) q1213 dX8_assigns_33 (fun x9 => ?_)
  refine V_iconst (v := 0) F dX8_assigns_36 (by decide) ?_
  refine V_aI F dX8_assigns_37 (fun x10 => ?_)
  refine V_icmp_ge (tgt := 66) F dX8_assigns_38 (by decide) (fun c11 => ?_) (fun c12 => ?_)
  · refine V_iconst (v := 0) F dX8_assigns_66 (by decide) ?_
    refine V_istore_n (lv' := [(3, .int 0), (0, .ref v0), (1, .int v1), (2, .int v2)]) F dX8_assigns_67 rfl (lt_L hNL (by decide)) rfl ?_
    refine V_sub [1, 2, 3, 0] rfl ?_
    exact VX8_assigns_L68 F M hNL  FU v0 v1 v2 0 μ
  · refine V_aload_n F dX8_assigns_41 rfl 0 rfl ?_
    refine V_iload_n F dX8_assigns_42 rfl 3 rfl ?_
    refine V_cV (As := [.int v3]) (rest := []) (C := RX8) (N := 1) F M (metX8_takesPart (Fx_G F) (Fx_l F) v0 v3 μ) rfl q1480 q72 q1477 q1479 q44 ⟨by decide +kernel, by decide +kernel, by decide +kernel⟩ rfl ⟨by decide, by decide⟩ (Nat.le_of_ble_eq_true rfl) dX8_assigns_43 (by decide) (by decide) (fun x28 μ27 => ?_)
    change V κ ρ 0 0 μ27 _ 46 [(0, .ref v0), (1, .int v1), (2, .int v2), (3, .int v3)] [.int x28]
    refine V_if_eq (tgt := 60) F dX8_assigns_46 (by decide) (fun c29 => ?_) (fun c30 => ?_)
    · refine V_iinc (lv' := [(3, .int (v3 + 1)), (0, .ref v0), (1, .int v1), (2, .int v2)]) F dX8_assigns_60 3 rfl rfl (lt_L hNL (by decide)) rfl ?_
      refine V_goto (tgt := 31) F dX8_assigns_63 (by decide) ?_
      refine V_sub [1, 2, 3, 0] rfl ?_
      exact hk31 v0 v1 v2 (v3 + 1) μ27
    · refine V_aload_n F dX8_assigns_49 rfl 0 rfl ?_
      refine V_gR (ci := 8) (k9 := 5) (C := RX8) (T := TX8) (N := 22) F rfl hinX8 (by decide) q1213 dX8_assigns_50 (fun x31 => ?_)
      refine V_iload_n F dX8_assigns_53 rfl 3 rfl ?_
      refine V_iconst (v := 4) F dX8_assigns_54 (by decide) ?_
      refine V_cS (As := [.int v3, .int 4]) (rest := [.ref x31]) (N := 2) F M (metX8_of (Fx_G F) (Fx_l F) v3 4 μ27) q1310 q72 q1308 q1309 ⟨by decide +kernel, by decide +kernel, by decide +kernel⟩ rfl ⟨by decide, by decide⟩ (Nat.le_of_ble_eq_true rfl) dX8_assigns_55 (by decide) (by decide) (fun x33 μ32 => ?_)
      change V κ ρ 0 0 μ32 _ 58 [(0, .ref v0), (1, .int v1), (2, .int v2), (3, .int v3)] [.int x33, .ref x31]
      refine V_iconst (v := 0) F dX8_assigns_58 (by decide) ?_
      refine V_sI F dX8_assigns_59 (fun μ34 => ?_)
      refine V_iinc (lv' := [(3, .int (v3 + 1)), (0, .ref v0), (1, .int v1), (2, .int v2)]) F dX8_assigns_60 3 rfl rfl (lt_L hNL (by decide)) rfl ?_
      refine V_goto (tgt := 31) F dX8_assigns_63 (by decide) ?_
      refine V_sub [1, 2, 3, 0] rfl ?_
      exact hk31 v0 v1 v2 (v3 + 1) μ34
def FX8_assigns_L31  : Nat → Nat → Int32 → Int32 → Int32 → Me → Rs Int32
  | 0, _, _, _, _, _ => none
  | f + 1, v0, v1, v2, v3, μ => FX8_assigns_B31 (FX8_assigns_L31  f) v0 v1 v2 v3 μ
theorem VX8_assigns_L31 {κ : Cx} {ρ : (Int32 ⊕ String) × Me} (F : Fx κ cX8_assigns RX8) (M : Mx κ (fun r : Int32 => some (.int r)) ρ rmX8_assigns (some .int) [] "assigns") (hNL : κ.2.2.2.2.2.2.2.2.2.2.2.2.2.2 = 5)   : ∀ (f : Nat) (v0 : Nat) (v1 : Int32) (v2 : Int32) (v3 : Int32) (μ : Me), V κ ρ 0 0 μ (FX8_assigns_L31  f v0 v1 v2 v3 μ) 31 [(0, .ref v0), (1, .int v1), (2, .int v2), (3, .int v3)] [] := by
  intro f
  induction f with
  | zero => intros; exact V_none
  | succ f ih => intro v0 v1 v2 v3 μ; exact VX8_assigns_B31 F M hNL (fun v0 v1 v2 v3 μ => ih v0 v1 v2 v3 μ) v0 v1 v2 v3 μ
def FX8_assigns (a0 : Nat) (p1 : Int32) (μ : Me) : Rs Int32 :=
  (bnd (FX8_isForm p1 μ) (fun x2 μ1 => (if x2 = 0 then (bnd (vc μ1 a0 8 (FX8_fail a0 1 μ1)) (fun x38 μ37 => (rt x38 μ37))) else (bnd (vc μ1 a0 8 (FX8_cells a0 p1 μ1)) (fun x6 μ5 => (if x6 = 0 then (bnd (vc μ5 a0 8 (FX8_fail a0 2 μ5)) (fun x36 μ35 => (rt x36 μ35))) else (FX8_assigns_L31  FU a0 p1 0 0 μ5)))))))
set_option maxHeartbeats 4000000 in
set_option maxRecDepth 100000 in
theorem metX8_assigns {l : Launch} {s0 : State} {D : va_G} {aC : Nat → ClassId} (hG : Gl s0 D aC) (hl : l.stackTraces = false) (a0 : Nat) (p1 : Int32) (μ : Me) : Ct l yX8_assigns (ws_ yX8_assigns cX8_assigns 5 (some .int)) rmX8_assigns s0 D aC (fun r : Int32 => some (.int r)) [.ref a0, .int p1] μ (FX8_assigns a0 p1 μ) := by
  refine Ct_of hG hl (by decide +kernel) (Nat.le_of_ble_eq_true rfl) (fun κ ρ hNL F M hκ => ?_)
  have F : Fx κ cX8_assigns RX8 := F
  change V κ ρ 0 0 μ (FX8_assigns a0 p1 μ) 0 [(0, .ref a0), (1, .int p1)] []
  unfold FX8_assigns
  refine V_iload_n F dX8_assigns_0 rfl 1 rfl ?_
  refine V_cS (As := [.int p1]) (rest := []) (N := 1) F M (metX8_isForm (Fx_G F) (Fx_l F) p1 μ) q1452 q72 q1450 q1451 ⟨by decide +kernel, by decide +kernel, by decide +kernel⟩ rfl ⟨by decide, by decide⟩ (Nat.le_of_ble_eq_true rfl) dX8_assigns_1 (by decide) (by decide) (fun x2 μ1 => ?_)
  change V κ ρ 0 0 μ1 _ 4 [(0, .ref a0), (1, .int p1)] [.int x2]
  refine V_if_ne (tgt := 13) F dX8_assigns_4 (by decide) (fun c3 => ?_) (fun c4 => ?_)
  · refine V_aload_n F dX8_assigns_13 rfl 0 rfl ?_
    refine V_iload_n F dX8_assigns_14 rfl 1 rfl ?_
    refine V_cV (As := [.int p1]) (rest := []) (C := RX8) (N := 1) F M (metX8_cells (Fx_G F) (Fx_l F) a0 p1 μ1) rfl q1460 q72 q1457 q1459 q41 ⟨by decide +kernel, by decide +kernel, by decide +kernel⟩ rfl ⟨by decide, by decide⟩ (Nat.le_of_ble_eq_true rfl) dX8_assigns_15 (by decide) (by decide) (fun x6 μ5 => ?_)
    change V κ ρ 0 0 μ5 _ 18 [(0, .ref a0), (1, .int p1)] [.int x6]
    refine V_if_ne (tgt := 27) F dX8_assigns_18 (by decide) (fun c7 => ?_) (fun c8 => ?_)
    · refine V_iconst (v := 0) F dX8_assigns_27 (by decide) ?_
      refine V_istore_n (lv' := [(2, .int 0), (0, .ref a0), (1, .int p1)]) F dX8_assigns_28 rfl (lt_L hNL (by decide)) rfl ?_
      refine V_iconst (v := 0) F dX8_assigns_29 (by decide) ?_
      refine V_istore_n (lv' := [(3, .int 0), (2, .int 0), (0, .ref a0), (1, .int p1)]) F dX8_assigns_30 rfl (lt_L hNL (by decide)) rfl ?_
      refine V_sub [2, 3, 1, 0] rfl ?_
      exact VX8_assigns_L31 F M hNL  FU a0 p1 0 0 μ5
    · refine V_aload_n F dX8_assigns_21 rfl 0 rfl ?_
      refine V_iconst (v := 2) F dX8_assigns_22 (by decide) ?_
      refine V_cV (As := [.int 2]) (rest := []) (C := RX8) (N := 1) F M (metX8_fail (Fx_G F) (Fx_l F) a0 2 μ5) rfl q1303 q72 q1300 q1302 q22 ⟨by decide +kernel, by decide +kernel, by decide +kernel⟩ rfl ⟨by decide, by decide⟩ (Nat.le_of_ble_eq_true rfl) dX8_assigns_23 (by decide) (by decide) (fun x36 μ35 => ?_)
      change V κ ρ 0 0 μ35 _ 26 [(0, .ref a0), (1, .int p1)] [.int x36]
      exact V_iret F M dX8_assigns_26 rfl (by decide) (by decide)
  · refine V_aload_n F dX8_assigns_7 rfl 0 rfl ?_
    refine V_iconst (v := 1) F dX8_assigns_8 (by decide) ?_
    refine V_cV (As := [.int 1]) (rest := []) (C := RX8) (N := 1) F M (metX8_fail (Fx_G F) (Fx_l F) a0 1 μ1) rfl q1303 q72 q1300 q1302 q22 ⟨by decide +kernel, by decide +kernel, by decide +kernel⟩ rfl ⟨by decide, by decide⟩ (Nat.le_of_ble_eq_true rfl) dX8_assigns_9 (by decide) (by decide) (fun x38 μ37 => ?_)
    change V κ ρ 0 0 μ37 _ 12 [(0, .ref a0), (1, .int p1)] [.int x38]
    exact V_iret F M dX8_assigns_12 rfl (by decide) (by decide)
/-! DroneLightShowModel.assign(I)I -/
abbrev rmX8_assign : Room := { frames := 5, cells := 0, slots := 0, locals := 110 }
def FX8_assign (a0 : Nat) (p1 : Int32) (μ : Me) : Rs Int32 :=
  (bnd (vc μ a0 8 (FX8_begins a0  μ)) (fun x2 μ1 => (bnd (vc μ1 a0 8 (FX8_assigns a0 p1 μ1)) (fun x4 μ3 => (bnd (vc μ3 a0 8 (FX8_ends a0 x4 μ3)) (fun x6 μ5 => (rt x6 μ5)))))))
set_option maxHeartbeats 4000000 in
set_option maxRecDepth 100000 in
theorem metX8_assign {l : Launch} {s0 : State} {D : va_G} {aC : Nat → ClassId} (hG : Gl s0 D aC) (hl : l.stackTraces = false) (a0 : Nat) (p1 : Int32) (μ : Me) : Ct l yX8_assign (ws_ yX8_assign cX8_assign 2 (some .int)) rmX8_assign s0 D aC (fun r : Int32 => some (.int r)) [.ref a0, .int p1] μ (FX8_assign a0 p1 μ) := by
  refine Ct_of hG hl (by decide +kernel) (Nat.le_of_ble_eq_true rfl) (fun κ ρ hNL F M hκ => ?_)
  have F : Fx κ cX8_assign RX8 := F
  change V κ ρ 0 0 μ (FX8_assign a0 p1 μ) 0 [(0, .ref a0), (1, .int p1)] []
  unfold FX8_assign
  refine V_aload_n F dX8_assign_0 rfl 0 rfl ?_
  refine V_cV (As := []) (rest := []) (C := RX8) (N := 0) F M (metX8_begins (Fx_G F) (Fx_l F) a0  μ) rfl q1286 q72 q1283 q1285 q20 ⟨by decide +kernel, by decide +kernel, by decide +kernel⟩ rfl ⟨by decide, by decide⟩ (Nat.le_of_ble_eq_true rfl) dX8_assign_1 (by decide) (by decide) (fun x2 μ1 => ?_)
  change V κ ρ 0 0 μ1 _ 4 [(0, .ref a0), (1, .int p1)] []
  refine V_aload_n F dX8_assign_4 rfl 0 rfl ?_
  refine V_aload_n F dX8_assign_5 rfl 0 rfl ?_
  refine V_iload_n F dX8_assign_6 rfl 1 rfl ?_
  refine V_cV (As := [.int p1]) (rest := [.ref a0]) (C := RX8) (N := 1) F M (metX8_assigns (Fx_G F) (Fx_l F) a0 p1 μ1) rfl q1476 q72 q1473 q1475 q43 ⟨by decide +kernel, by decide +kernel, by decide +kernel⟩ rfl ⟨by decide, by decide⟩ (Nat.le_of_ble_eq_true rfl) dX8_assign_7 (by decide) (by decide) (fun x4 μ3 => ?_)
  change V κ ρ 0 0 μ3 _ 10 [(0, .ref a0), (1, .int p1)] [.int x4, .ref a0]
  refine V_cV (As := [.int x4]) (rest := []) (C := RX8) (N := 1) F M (metX8_ends (Fx_G F) (Fx_l F) a0 x4 μ3) rfl q1318 q72 q1315 q1317 q25 ⟨by decide +kernel, by decide +kernel, by decide +kernel⟩ rfl ⟨by decide, by decide⟩ (Nat.le_of_ble_eq_true rfl) dX8_assign_10 (by decide) (by decide) (fun x6 μ5 => ?_)
  change V κ ρ 0 0 μ5 _ 13 [(0, .ref a0), (1, .int p1)] [.int x6]
  exact V_iret F M dX8_assign_13 rfl (by decide) (by decide)
/-! DroneLightShowModel.formationMask(I)J -/
abbrev rmX8_formationMask : Room := { frames := 2, cells := 0, slots := 0, locals := 42 }
def FX8_formationMask_B13  (v0 : Nat) (v1 : Int32) (t0 : Int32) (t1 : Nat) (μ : Me) : Rs Int64 :=
  (pf μ t1 8 0 (.int t0) (fun μ5 => (gI μ5 v0 8 0 (fun x6 => (if x6 = 0 then (gR μ5 v0 8 5 (fun x9 => (aI μ5 x9 (77 + v1) (fun x10 => (gR μ5 v0 8 5 (fun x11 => (aI μ5 x11 (73 + v1) (fun x12 => (rt (((x10 : Int32).toInt64 <<< ((32 : Int32).toInt64 &&& 63)) ||| ((x12 : Int32).toInt64 &&& 4294967295)) μ5))))))))) else (rt 0 μ5))))))
set_option maxHeartbeats 4000000 in
set_option maxRecDepth 100000 in
theorem VX8_formationMask_B13 {κ : Cx} {ρ : (Int64 ⊕ String) × Me} (F : Fx κ cX8_formationMask RX8) (M : Mx κ (fun r : Int64 => some (.long r)) ρ rmX8_formationMask (some .long) [] "formationMask") (hNL : κ.2.2.2.2.2.2.2.2.2.2.2.2.2.2 = 2)   (v0 : Nat) (v1 : Int32) (t0 : Int32) (t1 : Nat) (μ : Me) : V κ ρ 0 0 μ (FX8_formationMask_B13  v0 v1 t0 t1 μ) 13 [(0, .ref v0), (1, .int v1)] [.int t0, .ref t1] := by
  unfold FX8_formationMask_B13
  refine V_pf (ci := 8) (k9 := 0) (C := RX8) (T := TX8) (N := 22) (ty := tyX8) F rfl hinX8 tyX8_ok nmX8 (by decide) q1208 rfl rfl rfl dX8_formationMask_13 (fun μ5 => ?_)
  refine V_aload_n F dX8_formationMask_16 rfl 0 rfl ?_
  refine V_gI (ci := 8) (k9 := 0) (C := RX8) (T := TX8) (N := 22) F rfl hinX8 (by decide) q1208 dX8_formationMask_17 (fun x6 => ?_)
  refine V_if_ne (tgt := 54) F dX8_formationMask_20 (by decide) (fun c7 => ?_) (fun c8 => ?_)
  · refine V_lconst (v := 0) F dX8_formationMask_54 (by decide) ?_
    exact V_lret F M dX8_formationMask_55 rfl (by decide) (by decide)
  · refine V_aload_n F dX8_formationMask_23 rfl 0 rfl ?_
    refine V_gR (ci := 8) (k9 := 5) (C := RX8) (T := TX8) (N := 22) F rfl hinX8 (by decide) q1213 dX8_formationMask_24 (fun x9 => ?_)
    refine V_bipush (v := 77) F dX8_formationMask_27 (by decide) ?_
    refine V_iload_n F dX8_formationMask_29 rfl 1 rfl ?_
    refine V_iadd F dX8_formationMask_30 ?_
    refine V_aI F dX8_formationMask_31 (fun x10 => ?_)
    refine V_i2l F dX8_formationMask_32 ?_
    refine V_bipush (v := 32) F dX8_formationMask_33 (by decide) ?_
    refine V_lshl F dX8_formationMask_35 ?_
    refine V_aload_n F dX8_formationMask_36 rfl 0 rfl ?_
    refine V_gR (ci := 8) (k9 := 5) (C := RX8) (T := TX8) (N := 22) F rfl hinX8 (by decide) q1213 dX8_formationMask_37 (fun x11 => ?_)
    refine V_bipush (v := 73) F dX8_formationMask_40 (by decide) ?_
    refine V_iload_n F dX8_formationMask_42 rfl 1 rfl ?_
    refine V_iadd F dX8_formationMask_43 ?_
    refine V_aI F dX8_formationMask_44 (fun x12 => ?_)
    refine V_i2l F dX8_formationMask_45 ?_
    refine V_ldc2 (v := 4294967295) F q1489 dX8_formationMask_46 ?_
    refine V_land F dX8_formationMask_49 ?_
    refine V_lor F dX8_formationMask_50 ?_
    refine V_goto (tgt := 55) F dX8_formationMask_51 (by decide) ?_
    exact V_lret F M dX8_formationMask_55 rfl (by decide) (by decide)
def FX8_formationMask (a0 : Nat) (p1 : Int32) (μ : Me) : Rs Int64 :=
  (bnd (FX8_isForm p1 μ) (fun x2 μ1 => (if x2 = 0 then (FX8_formationMask_B13  a0 p1 1 a0 μ1) else (FX8_formationMask_B13  a0 p1 0 a0 μ1))))
set_option maxHeartbeats 4000000 in
set_option maxRecDepth 100000 in
theorem metX8_formationMask {l : Launch} {s0 : State} {D : va_G} {aC : Nat → ClassId} (hG : Gl s0 D aC) (hl : l.stackTraces = false) (a0 : Nat) (p1 : Int32) (μ : Me) : Ct l yX8_formationMask (ws_ yX8_formationMask cX8_formationMask 2 (some .long)) rmX8_formationMask s0 D aC (fun r : Int64 => some (.long r)) [.ref a0, .int p1] μ (FX8_formationMask a0 p1 μ) := by
  refine Ct_of hG hl (by decide +kernel) (Nat.le_of_ble_eq_true rfl) (fun κ ρ hNL F M hκ => ?_)
  have F : Fx κ cX8_formationMask RX8 := F
  change V κ ρ 0 0 μ (FX8_formationMask a0 p1 μ) 0 [(0, .ref a0), (1, .int p1)] []
  unfold FX8_formationMask
  refine V_aload_n F dX8_formationMask_0 rfl 0 rfl ?_
  refine V_iload_n F dX8_formationMask_1 rfl 1 rfl ?_
  refine V_cS (As := [.int p1]) (rest := [.ref a0]) (N := 1) F M (metX8_isForm (Fx_G F) (Fx_l F) p1 μ) q1452 q72 q1450 q1451 ⟨by decide +kernel, by decide +kernel, by decide +kernel⟩ rfl ⟨by decide, by decide⟩ (Nat.le_of_ble_eq_true rfl) dX8_formationMask_2 (by decide) (by decide) (fun x2 μ1 => ?_)
  change V κ ρ 0 0 μ1 _ 5 [(0, .ref a0), (1, .int p1)] [.int x2, .ref a0]
  refine V_if_eq (tgt := 12) F dX8_formationMask_5 (by decide) (fun c3 => ?_) (fun c4 => ?_)
  · refine V_iconst (v := 1) F dX8_formationMask_12 (by decide) ?_
    refine V_sub [0, 1] rfl ?_
    exact VX8_formationMask_B13 F M hNL  a0 p1 1 a0 μ1
  · refine V_iconst (v := 0) F dX8_formationMask_8 (by decide) ?_
    refine V_goto (tgt := 13) F dX8_formationMask_9 (by decide) ?_
    refine V_sub [0, 1] rfl ?_
    exact VX8_formationMask_B13 F M hNL  a0 p1 0 a0 μ1
/-! DroneLightShowModel.occupiedMask()J -/
abbrev rmX8_occupiedMask : Room := { frames := 1, cells := 0, slots := 0, locals := 21 }
def FX8_occupiedMask_B9 (k9 : Nat → Int64 → Int32 → Me → Rs Int64) (v0 : Nat) (v1 : Int64) (v3 : Int32) (μ : Me) : Rs Int64 :=
  (gR μ v0 8 5 (fun x2 => (aI μ x2 0 (fun x3 => (if x3 ≤ v3 then (rt v1 μ) else (gR μ v0 8 5 (fun x6 => (bnd (FX8_of v3 0 μ) (fun x8 μ7 => (aI μ7 x6 x8 (fun x9 => (k9 v0 (v1 ||| (1 <<< ((x9 : Int32).toInt64 &&& 63))) (v3 + 1) μ7))))))))))))
set_option maxHeartbeats 4000000 in
set_option maxRecDepth 100000 in
theorem VX8_occupiedMask_B9 {κ : Cx} {ρ : (Int64 ⊕ String) × Me} (F : Fx κ cX8_occupiedMask RX8) (M : Mx κ (fun r : Int64 => some (.long r)) ρ rmX8_occupiedMask (some .long) [] "occupiedMask") (hNL : κ.2.2.2.2.2.2.2.2.2.2.2.2.2.2 = 4) {k9 : Nat → Int64 → Int32 → Me → Rs Int64} (hk9 : ∀ (v0 : Nat) (v1 : Int64) (v3 : Int32) (μ : Me), V κ ρ 0 0 μ (k9 v0 v1 v3 μ) 9 [(0, .ref v0), (1, .long v1), (3, .int v3)] []) (v0 : Nat) (v1 : Int64) (v3 : Int32) (μ : Me) : V κ ρ 0 0 μ (FX8_occupiedMask_B9 k9 v0 v1 v3 μ) 9 [(0, .ref v0), (1, .long v1), (3, .int v3)] [] := by
  unfold FX8_occupiedMask_B9
  refine V_iload_n F dX8_occupiedMask_9 rfl 2 rfl ?_
  refine V_aload_n F dX8_occupiedMask_10 rfl 0 rfl ?_
  refine V_gR (ci := 8) (k9 := 5) (C := RX8) (T := TX8) (N := 22) F rfl hinX8 (by decide) q1213 dX8_occupiedMask_11 (fun x2 => ?_)
  refine V_iconst (v := 0) F dX8_occupiedMask_14 (by decide) ?_
  refine V_aI F dX8_occupiedMask_15 (fun x3 => ?_)
  refine V_icmp_ge (tgt := 40) F dX8_occupiedMask_16 (by decide) (fun c4 => ?_) (fun c5 => ?_)
  · refine V_lload_n F dX8_occupiedMask_40 rfl 1 rfl ?_
    exact V_lret F M dX8_occupiedMask_41 rfl (by decide) (by decide)
  · refine V_lload_n F dX8_occupiedMask_19 rfl 1 rfl ?_
    refine V_lconst (v := 1) F dX8_occupiedMask_20 (by decide) ?_
    refine V_aload_n F dX8_occupiedMask_21 rfl 0 rfl ?_
    refine V_gR (ci := 8) (k9 := 5) (C := RX8) (T := TX8) (N := 22) F rfl hinX8 (by decide) q1213 dX8_occupiedMask_22 (fun x6 => ?_)
    refine V_iload_n F dX8_occupiedMask_25 rfl 2 rfl ?_
    refine V_iconst (v := 0) F dX8_occupiedMask_26 (by decide) ?_
    refine V_cS (As := [.int v3, .int 0]) (rest := [.ref x6, .long 1, .long v1]) (N := 2) F M (metX8_of (Fx_G F) (Fx_l F) v3 0 μ) q1310 q72 q1308 q1309 ⟨by decide +kernel, by decide +kernel, by decide +kernel⟩ rfl ⟨by decide, by decide⟩ (Nat.le_of_ble_eq_true rfl) dX8_occupiedMask_27 (by decide) (by decide) (fun x8 μ7 => ?_)
    change V κ ρ 0 0 μ7 _ 30 [(0, .ref v0), (1, .long v1), (3, .int v3)] [.int x8, .ref x6, .long 1, .long v1]
    refine V_aI F dX8_occupiedMask_30 (fun x9 => ?_)
    refine V_lshl F dX8_occupiedMask_31 ?_
    refine V_lor F dX8_occupiedMask_32 ?_
    refine V_lstore_n (lv' := [(1, .long (v1 ||| (1 <<< ((x9 : Int32).toInt64 &&& 63)))), (0, .ref v0), (3, .int v3)]) F dX8_occupiedMask_33 rfl (lt_L hNL (by decide)) rfl ?_
    refine V_iinc (lv' := [(3, .int (v3 + 1)), (1, .long (v1 ||| (1 <<< ((x9 : Int32).toInt64 &&& 63)))), (0, .ref v0)]) F dX8_occupiedMask_34 2 rfl rfl (lt_L hNL (by decide)) rfl ?_
    refine V_goto (tgt := 9) F dX8_occupiedMask_37 (by decide) ?_
    refine V_sub [2, 1, 0] rfl ?_
    exact hk9 v0 (v1 ||| (1 <<< ((x9 : Int32).toInt64 &&& 63))) (v3 + 1) μ7
def FX8_occupiedMask_L9  : Nat → Nat → Int64 → Int32 → Me → Rs Int64
  | 0, _, _, _, _ => none
  | f + 1, v0, v1, v3, μ => FX8_occupiedMask_B9 (FX8_occupiedMask_L9  f) v0 v1 v3 μ
theorem VX8_occupiedMask_L9 {κ : Cx} {ρ : (Int64 ⊕ String) × Me} (F : Fx κ cX8_occupiedMask RX8) (M : Mx κ (fun r : Int64 => some (.long r)) ρ rmX8_occupiedMask (some .long) [] "occupiedMask") (hNL : κ.2.2.2.2.2.2.2.2.2.2.2.2.2.2 = 4)   : ∀ (f : Nat) (v0 : Nat) (v1 : Int64) (v3 : Int32) (μ : Me), V κ ρ 0 0 μ (FX8_occupiedMask_L9  f v0 v1 v3 μ) 9 [(0, .ref v0), (1, .long v1), (3, .int v3)] [] := by
  intro f
  induction f with
  | zero => intros; exact V_none
  | succ f ih => intro v0 v1 v3 μ; exact VX8_occupiedMask_B9 F M hNL (fun v0 v1 v3 μ => ih v0 v1 v3 μ) v0 v1 v3 μ
def FX8_occupiedMask (a0 : Nat) (μ : Me) : Rs Int64 :=
  (pf μ a0 8 0 (.int 0) (fun μ1 => (FX8_occupiedMask_L9  FU a0 0 0 μ1)))
set_option maxHeartbeats 4000000 in
set_option maxRecDepth 100000 in
theorem metX8_occupiedMask {l : Launch} {s0 : State} {D : va_G} {aC : Nat → ClassId} (hG : Gl s0 D aC) (hl : l.stackTraces = false) (a0 : Nat) (μ : Me) : Ct l yX8_occupiedMask (ws_ yX8_occupiedMask cX8_occupiedMask 4 (some .long)) rmX8_occupiedMask s0 D aC (fun r : Int64 => some (.long r)) [.ref a0] μ (FX8_occupiedMask a0 μ) := by
  refine Ct_of hG hl (by decide +kernel) (Nat.le_of_ble_eq_true rfl) (fun κ ρ hNL F M hκ => ?_)
  have F : Fx κ cX8_occupiedMask RX8 := F
  change V κ ρ 0 0 μ (FX8_occupiedMask a0 μ) 0 [(0, .ref a0)] []
  unfold FX8_occupiedMask
  refine V_aload_n F dX8_occupiedMask_0 rfl 0 rfl ?_
  refine V_iconst (v := 0) F dX8_occupiedMask_1 (by decide) ?_
  refine V_pf (ci := 8) (k9 := 0) (C := RX8) (T := TX8) (N := 22) (ty := tyX8) F rfl hinX8 tyX8_ok nmX8 (by decide) q1208 rfl rfl rfl dX8_occupiedMask_2 (fun μ1 => ?_)
  refine V_lconst (v := 0) F dX8_occupiedMask_5 (by decide) ?_
  refine V_lstore_n (lv' := [(1, .long 0), (0, .ref a0)]) F dX8_occupiedMask_6 rfl (lt_L hNL (by decide)) rfl ?_
  refine V_iconst (v := 0) F dX8_occupiedMask_7 (by decide) ?_
  refine V_istore_n (lv' := [(3, .int 0), (1, .long 0), (0, .ref a0)]) F dX8_occupiedMask_8 rfl (lt_L hNL (by decide)) rfl ?_
  refine V_sub [2, 1, 0] rfl ?_
  exact VX8_occupiedMask_L9 F M hNL  FU a0 0 0 μ1
/-! DroneLightShowModel.matches(I)I -/
abbrev rmX8_matches : Room := { frames := 2, cells := 0, slots := 0, locals := 42 }
def FX8_matches_B4 (k4 : Nat → Int32 → Int32 → Int32 → Me → Rs Int32) (v0 : Nat) (v1 : Int32) (v2 : Int32) (v3 : Int32) (μ : Me) : Rs Int32 :=
  (gR μ v0 8 5 (fun x1 => (aI μ x1 0 (fun x2 => (if x2 ≤ v3 then (rt v2 μ) else (bnd (vc μ v0 8 (FX8_flies v0 v3 μ)) (fun x6 μ5 => (if x6 = 0 then (k4 v0 v1 (v2 + 0) (v3 + 1) μ5) else (gR μ5 v0 8 5 (fun x9 => (bnd (FX8_of v3 0 μ5) (fun x11 μ10 => (aI μ10 x9 x11 (fun x12 => (bnd (vc μ10 v0 8 (FX8_belongs v0 v1 x12 μ10)) (fun x14 μ13 => (if x14 = 0 then (k4 v0 v1 (v2 + 0) (v3 + 1) μ13) else (k4 v0 v1 (v2 + 1) (v3 + 1) μ13))))))))))))))))))
set_option maxHeartbeats 4000000 in
set_option maxRecDepth 100000 in
theorem VX8_matches_B4 {κ : Cx} {ρ : (Int32 ⊕ String) × Me} (F : Fx κ cX8_matches RX8) (M : Mx κ (fun r : Int32 => some (.int r)) ρ rmX8_matches (some .int) [] "matches") (hNL : κ.2.2.2.2.2.2.2.2.2.2.2.2.2.2 = 4) {k4 : Nat → Int32 → Int32 → Int32 → Me → Rs Int32} (hk4 : ∀ (v0 : Nat) (v1 : Int32) (v2 : Int32) (v3 : Int32) (μ : Me), V κ ρ 0 0 μ (k4 v0 v1 v2 v3 μ) 4 [(0, .ref v0), (1, .int v1), (2, .int v2), (3, .int v3)] []) (v0 : Nat) (v1 : Int32) (v2 : Int32) (v3 : Int32) (μ : Me) : V κ ρ 0 0 μ (FX8_matches_B4 k4 v0 v1 v2 v3 μ) 4 [(0, .ref v0), (1, .int v1), (2, .int v2), (3, .int v3)] [] := by
  unfold FX8_matches_B4
  refine V_iload_n F dX8_matches_4 rfl 3 rfl ?_
  refine V_aload_n F dX8_matches_5 rfl 0 rfl ?_
  refine V_gR (ci := 8) (k9 := 5) (C := RX8) (T := TX8) (N := 22) F rfl hinX8 (by decide) q1213 dX8_matches_6 (fun x1 => ?_)
  refine V_iconst (v := 0) F dX8_matches_9 (by decide) ?_
  refine V_aI F dX8_matches_10 (fun x2 => ?_)
  refine V_icmp_ge (tgt := 54) F dX8_matches_11 (by decide) (fun c3 => ?_) (fun c4 => ?_)
  · refine V_iload_n F dX8_matches_54 rfl 2 rfl ?_
    exact V_iret F M dX8_matches_55 rfl (by decide) (by decide)
  · refine V_iload_n F dX8_matches_14 rfl 2 rfl ?_
    refine V_aload_n F dX8_matches_15 rfl 0 rfl ?_
    refine V_iload_n F dX8_matches_16 rfl 3 rfl ?_
    refine V_cV (As := [.int v3]) (rest := [.int v2]) (C := RX8) (N := 1) F M (metX8_flies (Fx_G F) (Fx_l F) v0 v3 μ) rfl q1346 q72 q1343 q1345 q30 ⟨by decide +kernel, by decide +kernel, by decide +kernel⟩ rfl ⟨by decide, by decide⟩ (Nat.le_of_ble_eq_true rfl) dX8_matches_17 (by decide) (by decide) (fun x6 μ5 => ?_)
    change V κ ρ 0 0 μ5 _ 20 [(0, .ref v0), (1, .int v1), (2, .int v2), (3, .int v3)] [.int x6, .int v2]
    refine V_if_eq (tgt := 45) F dX8_matches_20 (by decide) (fun c7 => ?_) (fun c8 => ?_)
    · refine V_iconst (v := 0) F dX8_matches_45 (by decide) ?_
      refine V_iadd F dX8_matches_46 ?_
      refine V_istore_n (lv' := [(2, .int (v2 + 0)), (0, .ref v0), (1, .int v1), (3, .int v3)]) F dX8_matches_47 rfl (lt_L hNL (by decide)) rfl ?_
      refine V_iinc (lv' := [(3, .int (v3 + 1)), (2, .int (v2 + 0)), (0, .ref v0), (1, .int v1)]) F dX8_matches_48 3 rfl rfl (lt_L hNL (by decide)) rfl ?_
      refine V_goto (tgt := 4) F dX8_matches_51 (by decide) ?_
      refine V_sub [2, 3, 1, 0] rfl ?_
      exact hk4 v0 v1 (v2 + 0) (v3 + 1) μ5
    · refine V_aload_n F dX8_matches_23 rfl 0 rfl ?_
      refine V_iload_n F dX8_matches_24 rfl 1 rfl ?_
      refine V_aload_n F dX8_matches_25 rfl 0 rfl ?_
      refine V_gR (ci := 8) (k9 := 5) (C := RX8) (T := TX8) (N := 22) F rfl hinX8 (by decide) q1213 dX8_matches_26 (fun x9 => ?_)
      refine V_iload_n F dX8_matches_29 rfl 3 rfl ?_
      refine V_iconst (v := 0) F dX8_matches_30 (by decide) ?_
      refine V_cS (As := [.int v3, .int 0]) (rest := [.ref x9, .int v1, .ref v0, .int v2]) (N := 2) F M (metX8_of (Fx_G F) (Fx_l F) v3 0 μ5) q1310 q72 q1308 q1309 ⟨by decide +kernel, by decide +kernel, by decide +kernel⟩ rfl ⟨by decide, by decide⟩ (Nat.le_of_ble_eq_true rfl) dX8_matches_31 (by decide) (by decide) (fun x11 μ10 => ?_)
      change V κ ρ 0 0 μ10 _ 34 [(0, .ref v0), (1, .int v1), (2, .int v2), (3, .int v3)] [.int x11, .ref x9, .int v1, .ref v0, .int v2]
      refine V_aI F dX8_matches_34 (fun x12 => ?_)
      refine V_cV (As := [.int v1, .int x12]) (rest := [.int v2]) (C := RX8) (N := 2) F M (metX8_belongs (Fx_G F) (Fx_l F) v0 v1 x12 μ10) rfl q1456 q72 q1453 q1455 q40 ⟨by decide +kernel, by decide +kernel, by decide +kernel⟩ rfl ⟨by decide, by decide⟩ (Nat.le_of_ble_eq_true rfl) dX8_matches_35 (by decide) (by decide) (fun x14 μ13 => ?_)
      change V κ ρ 0 0 μ13 _ 38 [(0, .ref v0), (1, .int v1), (2, .int v2), (3, .int v3)] [.int x14, .int v2]
      refine V_if_eq (tgt := 45) F dX8_matches_38 (by decide) (fun c15 => ?_) (fun c16 => ?_)
      · refine V_iconst (v := 0) F dX8_matches_45 (by decide) ?_
        refine V_iadd F dX8_matches_46 ?_
        refine V_istore_n (lv' := [(2, .int (v2 + 0)), (0, .ref v0), (1, .int v1), (3, .int v3)]) F dX8_matches_47 rfl (lt_L hNL (by decide)) rfl ?_
        refine V_iinc (lv' := [(3, .int (v3 + 1)), (2, .int (v2 + 0)), (0, .ref v0), (1, .int v1)]) F dX8_matches_48 3 rfl rfl (lt_L hNL (by decide)) rfl ?_
        refine V_goto (tgt := 4) F dX8_matches_51 (by decide) ?_
        refine V_sub [2, 3, 1, 0] rfl ?_
        exact hk4 v0 v1 (v2 + 0) (v3 + 1) μ13
      · refine V_iconst (v := 1) F dX8_matches_41 (by decide) ?_
        refine V_goto (tgt := 46) F dX8_matches_42 (by decide) ?_
        refine V_iadd F dX8_matches_46 ?_
        refine V_istore_n (lv' := [(2, .int (v2 + 1)), (0, .ref v0), (1, .int v1), (3, .int v3)]) F dX8_matches_47 rfl (lt_L hNL (by decide)) rfl ?_
        refine V_iinc (lv' := [(3, .int (v3 + 1)), (2, .int (v2 + 1)), (0, .ref v0), (1, .int v1)]) F dX8_matches_48 3 rfl rfl (lt_L hNL (by decide)) rfl ?_
        refine V_goto (tgt := 4) F dX8_matches_51 (by decide) ?_
        refine V_sub [2, 3, 1, 0] rfl ?_
        exact hk4 v0 v1 (v2 + 1) (v3 + 1) μ13
def FX8_matches_L4  : Nat → Nat → Int32 → Int32 → Int32 → Me → Rs Int32
  | 0, _, _, _, _, _ => none
  | f + 1, v0, v1, v2, v3, μ => FX8_matches_B4 (FX8_matches_L4  f) v0 v1 v2 v3 μ
theorem VX8_matches_L4 {κ : Cx} {ρ : (Int32 ⊕ String) × Me} (F : Fx κ cX8_matches RX8) (M : Mx κ (fun r : Int32 => some (.int r)) ρ rmX8_matches (some .int) [] "matches") (hNL : κ.2.2.2.2.2.2.2.2.2.2.2.2.2.2 = 4)   : ∀ (f : Nat) (v0 : Nat) (v1 : Int32) (v2 : Int32) (v3 : Int32) (μ : Me), V κ ρ 0 0 μ (FX8_matches_L4  f v0 v1 v2 v3 μ) 4 [(0, .ref v0), (1, .int v1), (2, .int v2), (3, .int v3)] [] := by
  intro f
  induction f with
  | zero => intros; exact V_none
  | succ f ih => intro v0 v1 v2 v3 μ; exact VX8_matches_B4 F M hNL (fun v0 v1 v2 v3 μ => ih v0 v1 v2 v3 μ) v0 v1 v2 v3 μ
def FX8_matches (a0 : Nat) (p1 : Int32) (μ : Me) : Rs Int32 :=
  (FX8_matches_L4  FU a0 p1 0 0 μ)
set_option maxHeartbeats 4000000 in
set_option maxRecDepth 100000 in
theorem metX8_matches {l : Launch} {s0 : State} {D : va_G} {aC : Nat → ClassId} (hG : Gl s0 D aC) (hl : l.stackTraces = false) (a0 : Nat) (p1 : Int32) (μ : Me) : Ct l yX8_matches (ws_ yX8_matches cX8_matches 4 (some .int)) rmX8_matches s0 D aC (fun r : Int32 => some (.int r)) [.ref a0, .int p1] μ (FX8_matches a0 p1 μ) := by
  refine Ct_of hG hl (by decide +kernel) (Nat.le_of_ble_eq_true rfl) (fun κ ρ hNL F M hκ => ?_)
  have F : Fx κ cX8_matches RX8 := F
  change V κ ρ 0 0 μ (FX8_matches a0 p1 μ) 0 [(0, .ref a0), (1, .int p1)] []
  unfold FX8_matches
  refine V_iconst (v := 0) F dX8_matches_0 (by decide) ?_
  refine V_istore_n (lv' := [(2, .int 0), (0, .ref a0), (1, .int p1)]) F dX8_matches_1 rfl (lt_L hNL (by decide)) rfl ?_
  refine V_iconst (v := 0) F dX8_matches_2 (by decide) ?_
  refine V_istore_n (lv' := [(3, .int 0), (2, .int 0), (0, .ref a0), (1, .int p1)]) F dX8_matches_3 rfl (lt_L hNL (by decide)) rfl ?_
  refine V_sub [2, 3, 1, 0] rfl ?_
  exact VX8_matches_L4 F M hNL  FU a0 p1 0 0 μ
/-! DroneLightShowModel.matchCount(I)I -/
abbrev rmX8_matchCount : Room := { frames := 3, cells := 0, slots := 0, locals := 65 }
def FX8_matchCount_B13  (v0 : Nat) (v1 : Int32) (t0 : Int32) (t1 : Nat) (μ : Me) : Rs Int32 :=
  (pf μ t1 8 0 (.int t0) (fun μ5 => (gI μ5 v0 8 0 (fun x6 => (if x6 = 0 then (bnd (vc μ5 v0 8 (FX8_matches v0 v1 μ5)) (fun x10 μ9 => (rt x10 μ9))) else (rt 0 μ5))))))
set_option maxHeartbeats 4000000 in
set_option maxRecDepth 100000 in
theorem VX8_matchCount_B13 {κ : Cx} {ρ : (Int32 ⊕ String) × Me} (F : Fx κ cX8_matchCount RX8) (M : Mx κ (fun r : Int32 => some (.int r)) ρ rmX8_matchCount (some .int) [] "matchCount") (hNL : κ.2.2.2.2.2.2.2.2.2.2.2.2.2.2 = 2)   (v0 : Nat) (v1 : Int32) (t0 : Int32) (t1 : Nat) (μ : Me) : V κ ρ 0 0 μ (FX8_matchCount_B13  v0 v1 t0 t1 μ) 13 [(0, .ref v0), (1, .int v1)] [.int t0, .ref t1] := by
  unfold FX8_matchCount_B13
  refine V_pf (ci := 8) (k9 := 0) (C := RX8) (T := TX8) (N := 22) (ty := tyX8) F rfl hinX8 tyX8_ok nmX8 (by decide) q1208 rfl rfl rfl dX8_matchCount_13 (fun μ5 => ?_)
  refine V_aload_n F dX8_matchCount_16 rfl 0 rfl ?_
  refine V_gI (ci := 8) (k9 := 0) (C := RX8) (T := TX8) (N := 22) F rfl hinX8 (by decide) q1208 dX8_matchCount_17 (fun x6 => ?_)
  refine V_if_ne (tgt := 31) F dX8_matchCount_20 (by decide) (fun c7 => ?_) (fun c8 => ?_)
  · refine V_iconst (v := 0) F dX8_matchCount_31 (by decide) ?_
    exact V_iret F M dX8_matchCount_32 rfl (by decide) (by decide)
  · refine V_aload_n F dX8_matchCount_23 rfl 0 rfl ?_
    refine V_iload_n F dX8_matchCount_24 rfl 1 rfl ?_
    refine V_cV (As := [.int v1]) (rest := []) (C := RX8) (N := 1) F M (metX8_matches (Fx_G F) (Fx_l F) v0 v1 μ5) rfl q1501 q72 q1498 q1500 q46 ⟨by decide +kernel, by decide +kernel, by decide +kernel⟩ rfl ⟨by decide, by decide⟩ (Nat.le_of_ble_eq_true rfl) dX8_matchCount_25 (by decide) (by decide) (fun x10 μ9 => ?_)
    change V κ ρ 0 0 μ9 _ 28 [(0, .ref v0), (1, .int v1)] [.int x10]
    refine V_goto (tgt := 32) F dX8_matchCount_28 (by decide) ?_
    exact V_iret F M dX8_matchCount_32 rfl (by decide) (by decide)
def FX8_matchCount (a0 : Nat) (p1 : Int32) (μ : Me) : Rs Int32 :=
  (bnd (FX8_isForm p1 μ) (fun x2 μ1 => (if x2 = 0 then (FX8_matchCount_B13  a0 p1 1 a0 μ1) else (FX8_matchCount_B13  a0 p1 0 a0 μ1))))
set_option maxHeartbeats 4000000 in
set_option maxRecDepth 100000 in
theorem metX8_matchCount {l : Launch} {s0 : State} {D : va_G} {aC : Nat → ClassId} (hG : Gl s0 D aC) (hl : l.stackTraces = false) (a0 : Nat) (p1 : Int32) (μ : Me) : Ct l yX8_matchCount (ws_ yX8_matchCount cX8_matchCount 2 (some .int)) rmX8_matchCount s0 D aC (fun r : Int32 => some (.int r)) [.ref a0, .int p1] μ (FX8_matchCount a0 p1 μ) := by
  refine Ct_of hG hl (by decide +kernel) (Nat.le_of_ble_eq_true rfl) (fun κ ρ hNL F M hκ => ?_)
  have F : Fx κ cX8_matchCount RX8 := F
  change V κ ρ 0 0 μ (FX8_matchCount a0 p1 μ) 0 [(0, .ref a0), (1, .int p1)] []
  unfold FX8_matchCount
  refine V_aload_n F dX8_matchCount_0 rfl 0 rfl ?_
  refine V_iload_n F dX8_matchCount_1 rfl 1 rfl ?_
  refine V_cS (As := [.int p1]) (rest := [.ref a0]) (N := 1) F M (metX8_isForm (Fx_G F) (Fx_l F) p1 μ) q1452 q72 q1450 q1451 ⟨by decide +kernel, by decide +kernel, by decide +kernel⟩ rfl ⟨by decide, by decide⟩ (Nat.le_of_ble_eq_true rfl) dX8_matchCount_2 (by decide) (by decide) (fun x2 μ1 => ?_)
  change V κ ρ 0 0 μ1 _ 5 [(0, .ref a0), (1, .int p1)] [.int x2, .ref a0]
  refine V_if_eq (tgt := 12) F dX8_matchCount_5 (by decide) (fun c3 => ?_) (fun c4 => ?_)
  · refine V_iconst (v := 1) F dX8_matchCount_12 (by decide) ?_
    refine V_sub [0, 1] rfl ?_
    exact VX8_matchCount_B13 F M hNL  a0 p1 1 a0 μ1
  · refine V_iconst (v := 0) F dX8_matchCount_8 (by decide) ?_
    refine V_goto (tgt := 13) F dX8_matchCount_9 (by decide) ?_
    refine V_sub [0, 1] rfl ?_
    exact VX8_matchCount_B13 F M hNL  a0 p1 0 a0 μ1
/-! DroneLightShowModel.matchCountByScan(I)I -/
abbrev rmX8_matchCountByScan : Room := { frames := 4, cells := 0, slots := 0, locals := 86 }
def FX8_matchCountByScan (a0 : Nat) (p1 : Int32) (μ : Me) : Rs Int32 :=
  (bnd (vc μ a0 8 (FX8_matchCount a0 p1 μ)) (fun x2 μ1 => (rt x2 μ1)))
set_option maxHeartbeats 4000000 in
set_option maxRecDepth 100000 in
theorem metX8_matchCountByScan {l : Launch} {s0 : State} {D : va_G} {aC : Nat → ClassId} (hG : Gl s0 D aC) (hl : l.stackTraces = false) (a0 : Nat) (p1 : Int32) (μ : Me) : Ct l yX8_matchCountByScan (ws_ yX8_matchCountByScan cX8_matchCountByScan 2 (some .int)) rmX8_matchCountByScan s0 D aC (fun r : Int32 => some (.int r)) [.ref a0, .int p1] μ (FX8_matchCountByScan a0 p1 μ) := by
  refine Ct_of hG hl (by decide +kernel) (Nat.le_of_ble_eq_true rfl) (fun κ ρ hNL F M hκ => ?_)
  have F : Fx κ cX8_matchCountByScan RX8 := F
  change V κ ρ 0 0 μ (FX8_matchCountByScan a0 p1 μ) 0 [(0, .ref a0), (1, .int p1)] []
  unfold FX8_matchCountByScan
  refine V_aload_n F dX8_matchCountByScan_0 rfl 0 rfl ?_
  refine V_iload_n F dX8_matchCountByScan_1 rfl 1 rfl ?_
  refine V_cV (As := [.int p1]) (rest := []) (C := RX8) (N := 1) F M (metX8_matchCount (Fx_G F) (Fx_l F) a0 p1 μ) rfl q1497 q72 q1506 q1495 q1496 ⟨by decide +kernel, by decide +kernel, by decide +kernel⟩ rfl ⟨by decide, by decide⟩ (Nat.le_of_ble_eq_true rfl) dX8_matchCountByScan_2 (by decide) (by decide) (fun x2 μ1 => ?_)
  change V κ ρ 0 0 μ1 _ 5 [(0, .ref a0), (1, .int p1)] [.int x2]
  exact V_iret F M dX8_matchCountByScan_5 rfl (by decide) (by decide)
/-! DroneLightShowModel.coverage(I)F -/
abbrev rmX8_coverage : Room := { frames := 3, cells := 0, slots := 0, locals := 65 }
def FX8_coverage_B25  (v0 : Nat) (v1 : Int32) (t0 : Int32) (t1 : Nat) (μ : Me) : Rs UInt32 :=
  (pf μ t1 8 0 (.int t0) (fun μ9 => (gI μ9 v0 8 0 (fun x10 => (if x10 = 0 then (bnd (vc μ9 v0 8 (FX8_matches v0 v1 μ9)) (fun x14 μ13 => (bnd (vc μ13 v0 8 (FX8_cells v0 v1 μ13)) (fun x16 μ15 => (gd (nn32 (FP.fdiv (FP.i2f x14) (FP.i2f x16)) = true) (rt (FP.fdiv (FP.i2f x14) (FP.i2f x16)) μ15)))))) else (rt FP.fconst0 μ9))))))
set_option maxHeartbeats 4000000 in
set_option maxRecDepth 100000 in
theorem VX8_coverage_B25 {κ : Cx} {ρ : (UInt32 ⊕ String) × Me} (F : Fx κ cX8_coverage RX8) (M : Mx κ (fun r : UInt32 => some (.float r)) ρ rmX8_coverage (some .float) [] "coverage") (hNL : κ.2.2.2.2.2.2.2.2.2.2.2.2.2.2 = 2)   (v0 : Nat) (v1 : Int32) (t0 : Int32) (t1 : Nat) (μ : Me) : V κ ρ 0 0 μ (FX8_coverage_B25  v0 v1 t0 t1 μ) 25 [(0, .ref v0), (1, .int v1)] [.int t0, .ref t1] := by
  unfold FX8_coverage_B25
  refine V_pf (ci := 8) (k9 := 0) (C := RX8) (T := TX8) (N := 22) (ty := tyX8) F rfl hinX8 tyX8_ok nmX8 (by decide) q1208 rfl rfl rfl dX8_coverage_25 (fun μ9 => ?_)
  refine V_aload_n F dX8_coverage_28 rfl 0 rfl ?_
  refine V_gI (ci := 8) (k9 := 0) (C := RX8) (T := TX8) (N := 22) F rfl hinX8 (by decide) q1208 dX8_coverage_29 (fun x10 => ?_)
  refine V_if_ne (tgt := 51) F dX8_coverage_32 (by decide) (fun c11 => ?_) (fun c12 => ?_)
  · refine V_fconst0 F dX8_coverage_51 ?_
    exact V_fret F M dX8_coverage_52 rfl (by decide) (by decide)
  · refine V_aload_n F dX8_coverage_35 rfl 0 rfl ?_
    refine V_iload_n F dX8_coverage_36 rfl 1 rfl ?_
    refine V_cV (As := [.int v1]) (rest := []) (C := RX8) (N := 1) F M (metX8_matches (Fx_G F) (Fx_l F) v0 v1 μ9) rfl q1501 q72 q1498 q1500 q46 ⟨by decide +kernel, by decide +kernel, by decide +kernel⟩ rfl ⟨by decide, by decide⟩ (Nat.le_of_ble_eq_true rfl) dX8_coverage_37 (by decide) (by decide) (fun x14 μ13 => ?_)
    change V κ ρ 0 0 μ13 _ 40 [(0, .ref v0), (1, .int v1)] [.int x14]
    refine V_i2f F dX8_coverage_40 ?_
    refine V_aload_n F dX8_coverage_41 rfl 0 rfl ?_
    refine V_iload_n F dX8_coverage_42 rfl 1 rfl ?_
    refine V_cV (As := [.int v1]) (rest := [.float (FP.i2f x14)]) (C := RX8) (N := 1) F M (metX8_cells (Fx_G F) (Fx_l F) v0 v1 μ13) rfl q1460 q72 q1457 q1459 q41 ⟨by decide +kernel, by decide +kernel, by decide +kernel⟩ rfl ⟨by decide, by decide⟩ (Nat.le_of_ble_eq_true rfl) dX8_coverage_43 (by decide) (by decide) (fun x16 μ15 => ?_)
    change V κ ρ 0 0 μ15 _ 46 [(0, .ref v0), (1, .int v1)] [.int x16, .float (FP.i2f x14)]
    refine V_i2f F dX8_coverage_46 ?_
    refine V_gd (fun g17 => ?_)
    refine V_fdiv F dX8_coverage_47 g17 ?_
    refine V_goto (tgt := 52) F dX8_coverage_48 (by decide) ?_
    exact V_fret F M dX8_coverage_52 rfl (by decide) (by decide)
def FX8_coverage (a0 : Nat) (p1 : Int32) (μ : Me) : Rs UInt32 :=
  (bnd (FX8_isForm p1 μ) (fun x2 μ1 => (if x2 = 0 then (FX8_coverage_B25  a0 p1 1 a0 μ1) else (bnd (vc μ1 a0 8 (FX8_cells a0 p1 μ1)) (fun x6 μ5 => (if x6 = 0 then (FX8_coverage_B25  a0 p1 2 a0 μ5) else (FX8_coverage_B25  a0 p1 0 a0 μ5)))))))
set_option maxHeartbeats 4000000 in
set_option maxRecDepth 100000 in
theorem metX8_coverage {l : Launch} {s0 : State} {D : va_G} {aC : Nat → ClassId} (hG : Gl s0 D aC) (hl : l.stackTraces = false) (a0 : Nat) (p1 : Int32) (μ : Me) : Ct l yX8_coverage (ws_ yX8_coverage cX8_coverage 2 (some .float)) rmX8_coverage s0 D aC (fun r : UInt32 => some (.float r)) [.ref a0, .int p1] μ (FX8_coverage a0 p1 μ) := by
  refine Ct_of hG hl (by decide +kernel) (Nat.le_of_ble_eq_true rfl) (fun κ ρ hNL F M hκ => ?_)
  have F : Fx κ cX8_coverage RX8 := F
  change V κ ρ 0 0 μ (FX8_coverage a0 p1 μ) 0 [(0, .ref a0), (1, .int p1)] []
  unfold FX8_coverage
  refine V_aload_n F dX8_coverage_0 rfl 0 rfl ?_
  refine V_iload_n F dX8_coverage_1 rfl 1 rfl ?_
  refine V_cS (As := [.int p1]) (rest := [.ref a0]) (N := 1) F M (metX8_isForm (Fx_G F) (Fx_l F) p1 μ) q1452 q72 q1450 q1451 ⟨by decide +kernel, by decide +kernel, by decide +kernel⟩ rfl ⟨by decide, by decide⟩ (Nat.le_of_ble_eq_true rfl) dX8_coverage_2 (by decide) (by decide) (fun x2 μ1 => ?_)
  change V κ ρ 0 0 μ1 _ 5 [(0, .ref a0), (1, .int p1)] [.int x2, .ref a0]
  refine V_if_ne (tgt := 12) F dX8_coverage_5 (by decide) (fun c3 => ?_) (fun c4 => ?_)
  · refine V_aload_n F dX8_coverage_12 rfl 0 rfl ?_
    refine V_iload_n F dX8_coverage_13 rfl 1 rfl ?_
    refine V_cV (As := [.int p1]) (rest := [.ref a0]) (C := RX8) (N := 1) F M (metX8_cells (Fx_G F) (Fx_l F) a0 p1 μ1) rfl q1460 q72 q1457 q1459 q41 ⟨by decide +kernel, by decide +kernel, by decide +kernel⟩ rfl ⟨by decide, by decide⟩ (Nat.le_of_ble_eq_true rfl) dX8_coverage_14 (by decide) (by decide) (fun x6 μ5 => ?_)
    change V κ ρ 0 0 μ5 _ 17 [(0, .ref a0), (1, .int p1)] [.int x6, .ref a0]
    refine V_if_ne (tgt := 24) F dX8_coverage_17 (by decide) (fun c7 => ?_) (fun c8 => ?_)
    · refine V_iconst (v := 0) F dX8_coverage_24 (by decide) ?_
      refine V_sub [0, 1] rfl ?_
      exact VX8_coverage_B25 F M hNL  a0 p1 0 a0 μ5
    · refine V_iconst (v := 2) F dX8_coverage_20 (by decide) ?_
      refine V_goto (tgt := 25) F dX8_coverage_21 (by decide) ?_
      refine V_sub [0, 1] rfl ?_
      exact VX8_coverage_B25 F M hNL  a0 p1 2 a0 μ5
  · refine V_iconst (v := 1) F dX8_coverage_8 (by decide) ?_
    refine V_goto (tgt := 25) F dX8_coverage_9 (by decide) ?_
    refine V_sub [0, 1] rfl ?_
    exact VX8_coverage_B25 F M hNL  a0 p1 1 a0 μ1
/-! DroneLightShowModel.wants(I)Z -/
abbrev rmX8_wants : Room := { frames := 2, cells := 0, slots := 0, locals := 42 }
def FX8_wants (a0 : Nat) (p1 : Int32) (μ : Me) : Rs Int32 :=
  (bnd (vc μ a0 8 (FX8_flies a0 p1 μ)) (fun x2 μ1 => (if x2 = 0 then (rt 0 μ1) else (bnd (vc μ1 a0 8 (FX8_goal a0 p1 μ1)) (fun x6 μ5 => (if x6 < 0 then (rt 0 μ5) else (bnd (vc μ5 a0 8 (FX8_goal a0 p1 μ5)) (fun x10 μ9 => (gR μ9 a0 8 5 (fun x11 => (bnd (FX8_of p1 0 μ9) (fun x13 μ12 => (aI μ12 x11 x13 (fun x14 => (if x10 = x14 then (rt 0 μ12) else (rt 1 μ12))))))))))))))))
set_option maxHeartbeats 4000000 in
set_option maxRecDepth 100000 in
theorem metX8_wants {l : Launch} {s0 : State} {D : va_G} {aC : Nat → ClassId} (hG : Gl s0 D aC) (hl : l.stackTraces = false) (a0 : Nat) (p1 : Int32) (μ : Me) : Ct l yX8_wants (ws_ yX8_wants cX8_wants 2 (some .boolean)) rmX8_wants s0 D aC (fun r : Int32 => some (.int r)) [.ref a0, .int p1] μ (FX8_wants a0 p1 μ) := by
  refine Ct_of hG hl (by decide +kernel) (Nat.le_of_ble_eq_true rfl) (fun κ ρ hNL F M hκ => ?_)
  have F : Fx κ cX8_wants RX8 := F
  change V κ ρ 0 0 μ (FX8_wants a0 p1 μ) 0 [(0, .ref a0), (1, .int p1)] []
  unfold FX8_wants
  refine V_aload_n F dX8_wants_0 rfl 0 rfl ?_
  refine V_iload_n F dX8_wants_1 rfl 1 rfl ?_
  refine V_cV (As := [.int p1]) (rest := []) (C := RX8) (N := 1) F M (metX8_flies (Fx_G F) (Fx_l F) a0 p1 μ) rfl q1346 q72 q1343 q1345 q30 ⟨by decide +kernel, by decide +kernel, by decide +kernel⟩ rfl ⟨by decide, by decide⟩ (Nat.le_of_ble_eq_true rfl) dX8_wants_2 (by decide) (by decide) (fun x2 μ1 => ?_)
  change V κ ρ 0 0 μ1 _ 5 [(0, .ref a0), (1, .int p1)] [.int x2]
  refine V_if_eq (tgt := 38) F dX8_wants_5 (by decide) (fun c3 => ?_) (fun c4 => ?_)
  · refine V_iconst (v := 0) F dX8_wants_38 (by decide) ?_
    exact V_zret F M dX8_wants_39 rfl (by decide) (by decide) (by decide)
  · refine V_aload_n F dX8_wants_8 rfl 0 rfl ?_
    refine V_iload_n F dX8_wants_9 rfl 1 rfl ?_
    refine V_cV (As := [.int p1]) (rest := []) (C := RX8) (N := 1) F M (metX8_goal (Fx_G F) (Fx_l F) a0 p1 μ1) rfl q1416 q72 q1413 q1415 q37 ⟨by decide +kernel, by decide +kernel, by decide +kernel⟩ rfl ⟨by decide, by decide⟩ (Nat.le_of_ble_eq_true rfl) dX8_wants_10 (by decide) (by decide) (fun x6 μ5 => ?_)
    change V κ ρ 0 0 μ5 _ 13 [(0, .ref a0), (1, .int p1)] [.int x6]
    refine V_if_lt (tgt := 38) F dX8_wants_13 (by decide) (fun c7 => ?_) (fun c8 => ?_)
    · refine V_iconst (v := 0) F dX8_wants_38 (by decide) ?_
      exact V_zret F M dX8_wants_39 rfl (by decide) (by decide) (by decide)
    · refine V_aload_n F dX8_wants_16 rfl 0 rfl ?_
      refine V_iload_n F dX8_wants_17 rfl 1 rfl ?_
      refine V_cV (As := [.int p1]) (rest := []) (C := RX8) (N := 1) F M (metX8_goal (Fx_G F) (Fx_l F) a0 p1 μ5) rfl q1416 q72 q1413 q1415 q37 ⟨by decide +kernel, by decide +kernel, by decide +kernel⟩ rfl ⟨by decide, by decide⟩ (Nat.le_of_ble_eq_true rfl) dX8_wants_18 (by decide) (by decide) (fun x10 μ9 => ?_)
      change V κ ρ 0 0 μ9 _ 21 [(0, .ref a0), (1, .int p1)] [.int x10]
      refine V_aload_n F dX8_wants_21 rfl 0 rfl ?_
      refine V_gR (ci := 8) (k9 := 5) (C := RX8) (T := TX8) (N := 22) F rfl hinX8 (by decide) q1213 dX8_wants_22 (fun x11 => ?_)
      refine V_iload_n F dX8_wants_25 rfl 1 rfl ?_
      refine V_iconst (v := 0) F dX8_wants_26 (by decide) ?_
      refine V_cS (As := [.int p1, .int 0]) (rest := [.ref x11, .int x10]) (N := 2) F M (metX8_of (Fx_G F) (Fx_l F) p1 0 μ9) q1310 q72 q1308 q1309 ⟨by decide +kernel, by decide +kernel, by decide +kernel⟩ rfl ⟨by decide, by decide⟩ (Nat.le_of_ble_eq_true rfl) dX8_wants_27 (by decide) (by decide) (fun x13 μ12 => ?_)
      change V κ ρ 0 0 μ12 _ 30 [(0, .ref a0), (1, .int p1)] [.int x13, .ref x11, .int x10]
      refine V_aI F dX8_wants_30 (fun x14 => ?_)
      refine V_icmp_eq (tgt := 38) F dX8_wants_31 (by decide) (fun c15 => ?_) (fun c16 => ?_)
      · refine V_iconst (v := 0) F dX8_wants_38 (by decide) ?_
        exact V_zret F M dX8_wants_39 rfl (by decide) (by decide) (by decide)
      · refine V_iconst (v := 1) F dX8_wants_34 (by decide) ?_
        refine V_goto (tgt := 39) F dX8_wants_35 (by decide) ?_
        exact V_zret F M dX8_wants_39 rfl (by decide) (by decide) (by decide)
/-! DroneLightShowModel.toRow(II)I -/
abbrev rmX8_toRow : Room := { frames := 0, cells := 0, slots := 0, locals := 0 }
def FX8_toRow (p1 : Int32) (p2 : Int32) (μ : Me) : Rs Int32 :=
  (if (p2 / 8) ≤ (p1 / 8) then (rt (p1 - 8) μ) else (rt (p1 + 8) μ))
set_option maxHeartbeats 4000000 in
set_option maxRecDepth 100000 in
theorem metX8_toRow {l : Launch} {s0 : State} {D : va_G} {aC : Nat → ClassId} (hG : Gl s0 D aC) (hl : l.stackTraces = false) (p1 : Int32) (p2 : Int32) (μ : Me) : Ct l yX8_toRow (ws_ yX8_toRow cX8_toRow 2 (some .int)) rmX8_toRow s0 D aC (fun r : Int32 => some (.int r)) [.int p1, .int p2] μ (FX8_toRow p1 p2 μ) := by
  refine Ct_of hG hl (by decide +kernel) (Nat.le_of_ble_eq_true rfl) (fun κ ρ hNL F M hκ => ?_)
  have F : Fx κ cX8_toRow RX8 := F
  change V κ ρ 0 0 μ (FX8_toRow p1 p2 μ) 0 [(0, .int p1), (1, .int p2)] []
  unfold FX8_toRow
  refine V_iload_n F dX8_toRow_0 rfl 1 rfl ?_
  refine V_bipush (v := 8) F dX8_toRow_1 (by decide) ?_
  refine V_idiv F dX8_toRow_3 (by decide) ?_
  refine V_iload_n F dX8_toRow_4 rfl 0 rfl ?_
  refine V_bipush (v := 8) F dX8_toRow_5 (by decide) ?_
  refine V_idiv F dX8_toRow_7 (by decide) ?_
  refine V_icmp_le (tgt := 18) F dX8_toRow_8 (by decide) (fun c1 => ?_) (fun c2 => ?_)
  · refine V_iload_n F dX8_toRow_18 rfl 0 rfl ?_
    refine V_bipush (v := 8) F dX8_toRow_19 (by decide) ?_
    refine V_isub F dX8_toRow_21 ?_
    exact V_iret F M dX8_toRow_22 rfl (by decide) (by decide)
  · refine V_iload_n F dX8_toRow_11 rfl 0 rfl ?_
    refine V_bipush (v := 8) F dX8_toRow_12 (by decide) ?_
    refine V_iadd F dX8_toRow_14 ?_
    refine V_goto (tgt := 22) F dX8_toRow_15 (by decide) ?_
    exact V_iret F M dX8_toRow_22 rfl (by decide) (by decide)
/-! DroneLightShowModel.toColumn(II)I -/
abbrev rmX8_toColumn : Room := { frames := 0, cells := 0, slots := 0, locals := 0 }
def FX8_toColumn (p1 : Int32) (p2 : Int32) (μ : Me) : Rs Int32 :=
  (if (p2 - p2 / 8 * 8) ≤ (p1 - p1 / 8 * 8) then (rt (p1 - 1) μ) else (rt (p1 + 1) μ))
set_option maxHeartbeats 4000000 in
set_option maxRecDepth 100000 in
theorem metX8_toColumn {l : Launch} {s0 : State} {D : va_G} {aC : Nat → ClassId} (hG : Gl s0 D aC) (hl : l.stackTraces = false) (p1 : Int32) (p2 : Int32) (μ : Me) : Ct l yX8_toColumn (ws_ yX8_toColumn cX8_toColumn 2 (some .int)) rmX8_toColumn s0 D aC (fun r : Int32 => some (.int r)) [.int p1, .int p2] μ (FX8_toColumn p1 p2 μ) := by
  refine Ct_of hG hl (by decide +kernel) (Nat.le_of_ble_eq_true rfl) (fun κ ρ hNL F M hκ => ?_)
  have F : Fx κ cX8_toColumn RX8 := F
  change V κ ρ 0 0 μ (FX8_toColumn p1 p2 μ) 0 [(0, .int p1), (1, .int p2)] []
  unfold FX8_toColumn
  refine V_iload_n F dX8_toColumn_0 rfl 1 rfl ?_
  refine V_bipush (v := 8) F dX8_toColumn_1 (by decide) ?_
  refine V_irem F dX8_toColumn_3 (by decide) ?_
  refine V_iload_n F dX8_toColumn_4 rfl 0 rfl ?_
  refine V_bipush (v := 8) F dX8_toColumn_5 (by decide) ?_
  refine V_irem F dX8_toColumn_7 (by decide) ?_
  refine V_icmp_le (tgt := 17) F dX8_toColumn_8 (by decide) (fun c1 => ?_) (fun c2 => ?_)
  · refine V_iload_n F dX8_toColumn_17 rfl 0 rfl ?_
    refine V_iconst (v := 1) F dX8_toColumn_18 (by decide) ?_
    refine V_isub F dX8_toColumn_19 ?_
    exact V_iret F M dX8_toColumn_20 rfl (by decide) (by decide)
  · refine V_iload_n F dX8_toColumn_11 rfl 0 rfl ?_
    refine V_iconst (v := 1) F dX8_toColumn_12 (by decide) ?_
    refine V_iadd F dX8_toColumn_13 ?_
    refine V_goto (tgt := 20) F dX8_toColumn_14 (by decide) ?_
    exact V_iret F M dX8_toColumn_20 rfl (by decide) (by decide)
/-! DroneLightShowModel.wish(I)I -/
abbrev rmX8_wish : Room := { frames := 2, cells := 0, slots := 0, locals := 42 }
def FX8_wish (a0 : Nat) (p1 : Int32) (μ : Me) : Rs Int32 :=
  (gR μ a0 8 5 (fun x1 => (bnd (FX8_of p1 0 μ) (fun x3 μ2 => (aI μ2 x1 x3 (fun x4 => (bnd (vc μ2 a0 8 (FX8_goal a0 p1 μ2)) (fun x6 μ5 => (if (x4 / 8) = (x6 / 8) then (bnd (FX8_toColumn x4 x6 μ5) (fun x10 μ9 => (rt x10 μ9))) else (bnd (FX8_toRow x4 x6 μ5) (fun x12 μ11 => (rt x12 μ11))))))))))))
set_option maxHeartbeats 4000000 in
set_option maxRecDepth 100000 in
theorem metX8_wish {l : Launch} {s0 : State} {D : va_G} {aC : Nat → ClassId} (hG : Gl s0 D aC) (hl : l.stackTraces = false) (a0 : Nat) (p1 : Int32) (μ : Me) : Ct l yX8_wish (ws_ yX8_wish cX8_wish 4 (some .int)) rmX8_wish s0 D aC (fun r : Int32 => some (.int r)) [.ref a0, .int p1] μ (FX8_wish a0 p1 μ) := by
  refine Ct_of hG hl (by decide +kernel) (Nat.le_of_ble_eq_true rfl) (fun κ ρ hNL F M hκ => ?_)
  have F : Fx κ cX8_wish RX8 := F
  change V κ ρ 0 0 μ (FX8_wish a0 p1 μ) 0 [(0, .ref a0), (1, .int p1)] []
  unfold FX8_wish
  refine V_aload_n F dX8_wish_0 rfl 0 rfl ?_
  refine V_gR (ci := 8) (k9 := 5) (C := RX8) (T := TX8) (N := 22) F rfl hinX8 (by decide) q1213 dX8_wish_1 (fun x1 => ?_)
  refine V_iload_n F dX8_wish_4 rfl 1 rfl ?_
  refine V_iconst (v := 0) F dX8_wish_5 (by decide) ?_
  refine V_cS (As := [.int p1, .int 0]) (rest := [.ref x1]) (N := 2) F M (metX8_of (Fx_G F) (Fx_l F) p1 0 μ) q1310 q72 q1308 q1309 ⟨by decide +kernel, by decide +kernel, by decide +kernel⟩ rfl ⟨by decide, by decide⟩ (Nat.le_of_ble_eq_true rfl) dX8_wish_6 (by decide) (by decide) (fun x3 μ2 => ?_)
  change V κ ρ 0 0 μ2 _ 9 [(0, .ref a0), (1, .int p1)] [.int x3, .ref x1]
  refine V_aI F dX8_wish_9 (fun x4 => ?_)
  refine V_istore_n (lv' := [(2, .int x4), (0, .ref a0), (1, .int p1)]) F dX8_wish_10 rfl (lt_L hNL (by decide)) rfl ?_
  refine V_aload_n F dX8_wish_11 rfl 1 rfl ?_
  refine V_iload_n F dX8_wish_12 rfl 2 rfl ?_
  refine V_cV (As := [.int p1]) (rest := []) (C := RX8) (N := 1) F M (metX8_goal (Fx_G F) (Fx_l F) a0 p1 μ2) rfl q1416 q72 q1413 q1415 q37 ⟨by decide +kernel, by decide +kernel, by decide +kernel⟩ rfl ⟨by decide, by decide⟩ (Nat.le_of_ble_eq_true rfl) dX8_wish_13 (by decide) (by decide) (fun x6 μ5 => ?_)
  change V κ ρ 0 0 μ5 _ 16 [(2, .int x4), (0, .ref a0), (1, .int p1)] [.int x6]
  refine V_istore_n (lv' := [(3, .int x6), (2, .int x4), (0, .ref a0), (1, .int p1)]) F dX8_wish_16 rfl (lt_L hNL (by decide)) rfl ?_
  refine V_iload_n F dX8_wish_17 rfl 1 rfl ?_
  refine V_bipush (v := 8) F dX8_wish_18 (by decide) ?_
  refine V_idiv F dX8_wish_20 (by decide) ?_
  refine V_iload_n F dX8_wish_21 rfl 0 rfl ?_
  refine V_bipush (v := 8) F dX8_wish_22 (by decide) ?_
  refine V_idiv F dX8_wish_24 (by decide) ?_
  refine V_icmp_eq (tgt := 36) F dX8_wish_25 (by decide) (fun c7 => ?_) (fun c8 => ?_)
  · refine V_iload_n F dX8_wish_36 rfl 1 rfl ?_
    refine V_iload_n F dX8_wish_37 rfl 0 rfl ?_
    refine V_cS (As := [.int x4, .int x6]) (rest := []) (N := 2) F M (metX8_toColumn (Fx_G F) (Fx_l F) x4 x6 μ5) q1544 q72 q1542 q1543 ⟨by decide +kernel, by decide +kernel, by decide +kernel⟩ rfl ⟨by decide, by decide⟩ (Nat.le_of_ble_eq_true rfl) dX8_wish_38 (by decide) (by decide) (fun x10 μ9 => ?_)
    change V κ ρ 0 0 μ9 _ 41 [(3, .int x6), (2, .int x4), (0, .ref a0), (1, .int p1)] [.int x10]
    exact V_iret F M dX8_wish_41 rfl (by decide) (by decide)
  · refine V_iload_n F dX8_wish_28 rfl 1 rfl ?_
    refine V_iload_n F dX8_wish_29 rfl 0 rfl ?_
    refine V_cS (As := [.int x4, .int x6]) (rest := []) (N := 2) F M (metX8_toRow (Fx_G F) (Fx_l F) x4 x6 μ5) q1541 q72 q1539 q1540 ⟨by decide +kernel, by decide +kernel, by decide +kernel⟩ rfl ⟨by decide, by decide⟩ (Nat.le_of_ble_eq_true rfl) dX8_wish_30 (by decide) (by decide) (fun x12 μ11 => ?_)
    change V κ ρ 0 0 μ11 _ 33 [(3, .int x6), (2, .int x4), (0, .ref a0), (1, .int p1)] [.int x12]
    refine V_goto (tgt := 41) F dX8_wish_33 (by decide) ?_
    exact V_iret F M dX8_wish_41 rfl (by decide) (by decide)
/-! DroneLightShowModel.cues()V -/
abbrev rmX8_cues : Room := { frames := 1, cells := 0, slots := 0, locals := 21 }
def FX8_cues_B131 (k131 : Nat → Int32 → Me → Rs Unit) (v0 : Nat) (v2 : Int32) (μ : Me) : Rs Unit :=
  (if 117 ≤ v2 then (rt () μ) else (gR μ v0 8 5 (fun x9 => (sI μ x9 v2 0 (fun μ10 => (k131 v0 (v2 + 1) μ10))))))
set_option maxHeartbeats 4000000 in
set_option maxRecDepth 100000 in
theorem VX8_cues_B131 {κ : Cx} {ρ : (Unit ⊕ String) × Me} (F : Fx κ cX8_cues RX8) (M : Mx κ (fun _ : Unit => none) ρ rmX8_cues none [] "cues") (hNL : κ.2.2.2.2.2.2.2.2.2.2.2.2.2.2 = 6) {k131 : Nat → Int32 → Me → Rs Unit} (hk131 : ∀ (v0 : Nat) (v2 : Int32) (μ : Me), V κ ρ 0 0 μ (k131 v0 v2 μ) 131 [(0, .ref v0), (2, .int v2)] []) (v0 : Nat) (v2 : Int32) (μ : Me) : V κ ρ 0 0 μ (FX8_cues_B131 k131 v0 v2 μ) 131 [(0, .ref v0), (2, .int v2)] [] := by
  unfold FX8_cues_B131
  refine V_iload_n F dX8_cues_131 rfl 1 rfl ?_
  refine V_bipush (v := 117) F dX8_cues_132 (by decide) ?_
  refine V_icmp_ge (tgt := 150) F dX8_cues_134 (by decide) (fun c7 => ?_) (fun c8 => ?_)
  · exact V_vret F M dX8_cues_150 rfl (by decide) (by decide)
  · refine V_aload_n F dX8_cues_137 rfl 0 rfl ?_
    refine V_gR (ci := 8) (k9 := 5) (C := RX8) (T := TX8) (N := 22) F rfl hinX8 (by decide) q1213 dX8_cues_138 (fun x9 => ?_)
    refine V_iload_n F dX8_cues_141 rfl 1 rfl ?_
    refine V_iconst (v := 0) F dX8_cues_142 (by decide) ?_
    refine V_sI F dX8_cues_143 (fun μ10 => ?_)
    refine V_iinc (lv' := [(2, .int (v2 + 1)), (0, .ref v0)]) F dX8_cues_144 1 rfl rfl (lt_L hNL (by decide)) rfl ?_
    refine V_goto (tgt := 131) F dX8_cues_147 (by decide) ?_
    refine V_sub [1, 0] rfl ?_
    exact hk131 v0 (v2 + 1) μ10
def FX8_cues_L131  : Nat → Nat → Int32 → Me → Rs Unit
  | 0, _, _, _ => none
  | f + 1, v0, v2, μ => FX8_cues_B131 (FX8_cues_L131  f) v0 v2 μ
theorem VX8_cues_L131 {κ : Cx} {ρ : (Unit ⊕ String) × Me} (F : Fx κ cX8_cues RX8) (M : Mx κ (fun _ : Unit => none) ρ rmX8_cues none [] "cues") (hNL : κ.2.2.2.2.2.2.2.2.2.2.2.2.2.2 = 6)   : ∀ (f : Nat) (v0 : Nat) (v2 : Int32) (μ : Me), V κ ρ 0 0 μ (FX8_cues_L131  f v0 v2 μ) 131 [(0, .ref v0), (2, .int v2)] [] := by
  intro f
  induction f with
  | zero => intros; exact V_none
  | succ f ih => intro v0 v2 μ; exact VX8_cues_B131 F M hNL (fun v0 v2 μ => ih v0 v2 μ) v0 v2 μ
def FX8_cues_B76 (k4 : Nat → Int32 → Int32 → Me → Rs Unit) (k76 : Nat → Int32 → Int32 → Int32 → Int32 → Int32 → Me → Rs Unit) (v0 : Nat) (v1 : Int32) (v2 : Int32) (v3 : Int32) (v4 : Int32) (v5 : Int32) (μ : Me) : Rs Unit :=
  (if 3 ≤ v5 then (k4 v0 (v1 + 1) (v2 + 1) μ) else (gR μ v0 8 5 (fun x19 => (gR μ v0 8 5 (fun x20 => (aI μ x20 (v3 + v5) (fun x21 => (sI μ x19 (v4 + v5) x21 (fun μ22 => (k76 v0 v1 v2 v3 v4 (v5 + 1) μ22))))))))))
set_option maxHeartbeats 4000000 in
set_option maxRecDepth 100000 in
theorem VX8_cues_B76 {κ : Cx} {ρ : (Unit ⊕ String) × Me} (F : Fx κ cX8_cues RX8) (M : Mx κ (fun _ : Unit => none) ρ rmX8_cues none [] "cues") (hNL : κ.2.2.2.2.2.2.2.2.2.2.2.2.2.2 = 6) {k4 : Nat → Int32 → Int32 → Me → Rs Unit} {k76 : Nat → Int32 → Int32 → Int32 → Int32 → Int32 → Me → Rs Unit} (hk4 : ∀ (v0 : Nat) (v1 : Int32) (v2 : Int32) (μ : Me), V κ ρ 0 0 μ (k4 v0 v1 v2 μ) 4 [(0, .ref v0), (1, .int v1), (2, .int v2)] []) (hk76 : ∀ (v0 : Nat) (v1 : Int32) (v2 : Int32) (v3 : Int32) (v4 : Int32) (v5 : Int32) (μ : Me), V κ ρ 0 0 μ (k76 v0 v1 v2 v3 v4 v5 μ) 76 [(0, .ref v0), (1, .int v1), (2, .int v2), (3, .int v3), (4, .int v4), (5, .int v5)] []) (v0 : Nat) (v1 : Int32) (v2 : Int32) (v3 : Int32) (v4 : Int32) (v5 : Int32) (μ : Me) : V κ ρ 0 0 μ (FX8_cues_B76 k4 k76 v0 v1 v2 v3 v4 v5 μ) 76 [(0, .ref v0), (1, .int v1), (2, .int v2), (3, .int v3), (4, .int v4), (5, .int v5)] [] := by
  unfold FX8_cues_B76
  refine V_iload F dX8_cues_76 5 rfl ?_
  refine V_iconst (v := 3) F dX8_cues_78 (by decide) ?_
  refine V_icmp_ge (tgt := 107) F dX8_cues_79 (by decide) (fun c17 => ?_) (fun c18 => ?_)
  · refine V_iinc (lv' := [(1, .int (v1 + 1)), (0, .ref v0), (2, .int v2), (3, .int v3), (4, .int v4), (5, .int v5)]) F dX8_cues_107 1 rfl rfl (lt_L hNL (by decide)) rfl ?_
    refine V_iinc (lv' := [(2, .int (v2 + 1)), (1, .int (v1 + 1)), (0, .ref v0), (3, .int v3), (4, .int v4), (5, .int v5)]) F dX8_cues_110 2 rfl rfl (lt_L hNL (by decide)) rfl ?_
    refine V_goto (tgt := 4) F dX8_cues_113 (by decide) ?_
    refine V_sub [2, 1, 0] rfl ?_
    exact hk4 v0 (v1 + 1) (v2 + 1) μ
  · refine V_aload_n F dX8_cues_82 rfl 0 rfl ?_
    refine V_gR (ci := 8) (k9 := 5) (C := RX8) (T := TX8) (N := 22) F rfl hinX8 (by decide) q1213 dX8_cues_83 (fun x19 => ?_)
    refine V_iload F dX8_cues_86 4 rfl ?_
    refine V_iload F dX8_cues_88 5 rfl ?_
    refine V_iadd F dX8_cues_90 ?_
    refine V_aload_n F dX8_cues_91 rfl 0 rfl ?_
    refine V_gR (ci := 8) (k9 := 5) (C := RX8) (T := TX8) (N := 22) F rfl hinX8 (by decide) q1213 dX8_cues_92 (fun x20 => ?_)
    refine V_iload_n F dX8_cues_95 rfl 3 rfl ?_
    refine V_iload F dX8_cues_96 5 rfl ?_
    refine V_iadd F dX8_cues_98 ?_
    refine V_aI F dX8_cues_99 (fun x21 => ?_)
    refine V_sI F dX8_cues_100 (fun μ22 => ?_)
    refine V_iinc (lv' := [(5, .int (v5 + 1)), (0, .ref v0), (1, .int v1), (2, .int v2), (3, .int v3), (4, .int v4)]) F dX8_cues_101 5 rfl rfl (lt_L hNL (by decide)) rfl ?_
    refine V_goto (tgt := 76) F dX8_cues_104 (by decide) ?_
    refine V_sub [1, 2, 3, 4, 5, 0] rfl ?_
    exact hk76 v0 v1 v2 v3 v4 (v5 + 1) μ22
def FX8_cues_L76 (k4 : Nat → Int32 → Int32 → Me → Rs Unit) : Nat → Nat → Int32 → Int32 → Int32 → Int32 → Int32 → Me → Rs Unit
  | 0, _, _, _, _, _, _, _ => none
  | f + 1, v0, v1, v2, v3, v4, v5, μ => FX8_cues_B76 k4 (FX8_cues_L76 k4 f) v0 v1 v2 v3 v4 v5 μ
theorem VX8_cues_L76 {κ : Cx} {ρ : (Unit ⊕ String) × Me} (F : Fx κ cX8_cues RX8) (M : Mx κ (fun _ : Unit => none) ρ rmX8_cues none [] "cues") (hNL : κ.2.2.2.2.2.2.2.2.2.2.2.2.2.2 = 6) {k4 : Nat → Int32 → Int32 → Me → Rs Unit} (hk4 : ∀ (v0 : Nat) (v1 : Int32) (v2 : Int32) (μ : Me), V κ ρ 0 0 μ (k4 v0 v1 v2 μ) 4 [(0, .ref v0), (1, .int v1), (2, .int v2)] []) : ∀ (f : Nat) (v0 : Nat) (v1 : Int32) (v2 : Int32) (v3 : Int32) (v4 : Int32) (v5 : Int32) (μ : Me), V κ ρ 0 0 μ (FX8_cues_L76 k4 f v0 v1 v2 v3 v4 v5 μ) 76 [(0, .ref v0), (1, .int v1), (2, .int v2), (3, .int v3), (4, .int v4), (5, .int v5)] [] := by
  intro f
  induction f with
  | zero => intros; exact V_none
  | succ f ih => intro v0 v1 v2 v3 v4 v5 μ; exact VX8_cues_B76 F M hNL hk4 (fun v0 v1 v2 v3 v4 v5 μ => ih v0 v1 v2 v3 v4 v5 μ) v0 v1 v2 v3 v4 v5 μ
def FX8_cues_B4 (k4 : Nat → Int32 → Int32 → Me → Rs Unit) (v0 : Nat) (v1 : Int32) (v2 : Int32) (μ : Me) : Rs Unit :=
  (gR μ v0 8 5 (fun x1 => (aI μ x1 8 (fun x2 => (if x2 ≤ v2 then (gR μ v0 8 5 (fun x5 => (sI μ x5 8 v1 (fun μ6 => (FX8_cues_L131  FU v0 (81 + (3 * v1)) μ6))))) else (gR μ v0 8 5 (fun x11 => (aI μ x11 ((81 + (3 * v2)) + 1) (fun x12 => (gR μ v0 8 5 (fun x13 => (aI μ x13 3 (fun x14 => (if x12 = x14 then (gR μ v0 8 5 (fun x23 => (gR μ v0 8 5 (fun x24 => (aI μ x24 (81 + (3 * v2)) (fun x25 => (bnd (FX8_of x25 3 μ) (fun x27 μ26 => (gR μ26 v0 8 5 (fun x28 => (aI μ26 x28 ((81 + (3 * v2)) + 2) (fun x29 => (sI μ26 x23 x27 x29 (fun μ30 => (k4 v0 v1 (v2 + 1) μ30))))))))))))))) else (FX8_cues_L76 k4 FU v0 v1 v2 (81 + (3 * v2)) (81 + (3 * v1)) 0 μ)))))))))))))))
set_option maxHeartbeats 4000000 in
set_option maxRecDepth 100000 in
theorem VX8_cues_B4 {κ : Cx} {ρ : (Unit ⊕ String) × Me} (F : Fx κ cX8_cues RX8) (M : Mx κ (fun _ : Unit => none) ρ rmX8_cues none [] "cues") (hNL : κ.2.2.2.2.2.2.2.2.2.2.2.2.2.2 = 6) {k4 : Nat → Int32 → Int32 → Me → Rs Unit} (hk4 : ∀ (v0 : Nat) (v1 : Int32) (v2 : Int32) (μ : Me), V κ ρ 0 0 μ (k4 v0 v1 v2 μ) 4 [(0, .ref v0), (1, .int v1), (2, .int v2)] []) (v0 : Nat) (v1 : Int32) (v2 : Int32) (μ : Me) : V κ ρ 0 0 μ (FX8_cues_B4 k4 v0 v1 v2 μ) 4 [(0, .ref v0), (1, .int v1), (2, .int v2)] [] := by
  unfold FX8_cues_B4
  refine V_iload_n F dX8_cues_4 rfl 2 rfl ?_
  refine V_aload_n F dX8_cues_5 rfl 0 rfl ?_
  refine V_gR (ci := 8) (k9 := 5) (C := RX8) (T := TX8) (N := 22) F rfl hinX8 (by decide) q1213 dX8_cues_6 (fun x1 => ?_)
  refine V_bipush (v := 8) F dX8_cues_9 (by decide) ?_
  refine V_aI F dX8_cues_11 (fun x2 => ?_)
  refine V_icmp_ge (tgt := 116) F dX8_cues_12 (by decide) (fun c3 => ?_) (fun c4 => ?_)
  · refine V_aload_n F dX8_cues_116 rfl 0 rfl ?_
    refine V_gR (ci := 8) (k9 := 5) (C := RX8) (T := TX8) (N := 22) F rfl hinX8 (by decide) q1213 dX8_cues_117 (fun x5 => ?_)
    refine V_bipush (v := 8) F dX8_cues_120 (by decide) ?_
    refine V_iload_n F dX8_cues_122 rfl 1 rfl ?_
    refine V_sI F dX8_cues_123 (fun μ6 => ?_)
    refine V_bipush (v := 81) F dX8_cues_124 (by decide) ?_
    refine V_iconst (v := 3) F dX8_cues_126 (by decide) ?_
    refine V_iload_n F dX8_cues_127 rfl 1 rfl ?_
    refine V_imul F dX8_cues_128 ?_
    refine V_iadd F dX8_cues_129 ?_
    refine V_istore_n (lv' := [(2, .int (81 + (3 * v1))), (0, .ref v0), (1, .int v1)]) F dX8_cues_130 rfl (lt_L hNL (by decide)) rfl ?_
    refine V_sub [1, 0] rfl ?_
    exact VX8_cues_L131 F M hNL  FU v0 (81 + (3 * v1)) μ6
  · refine V_bipush (v := 81) F dX8_cues_15 (by decide) ?_
    refine V_iconst (v := 3) F dX8_cues_17 (by decide) ?_
    refine V_iload_n F dX8_cues_18 rfl 2 rfl ?_
    refine V_imul F dX8_cues_19 ?_
    refine V_iadd F dX8_cues_20 ?_
    refine V_istore_n (lv' := [(3, .int (81 + (3 * v2))), (0, .ref v0), (1, .int v1), (2, .int v2)]) F dX8_cues_21 rfl (lt_L hNL (by decide)) rfl ?_
    refine V_bipush (v := 81) F dX8_cues_22 (by decide) ?_
    refine V_iconst (v := 3) F dX8_cues_24 (by decide) ?_
    refine V_iload_n F dX8_cues_25 rfl 2 rfl ?_
    refine V_imul F dX8_cues_26 ?_
    refine V_iadd F dX8_cues_27 ?_
    refine V_istore (lv' := [(4, .int (81 + (3 * v1))), (3, .int (81 + (3 * v2))), (0, .ref v0), (1, .int v1), (2, .int v2)]) F dX8_cues_28 (lt_L hNL (by decide)) rfl ?_
    refine V_aload_n F dX8_cues_30 rfl 2 rfl ?_
    refine V_gR (ci := 8) (k9 := 5) (C := RX8) (T := TX8) (N := 22) F rfl hinX8 (by decide) q1213 dX8_cues_31 (fun x11 => ?_)
    refine V_iload_n F dX8_cues_34 rfl 1 rfl ?_
    refine V_iconst (v := 1) F dX8_cues_35 (by decide) ?_
    refine V_iadd F dX8_cues_36 ?_
    refine V_aI F dX8_cues_37 (fun x12 => ?_)
    refine V_aload_n F dX8_cues_38 rfl 2 rfl ?_
    refine V_gR (ci := 8) (k9 := 5) (C := RX8) (T := TX8) (N := 22) F rfl hinX8 (by decide) q1213 dX8_cues_39 (fun x13 => ?_)
    refine V_iconst (v := 3) F dX8_cues_42 (by decide) ?_
    refine V_aI F dX8_cues_43 (fun x14 => ?_)
    refine V_icmp_ne (tgt := 73) F dX8_cues_44 (by decide) (fun c15 => ?_) (fun c16 => ?_)
    · refine V_iconst (v := 0) F dX8_cues_73 (by decide) ?_
      refine V_istore (lv' := [(5, .int 0), (4, .int (81 + (3 * v1))), (3, .int (81 + (3 * v2))), (0, .ref v0), (1, .int v1), (2, .int v2)]) F dX8_cues_74 (lt_L hNL (by decide)) rfl ?_
      refine V_sub [3, 4, 5, 2, 1, 0] rfl ?_
      exact VX8_cues_L76 F M hNL hk4 FU v0 v1 v2 (81 + (3 * v2)) (81 + (3 * v1)) 0 μ
    · refine V_aload_n F dX8_cues_47 rfl 2 rfl ?_
      refine V_gR (ci := 8) (k9 := 5) (C := RX8) (T := TX8) (N := 22) F rfl hinX8 (by decide) q1213 dX8_cues_48 (fun x23 => ?_)
      refine V_aload_n F dX8_cues_51 rfl 2 rfl ?_
      refine V_gR (ci := 8) (k9 := 5) (C := RX8) (T := TX8) (N := 22) F rfl hinX8 (by decide) q1213 dX8_cues_52 (fun x24 => ?_)
      refine V_iload_n F dX8_cues_55 rfl 1 rfl ?_
      refine V_aI F dX8_cues_56 (fun x25 => ?_)
      refine V_iconst (v := 3) F dX8_cues_57 (by decide) ?_
      refine V_cS (As := [.int x25, .int 3]) (rest := [.ref x23]) (N := 2) F M (metX8_of (Fx_G F) (Fx_l F) x25 3 μ) q1310 q72 q1308 q1309 ⟨by decide +kernel, by decide +kernel, by decide +kernel⟩ rfl ⟨by decide, by decide⟩ (Nat.le_of_ble_eq_true rfl) dX8_cues_58 (by decide) (by decide) (fun x27 μ26 => ?_)
      change V κ ρ 0 0 μ26 _ 61 [(4, .int (81 + (3 * v1))), (3, .int (81 + (3 * v2))), (0, .ref v0), (1, .int v1), (2, .int v2)] [.int x27, .ref x23]
      refine V_aload_n F dX8_cues_61 rfl 2 rfl ?_
      refine V_gR (ci := 8) (k9 := 5) (C := RX8) (T := TX8) (N := 22) F rfl hinX8 (by decide) q1213 dX8_cues_62 (fun x28 => ?_)
      refine V_iload_n F dX8_cues_65 rfl 1 rfl ?_
      refine V_iconst (v := 2) F dX8_cues_66 (by decide) ?_
      refine V_iadd F dX8_cues_67 ?_
      refine V_aI F dX8_cues_68 (fun x29 => ?_)
      refine V_sI F dX8_cues_69 (fun μ30 => ?_)
      refine V_goto (tgt := 110) F dX8_cues_70 (by decide) ?_
      refine V_iinc (lv' := [(2, .int (v2 + 1)), (4, .int (81 + (3 * v1))), (3, .int (81 + (3 * v2))), (0, .ref v0), (1, .int v1)]) F dX8_cues_110 4 rfl rfl (lt_L hNL (by decide)) rfl ?_
      refine V_goto (tgt := 4) F dX8_cues_113 (by decide) ?_
      refine V_sub [3, 4, 0] rfl ?_
      exact hk4 v0 v1 (v2 + 1) μ30
def FX8_cues_L4  : Nat → Nat → Int32 → Int32 → Me → Rs Unit
  | 0, _, _, _, _ => none
  | f + 1, v0, v1, v2, μ => FX8_cues_B4 (FX8_cues_L4  f) v0 v1 v2 μ
theorem VX8_cues_L4 {κ : Cx} {ρ : (Unit ⊕ String) × Me} (F : Fx κ cX8_cues RX8) (M : Mx κ (fun _ : Unit => none) ρ rmX8_cues none [] "cues") (hNL : κ.2.2.2.2.2.2.2.2.2.2.2.2.2.2 = 6)   : ∀ (f : Nat) (v0 : Nat) (v1 : Int32) (v2 : Int32) (μ : Me), V κ ρ 0 0 μ (FX8_cues_L4  f v0 v1 v2 μ) 4 [(0, .ref v0), (1, .int v1), (2, .int v2)] [] := by
  intro f
  induction f with
  | zero => intros; exact V_none
  | succ f ih => intro v0 v1 v2 μ; exact VX8_cues_B4 F M hNL (fun v0 v1 v2 μ => ih v0 v1 v2 μ) v0 v1 v2 μ
def FX8_cues (a0 : Nat) (μ : Me) : Rs Unit :=
  (FX8_cues_L4  FU a0 0 0 μ)
set_option maxHeartbeats 4000000 in
set_option maxRecDepth 100000 in
theorem metX8_cues {l : Launch} {s0 : State} {D : va_G} {aC : Nat → ClassId} (hG : Gl s0 D aC) (hl : l.stackTraces = false) (a0 : Nat) (μ : Me) : Ct l yX8_cues (ws_ yX8_cues cX8_cues 6 none) rmX8_cues s0 D aC (fun _ : Unit => none) [.ref a0] μ (FX8_cues a0 μ) := by
  refine Ct_of hG hl (by decide +kernel) (Nat.le_of_ble_eq_true rfl) (fun κ ρ hNL F M hκ => ?_)
  have F : Fx κ cX8_cues RX8 := F
  change V κ ρ 0 0 μ (FX8_cues a0 μ) 0 [(0, .ref a0)] []
  unfold FX8_cues
  refine V_iconst (v := 0) F dX8_cues_0 (by decide) ?_
  refine V_istore_n (lv' := [(1, .int 0), (0, .ref a0)]) F dX8_cues_1 rfl (lt_L hNL (by decide)) rfl ?_
  refine V_iconst (v := 0) F dX8_cues_2 (by decide) ?_
  refine V_istore_n (lv' := [(2, .int 0), (1, .int 0), (0, .ref a0)]) F dX8_cues_3 rfl (lt_L hNL (by decide)) rfl ?_
  refine V_sub [2, 1, 0] rfl ?_
  exact VX8_cues_L4 F M hNL  FU a0 0 0 μ
/-! DroneLightShowModel.moves(I)I -/
abbrev rmX8_moves : Room := { frames := 3, cells := 0, slots := 0, locals := 65 }
def FX8_moves_B62  (v0 : Nat) (v1 : Int32) (v4 : Int32) (μ : Me) : Rs Int32 :=
  (bnd (vc μ v0 8 (FX8_in v0 v4 μ)) (fun x14 μ13 => (if x14 < 0 then (gR μ13 v0 8 5 (fun x17 => (bnd (FX8_of v1 0 μ13) (fun x19 μ18 => (sI μ18 x17 x19 v4 (fun μ20 => (rt 1 μ20))))))) else (gR μ13 v0 8 5 (fun x21 => (aI μ13 x21 5 (fun x22 => (sI μ13 x21 5 (x22 + 1) (fun μ23 => (rt 0 μ23))))))))))
set_option maxHeartbeats 4000000 in
set_option maxRecDepth 100000 in
theorem VX8_moves_B62 {κ : Cx} {ρ : (Int32 ⊕ String) × Me} (F : Fx κ cX8_moves RX8) (M : Mx κ (fun r : Int32 => some (.int r)) ρ rmX8_moves (some .int) [] "moves") (hNL : κ.2.2.2.2.2.2.2.2.2.2.2.2.2.2 = 5)   (v0 : Nat) (v1 : Int32) (v4 : Int32) (μ : Me) : V κ ρ 0 0 μ (FX8_moves_B62  v0 v1 v4 μ) 62 [(0, .ref v0), (1, .int v1), (4, .int v4)] [] := by
  unfold FX8_moves_B62
  refine V_aload_n F dX8_moves_62 rfl 0 rfl ?_
  refine V_iload F dX8_moves_63 2 rfl ?_
  refine V_cV (As := [.int v4]) (rest := []) (C := RX8) (N := 1) F M (metX8_in (Fx_G F) (Fx_l F) v0 v4 μ) rfl q1307 q72 q1304 q1306 q23 ⟨by decide +kernel, by decide +kernel, by decide +kernel⟩ rfl ⟨by decide, by decide⟩ (Nat.le_of_ble_eq_true rfl) dX8_moves_65 (by decide) (by decide) (fun x14 μ13 => ?_)
  change V κ ρ 0 0 μ13 _ 68 [(0, .ref v0), (1, .int v1), (4, .int v4)] [.int x14]
  refine V_if_lt (tgt := 83) F dX8_moves_68 (by decide) (fun c15 => ?_) (fun c16 => ?_)
  · refine V_aload_n F dX8_moves_83 rfl 0 rfl ?_
    refine V_gR (ci := 8) (k9 := 5) (C := RX8) (T := TX8) (N := 22) F rfl hinX8 (by decide) q1213 dX8_moves_84 (fun x17 => ?_)
    refine V_iload_n F dX8_moves_87 rfl 1 rfl ?_
    refine V_iconst (v := 0) F dX8_moves_88 (by decide) ?_
    refine V_cS (As := [.int v1, .int 0]) (rest := [.ref x17]) (N := 2) F M (metX8_of (Fx_G F) (Fx_l F) v1 0 μ13) q1310 q72 q1308 q1309 ⟨by decide +kernel, by decide +kernel, by decide +kernel⟩ rfl ⟨by decide, by decide⟩ (Nat.le_of_ble_eq_true rfl) dX8_moves_89 (by decide) (by decide) (fun x19 μ18 => ?_)
    change V κ ρ 0 0 μ18 _ 92 [(0, .ref v0), (1, .int v1), (4, .int v4)] [.int x19, .ref x17]
    refine V_iload F dX8_moves_92 2 rfl ?_
    refine V_sI F dX8_moves_94 (fun μ20 => ?_)
    refine V_iconst (v := 1) F dX8_moves_95 (by decide) ?_
    exact V_iret F M dX8_moves_96 rfl (by decide) (by decide)
  · refine V_aload_n F dX8_moves_71 rfl 0 rfl ?_
    refine V_gR (ci := 8) (k9 := 5) (C := RX8) (T := TX8) (N := 22) F rfl hinX8 (by decide) q1213 dX8_moves_72 (fun x21 => ?_)
    refine V_iconst (v := 5) F dX8_moves_75 (by decide) ?_
    refine V_dup2 F dX8_moves_76 rfl rfl ?_
    refine V_aI F dX8_moves_77 (fun x22 => ?_)
    refine V_iconst (v := 1) F dX8_moves_78 (by decide) ?_
    refine V_iadd F dX8_moves_79 ?_
    refine V_sI F dX8_moves_80 (fun μ23 => ?_)
    refine V_iconst (v := 0) F dX8_moves_81 (by decide) ?_
    exact V_iret F M dX8_moves_82 rfl (by decide) (by decide)
def FX8_moves (a0 : Nat) (p1 : Int32) (μ : Me) : Rs Int32 :=
  (gR μ a0 8 5 (fun x1 => (bnd (FX8_of p1 0 μ) (fun x3 μ2 => (aI μ2 x1 x3 (fun x4 => (bnd (vc μ2 a0 8 (FX8_goal a0 p1 μ2)) (fun x6 μ5 => (bnd (vc μ5 a0 8 (FX8_wish a0 p1 μ5)) (fun x8 μ7 => (bnd (vc μ7 a0 8 (FX8_in a0 x8 μ7)) (fun x10 μ9 => (if x10 < 0 then (FX8_moves_B62  a0 p1 x8 μ9) else (if (x4 / 8) = (x6 / 8) then (FX8_moves_B62  a0 p1 x8 μ9) else (if (x4 - x4 / 8 * 8) = (x6 - x6 / 8 * 8) then (FX8_moves_B62  a0 p1 x8 μ9) else (bnd (FX8_toColumn x4 x6 μ9) (fun x29 μ28 => (FX8_moves_B62  a0 p1 x29 μ28))))))))))))))))))
set_option maxHeartbeats 4000000 in
set_option maxRecDepth 100000 in
theorem metX8_moves {l : Launch} {s0 : State} {D : va_G} {aC : Nat → ClassId} (hG : Gl s0 D aC) (hl : l.stackTraces = false) (a0 : Nat) (p1 : Int32) (μ : Me) : Ct l yX8_moves (ws_ yX8_moves cX8_moves 5 (some .int)) rmX8_moves s0 D aC (fun r : Int32 => some (.int r)) [.ref a0, .int p1] μ (FX8_moves a0 p1 μ) := by
  refine Ct_of hG hl (by decide +kernel) (Nat.le_of_ble_eq_true rfl) (fun κ ρ hNL F M hκ => ?_)
  have F : Fx κ cX8_moves RX8 := F
  change V κ ρ 0 0 μ (FX8_moves a0 p1 μ) 0 [(0, .ref a0), (1, .int p1)] []
  unfold FX8_moves
  refine V_aload_n F dX8_moves_0 rfl 0 rfl ?_
  refine V_gR (ci := 8) (k9 := 5) (C := RX8) (T := TX8) (N := 22) F rfl hinX8 (by decide) q1213 dX8_moves_1 (fun x1 => ?_)
  refine V_iload_n F dX8_moves_4 rfl 1 rfl ?_
  refine V_iconst (v := 0) F dX8_moves_5 (by decide) ?_
  refine V_cS (As := [.int p1, .int 0]) (rest := [.ref x1]) (N := 2) F M (metX8_of (Fx_G F) (Fx_l F) p1 0 μ) q1310 q72 q1308 q1309 ⟨by decide +kernel, by decide +kernel, by decide +kernel⟩ rfl ⟨by decide, by decide⟩ (Nat.le_of_ble_eq_true rfl) dX8_moves_6 (by decide) (by decide) (fun x3 μ2 => ?_)
  change V κ ρ 0 0 μ2 _ 9 [(0, .ref a0), (1, .int p1)] [.int x3, .ref x1]
  refine V_aI F dX8_moves_9 (fun x4 => ?_)
  refine V_istore_n (lv' := [(2, .int x4), (0, .ref a0), (1, .int p1)]) F dX8_moves_10 rfl (lt_L hNL (by decide)) rfl ?_
  refine V_aload_n F dX8_moves_11 rfl 1 rfl ?_
  refine V_iload_n F dX8_moves_12 rfl 2 rfl ?_
  refine V_cV (As := [.int p1]) (rest := []) (C := RX8) (N := 1) F M (metX8_goal (Fx_G F) (Fx_l F) a0 p1 μ2) rfl q1416 q72 q1413 q1415 q37 ⟨by decide +kernel, by decide +kernel, by decide +kernel⟩ rfl ⟨by decide, by decide⟩ (Nat.le_of_ble_eq_true rfl) dX8_moves_13 (by decide) (by decide) (fun x6 μ5 => ?_)
  change V κ ρ 0 0 μ5 _ 16 [(2, .int x4), (0, .ref a0), (1, .int p1)] [.int x6]
  refine V_istore_n (lv' := [(3, .int x6), (2, .int x4), (0, .ref a0), (1, .int p1)]) F dX8_moves_16 rfl (lt_L hNL (by decide)) rfl ?_
  refine V_aload_n F dX8_moves_17 rfl 2 rfl ?_
  refine V_iload_n F dX8_moves_18 rfl 3 rfl ?_
  refine V_cV (As := [.int p1]) (rest := []) (C := RX8) (N := 1) F M (metX8_wish (Fx_G F) (Fx_l F) a0 p1 μ5) rfl q1538 q72 q1535 q1537 q52 ⟨by decide +kernel, by decide +kernel, by decide +kernel⟩ rfl ⟨by decide, by decide⟩ (Nat.le_of_ble_eq_true rfl) dX8_moves_19 (by decide) (by decide) (fun x8 μ7 => ?_)
  change V κ ρ 0 0 μ7 _ 22 [(3, .int x6), (2, .int x4), (0, .ref a0), (1, .int p1)] [.int x8]
  refine V_istore (lv' := [(4, .int x8), (3, .int x6), (2, .int x4), (0, .ref a0), (1, .int p1)]) F dX8_moves_22 (lt_L hNL (by decide)) rfl ?_
  refine V_aload_n F dX8_moves_24 rfl 3 rfl ?_
  refine V_iload F dX8_moves_25 0 rfl ?_
  refine V_cV (As := [.int x8]) (rest := []) (C := RX8) (N := 1) F M (metX8_in (Fx_G F) (Fx_l F) a0 x8 μ7) rfl q1307 q72 q1304 q1306 q23 ⟨by decide +kernel, by decide +kernel, by decide +kernel⟩ rfl ⟨by decide, by decide⟩ (Nat.le_of_ble_eq_true rfl) dX8_moves_27 (by decide) (by decide) (fun x10 μ9 => ?_)
  change V κ ρ 0 0 μ9 _ 30 [(4, .int x8), (3, .int x6), (2, .int x4), (0, .ref a0), (1, .int p1)] [.int x10]
  refine V_if_lt (tgt := 62) F dX8_moves_30 (by decide) (fun c11 => ?_) (fun c12 => ?_)
  · refine V_sub [3, 4, 0] rfl ?_
    exact VX8_moves_B62 F M hNL  a0 p1 x8 μ9
  · refine V_iload_n F dX8_moves_33 rfl 2 rfl ?_
    refine V_bipush (v := 8) F dX8_moves_34 (by decide) ?_
    refine V_idiv F dX8_moves_36 (by decide) ?_
    refine V_iload_n F dX8_moves_37 rfl 1 rfl ?_
    refine V_bipush (v := 8) F dX8_moves_38 (by decide) ?_
    refine V_idiv F dX8_moves_40 (by decide) ?_
    refine V_icmp_eq (tgt := 62) F dX8_moves_41 (by decide) (fun c24 => ?_) (fun c25 => ?_)
    · refine V_sub [3, 4, 0] rfl ?_
      exact VX8_moves_B62 F M hNL  a0 p1 x8 μ9
    · refine V_iload_n F dX8_moves_44 rfl 2 rfl ?_
      refine V_bipush (v := 8) F dX8_moves_45 (by decide) ?_
      refine V_irem F dX8_moves_47 (by decide) ?_
      refine V_iload_n F dX8_moves_48 rfl 1 rfl ?_
      refine V_bipush (v := 8) F dX8_moves_49 (by decide) ?_
      refine V_irem F dX8_moves_51 (by decide) ?_
      refine V_icmp_eq (tgt := 62) F dX8_moves_52 (by decide) (fun c26 => ?_) (fun c27 => ?_)
      · refine V_sub [3, 4, 0] rfl ?_
        exact VX8_moves_B62 F M hNL  a0 p1 x8 μ9
      · refine V_iload_n F dX8_moves_55 rfl 2 rfl ?_
        refine V_iload_n F dX8_moves_56 rfl 1 rfl ?_
        refine V_cS (As := [.int x4, .int x6]) (rest := []) (N := 2) F M (metX8_toColumn (Fx_G F) (Fx_l F) x4 x6 μ9) q1544 q72 q1542 q1543 ⟨by decide +kernel, by decide +kernel, by decide +kernel⟩ rfl ⟨by decide, by decide⟩ (Nat.le_of_ble_eq_true rfl) dX8_moves_57 (by decide) (by decide) (fun x29 μ28 => ?_)
        change V κ ρ 0 0 μ28 _ 60 [(4, .int x8), (3, .int x6), (2, .int x4), (0, .ref a0), (1, .int p1)] [.int x29]
        refine V_istore (lv' := [(4, .int x29), (3, .int x6), (2, .int x4), (0, .ref a0), (1, .int p1)]) F dX8_moves_60 (lt_L hNL (by decide)) rfl ?_
        refine V_sub [3, 4, 0] rfl ?_
        exact VX8_moves_B62 F M hNL  a0 p1 x29 μ28
/-! DroneLightShowModel.lowers(I)V -/
abbrev rmX8_lowers : Room := { frames := 1, cells := 0, slots := 0, locals := 21 }
def FX8_lowers (a0 : Nat) (p1 : Int32) (μ : Me) : Rs Unit :=
  (gR μ a0 8 5 (fun x1 => (bnd (FX8_of p1 2 μ) (fun x3 μ2 => (aI μ2 x1 x3 (fun x4 => (gR μ2 a0 8 10 (fun x5 => (aI μ2 x5 p1 (fun x6 => (gR μ2 a0 8 5 (fun x7 => (bnd (FX8_of p1 2 μ2) (fun x9 μ8 => (if 0 ≤ ((x4 - 1) - x6) then (sI μ8 x7 x9 ((x4 - 1) - x6) (fun μ12 => (rt () μ12))) else (sI μ8 x7 x9 0 (fun μ13 => (rt () μ13))))))))))))))))))
set_option maxHeartbeats 4000000 in
set_option maxRecDepth 100000 in
theorem metX8_lowers {l : Launch} {s0 : State} {D : va_G} {aC : Nat → ClassId} (hG : Gl s0 D aC) (hl : l.stackTraces = false) (a0 : Nat) (p1 : Int32) (μ : Me) : Ct l yX8_lowers (ws_ yX8_lowers cX8_lowers 3 none) rmX8_lowers s0 D aC (fun _ : Unit => none) [.ref a0, .int p1] μ (FX8_lowers a0 p1 μ) := by
  refine Ct_of hG hl (by decide +kernel) (Nat.le_of_ble_eq_true rfl) (fun κ ρ hNL F M hκ => ?_)
  have F : Fx κ cX8_lowers RX8 := F
  change V κ ρ 0 0 μ (FX8_lowers a0 p1 μ) 0 [(0, .ref a0), (1, .int p1)] []
  unfold FX8_lowers
  refine V_aload_n F dX8_lowers_0 rfl 0 rfl ?_
  refine V_gR (ci := 8) (k9 := 5) (C := RX8) (T := TX8) (N := 22) F rfl hinX8 (by decide) q1213 dX8_lowers_1 (fun x1 => ?_)
  refine V_iload_n F dX8_lowers_4 rfl 1 rfl ?_
  refine V_iconst (v := 2) F dX8_lowers_5 (by decide) ?_
  refine V_cS (As := [.int p1, .int 2]) (rest := [.ref x1]) (N := 2) F M (metX8_of (Fx_G F) (Fx_l F) p1 2 μ) q1310 q72 q1308 q1309 ⟨by decide +kernel, by decide +kernel, by decide +kernel⟩ rfl ⟨by decide, by decide⟩ (Nat.le_of_ble_eq_true rfl) dX8_lowers_6 (by decide) (by decide) (fun x3 μ2 => ?_)
  change V κ ρ 0 0 μ2 _ 9 [(0, .ref a0), (1, .int p1)] [.int x3, .ref x1]
  refine V_aI F dX8_lowers_9 (fun x4 => ?_)
  refine V_iconst (v := 1) F dX8_lowers_10 (by decide) ?_
  refine V_isub F dX8_lowers_11 ?_
  refine V_aload_n F dX8_lowers_12 rfl 0 rfl ?_
  refine V_gR (ci := 8) (k9 := 10) (C := RX8) (T := TX8) (N := 22) F rfl hinX8 (by decide) q1218 dX8_lowers_13 (fun x5 => ?_)
  refine V_iload_n F dX8_lowers_16 rfl 1 rfl ?_
  refine V_aI F dX8_lowers_17 (fun x6 => ?_)
  refine V_isub F dX8_lowers_18 ?_
  refine V_istore_n (lv' := [(2, .int ((x4 - 1) - x6)), (0, .ref a0), (1, .int p1)]) F dX8_lowers_19 rfl (lt_L hNL (by decide)) rfl ?_
  refine V_aload_n F dX8_lowers_20 rfl 1 rfl ?_
  refine V_gR (ci := 8) (k9 := 5) (C := RX8) (T := TX8) (N := 22) F rfl hinX8 (by decide) q1213 dX8_lowers_21 (fun x7 => ?_)
  refine V_iload_n F dX8_lowers_24 rfl 2 rfl ?_
  refine V_iconst (v := 2) F dX8_lowers_25 (by decide) ?_
  refine V_cS (As := [.int p1, .int 2]) (rest := [.ref x7]) (N := 2) F M (metX8_of (Fx_G F) (Fx_l F) p1 2 μ2) q1310 q72 q1308 q1309 ⟨by decide +kernel, by decide +kernel, by decide +kernel⟩ rfl ⟨by decide, by decide⟩ (Nat.le_of_ble_eq_true rfl) dX8_lowers_26 (by decide) (by decide) (fun x9 μ8 => ?_)
  change V κ ρ 0 0 μ8 _ 29 [(2, .int ((x4 - 1) - x6)), (0, .ref a0), (1, .int p1)] [.int x9, .ref x7]
  refine V_iload_n F dX8_lowers_29 rfl 0 rfl ?_
  refine V_if_ge (tgt := 37) F dX8_lowers_30 (by decide) (fun c10 => ?_) (fun c11 => ?_)
  · refine V_iload_n F dX8_lowers_37 rfl 0 rfl ?_
    refine V_sI F dX8_lowers_38 (fun μ12 => ?_)
    exact V_vret F M dX8_lowers_39 rfl (by decide) (by decide)
  · refine V_iconst (v := 0) F dX8_lowers_33 (by decide) ?_
    refine V_goto (tgt := 38) F dX8_lowers_34 (by decide) ?_
    refine V_sI F dX8_lowers_38 (fun μ13 => ?_)
    exact V_vret F M dX8_lowers_39 rfl (by decide) (by decide)
/-! DroneLightShowModel.alarms(I)V -/
abbrev rmX8_alarms : Room := { frames := 3, cells := 0, slots := 0, locals := 66 }
def FX8_alarms (a0 : Nat) (p1 : Int32) (μ : Me) : Rs Unit :=
  (gR μ a0 8 5 (fun x1 => (aI μ x1 1 (fun x2 => (if x2 = 0 then (bnd (vc μ a0 8 (FX8_grounds a0 p1 μ)) (fun x19 μ18 => (gR μ18 a0 8 5 (fun x20 => (aI μ18 x20 7 (fun x21 => (sI μ18 x20 7 (x21 + 1) (fun μ22 => (rt () μ22))))))))) else (gR μ a0 8 5 (fun x5 => (bnd (FX8_of p1 5 μ) (fun x7 μ6 => (sI μ6 x5 x7 1 (fun μ8 => (gR μ8 a0 8 5 (fun x9 => (bnd (FX8_of p1 4 μ8) (fun x11 μ10 => (bnd (vc μ10 a0 8 (FX8_nearest a0 p1 μ10)) (fun x13 μ12 => (sI μ12 x9 x11 (x13 + 1) (fun μ14 => (gR μ14 a0 8 5 (fun x15 => (aI μ14 x15 6 (fun x16 => (sI μ14 x15 6 (x16 + 1) (fun μ17 => (rt () μ17))))))))))))))))))))))))))
set_option maxHeartbeats 4000000 in
set_option maxRecDepth 100000 in
theorem metX8_alarms {l : Launch} {s0 : State} {D : va_G} {aC : Nat → ClassId} (hG : Gl s0 D aC) (hl : l.stackTraces = false) (a0 : Nat) (p1 : Int32) (μ : Me) : Ct l yX8_alarms (ws_ yX8_alarms cX8_alarms 2 none) rmX8_alarms s0 D aC (fun _ : Unit => none) [.ref a0, .int p1] μ (FX8_alarms a0 p1 μ) := by
  refine Ct_of hG hl (by decide +kernel) (Nat.le_of_ble_eq_true rfl) (fun κ ρ hNL F M hκ => ?_)
  have F : Fx κ cX8_alarms RX8 := F
  change V κ ρ 0 0 μ (FX8_alarms a0 p1 μ) 0 [(0, .ref a0), (1, .int p1)] []
  unfold FX8_alarms
  refine V_aload_n F dX8_alarms_0 rfl 0 rfl ?_
  refine V_gR (ci := 8) (k9 := 5) (C := RX8) (T := TX8) (N := 22) F rfl hinX8 (by decide) q1213 dX8_alarms_1 (fun x1 => ?_)
  refine V_iconst (v := 1) F dX8_alarms_4 (by decide) ?_
  refine V_aI F dX8_alarms_5 (fun x2 => ?_)
  refine V_if_ne (tgt := 26) F dX8_alarms_6 (by decide) (fun c3 => ?_) (fun c4 => ?_)
  · refine V_aload_n F dX8_alarms_26 rfl 0 rfl ?_
    refine V_gR (ci := 8) (k9 := 5) (C := RX8) (T := TX8) (N := 22) F rfl hinX8 (by decide) q1213 dX8_alarms_27 (fun x5 => ?_)
    refine V_iload_n F dX8_alarms_30 rfl 1 rfl ?_
    refine V_iconst (v := 5) F dX8_alarms_31 (by decide) ?_
    refine V_cS (As := [.int p1, .int 5]) (rest := [.ref x5]) (N := 2) F M (metX8_of (Fx_G F) (Fx_l F) p1 5 μ) q1310 q72 q1308 q1309 ⟨by decide +kernel, by decide +kernel, by decide +kernel⟩ rfl ⟨by decide, by decide⟩ (Nat.le_of_ble_eq_true rfl) dX8_alarms_32 (by decide) (by decide) (fun x7 μ6 => ?_)
    change V κ ρ 0 0 μ6 _ 35 [(0, .ref a0), (1, .int p1)] [.int x7, .ref x5]
    refine V_iconst (v := 1) F dX8_alarms_35 (by decide) ?_
    refine V_sI F dX8_alarms_36 (fun μ8 => ?_)
    refine V_aload_n F dX8_alarms_37 rfl 0 rfl ?_
    refine V_gR (ci := 8) (k9 := 5) (C := RX8) (T := TX8) (N := 22) F rfl hinX8 (by decide) q1213 dX8_alarms_38 (fun x9 => ?_)
    refine V_iload_n F dX8_alarms_41 rfl 1 rfl ?_
    refine V_iconst (v := 4) F dX8_alarms_42 (by decide) ?_
    refine V_cS (As := [.int p1, .int 4]) (rest := [.ref x9]) (N := 2) F M (metX8_of (Fx_G F) (Fx_l F) p1 4 μ8) q1310 q72 q1308 q1309 ⟨by decide +kernel, by decide +kernel, by decide +kernel⟩ rfl ⟨by decide, by decide⟩ (Nat.le_of_ble_eq_true rfl) dX8_alarms_43 (by decide) (by decide) (fun x11 μ10 => ?_)
    change V κ ρ 0 0 μ10 _ 46 [(0, .ref a0), (1, .int p1)] [.int x11, .ref x9]
    refine V_aload_n F dX8_alarms_46 rfl 0 rfl ?_
    refine V_iload_n F dX8_alarms_47 rfl 1 rfl ?_
    refine V_cV (As := [.int p1]) (rest := [.int x11, .ref x9]) (C := RX8) (N := 1) F M (metX8_nearest (Fx_G F) (Fx_l F) a0 p1 μ10) rfl q1436 q72 q1433 q1435 q38 ⟨by decide +kernel, by decide +kernel, by decide +kernel⟩ rfl ⟨by decide, by decide⟩ (Nat.le_of_ble_eq_true rfl) dX8_alarms_48 (by decide) (by decide) (fun x13 μ12 => ?_)
    change V κ ρ 0 0 μ12 _ 51 [(0, .ref a0), (1, .int p1)] [.int x13, .int x11, .ref x9]
    refine V_iconst (v := 1) F dX8_alarms_51 (by decide) ?_
    refine V_iadd F dX8_alarms_52 ?_
    refine V_sI F dX8_alarms_53 (fun μ14 => ?_)
    refine V_aload_n F dX8_alarms_54 rfl 0 rfl ?_
    refine V_gR (ci := 8) (k9 := 5) (C := RX8) (T := TX8) (N := 22) F rfl hinX8 (by decide) q1213 dX8_alarms_55 (fun x15 => ?_)
    refine V_bipush (v := 6) F dX8_alarms_58 (by decide) ?_
    refine V_dup2 F dX8_alarms_60 rfl rfl ?_
    refine V_aI F dX8_alarms_61 (fun x16 => ?_)
    refine V_iconst (v := 1) F dX8_alarms_62 (by decide) ?_
    refine V_iadd F dX8_alarms_63 ?_
    refine V_sI F dX8_alarms_64 (fun μ17 => ?_)
    exact V_vret F M dX8_alarms_65 rfl (by decide) (by decide)
  · refine V_aload_n F dX8_alarms_9 rfl 0 rfl ?_
    refine V_iload_n F dX8_alarms_10 rfl 1 rfl ?_
    refine V_cV (As := [.int p1]) (rest := []) (C := RX8) (N := 1) F M (metX8_grounds (Fx_G F) (Fx_l F) a0 p1 μ) rfl q1314 q72 q1311 q1313 q24 ⟨by decide +kernel, by decide +kernel, by decide +kernel⟩ rfl ⟨by decide, by decide⟩ (Nat.le_of_ble_eq_true rfl) dX8_alarms_11 (by decide) (by decide) (fun x19 μ18 => ?_)
    change V κ ρ 0 0 μ18 _ 14 [(0, .ref a0), (1, .int p1)] []
    refine V_aload_n F dX8_alarms_14 rfl 0 rfl ?_
    refine V_gR (ci := 8) (k9 := 5) (C := RX8) (T := TX8) (N := 22) F rfl hinX8 (by decide) q1213 dX8_alarms_15 (fun x20 => ?_)
    refine V_bipush (v := 7) F dX8_alarms_18 (by decide) ?_
    refine V_dup2 F dX8_alarms_20 rfl rfl ?_
    refine V_aI F dX8_alarms_21 (fun x21 => ?_)
    refine V_iconst (v := 1) F dX8_alarms_22 (by decide) ?_
    refine V_iadd F dX8_alarms_23 ?_
    refine V_sI F dX8_alarms_24 (fun μ22 => ?_)
    exact V_vret F M dX8_alarms_25 rfl (by decide) (by decide)
/-! DroneLightShowModel.settles(I)V -/
abbrev rmX8_settles : Room := { frames := 2, cells := 0, slots := 0, locals := 42 }
def FX8_settles_B67  (v0 : Nat) (v1 : Int32) (t0 : Int32) (t1 : Int32) (t2 : Int32) (t3 : Nat) (μ : Me) : Rs Unit :=
  (sI μ t3 t2 (t1 + t0) (fun μ11 => (bnd (vc μ11 v0 8 (FX8_grounds v0 v1 μ11)) (fun x13 μ12 => (rt () μ12)))))
set_option maxHeartbeats 4000000 in
set_option maxRecDepth 100000 in
theorem VX8_settles_B67 {κ : Cx} {ρ : (Unit ⊕ String) × Me} (F : Fx κ cX8_settles RX8) (M : Mx κ (fun _ : Unit => none) ρ rmX8_settles none [] "settles") (hNL : κ.2.2.2.2.2.2.2.2.2.2.2.2.2.2 = 3)   (v0 : Nat) (v1 : Int32) (t0 : Int32) (t1 : Int32) (t2 : Int32) (t3 : Nat) (μ : Me) : V κ ρ 0 0 μ (FX8_settles_B67  v0 v1 t0 t1 t2 t3 μ) 67 [(0, .ref v0), (1, .int v1)] [.int t0, .int t1, .int t2, .ref t3] := by
  unfold FX8_settles_B67
  refine V_iadd F dX8_settles_67 ?_
  refine V_sI F dX8_settles_68 (fun μ11 => ?_)
  refine V_aload_n F dX8_settles_69 rfl 0 rfl ?_
  refine V_iload_n F dX8_settles_70 rfl 1 rfl ?_
  refine V_cV (As := [.int v1]) (rest := []) (C := RX8) (N := 1) F M (metX8_grounds (Fx_G F) (Fx_l F) v0 v1 μ11) rfl q1314 q72 q1311 q1313 q24 ⟨by decide +kernel, by decide +kernel, by decide +kernel⟩ rfl ⟨by decide, by decide⟩ (Nat.le_of_ble_eq_true rfl) dX8_settles_71 (by decide) (by decide) (fun x13 μ12 => ?_)
  change V κ ρ 0 0 μ12 _ 74 [(0, .ref v0), (1, .int v1)] []
  exact V_vret F M dX8_settles_74 rfl (by decide) (by decide)
def FX8_settles_B50  (v0 : Nat) (v1 : Int32) (v2 : Int32) (μ : Me) : Rs Unit :=
  (gR μ v0 8 5 (fun x7 => (aI μ x7 7 (fun x8 => (if v2 = 0 then (FX8_settles_B67  v0 v1 1 x8 7 x7 μ) else (FX8_settles_B67  v0 v1 0 x8 7 x7 μ))))))
set_option maxHeartbeats 4000000 in
set_option maxRecDepth 100000 in
theorem VX8_settles_B50 {κ : Cx} {ρ : (Unit ⊕ String) × Me} (F : Fx κ cX8_settles RX8) (M : Mx κ (fun _ : Unit => none) ρ rmX8_settles none [] "settles") (hNL : κ.2.2.2.2.2.2.2.2.2.2.2.2.2.2 = 3)   (v0 : Nat) (v1 : Int32) (v2 : Int32) (μ : Me) : V κ ρ 0 0 μ (FX8_settles_B50  v0 v1 v2 μ) 50 [(0, .ref v0), (1, .int v1), (2, .int v2)] [] := by
  unfold FX8_settles_B50
  refine V_aload_n F dX8_settles_50 rfl 0 rfl ?_
  refine V_gR (ci := 8) (k9 := 5) (C := RX8) (T := TX8) (N := 22) F rfl hinX8 (by decide) q1213 dX8_settles_51 (fun x7 => ?_)
  refine V_bipush (v := 7) F dX8_settles_54 (by decide) ?_
  refine V_dup2 F dX8_settles_56 rfl rfl ?_
  refine V_aI F dX8_settles_57 (fun x8 => ?_)
  refine V_iload_n F dX8_settles_58 rfl 2 rfl ?_
  refine V_if_eq (tgt := 66) F dX8_settles_59 (by decide) (fun c9 => ?_) (fun c10 => ?_)
  · refine V_iconst (v := 1) F dX8_settles_66 (by decide) ?_
    refine V_sub [0, 1] rfl ?_
    exact VX8_settles_B67 F M hNL  v0 v1 1 x8 7 x7 μ
  · refine V_iconst (v := 0) F dX8_settles_62 (by decide) ?_
    refine V_goto (tgt := 67) F dX8_settles_63 (by decide) ?_
    refine V_sub [0, 1] rfl ?_
    exact VX8_settles_B67 F M hNL  v0 v1 0 x8 7 x7 μ
def FX8_settles_B31  (v0 : Nat) (v1 : Int32) (t0 : Int32) (μ : Me) : Rs Unit :=
  (if t0 = 0 then (gR μ v0 8 5 (fun x14 => (bnd (FX8_of v1 2 μ) (fun x16 μ15 => (aI μ15 x14 x16 (fun x17 => (if x17 ≤ 0 then (FX8_settles_B50  v0 v1 t0 μ15) else (rt () μ15)))))))) else (FX8_settles_B50  v0 v1 t0 μ))
set_option maxHeartbeats 4000000 in
set_option maxRecDepth 100000 in
theorem VX8_settles_B31 {κ : Cx} {ρ : (Unit ⊕ String) × Me} (F : Fx κ cX8_settles RX8) (M : Mx κ (fun _ : Unit => none) ρ rmX8_settles none [] "settles") (hNL : κ.2.2.2.2.2.2.2.2.2.2.2.2.2.2 = 3)   (v0 : Nat) (v1 : Int32) (t0 : Int32) (μ : Me) : V κ ρ 0 0 μ (FX8_settles_B31  v0 v1 t0 μ) 31 [(0, .ref v0), (1, .int v1)] [.int t0] := by
  unfold FX8_settles_B31
  refine V_istore_n (lv' := [(2, .int t0), (0, .ref v0), (1, .int v1)]) F dX8_settles_31 rfl (lt_L hNL (by decide)) rfl ?_
  refine V_iload_n F dX8_settles_32 rfl 0 rfl ?_
  refine V_if_ne (tgt := 50) F dX8_settles_33 (by decide) (fun c5 => ?_) (fun c6 => ?_)
  · refine V_sub [1, 2, 0] rfl ?_
    exact VX8_settles_B50 F M hNL  v0 v1 t0 μ
  · refine V_aload_n F dX8_settles_36 rfl 1 rfl ?_
    refine V_gR (ci := 8) (k9 := 5) (C := RX8) (T := TX8) (N := 22) F rfl hinX8 (by decide) q1213 dX8_settles_37 (fun x14 => ?_)
    refine V_iload_n F dX8_settles_40 rfl 2 rfl ?_
    refine V_iconst (v := 2) F dX8_settles_41 (by decide) ?_
    refine V_cS (As := [.int v1, .int 2]) (rest := [.ref x14]) (N := 2) F M (metX8_of (Fx_G F) (Fx_l F) v1 2 μ) q1310 q72 q1308 q1309 ⟨by decide +kernel, by decide +kernel, by decide +kernel⟩ rfl ⟨by decide, by decide⟩ (Nat.le_of_ble_eq_true rfl) dX8_settles_42 (by decide) (by decide) (fun x16 μ15 => ?_)
    change V κ ρ 0 0 μ15 _ 45 [(2, .int t0), (0, .ref v0), (1, .int v1)] [.int x16, .ref x14]
    refine V_aI F dX8_settles_45 (fun x17 => ?_)
    refine V_if_le (tgt := 50) F dX8_settles_46 (by decide) (fun c18 => ?_) (fun c19 => ?_)
    · refine V_sub [1, 2, 0] rfl ?_
      exact VX8_settles_B50 F M hNL  v0 v1 t0 μ15
    · exact V_vret F M dX8_settles_49 rfl (by decide) (by decide)
def FX8_settles_B30  (v0 : Nat) (v1 : Int32) (μ : Me) : Rs Unit :=
  (FX8_settles_B31  v0 v1 0 μ)
set_option maxHeartbeats 4000000 in
set_option maxRecDepth 100000 in
theorem VX8_settles_B30 {κ : Cx} {ρ : (Unit ⊕ String) × Me} (F : Fx κ cX8_settles RX8) (M : Mx κ (fun _ : Unit => none) ρ rmX8_settles none [] "settles") (hNL : κ.2.2.2.2.2.2.2.2.2.2.2.2.2.2 = 3)   (v0 : Nat) (v1 : Int32) (μ : Me) : V κ ρ 0 0 μ (FX8_settles_B30  v0 v1 μ) 30 [(0, .ref v0), (1, .int v1)] [] := by
  unfold FX8_settles_B30
  refine V_iconst (v := 0) F dX8_settles_30 (by decide) ?_
  refine V_sub [0, 1] rfl ?_
  exact VX8_settles_B31 F M hNL  v0 v1 0 μ
def FX8_settles (a0 : Nat) (p1 : Int32) (μ : Me) : Rs Unit :=
  (bnd (vc μ a0 8 (FX8_isUrgent a0 p1 μ)) (fun x2 μ1 => (if x2 = 0 then (FX8_settles_B30  a0 p1 μ1) else (bnd (vc μ1 a0 8 (FX8_goal a0 p1 μ1)) (fun x21 μ20 => (gR μ20 a0 8 5 (fun x22 => (bnd (FX8_of p1 0 μ20) (fun x24 μ23 => (aI μ23 x22 x24 (fun x25 => (if x21 = x25 then (FX8_settles_B31  a0 p1 1 μ23) else (FX8_settles_B30  a0 p1 μ23)))))))))))))
set_option maxHeartbeats 4000000 in
set_option maxRecDepth 100000 in
theorem metX8_settles {l : Launch} {s0 : State} {D : va_G} {aC : Nat → ClassId} (hG : Gl s0 D aC) (hl : l.stackTraces = false) (a0 : Nat) (p1 : Int32) (μ : Me) : Ct l yX8_settles (ws_ yX8_settles cX8_settles 3 none) rmX8_settles s0 D aC (fun _ : Unit => none) [.ref a0, .int p1] μ (FX8_settles a0 p1 μ) := by
  refine Ct_of hG hl (by decide +kernel) (Nat.le_of_ble_eq_true rfl) (fun κ ρ hNL F M hκ => ?_)
  have F : Fx κ cX8_settles RX8 := F
  change V κ ρ 0 0 μ (FX8_settles a0 p1 μ) 0 [(0, .ref a0), (1, .int p1)] []
  unfold FX8_settles
  refine V_aload_n F dX8_settles_0 rfl 0 rfl ?_
  refine V_iload_n F dX8_settles_1 rfl 1 rfl ?_
  refine V_cV (As := [.int p1]) (rest := []) (C := RX8) (N := 1) F M (metX8_isUrgent (Fx_G F) (Fx_l F) a0 p1 μ) rfl q1370 q72 q1367 q1369 q34 ⟨by decide +kernel, by decide +kernel, by decide +kernel⟩ rfl ⟨by decide, by decide⟩ (Nat.le_of_ble_eq_true rfl) dX8_settles_2 (by decide) (by decide) (fun x2 μ1 => ?_)
  change V κ ρ 0 0 μ1 _ 5 [(0, .ref a0), (1, .int p1)] [.int x2]
  refine V_if_eq (tgt := 30) F dX8_settles_5 (by decide) (fun c3 => ?_) (fun c4 => ?_)
  · refine V_sub [0, 1] rfl ?_
    exact VX8_settles_B30 F M hNL  a0 p1 μ1
  · refine V_aload_n F dX8_settles_8 rfl 0 rfl ?_
    refine V_iload_n F dX8_settles_9 rfl 1 rfl ?_
    refine V_cV (As := [.int p1]) (rest := []) (C := RX8) (N := 1) F M (metX8_goal (Fx_G F) (Fx_l F) a0 p1 μ1) rfl q1416 q72 q1413 q1415 q37 ⟨by decide +kernel, by decide +kernel, by decide +kernel⟩ rfl ⟨by decide, by decide⟩ (Nat.le_of_ble_eq_true rfl) dX8_settles_10 (by decide) (by decide) (fun x21 μ20 => ?_)
    change V κ ρ 0 0 μ20 _ 13 [(0, .ref a0), (1, .int p1)] [.int x21]
    refine V_aload_n F dX8_settles_13 rfl 0 rfl ?_
    refine V_gR (ci := 8) (k9 := 5) (C := RX8) (T := TX8) (N := 22) F rfl hinX8 (by decide) q1213 dX8_settles_14 (fun x22 => ?_)
    refine V_iload_n F dX8_settles_17 rfl 1 rfl ?_
    refine V_iconst (v := 0) F dX8_settles_18 (by decide) ?_
    refine V_cS (As := [.int p1, .int 0]) (rest := [.ref x22, .int x21]) (N := 2) F M (metX8_of (Fx_G F) (Fx_l F) p1 0 μ20) q1310 q72 q1308 q1309 ⟨by decide +kernel, by decide +kernel, by decide +kernel⟩ rfl ⟨by decide, by decide⟩ (Nat.le_of_ble_eq_true rfl) dX8_settles_19 (by decide) (by decide) (fun x24 μ23 => ?_)
    change V κ ρ 0 0 μ23 _ 22 [(0, .ref a0), (1, .int p1)] [.int x24, .ref x22, .int x21]
    refine V_aI F dX8_settles_22 (fun x25 => ?_)
    refine V_icmp_ne (tgt := 30) F dX8_settles_23 (by decide) (fun c26 => ?_) (fun c27 => ?_)
    · refine V_sub [0, 1] rfl ?_
      exact VX8_settles_B30 F M hNL  a0 p1 μ23
    · refine V_iconst (v := 1) F dX8_settles_26 (by decide) ?_
      refine V_goto (tgt := 31) F dX8_settles_27 (by decide) ?_
      refine V_sub [0, 1] rfl ?_
      exact VX8_settles_B31 F M hNL  a0 p1 1 μ23
/-! DroneLightShowModel.tick()I -/
abbrev rmX8_tick : Room := { frames := 4, cells := 0, slots := 0, locals := 89 }
def FX8_tick_B190 (k190 : Nat → Int32 → Int32 → Me → Rs Int32) (v0 : Nat) (v1 : Int32) (v2 : Int32) (μ : Me) : Rs Int32 :=
  (gR μ v0 8 5 (fun x25 => (aI μ x25 0 (fun x26 => (if x26 ≤ v2 then (rt v1 μ) else (bnd (vc μ v0 8 (FX8_flies v0 v2 μ)) (fun x30 μ29 => (if x30 = 0 then (gR μ29 v0 8 5 (fun x33 => (bnd (FX8_of v2 0 μ29) (fun x35 μ34 => (aI μ34 x33 x35 (fun x36 => (bnd (vc μ34 v0 8 (FX8_isPadCell v0 x36 μ34)) (fun x38 μ37 => (if x38 = 0 then (k190 v0 v1 (v2 + 1) μ37) else (gR μ37 v0 8 5 (fun x41 => (bnd (FX8_of v2 2 μ37) (fun x43 μ42 => (aI μ42 x41 x43 (fun x44 => (gR μ42 v0 8 5 (fun x45 => (bnd (FX8_of v2 2 μ42) (fun x47 μ46 => (if (x44 + 5) ≤ 100 then (sI μ46 x45 x47 (x44 + 5) (fun μ50 => (k190 v0 v1 (v2 + 1) μ50))) else (sI μ46 x45 x47 100 (fun μ51 => (k190 v0 v1 (v2 + 1) μ51))))))))))))))))))))))) else (k190 v0 v1 (v2 + 1) μ29)))))))))
set_option maxHeartbeats 4000000 in
set_option maxRecDepth 100000 in
theorem VX8_tick_B190 {κ : Cx} {ρ : (Int32 ⊕ String) × Me} (F : Fx κ cX8_tick RX8) (M : Mx κ (fun r : Int32 => some (.int r)) ρ rmX8_tick (some .int) [] "tick") (hNL : κ.2.2.2.2.2.2.2.2.2.2.2.2.2.2 = 4) {k190 : Nat → Int32 → Int32 → Me → Rs Int32} (hk190 : ∀ (v0 : Nat) (v1 : Int32) (v2 : Int32) (μ : Me), V κ ρ 0 0 μ (k190 v0 v1 v2 μ) 190 [(0, .ref v0), (1, .int v1), (2, .int v2)] []) (v0 : Nat) (v1 : Int32) (v2 : Int32) (μ : Me) : V κ ρ 0 0 μ (FX8_tick_B190 k190 v0 v1 v2 μ) 190 [(0, .ref v0), (1, .int v1), (2, .int v2)] [] := by
  unfold FX8_tick_B190
  refine V_iload_n F dX8_tick_190 rfl 2 rfl ?_
  refine V_aload_n F dX8_tick_191 rfl 0 rfl ?_
  refine V_gR (ci := 8) (k9 := 5) (C := RX8) (T := TX8) (N := 22) F rfl hinX8 (by decide) q1213 dX8_tick_192 (fun x25 => ?_)
  refine V_iconst (v := 0) F dX8_tick_195 (by decide) ?_
  refine V_aI F dX8_tick_196 (fun x26 => ?_)
  refine V_icmp_ge (tgt := 269) F dX8_tick_197 (by decide) (fun c27 => ?_) (fun c28 => ?_)
  · refine V_iload_n F dX8_tick_269 rfl 1 rfl ?_
    exact V_iret F M dX8_tick_270 rfl (by decide) (by decide)
  · refine V_aload_n F dX8_tick_200 rfl 0 rfl ?_
    refine V_iload_n F dX8_tick_201 rfl 2 rfl ?_
    refine V_cV (As := [.int v2]) (rest := []) (C := RX8) (N := 1) F M (metX8_flies (Fx_G F) (Fx_l F) v0 v2 μ) rfl q1346 q72 q1343 q1345 q30 ⟨by decide +kernel, by decide +kernel, by decide +kernel⟩ rfl ⟨by decide, by decide⟩ (Nat.le_of_ble_eq_true rfl) dX8_tick_202 (by decide) (by decide) (fun x30 μ29 => ?_)
    change V κ ρ 0 0 μ29 _ 205 [(0, .ref v0), (1, .int v1), (2, .int v2)] [.int x30]
    refine V_if_ne (tgt := 263) F dX8_tick_205 (by decide) (fun c31 => ?_) (fun c32 => ?_)
    · refine V_iinc (lv' := [(2, .int (v2 + 1)), (0, .ref v0), (1, .int v1)]) F dX8_tick_263 2 rfl rfl (lt_L hNL (by decide)) rfl ?_
      refine V_goto (tgt := 190) F dX8_tick_266 (by decide) ?_
      refine V_sub [1, 2, 0] rfl ?_
      exact hk190 v0 v1 (v2 + 1) μ29
    · refine V_aload_n F dX8_tick_208 rfl 0 rfl ?_
      refine V_aload_n F dX8_tick_209 rfl 0 rfl ?_
      refine V_gR (ci := 8) (k9 := 5) (C := RX8) (T := TX8) (N := 22) F rfl hinX8 (by decide) q1213 dX8_tick_210 (fun x33 => ?_)
      refine V_iload_n F dX8_tick_213 rfl 2 rfl ?_
      refine V_iconst (v := 0) F dX8_tick_214 (by decide) ?_
      refine V_cS (As := [.int v2, .int 0]) (rest := [.ref x33, .ref v0]) (N := 2) F M (metX8_of (Fx_G F) (Fx_l F) v2 0 μ29) q1310 q72 q1308 q1309 ⟨by decide +kernel, by decide +kernel, by decide +kernel⟩ rfl ⟨by decide, by decide⟩ (Nat.le_of_ble_eq_true rfl) dX8_tick_215 (by decide) (by decide) (fun x35 μ34 => ?_)
      change V κ ρ 0 0 μ34 _ 218 [(0, .ref v0), (1, .int v1), (2, .int v2)] [.int x35, .ref x33, .ref v0]
      refine V_aI F dX8_tick_218 (fun x36 => ?_)
      refine V_cV (As := [.int x36]) (rest := []) (C := RX8) (N := 1) F M (metX8_isPadCell (Fx_G F) (Fx_l F) v0 x36 μ34) rfl q1330 q72 q1327 q1329 q27 ⟨by decide +kernel, by decide +kernel, by decide +kernel⟩ rfl ⟨by decide, by decide⟩ (Nat.le_of_ble_eq_true rfl) dX8_tick_219 (by decide) (by decide) (fun x38 μ37 => ?_)
      change V κ ρ 0 0 μ37 _ 222 [(0, .ref v0), (1, .int v1), (2, .int v2)] [.int x38]
      refine V_if_ne (tgt := 228) F dX8_tick_222 (by decide) (fun c39 => ?_) (fun c40 => ?_)
      · refine V_aload_n F dX8_tick_228 rfl 0 rfl ?_
        refine V_gR (ci := 8) (k9 := 5) (C := RX8) (T := TX8) (N := 22) F rfl hinX8 (by decide) q1213 dX8_tick_229 (fun x41 => ?_)
        refine V_iload_n F dX8_tick_232 rfl 2 rfl ?_
        refine V_iconst (v := 2) F dX8_tick_233 (by decide) ?_
        refine V_cS (As := [.int v2, .int 2]) (rest := [.ref x41]) (N := 2) F M (metX8_of (Fx_G F) (Fx_l F) v2 2 μ37) q1310 q72 q1308 q1309 ⟨by decide +kernel, by decide +kernel, by decide +kernel⟩ rfl ⟨by decide, by decide⟩ (Nat.le_of_ble_eq_true rfl) dX8_tick_234 (by decide) (by decide) (fun x43 μ42 => ?_)
        change V κ ρ 0 0 μ42 _ 237 [(0, .ref v0), (1, .int v1), (2, .int v2)] [.int x43, .ref x41]
        refine V_aI F dX8_tick_237 (fun x44 => ?_)
        refine V_iconst (v := 5) F dX8_tick_238 (by decide) ?_
        refine V_iadd F dX8_tick_239 ?_
        refine V_istore_n (lv' := [(3, .int (x44 + 5)), (0, .ref v0), (1, .int v1), (2, .int v2)]) F dX8_tick_240 rfl (lt_L hNL (by decide)) rfl ?_
        refine V_aload_n F dX8_tick_241 rfl 1 rfl ?_
        refine V_gR (ci := 8) (k9 := 5) (C := RX8) (T := TX8) (N := 22) F rfl hinX8 (by decide) q1213 dX8_tick_242 (fun x45 => ?_)
        refine V_iload_n F dX8_tick_245 rfl 3 rfl ?_
        refine V_iconst (v := 2) F dX8_tick_246 (by decide) ?_
        refine V_cS (As := [.int v2, .int 2]) (rest := [.ref x45]) (N := 2) F M (metX8_of (Fx_G F) (Fx_l F) v2 2 μ42) q1310 q72 q1308 q1309 ⟨by decide +kernel, by decide +kernel, by decide +kernel⟩ rfl ⟨by decide, by decide⟩ (Nat.le_of_ble_eq_true rfl) dX8_tick_247 (by decide) (by decide) (fun x47 μ46 => ?_)
        change V κ ρ 0 0 μ46 _ 250 [(3, .int (x44 + 5)), (0, .ref v0), (1, .int v1), (2, .int v2)] [.int x47, .ref x45]
        refine V_iload_n F dX8_tick_250 rfl 0 rfl ?_
        refine V_bipush (v := 100) F dX8_tick_251 (by decide) ?_
        refine V_icmp_le (tgt := 261) F dX8_tick_253 (by decide) (fun c48 => ?_) (fun c49 => ?_)
        · refine V_iload_n F dX8_tick_261 rfl 0 rfl ?_
          refine V_sI F dX8_tick_262 (fun μ50 => ?_)
          refine V_iinc (lv' := [(2, .int (v2 + 1)), (3, .int (x44 + 5)), (0, .ref v0), (1, .int v1)]) F dX8_tick_263 3 rfl rfl (lt_L hNL (by decide)) rfl ?_
          refine V_goto (tgt := 190) F dX8_tick_266 (by decide) ?_
          refine V_sub [2, 3, 0] rfl ?_
          exact hk190 v0 v1 (v2 + 1) μ50
        · refine V_bipush (v := 100) F dX8_tick_256 (by decide) ?_
          refine V_goto (tgt := 262) F dX8_tick_258 (by decide) ?_
          refine V_sI F dX8_tick_262 (fun μ51 => ?_)
          refine V_iinc (lv' := [(2, .int (v2 + 1)), (3, .int (x44 + 5)), (0, .ref v0), (1, .int v1)]) F dX8_tick_263 3 rfl rfl (lt_L hNL (by decide)) rfl ?_
          refine V_goto (tgt := 190) F dX8_tick_266 (by decide) ?_
          refine V_sub [2, 3, 0] rfl ?_
          exact hk190 v0 v1 (v2 + 1) μ51
      · refine V_goto (tgt := 263) F dX8_tick_225 (by decide) ?_
        refine V_iinc (lv' := [(2, .int (v2 + 1)), (0, .ref v0), (1, .int v1)]) F dX8_tick_263 2 rfl rfl (lt_L hNL (by decide)) rfl ?_
        refine V_goto (tgt := 190) F dX8_tick_266 (by decide) ?_
        refine V_sub [1, 2, 0] rfl ?_
        exact hk190 v0 v1 (v2 + 1) μ37
def FX8_tick_L190  : Nat → Nat → Int32 → Int32 → Me → Rs Int32
  | 0, _, _, _, _ => none
  | f + 1, v0, v1, v2, μ => FX8_tick_B190 (FX8_tick_L190  f) v0 v1 v2 μ
theorem VX8_tick_L190 {κ : Cx} {ρ : (Int32 ⊕ String) × Me} (F : Fx κ cX8_tick RX8) (M : Mx κ (fun r : Int32 => some (.int r)) ρ rmX8_tick (some .int) [] "tick") (hNL : κ.2.2.2.2.2.2.2.2.2.2.2.2.2.2 = 4)   : ∀ (f : Nat) (v0 : Nat) (v1 : Int32) (v2 : Int32) (μ : Me), V κ ρ 0 0 μ (FX8_tick_L190  f v0 v1 v2 μ) 190 [(0, .ref v0), (1, .int v1), (2, .int v2)] [] := by
  intro f
  induction f with
  | zero => intros; exact V_none
  | succ f ih => intro v0 v1 v2 μ; exact VX8_tick_B190 F M hNL (fun v0 v1 v2 μ => ih v0 v1 v2 μ) v0 v1 v2 μ
def FX8_tick_B159 (k159 : Nat → Int32 → Int32 → Me → Rs Int32) (v0 : Nat) (v1 : Int32) (v2 : Int32) (μ : Me) : Rs Int32 :=
  (gR μ v0 8 5 (fun x21 => (aI μ x21 0 (fun x22 => (if x22 ≤ v2 then (FX8_tick_L190  FU v0 v1 0 μ) else (bnd (vc μ v0 8 (FX8_flies v0 v2 μ)) (fun x53 μ52 => (if x53 = 0 then (k159 v0 v1 (v2 + 1) μ52) else (bnd (vc μ52 v0 8 (FX8_settles v0 v2 μ52)) (fun x57 μ56 => (k159 v0 v1 (v2 + 1) μ56)))))))))))
set_option maxHeartbeats 4000000 in
set_option maxRecDepth 100000 in
theorem VX8_tick_B159 {κ : Cx} {ρ : (Int32 ⊕ String) × Me} (F : Fx κ cX8_tick RX8) (M : Mx κ (fun r : Int32 => some (.int r)) ρ rmX8_tick (some .int) [] "tick") (hNL : κ.2.2.2.2.2.2.2.2.2.2.2.2.2.2 = 4) {k159 : Nat → Int32 → Int32 → Me → Rs Int32} (hk159 : ∀ (v0 : Nat) (v1 : Int32) (v2 : Int32) (μ : Me), V κ ρ 0 0 μ (k159 v0 v1 v2 μ) 159 [(0, .ref v0), (1, .int v1), (2, .int v2)] []) (v0 : Nat) (v1 : Int32) (v2 : Int32) (μ : Me) : V κ ρ 0 0 μ (FX8_tick_B159 k159 v0 v1 v2 μ) 159 [(0, .ref v0), (1, .int v1), (2, .int v2)] [] := by
  unfold FX8_tick_B159
  refine V_iload_n F dX8_tick_159 rfl 2 rfl ?_
  refine V_aload_n F dX8_tick_160 rfl 0 rfl ?_
  refine V_gR (ci := 8) (k9 := 5) (C := RX8) (T := TX8) (N := 22) F rfl hinX8 (by decide) q1213 dX8_tick_161 (fun x21 => ?_)
  refine V_iconst (v := 0) F dX8_tick_164 (by decide) ?_
  refine V_aI F dX8_tick_165 (fun x22 => ?_)
  refine V_icmp_ge (tgt := 188) F dX8_tick_166 (by decide) (fun c23 => ?_) (fun c24 => ?_)
  · refine V_iconst (v := 0) F dX8_tick_188 (by decide) ?_
    refine V_istore_n (lv' := [(2, .int 0), (0, .ref v0), (1, .int v1)]) F dX8_tick_189 rfl (lt_L hNL (by decide)) rfl ?_
    refine V_sub [1, 2, 0] rfl ?_
    exact VX8_tick_L190 F M hNL  FU v0 v1 0 μ
  · refine V_aload_n F dX8_tick_169 rfl 0 rfl ?_
    refine V_iload_n F dX8_tick_170 rfl 2 rfl ?_
    refine V_cV (As := [.int v2]) (rest := []) (C := RX8) (N := 1) F M (metX8_flies (Fx_G F) (Fx_l F) v0 v2 μ) rfl q1346 q72 q1343 q1345 q30 ⟨by decide +kernel, by decide +kernel, by decide +kernel⟩ rfl ⟨by decide, by decide⟩ (Nat.le_of_ble_eq_true rfl) dX8_tick_171 (by decide) (by decide) (fun x53 μ52 => ?_)
    change V κ ρ 0 0 μ52 _ 174 [(0, .ref v0), (1, .int v1), (2, .int v2)] [.int x53]
    refine V_if_eq (tgt := 182) F dX8_tick_174 (by decide) (fun c54 => ?_) (fun c55 => ?_)
    · refine V_iinc (lv' := [(2, .int (v2 + 1)), (0, .ref v0), (1, .int v1)]) F dX8_tick_182 2 rfl rfl (lt_L hNL (by decide)) rfl ?_
      refine V_goto (tgt := 159) F dX8_tick_185 (by decide) ?_
      refine V_sub [1, 2, 0] rfl ?_
      exact hk159 v0 v1 (v2 + 1) μ52
    · refine V_aload_n F dX8_tick_177 rfl 0 rfl ?_
      refine V_iload_n F dX8_tick_178 rfl 2 rfl ?_
      refine V_cV (As := [.int v2]) (rest := []) (C := RX8) (N := 1) F M (metX8_settles (Fx_G F) (Fx_l F) v0 v2 μ52) rfl q1556 q72 q1553 q1555 q55 ⟨by decide +kernel, by decide +kernel, by decide +kernel⟩ rfl ⟨by decide, by decide⟩ (Nat.le_of_ble_eq_true rfl) dX8_tick_179 (by decide) (by decide) (fun x57 μ56 => ?_)
      change V κ ρ 0 0 μ56 _ 182 [(0, .ref v0), (1, .int v1), (2, .int v2)] []
      refine V_iinc (lv' := [(2, .int (v2 + 1)), (0, .ref v0), (1, .int v1)]) F dX8_tick_182 2 rfl rfl (lt_L hNL (by decide)) rfl ?_
      refine V_goto (tgt := 159) F dX8_tick_185 (by decide) ?_
      refine V_sub [1, 2, 0] rfl ?_
      exact hk159 v0 v1 (v2 + 1) μ56
def FX8_tick_L159  : Nat → Nat → Int32 → Int32 → Me → Rs Int32
  | 0, _, _, _, _ => none
  | f + 1, v0, v1, v2, μ => FX8_tick_B159 (FX8_tick_L159  f) v0 v1 v2 μ
theorem VX8_tick_L159 {κ : Cx} {ρ : (Int32 ⊕ String) × Me} (F : Fx κ cX8_tick RX8) (M : Mx κ (fun r : Int32 => some (.int r)) ρ rmX8_tick (some .int) [] "tick") (hNL : κ.2.2.2.2.2.2.2.2.2.2.2.2.2.2 = 4)   : ∀ (f : Nat) (v0 : Nat) (v1 : Int32) (v2 : Int32) (μ : Me), V κ ρ 0 0 μ (FX8_tick_L159  f v0 v1 v2 μ) 159 [(0, .ref v0), (1, .int v1), (2, .int v2)] [] := by
  intro f
  induction f with
  | zero => intros; exact V_none
  | succ f ih => intro v0 v1 v2 μ; exact VX8_tick_B159 F M hNL (fun v0 v1 v2 μ => ih v0 v1 v2 μ) v0 v1 v2 μ
def FX8_tick_B109 (k109 : Nat → Int32 → Int32 → Me → Rs Int32) (v0 : Nat) (v1 : Int32) (v2 : Int32) (μ : Me) : Rs Int32 :=
  (gR μ v0 8 5 (fun x17 => (aI μ x17 0 (fun x18 => (if x18 ≤ v2 then (FX8_tick_L159  FU v0 v1 0 μ) else (bnd (vc μ v0 8 (FX8_takesPart v0 v2 μ)) (fun x59 μ58 => (if x59 = 0 then (k109 v0 v1 (v2 + 1) μ58) else (gR μ58 v0 8 5 (fun x62 => (bnd (FX8_of v2 2 μ58) (fun x64 μ63 => (aI μ63 x62 x64 (fun x65 => (gR μ63 v0 8 5 (fun x66 => (aI μ63 x66 2 (fun x67 => (if x67 < x65 then (k109 v0 v1 (v2 + 1) μ63) else (bnd (vc μ63 v0 8 (FX8_alarms v0 v2 μ63)) (fun x71 μ70 => (k109 v0 v1 (v2 + 1) μ70))))))))))))))))))))))
set_option maxHeartbeats 4000000 in
set_option maxRecDepth 100000 in
theorem VX8_tick_B109 {κ : Cx} {ρ : (Int32 ⊕ String) × Me} (F : Fx κ cX8_tick RX8) (M : Mx κ (fun r : Int32 => some (.int r)) ρ rmX8_tick (some .int) [] "tick") (hNL : κ.2.2.2.2.2.2.2.2.2.2.2.2.2.2 = 4) {k109 : Nat → Int32 → Int32 → Me → Rs Int32} (hk109 : ∀ (v0 : Nat) (v1 : Int32) (v2 : Int32) (μ : Me), V κ ρ 0 0 μ (k109 v0 v1 v2 μ) 109 [(0, .ref v0), (1, .int v1), (2, .int v2)] []) (v0 : Nat) (v1 : Int32) (v2 : Int32) (μ : Me) : V κ ρ 0 0 μ (FX8_tick_B109 k109 v0 v1 v2 μ) 109 [(0, .ref v0), (1, .int v1), (2, .int v2)] [] := by
  unfold FX8_tick_B109
  refine V_iload_n F dX8_tick_109 rfl 2 rfl ?_
  refine V_aload_n F dX8_tick_110 rfl 0 rfl ?_
  refine V_gR (ci := 8) (k9 := 5) (C := RX8) (T := TX8) (N := 22) F rfl hinX8 (by decide) q1213 dX8_tick_111 (fun x17 => ?_)
  refine V_iconst (v := 0) F dX8_tick_114 (by decide) ?_
  refine V_aI F dX8_tick_115 (fun x18 => ?_)
  refine V_icmp_ge (tgt := 157) F dX8_tick_116 (by decide) (fun c19 => ?_) (fun c20 => ?_)
  · refine V_iconst (v := 0) F dX8_tick_157 (by decide) ?_
    refine V_istore_n (lv' := [(2, .int 0), (0, .ref v0), (1, .int v1)]) F dX8_tick_158 rfl (lt_L hNL (by decide)) rfl ?_
    refine V_sub [1, 2, 0] rfl ?_
    exact VX8_tick_L159 F M hNL  FU v0 v1 0 μ
  · refine V_aload_n F dX8_tick_119 rfl 0 rfl ?_
    refine V_iload_n F dX8_tick_120 rfl 2 rfl ?_
    refine V_cV (As := [.int v2]) (rest := []) (C := RX8) (N := 1) F M (metX8_takesPart (Fx_G F) (Fx_l F) v0 v2 μ) rfl q1480 q72 q1477 q1479 q44 ⟨by decide +kernel, by decide +kernel, by decide +kernel⟩ rfl ⟨by decide, by decide⟩ (Nat.le_of_ble_eq_true rfl) dX8_tick_121 (by decide) (by decide) (fun x59 μ58 => ?_)
    change V κ ρ 0 0 μ58 _ 124 [(0, .ref v0), (1, .int v1), (2, .int v2)] [.int x59]
    refine V_if_eq (tgt := 151) F dX8_tick_124 (by decide) (fun c60 => ?_) (fun c61 => ?_)
    · refine V_iinc (lv' := [(2, .int (v2 + 1)), (0, .ref v0), (1, .int v1)]) F dX8_tick_151 2 rfl rfl (lt_L hNL (by decide)) rfl ?_
      refine V_goto (tgt := 109) F dX8_tick_154 (by decide) ?_
      refine V_sub [1, 2, 0] rfl ?_
      exact hk109 v0 v1 (v2 + 1) μ58
    · refine V_aload_n F dX8_tick_127 rfl 0 rfl ?_
      refine V_gR (ci := 8) (k9 := 5) (C := RX8) (T := TX8) (N := 22) F rfl hinX8 (by decide) q1213 dX8_tick_128 (fun x62 => ?_)
      refine V_iload_n F dX8_tick_131 rfl 2 rfl ?_
      refine V_iconst (v := 2) F dX8_tick_132 (by decide) ?_
      refine V_cS (As := [.int v2, .int 2]) (rest := [.ref x62]) (N := 2) F M (metX8_of (Fx_G F) (Fx_l F) v2 2 μ58) q1310 q72 q1308 q1309 ⟨by decide +kernel, by decide +kernel, by decide +kernel⟩ rfl ⟨by decide, by decide⟩ (Nat.le_of_ble_eq_true rfl) dX8_tick_133 (by decide) (by decide) (fun x64 μ63 => ?_)
      change V κ ρ 0 0 μ63 _ 136 [(0, .ref v0), (1, .int v1), (2, .int v2)] [.int x64, .ref x62]
      refine V_aI F dX8_tick_136 (fun x65 => ?_)
      refine V_aload_n F dX8_tick_137 rfl 0 rfl ?_
      refine V_gR (ci := 8) (k9 := 5) (C := RX8) (T := TX8) (N := 22) F rfl hinX8 (by decide) q1213 dX8_tick_138 (fun x66 => ?_)
      refine V_iconst (v := 2) F dX8_tick_141 (by decide) ?_
      refine V_aI F dX8_tick_142 (fun x67 => ?_)
      refine V_icmp_gt (tgt := 151) F dX8_tick_143 (by decide) (fun c68 => ?_) (fun c69 => ?_)
      · refine V_iinc (lv' := [(2, .int (v2 + 1)), (0, .ref v0), (1, .int v1)]) F dX8_tick_151 2 rfl rfl (lt_L hNL (by decide)) rfl ?_
        refine V_goto (tgt := 109) F dX8_tick_154 (by decide) ?_
        refine V_sub [1, 2, 0] rfl ?_
        exact hk109 v0 v1 (v2 + 1) μ63
      · refine V_aload_n F dX8_tick_146 rfl 0 rfl ?_
        refine V_iload_n F dX8_tick_147 rfl 2 rfl ?_
        refine V_cV (As := [.int v2]) (rest := []) (C := RX8) (N := 1) F M (metX8_alarms (Fx_G F) (Fx_l F) v0 v2 μ63) rfl q1552 q72 q1549 q1551 q54 ⟨by decide +kernel, by decide +kernel, by decide +kernel⟩ rfl ⟨by decide, by decide⟩ (Nat.le_of_ble_eq_true rfl) dX8_tick_148 (by decide) (by decide) (fun x71 μ70 => ?_)
        change V κ ρ 0 0 μ70 _ 151 [(0, .ref v0), (1, .int v1), (2, .int v2)] []
        refine V_iinc (lv' := [(2, .int (v2 + 1)), (0, .ref v0), (1, .int v1)]) F dX8_tick_151 2 rfl rfl (lt_L hNL (by decide)) rfl ?_
        refine V_goto (tgt := 109) F dX8_tick_154 (by decide) ?_
        refine V_sub [1, 2, 0] rfl ?_
        exact hk109 v0 v1 (v2 + 1) μ70
def FX8_tick_L109  : Nat → Nat → Int32 → Int32 → Me → Rs Int32
  | 0, _, _, _, _ => none
  | f + 1, v0, v1, v2, μ => FX8_tick_B109 (FX8_tick_L109  f) v0 v1 v2 μ
theorem VX8_tick_L109 {κ : Cx} {ρ : (Int32 ⊕ String) × Me} (F : Fx κ cX8_tick RX8) (M : Mx κ (fun r : Int32 => some (.int r)) ρ rmX8_tick (some .int) [] "tick") (hNL : κ.2.2.2.2.2.2.2.2.2.2.2.2.2.2 = 4)   : ∀ (f : Nat) (v0 : Nat) (v1 : Int32) (v2 : Int32) (μ : Me), V κ ρ 0 0 μ (FX8_tick_L109  f v0 v1 v2 μ) 109 [(0, .ref v0), (1, .int v1), (2, .int v2)] [] := by
  intro f
  induction f with
  | zero => intros; exact V_none
  | succ f ih => intro v0 v1 v2 μ; exact VX8_tick_B109 F M hNL (fun v0 v1 v2 μ => ih v0 v1 v2 μ) v0 v1 v2 μ
def FX8_tick_B78 (k78 : Nat → Int32 → Int32 → Me → Rs Int32) (v0 : Nat) (v1 : Int32) (v2 : Int32) (μ : Me) : Rs Int32 :=
  (gR μ v0 8 5 (fun x13 => (aI μ x13 0 (fun x14 => (if x14 ≤ v2 then (FX8_tick_L109  FU v0 v1 0 μ) else (bnd (vc μ v0 8 (FX8_flies v0 v2 μ)) (fun x73 μ72 => (if x73 = 0 then (k78 v0 v1 (v2 + 1) μ72) else (bnd (vc μ72 v0 8 (FX8_lowers v0 v2 μ72)) (fun x77 μ76 => (k78 v0 v1 (v2 + 1) μ76)))))))))))
set_option maxHeartbeats 4000000 in
set_option maxRecDepth 100000 in
theorem VX8_tick_B78 {κ : Cx} {ρ : (Int32 ⊕ String) × Me} (F : Fx κ cX8_tick RX8) (M : Mx κ (fun r : Int32 => some (.int r)) ρ rmX8_tick (some .int) [] "tick") (hNL : κ.2.2.2.2.2.2.2.2.2.2.2.2.2.2 = 4) {k78 : Nat → Int32 → Int32 → Me → Rs Int32} (hk78 : ∀ (v0 : Nat) (v1 : Int32) (v2 : Int32) (μ : Me), V κ ρ 0 0 μ (k78 v0 v1 v2 μ) 78 [(0, .ref v0), (1, .int v1), (2, .int v2)] []) (v0 : Nat) (v1 : Int32) (v2 : Int32) (μ : Me) : V κ ρ 0 0 μ (FX8_tick_B78 k78 v0 v1 v2 μ) 78 [(0, .ref v0), (1, .int v1), (2, .int v2)] [] := by
  unfold FX8_tick_B78
  refine V_iload_n F dX8_tick_78 rfl 2 rfl ?_
  refine V_aload_n F dX8_tick_79 rfl 0 rfl ?_
  refine V_gR (ci := 8) (k9 := 5) (C := RX8) (T := TX8) (N := 22) F rfl hinX8 (by decide) q1213 dX8_tick_80 (fun x13 => ?_)
  refine V_iconst (v := 0) F dX8_tick_83 (by decide) ?_
  refine V_aI F dX8_tick_84 (fun x14 => ?_)
  refine V_icmp_ge (tgt := 107) F dX8_tick_85 (by decide) (fun c15 => ?_) (fun c16 => ?_)
  · refine V_iconst (v := 0) F dX8_tick_107 (by decide) ?_
    refine V_istore_n (lv' := [(2, .int 0), (0, .ref v0), (1, .int v1)]) F dX8_tick_108 rfl (lt_L hNL (by decide)) rfl ?_
    refine V_sub [1, 2, 0] rfl ?_
    exact VX8_tick_L109 F M hNL  FU v0 v1 0 μ
  · refine V_aload_n F dX8_tick_88 rfl 0 rfl ?_
    refine V_iload_n F dX8_tick_89 rfl 2 rfl ?_
    refine V_cV (As := [.int v2]) (rest := []) (C := RX8) (N := 1) F M (metX8_flies (Fx_G F) (Fx_l F) v0 v2 μ) rfl q1346 q72 q1343 q1345 q30 ⟨by decide +kernel, by decide +kernel, by decide +kernel⟩ rfl ⟨by decide, by decide⟩ (Nat.le_of_ble_eq_true rfl) dX8_tick_90 (by decide) (by decide) (fun x73 μ72 => ?_)
    change V κ ρ 0 0 μ72 _ 93 [(0, .ref v0), (1, .int v1), (2, .int v2)] [.int x73]
    refine V_if_eq (tgt := 101) F dX8_tick_93 (by decide) (fun c74 => ?_) (fun c75 => ?_)
    · refine V_iinc (lv' := [(2, .int (v2 + 1)), (0, .ref v0), (1, .int v1)]) F dX8_tick_101 2 rfl rfl (lt_L hNL (by decide)) rfl ?_
      refine V_goto (tgt := 78) F dX8_tick_104 (by decide) ?_
      refine V_sub [1, 2, 0] rfl ?_
      exact hk78 v0 v1 (v2 + 1) μ72
    · refine V_aload_n F dX8_tick_96 rfl 0 rfl ?_
      refine V_iload_n F dX8_tick_97 rfl 2 rfl ?_
      refine V_cV (As := [.int v2]) (rest := []) (C := RX8) (N := 1) F M (metX8_lowers (Fx_G F) (Fx_l F) v0 v2 μ72) rfl q1548 q72 q1545 q1547 q53 ⟨by decide +kernel, by decide +kernel, by decide +kernel⟩ rfl ⟨by decide, by decide⟩ (Nat.le_of_ble_eq_true rfl) dX8_tick_98 (by decide) (by decide) (fun x77 μ76 => ?_)
      change V κ ρ 0 0 μ76 _ 101 [(0, .ref v0), (1, .int v1), (2, .int v2)] []
      refine V_iinc (lv' := [(2, .int (v2 + 1)), (0, .ref v0), (1, .int v1)]) F dX8_tick_101 2 rfl rfl (lt_L hNL (by decide)) rfl ?_
      refine V_goto (tgt := 78) F dX8_tick_104 (by decide) ?_
      refine V_sub [1, 2, 0] rfl ?_
      exact hk78 v0 v1 (v2 + 1) μ76
def FX8_tick_L78  : Nat → Nat → Int32 → Int32 → Me → Rs Int32
  | 0, _, _, _, _ => none
  | f + 1, v0, v1, v2, μ => FX8_tick_B78 (FX8_tick_L78  f) v0 v1 v2 μ
theorem VX8_tick_L78 {κ : Cx} {ρ : (Int32 ⊕ String) × Me} (F : Fx κ cX8_tick RX8) (M : Mx κ (fun r : Int32 => some (.int r)) ρ rmX8_tick (some .int) [] "tick") (hNL : κ.2.2.2.2.2.2.2.2.2.2.2.2.2.2 = 4)   : ∀ (f : Nat) (v0 : Nat) (v1 : Int32) (v2 : Int32) (μ : Me), V κ ρ 0 0 μ (FX8_tick_L78  f v0 v1 v2 μ) 78 [(0, .ref v0), (1, .int v1), (2, .int v2)] [] := by
  intro f
  induction f with
  | zero => intros; exact V_none
  | succ f ih => intro v0 v1 v2 μ; exact VX8_tick_B78 F M hNL (fun v0 v1 v2 μ => ih v0 v1 v2 μ) v0 v1 v2 μ
def FX8_tick_B50 (k18 : Nat → Int32 → Int32 → Me → Rs Int32) (v0 : Nat) (v1 : Int32) (v2 : Int32) (t0 : Int32) (t1 : Int32) (t2 : Nat) (μ : Me) : Rs Int32 :=
  (sI μ t2 t1 t0 (fun μ83 => (gR μ83 v0 8 10 (fun x84 => (aI μ83 x84 v2 (fun x85 => (k18 v0 (v1 + x85) (v2 + 1) μ83)))))))
set_option maxHeartbeats 4000000 in
set_option maxRecDepth 100000 in
theorem VX8_tick_B50 {κ : Cx} {ρ : (Int32 ⊕ String) × Me} (F : Fx κ cX8_tick RX8) (M : Mx κ (fun r : Int32 => some (.int r)) ρ rmX8_tick (some .int) [] "tick") (hNL : κ.2.2.2.2.2.2.2.2.2.2.2.2.2.2 = 4) {k18 : Nat → Int32 → Int32 → Me → Rs Int32} (hk18 : ∀ (v0 : Nat) (v1 : Int32) (v2 : Int32) (μ : Me), V κ ρ 0 0 μ (k18 v0 v1 v2 μ) 18 [(0, .ref v0), (1, .int v1), (2, .int v2)] []) (v0 : Nat) (v1 : Int32) (v2 : Int32) (t0 : Int32) (t1 : Int32) (t2 : Nat) (μ : Me) : V κ ρ 0 0 μ (FX8_tick_B50 k18 v0 v1 v2 t0 t1 t2 μ) 50 [(0, .ref v0), (1, .int v1), (2, .int v2)] [.int t0, .int t1, .ref t2] := by
  unfold FX8_tick_B50
  refine V_sI F dX8_tick_50 (fun μ83 => ?_)
  refine V_iload_n F dX8_tick_51 rfl 1 rfl ?_
  refine V_aload_n F dX8_tick_52 rfl 0 rfl ?_
  refine V_gR (ci := 8) (k9 := 10) (C := RX8) (T := TX8) (N := 22) F rfl hinX8 (by decide) q1218 dX8_tick_53 (fun x84 => ?_)
  refine V_iload_n F dX8_tick_56 rfl 2 rfl ?_
  refine V_aI F dX8_tick_57 (fun x85 => ?_)
  refine V_iadd F dX8_tick_58 ?_
  refine V_istore_n (lv' := [(1, .int (v1 + x85)), (0, .ref v0), (2, .int v2)]) F dX8_tick_59 rfl (lt_L hNL (by decide)) rfl ?_
  refine V_iinc (lv' := [(2, .int (v2 + 1)), (1, .int (v1 + x85)), (0, .ref v0)]) F dX8_tick_60 2 rfl rfl (lt_L hNL (by decide)) rfl ?_
  refine V_goto (tgt := 18) F dX8_tick_63 (by decide) ?_
  refine V_sub [2, 1, 0] rfl ?_
  exact hk18 v0 (v1 + x85) (v2 + 1) μ83
def FX8_tick_B18 (k18 : Nat → Int32 → Int32 → Me → Rs Int32) (v0 : Nat) (v1 : Int32) (v2 : Int32) (μ : Me) : Rs Int32 :=
  (gR μ v0 8 5 (fun x6 => (aI μ x6 0 (fun x7 => (if x7 ≤ v2 then (gR μ v0 8 5 (fun x10 => (aI μ x10 4 (fun x11 => (sI μ x10 4 (x11 + v1) (fun μ12 => (FX8_tick_L78  FU v0 v1 0 μ12))))))) else (gR μ v0 8 10 (fun x78 => (bnd (vc μ v0 8 (FX8_wants v0 v2 μ)) (fun x80 μ79 => (if x80 = 0 then (FX8_tick_B50 k18 v0 v1 v2 0 v2 x78 μ79) else (bnd (vc μ79 v0 8 (FX8_moves v0 v2 μ79)) (fun x87 μ86 => (FX8_tick_B50 k18 v0 v1 v2 x87 v2 x78 μ86)))))))))))))
set_option maxHeartbeats 4000000 in
set_option maxRecDepth 100000 in
theorem VX8_tick_B18 {κ : Cx} {ρ : (Int32 ⊕ String) × Me} (F : Fx κ cX8_tick RX8) (M : Mx κ (fun r : Int32 => some (.int r)) ρ rmX8_tick (some .int) [] "tick") (hNL : κ.2.2.2.2.2.2.2.2.2.2.2.2.2.2 = 4) {k18 : Nat → Int32 → Int32 → Me → Rs Int32} (hk18 : ∀ (v0 : Nat) (v1 : Int32) (v2 : Int32) (μ : Me), V κ ρ 0 0 μ (k18 v0 v1 v2 μ) 18 [(0, .ref v0), (1, .int v1), (2, .int v2)] []) (v0 : Nat) (v1 : Int32) (v2 : Int32) (μ : Me) : V κ ρ 0 0 μ (FX8_tick_B18 k18 v0 v1 v2 μ) 18 [(0, .ref v0), (1, .int v1), (2, .int v2)] [] := by
  unfold FX8_tick_B18
  refine V_iload_n F dX8_tick_18 rfl 2 rfl ?_
  refine V_aload_n F dX8_tick_19 rfl 0 rfl ?_
  refine V_gR (ci := 8) (k9 := 5) (C := RX8) (T := TX8) (N := 22) F rfl hinX8 (by decide) q1213 dX8_tick_20 (fun x6 => ?_)
  refine V_iconst (v := 0) F dX8_tick_23 (by decide) ?_
  refine V_aI F dX8_tick_24 (fun x7 => ?_)
  refine V_icmp_ge (tgt := 66) F dX8_tick_25 (by decide) (fun c8 => ?_) (fun c9 => ?_)
  · refine V_aload_n F dX8_tick_66 rfl 0 rfl ?_
    refine V_gR (ci := 8) (k9 := 5) (C := RX8) (T := TX8) (N := 22) F rfl hinX8 (by decide) q1213 dX8_tick_67 (fun x10 => ?_)
    refine V_iconst (v := 4) F dX8_tick_70 (by decide) ?_
    refine V_dup2 F dX8_tick_71 rfl rfl ?_
    refine V_aI F dX8_tick_72 (fun x11 => ?_)
    refine V_iload_n F dX8_tick_73 rfl 1 rfl ?_
    refine V_iadd F dX8_tick_74 ?_
    refine V_sI F dX8_tick_75 (fun μ12 => ?_)
    refine V_iconst (v := 0) F dX8_tick_76 (by decide) ?_
    refine V_istore_n (lv' := [(2, .int 0), (0, .ref v0), (1, .int v1)]) F dX8_tick_77 rfl (lt_L hNL (by decide)) rfl ?_
    refine V_sub [1, 2, 0] rfl ?_
    exact VX8_tick_L78 F M hNL  FU v0 v1 0 μ12
  · refine V_aload_n F dX8_tick_28 rfl 0 rfl ?_
    refine V_gR (ci := 8) (k9 := 10) (C := RX8) (T := TX8) (N := 22) F rfl hinX8 (by decide) q1218 dX8_tick_29 (fun x78 => ?_)
    refine V_iload_n F dX8_tick_32 rfl 2 rfl ?_
    refine V_aload_n F dX8_tick_33 rfl 0 rfl ?_
    refine V_iload_n F dX8_tick_34 rfl 2 rfl ?_
    refine V_cV (As := [.int v2]) (rest := [.int v2, .ref x78]) (C := RX8) (N := 1) F M (metX8_wants (Fx_G F) (Fx_l F) v0 v2 μ) rfl q1530 q72 q1527 q1529 q50 ⟨by decide +kernel, by decide +kernel, by decide +kernel⟩ rfl ⟨by decide, by decide⟩ (Nat.le_of_ble_eq_true rfl) dX8_tick_35 (by decide) (by decide) (fun x80 μ79 => ?_)
    change V κ ρ 0 0 μ79 _ 38 [(0, .ref v0), (1, .int v1), (2, .int v2)] [.int x80, .int v2, .ref x78]
    refine V_if_eq (tgt := 49) F dX8_tick_38 (by decide) (fun c81 => ?_) (fun c82 => ?_)
    · refine V_iconst (v := 0) F dX8_tick_49 (by decide) ?_
      refine V_sub [0, 1, 2] rfl ?_
      exact VX8_tick_B50 F M hNL hk18 v0 v1 v2 0 v2 x78 μ79
    · refine V_aload_n F dX8_tick_41 rfl 0 rfl ?_
      refine V_iload_n F dX8_tick_42 rfl 2 rfl ?_
      refine V_cV (As := [.int v2]) (rest := [.int v2, .ref x78]) (C := RX8) (N := 1) F M (metX8_moves (Fx_G F) (Fx_l F) v0 v2 μ79) rfl q1534 q72 q1531 q1533 q51 ⟨by decide +kernel, by decide +kernel, by decide +kernel⟩ rfl ⟨by decide, by decide⟩ (Nat.le_of_ble_eq_true rfl) dX8_tick_43 (by decide) (by decide) (fun x87 μ86 => ?_)
      change V κ ρ 0 0 μ86 _ 46 [(0, .ref v0), (1, .int v1), (2, .int v2)] [.int x87, .int v2, .ref x78]
      refine V_goto (tgt := 50) F dX8_tick_46 (by decide) ?_
      refine V_sub [0, 1, 2] rfl ?_
      exact VX8_tick_B50 F M hNL hk18 v0 v1 v2 x87 v2 x78 μ86
def FX8_tick_L18  : Nat → Nat → Int32 → Int32 → Me → Rs Int32
  | 0, _, _, _, _ => none
  | f + 1, v0, v1, v2, μ => FX8_tick_B18 (FX8_tick_L18  f) v0 v1 v2 μ
theorem VX8_tick_L18 {κ : Cx} {ρ : (Int32 ⊕ String) × Me} (F : Fx κ cX8_tick RX8) (M : Mx κ (fun r : Int32 => some (.int r)) ρ rmX8_tick (some .int) [] "tick") (hNL : κ.2.2.2.2.2.2.2.2.2.2.2.2.2.2 = 4)   : ∀ (f : Nat) (v0 : Nat) (v1 : Int32) (v2 : Int32) (μ : Me), V κ ρ 0 0 μ (FX8_tick_L18  f v0 v1 v2 μ) 18 [(0, .ref v0), (1, .int v1), (2, .int v2)] [] := by
  intro f
  induction f with
  | zero => intros; exact V_none
  | succ f ih => intro v0 v1 v2 μ; exact VX8_tick_B18 F M hNL (fun v0 v1 v2 μ => ih v0 v1 v2 μ) v0 v1 v2 μ
def FX8_tick (a0 : Nat) (μ : Me) : Rs Int32 :=
  (gR μ a0 8 5 (fun x1 => (aI μ x1 3 (fun x2 => (sI μ x1 3 (x2 + 1) (fun μ3 => (bnd (vc μ3 a0 8 (FX8_cues a0  μ3)) (fun x5 μ4 => (FX8_tick_L18  FU a0 0 0 μ4)))))))))
set_option maxHeartbeats 4000000 in
set_option maxRecDepth 100000 in
theorem metX8_tick {l : Launch} {s0 : State} {D : va_G} {aC : Nat → ClassId} (hG : Gl s0 D aC) (hl : l.stackTraces = false) (a0 : Nat) (μ : Me) : Ct l yX8_tick (ws_ yX8_tick cX8_tick 4 (some .int)) rmX8_tick s0 D aC (fun r : Int32 => some (.int r)) [.ref a0] μ (FX8_tick a0 μ) := by
  refine Ct_of hG hl (by decide +kernel) (Nat.le_of_ble_eq_true rfl) (fun κ ρ hNL F M hκ => ?_)
  have F : Fx κ cX8_tick RX8 := F
  change V κ ρ 0 0 μ (FX8_tick a0 μ) 0 [(0, .ref a0)] []
  unfold FX8_tick
  refine V_iconst (v := 0) F dX8_tick_0 (by decide) ?_
  refine V_istore_n (lv' := [(1, .int 0), (0, .ref a0)]) F dX8_tick_1 rfl (lt_L hNL (by decide)) rfl ?_
  refine V_aload_n F dX8_tick_2 rfl 1 rfl ?_
  refine V_gR (ci := 8) (k9 := 5) (C := RX8) (T := TX8) (N := 22) F rfl hinX8 (by decide) q1213 dX8_tick_3 (fun x1 => ?_)
  refine V_iconst (v := 3) F dX8_tick_6 (by decide) ?_
  refine V_dup2 F dX8_tick_7 rfl rfl ?_
  refine V_aI F dX8_tick_8 (fun x2 => ?_)
  refine V_iconst (v := 1) F dX8_tick_9 (by decide) ?_
  refine V_iadd F dX8_tick_10 ?_
  refine V_sI F dX8_tick_11 (fun μ3 => ?_)
  refine V_aload_n F dX8_tick_12 rfl 1 rfl ?_
  refine V_cV (As := []) (rest := []) (C := RX8) (N := 0) F M (metX8_cues (Fx_G F) (Fx_l F) a0  μ3) rfl q1526 q72 q1523 q1525 q49 ⟨by decide +kernel, by decide +kernel, by decide +kernel⟩ rfl ⟨by decide, by decide⟩ (Nat.le_of_ble_eq_true rfl) dX8_tick_13 (by decide) (by decide) (fun x5 μ4 => ?_)
  change V κ ρ 0 0 μ4 _ 16 [(1, .int 0), (0, .ref a0)] []
  refine V_iconst (v := 0) F dX8_tick_16 (by decide) ?_
  refine V_istore_n (lv' := [(2, .int 0), (1, .int 0), (0, .ref a0)]) F dX8_tick_17 rfl (lt_L hNL (by decide)) rfl ?_
  refine V_sub [2, 1, 0] rfl ?_
  exact VX8_tick_L18 F M hNL  FU a0 0 0 μ4
/-! DroneLightShowModel.passes(I)I -/
abbrev rmX8_passes : Room := { frames := 5, cells := 0, slots := 0, locals := 112 }
def FX8_passes_B20 (k20 : Nat → Int32 → Int32 → Int32 → Me → Rs Int32) (v0 : Nat) (v1 : Int32) (v2 : Int32) (v3 : Int32) (μ : Me) : Rs Int32 :=
  (if v1 ≤ v3 then (rt v2 μ) else (bnd (vc μ v0 8 (FX8_tick v0  μ)) (fun x8 μ7 => (k20 v0 v1 (v2 + x8) (v3 + 1) μ7))))
set_option maxHeartbeats 4000000 in
set_option maxRecDepth 100000 in
theorem VX8_passes_B20 {κ : Cx} {ρ : (Int32 ⊕ String) × Me} (F : Fx κ cX8_passes RX8) (M : Mx κ (fun r : Int32 => some (.int r)) ρ rmX8_passes (some .int) [] "passes") (hNL : κ.2.2.2.2.2.2.2.2.2.2.2.2.2.2 = 4) {k20 : Nat → Int32 → Int32 → Int32 → Me → Rs Int32} (hk20 : ∀ (v0 : Nat) (v1 : Int32) (v2 : Int32) (v3 : Int32) (μ : Me), V κ ρ 0 0 μ (k20 v0 v1 v2 v3 μ) 20 [(0, .ref v0), (1, .int v1), (2, .int v2), (3, .int v3)] []) (v0 : Nat) (v1 : Int32) (v2 : Int32) (v3 : Int32) (μ : Me) : V κ ρ 0 0 μ (FX8_passes_B20 k20 v0 v1 v2 v3 μ) 20 [(0, .ref v0), (1, .int v1), (2, .int v2), (3, .int v3)] [] := by
  unfold FX8_passes_B20
  refine V_iload_n F dX8_passes_20 rfl 3 rfl ?_
  refine V_iload_n F dX8_passes_21 rfl 1 rfl ?_
  refine V_icmp_ge (tgt := 38) F dX8_passes_22 (by decide) (fun c5 => ?_) (fun c6 => ?_)
  · refine V_iload_n F dX8_passes_38 rfl 2 rfl ?_
    exact V_iret F M dX8_passes_39 rfl (by decide) (by decide)
  · refine V_iload_n F dX8_passes_25 rfl 2 rfl ?_
    refine V_aload_n F dX8_passes_26 rfl 0 rfl ?_
    refine V_cV (As := []) (rest := [.int v2]) (C := RX8) (N := 0) F M (metX8_tick (Fx_G F) (Fx_l F) v0  μ) rfl q1522 q72 q1519 q1521 q48 ⟨by decide +kernel, by decide +kernel, by decide +kernel⟩ rfl ⟨by decide, by decide⟩ (Nat.le_of_ble_eq_true rfl) dX8_passes_27 (by decide) (by decide) (fun x8 μ7 => ?_)
    change V κ ρ 0 0 μ7 _ 30 [(0, .ref v0), (1, .int v1), (2, .int v2), (3, .int v3)] [.int x8, .int v2]
    refine V_iadd F dX8_passes_30 ?_
    refine V_istore_n (lv' := [(2, .int (v2 + x8)), (0, .ref v0), (1, .int v1), (3, .int v3)]) F dX8_passes_31 rfl (lt_L hNL (by decide)) rfl ?_
    refine V_iinc (lv' := [(3, .int (v3 + 1)), (2, .int (v2 + x8)), (0, .ref v0), (1, .int v1)]) F dX8_passes_32 3 rfl rfl (lt_L hNL (by decide)) rfl ?_
    refine V_goto (tgt := 20) F dX8_passes_35 (by decide) ?_
    refine V_sub [2, 3, 1, 0] rfl ?_
    exact hk20 v0 v1 (v2 + x8) (v3 + 1) μ7
def FX8_passes_L20  : Nat → Nat → Int32 → Int32 → Int32 → Me → Rs Int32
  | 0, _, _, _, _, _ => none
  | f + 1, v0, v1, v2, v3, μ => FX8_passes_B20 (FX8_passes_L20  f) v0 v1 v2 v3 μ
theorem VX8_passes_L20 {κ : Cx} {ρ : (Int32 ⊕ String) × Me} (F : Fx κ cX8_passes RX8) (M : Mx κ (fun r : Int32 => some (.int r)) ρ rmX8_passes (some .int) [] "passes") (hNL : κ.2.2.2.2.2.2.2.2.2.2.2.2.2.2 = 4)   : ∀ (f : Nat) (v0 : Nat) (v1 : Int32) (v2 : Int32) (v3 : Int32) (μ : Me), V κ ρ 0 0 μ (FX8_passes_L20  f v0 v1 v2 v3 μ) 20 [(0, .ref v0), (1, .int v1), (2, .int v2), (3, .int v3)] [] := by
  intro f
  induction f with
  | zero => intros; exact V_none
  | succ f ih => intro v0 v1 v2 v3 μ; exact VX8_passes_B20 F M hNL (fun v0 v1 v2 v3 μ => ih v0 v1 v2 v3 μ) v0 v1 v2 v3 μ
def FX8_passes (a0 : Nat) (p1 : Int32) (μ : Me) : Rs Int32 :=
  (bnd (FX8_isIn p1 1 30 μ) (fun x2 μ1 => (if x2 = 0 then (bnd (vc μ1 a0 8 (FX8_fail a0 1 μ1)) (fun x10 μ9 => (rt x10 μ9))) else (FX8_passes_L20  FU a0 p1 0 0 μ1))))
set_option maxHeartbeats 4000000 in
set_option maxRecDepth 100000 in
theorem metX8_passes {l : Launch} {s0 : State} {D : va_G} {aC : Nat → ClassId} (hG : Gl s0 D aC) (hl : l.stackTraces = false) (a0 : Nat) (p1 : Int32) (μ : Me) : Ct l yX8_passes (ws_ yX8_passes cX8_passes 4 (some .int)) rmX8_passes s0 D aC (fun r : Int32 => some (.int r)) [.ref a0, .int p1] μ (FX8_passes a0 p1 μ) := by
  refine Ct_of hG hl (by decide +kernel) (Nat.le_of_ble_eq_true rfl) (fun κ ρ hNL F M hκ => ?_)
  have F : Fx κ cX8_passes RX8 := F
  change V κ ρ 0 0 μ (FX8_passes a0 p1 μ) 0 [(0, .ref a0), (1, .int p1)] []
  unfold FX8_passes
  refine V_iload_n F dX8_passes_0 rfl 1 rfl ?_
  refine V_iconst (v := 1) F dX8_passes_1 (by decide) ?_
  refine V_bipush (v := 30) F dX8_passes_2 (by decide) ?_
  refine V_cS (As := [.int p1, .int 1, .int 30]) (rest := []) (N := 3) F M (metX8_isIn (Fx_G F) (Fx_l F) p1 1 30 μ) q1299 q72 q1297 q1298 ⟨by decide +kernel, by decide +kernel, by decide +kernel⟩ rfl ⟨by decide, by decide⟩ (Nat.le_of_ble_eq_true rfl) dX8_passes_4 (by decide) (by decide) (fun x2 μ1 => ?_)
  change V κ ρ 0 0 μ1 _ 7 [(0, .ref a0), (1, .int p1)] [.int x2]
  refine V_if_ne (tgt := 16) F dX8_passes_7 (by decide) (fun c3 => ?_) (fun c4 => ?_)
  · refine V_iconst (v := 0) F dX8_passes_16 (by decide) ?_
    refine V_istore_n (lv' := [(2, .int 0), (0, .ref a0), (1, .int p1)]) F dX8_passes_17 rfl (lt_L hNL (by decide)) rfl ?_
    refine V_iconst (v := 0) F dX8_passes_18 (by decide) ?_
    refine V_istore_n (lv' := [(3, .int 0), (2, .int 0), (0, .ref a0), (1, .int p1)]) F dX8_passes_19 rfl (lt_L hNL (by decide)) rfl ?_
    refine V_sub [2, 3, 1, 0] rfl ?_
    exact VX8_passes_L20 F M hNL  FU a0 p1 0 0 μ1
  · refine V_aload_n F dX8_passes_10 rfl 0 rfl ?_
    refine V_iconst (v := 1) F dX8_passes_11 (by decide) ?_
    refine V_cV (As := [.int 1]) (rest := []) (C := RX8) (N := 1) F M (metX8_fail (Fx_G F) (Fx_l F) a0 1 μ1) rfl q1303 q72 q1300 q1302 q22 ⟨by decide +kernel, by decide +kernel, by decide +kernel⟩ rfl ⟨by decide, by decide⟩ (Nat.le_of_ble_eq_true rfl) dX8_passes_12 (by decide) (by decide) (fun x10 μ9 => ?_)
    change V κ ρ 0 0 μ9 _ 15 [(0, .ref a0), (1, .int p1)] [.int x10]
    exact V_iret F M dX8_passes_15 rfl (by decide) (by decide)
/-! DroneLightShowModel.advance(I)I -/
abbrev rmX8_advance : Room := { frames := 6, cells := 0, slots := 0, locals := 135 }
def FX8_advance (a0 : Nat) (p1 : Int32) (μ : Me) : Rs Int32 :=
  (bnd (vc μ a0 8 (FX8_begins a0  μ)) (fun x2 μ1 => (bnd (vc μ1 a0 8 (FX8_passes a0 p1 μ1)) (fun x4 μ3 => (bnd (vc μ3 a0 8 (FX8_ends a0 x4 μ3)) (fun x6 μ5 => (rt x6 μ5)))))))
set_option maxHeartbeats 4000000 in
set_option maxRecDepth 100000 in
theorem metX8_advance {l : Launch} {s0 : State} {D : va_G} {aC : Nat → ClassId} (hG : Gl s0 D aC) (hl : l.stackTraces = false) (a0 : Nat) (p1 : Int32) (μ : Me) : Ct l yX8_advance (ws_ yX8_advance cX8_advance 2 (some .int)) rmX8_advance s0 D aC (fun r : Int32 => some (.int r)) [.ref a0, .int p1] μ (FX8_advance a0 p1 μ) := by
  refine Ct_of hG hl (by decide +kernel) (Nat.le_of_ble_eq_true rfl) (fun κ ρ hNL F M hκ => ?_)
  have F : Fx κ cX8_advance RX8 := F
  change V κ ρ 0 0 μ (FX8_advance a0 p1 μ) 0 [(0, .ref a0), (1, .int p1)] []
  unfold FX8_advance
  refine V_aload_n F dX8_advance_0 rfl 0 rfl ?_
  refine V_cV (As := []) (rest := []) (C := RX8) (N := 0) F M (metX8_begins (Fx_G F) (Fx_l F) a0  μ) rfl q1286 q72 q1283 q1285 q20 ⟨by decide +kernel, by decide +kernel, by decide +kernel⟩ rfl ⟨by decide, by decide⟩ (Nat.le_of_ble_eq_true rfl) dX8_advance_1 (by decide) (by decide) (fun x2 μ1 => ?_)
  change V κ ρ 0 0 μ1 _ 4 [(0, .ref a0), (1, .int p1)] []
  refine V_aload_n F dX8_advance_4 rfl 0 rfl ?_
  refine V_aload_n F dX8_advance_5 rfl 0 rfl ?_
  refine V_iload_n F dX8_advance_6 rfl 1 rfl ?_
  refine V_cV (As := [.int p1]) (rest := [.ref a0]) (C := RX8) (N := 1) F M (metX8_passes (Fx_G F) (Fx_l F) a0 p1 μ1) rfl q1518 q72 q1515 q1517 q47 ⟨by decide +kernel, by decide +kernel, by decide +kernel⟩ rfl ⟨by decide, by decide⟩ (Nat.le_of_ble_eq_true rfl) dX8_advance_7 (by decide) (by decide) (fun x4 μ3 => ?_)
  change V κ ρ 0 0 μ3 _ 10 [(0, .ref a0), (1, .int p1)] [.int x4, .ref a0]
  refine V_cV (As := [.int x4]) (rest := []) (C := RX8) (N := 1) F M (metX8_ends (Fx_G F) (Fx_l F) a0 x4 μ3) rfl q1318 q72 q1315 q1317 q25 ⟨by decide +kernel, by decide +kernel, by decide +kernel⟩ rfl ⟨by decide, by decide⟩ (Nat.le_of_ble_eq_true rfl) dX8_advance_10 (by decide) (by decide) (fun x6 μ5 => ?_)
  change V κ ρ 0 0 μ5 _ 13 [(0, .ref a0), (1, .int p1)] [.int x6]
  exact V_iret F M dX8_advance_13 rfl (by decide) (by decide)
/-! DroneLightShowModel.now()I -/
abbrev rmX8_now : Room := { frames := 0, cells := 0, slots := 0, locals := 0 }
def FX8_now (a0 : Nat) (μ : Me) : Rs Int32 :=
  (pf μ a0 8 0 (.int 0) (fun μ1 => (gR μ1 a0 8 5 (fun x2 => (aI μ1 x2 3 (fun x3 => (rt x3 μ1)))))))
set_option maxHeartbeats 4000000 in
set_option maxRecDepth 100000 in
theorem metX8_now {l : Launch} {s0 : State} {D : va_G} {aC : Nat → ClassId} (hG : Gl s0 D aC) (hl : l.stackTraces = false) (a0 : Nat) (μ : Me) : Ct l yX8_now (ws_ yX8_now cX8_now 1 (some .int)) rmX8_now s0 D aC (fun r : Int32 => some (.int r)) [.ref a0] μ (FX8_now a0 μ) := by
  refine Ct_of hG hl (by decide +kernel) (Nat.le_of_ble_eq_true rfl) (fun κ ρ hNL F M hκ => ?_)
  have F : Fx κ cX8_now RX8 := F
  change V κ ρ 0 0 μ (FX8_now a0 μ) 0 [(0, .ref a0)] []
  unfold FX8_now
  refine V_aload_n F dX8_now_0 rfl 0 rfl ?_
  refine V_iconst (v := 0) F dX8_now_1 (by decide) ?_
  refine V_pf (ci := 8) (k9 := 0) (C := RX8) (T := TX8) (N := 22) (ty := tyX8) F rfl hinX8 tyX8_ok nmX8 (by decide) q1208 rfl rfl rfl dX8_now_2 (fun μ1 => ?_)
  refine V_aload_n F dX8_now_5 rfl 0 rfl ?_
  refine V_gR (ci := 8) (k9 := 5) (C := RX8) (T := TX8) (N := 22) F rfl hinX8 (by decide) q1213 dX8_now_6 (fun x2 => ?_)
  refine V_iconst (v := 3) F dX8_now_9 (by decide) ?_
  refine V_aI F dX8_now_10 (fun x3 => ?_)
  exact V_iret F M dX8_now_11 rfl (by decide) (by decide)
/-! DroneLightShowModel.wantedCell(I)I -/
abbrev rmX8_wantedCell : Room := { frames := 3, cells := 0, slots := 0, locals := 65 }
def FX8_wantedCell_B26  (v0 : Nat) (v1 : Int32) (t0 : Int32) (t1 : Nat) (μ : Me) : Rs Int32 :=
  (pf μ t1 8 0 (.int t0) (fun μ9 => (gI μ9 v0 8 0 (fun x10 => (if x10 = 0 then (bnd (vc μ9 v0 8 (FX8_wish v0 v1 μ9)) (fun x14 μ13 => (rt x14 μ13))) else (rt 0 μ9))))))
set_option maxHeartbeats 4000000 in
set_option maxRecDepth 100000 in
theorem VX8_wantedCell_B26 {κ : Cx} {ρ : (Int32 ⊕ String) × Me} (F : Fx κ cX8_wantedCell RX8) (M : Mx κ (fun r : Int32 => some (.int r)) ρ rmX8_wantedCell (some .int) [] "wantedCell") (hNL : κ.2.2.2.2.2.2.2.2.2.2.2.2.2.2 = 2)   (v0 : Nat) (v1 : Int32) (t0 : Int32) (t1 : Nat) (μ : Me) : V κ ρ 0 0 μ (FX8_wantedCell_B26  v0 v1 t0 t1 μ) 26 [(0, .ref v0), (1, .int v1)] [.int t0, .ref t1] := by
  unfold FX8_wantedCell_B26
  refine V_pf (ci := 8) (k9 := 0) (C := RX8) (T := TX8) (N := 22) (ty := tyX8) F rfl hinX8 tyX8_ok nmX8 (by decide) q1208 rfl rfl rfl dX8_wantedCell_26 (fun μ9 => ?_)
  refine V_aload_n F dX8_wantedCell_29 rfl 0 rfl ?_
  refine V_gI (ci := 8) (k9 := 0) (C := RX8) (T := TX8) (N := 22) F rfl hinX8 (by decide) q1208 dX8_wantedCell_30 (fun x10 => ?_)
  refine V_if_ne (tgt := 44) F dX8_wantedCell_33 (by decide) (fun c11 => ?_) (fun c12 => ?_)
  · refine V_iconst (v := 0) F dX8_wantedCell_44 (by decide) ?_
    exact V_iret F M dX8_wantedCell_45 rfl (by decide) (by decide)
  · refine V_aload_n F dX8_wantedCell_36 rfl 0 rfl ?_
    refine V_iload_n F dX8_wantedCell_37 rfl 1 rfl ?_
    refine V_cV (As := [.int v1]) (rest := []) (C := RX8) (N := 1) F M (metX8_wish (Fx_G F) (Fx_l F) v0 v1 μ9) rfl q1538 q72 q1535 q1537 q52 ⟨by decide +kernel, by decide +kernel, by decide +kernel⟩ rfl ⟨by decide, by decide⟩ (Nat.le_of_ble_eq_true rfl) dX8_wantedCell_38 (by decide) (by decide) (fun x14 μ13 => ?_)
    change V κ ρ 0 0 μ13 _ 41 [(0, .ref v0), (1, .int v1)] [.int x14]
    refine V_goto (tgt := 45) F dX8_wantedCell_41 (by decide) ?_
    exact V_iret F M dX8_wantedCell_45 rfl (by decide) (by decide)
def FX8_wantedCell (a0 : Nat) (p1 : Int32) (μ : Me) : Rs Int32 :=
  (bnd (vc μ a0 8 (FX8_isDrone a0 p1 μ)) (fun x2 μ1 => (if x2 = 0 then (FX8_wantedCell_B26  a0 p1 1 a0 μ1) else (bnd (vc μ1 a0 8 (FX8_wants a0 p1 μ1)) (fun x6 μ5 => (if x6 = 0 then (FX8_wantedCell_B26  a0 p1 2 a0 μ5) else (FX8_wantedCell_B26  a0 p1 0 a0 μ5)))))))
set_option maxHeartbeats 4000000 in
set_option maxRecDepth 100000 in
theorem metX8_wantedCell {l : Launch} {s0 : State} {D : va_G} {aC : Nat → ClassId} (hG : Gl s0 D aC) (hl : l.stackTraces = false) (a0 : Nat) (p1 : Int32) (μ : Me) : Ct l yX8_wantedCell (ws_ yX8_wantedCell cX8_wantedCell 2 (some .int)) rmX8_wantedCell s0 D aC (fun r : Int32 => some (.int r)) [.ref a0, .int p1] μ (FX8_wantedCell a0 p1 μ) := by
  refine Ct_of hG hl (by decide +kernel) (Nat.le_of_ble_eq_true rfl) (fun κ ρ hNL F M hκ => ?_)
  have F : Fx κ cX8_wantedCell RX8 := F
  change V κ ρ 0 0 μ (FX8_wantedCell a0 p1 μ) 0 [(0, .ref a0), (1, .int p1)] []
  unfold FX8_wantedCell
  refine V_aload_n F dX8_wantedCell_0 rfl 0 rfl ?_
  refine V_aload_n F dX8_wantedCell_1 rfl 0 rfl ?_
  refine V_iload_n F dX8_wantedCell_2 rfl 1 rfl ?_
  refine V_cV (As := [.int p1]) (rest := [.ref a0]) (C := RX8) (N := 1) F M (metX8_isDrone (Fx_G F) (Fx_l F) a0 p1 μ) rfl q1342 q72 q1339 q1341 q29 ⟨by decide +kernel, by decide +kernel, by decide +kernel⟩ rfl ⟨by decide, by decide⟩ (Nat.le_of_ble_eq_true rfl) dX8_wantedCell_3 (by decide) (by decide) (fun x2 μ1 => ?_)
  change V κ ρ 0 0 μ1 _ 6 [(0, .ref a0), (1, .int p1)] [.int x2, .ref a0]
  refine V_if_ne (tgt := 13) F dX8_wantedCell_6 (by decide) (fun c3 => ?_) (fun c4 => ?_)
  · refine V_aload_n F dX8_wantedCell_13 rfl 0 rfl ?_
    refine V_iload_n F dX8_wantedCell_14 rfl 1 rfl ?_
    refine V_cV (As := [.int p1]) (rest := [.ref a0]) (C := RX8) (N := 1) F M (metX8_wants (Fx_G F) (Fx_l F) a0 p1 μ1) rfl q1530 q72 q1527 q1529 q50 ⟨by decide +kernel, by decide +kernel, by decide +kernel⟩ rfl ⟨by decide, by decide⟩ (Nat.le_of_ble_eq_true rfl) dX8_wantedCell_15 (by decide) (by decide) (fun x6 μ5 => ?_)
    change V κ ρ 0 0 μ5 _ 18 [(0, .ref a0), (1, .int p1)] [.int x6, .ref a0]
    refine V_if_eq (tgt := 25) F dX8_wantedCell_18 (by decide) (fun c7 => ?_) (fun c8 => ?_)
    · refine V_iconst (v := 2) F dX8_wantedCell_25 (by decide) ?_
      refine V_sub [0, 1] rfl ?_
      exact VX8_wantedCell_B26 F M hNL  a0 p1 2 a0 μ5
    · refine V_iconst (v := 0) F dX8_wantedCell_21 (by decide) ?_
      refine V_goto (tgt := 26) F dX8_wantedCell_22 (by decide) ?_
      refine V_sub [0, 1] rfl ?_
      exact VX8_wantedCell_B26 F M hNL  a0 p1 0 a0 μ5
  · refine V_iconst (v := 1) F dX8_wantedCell_9 (by decide) ?_
    refine V_goto (tgt := 26) F dX8_wantedCell_10 (by decide) ?_
    refine V_sub [0, 1] rfl ?_
    exact VX8_wantedCell_B26 F M hNL  a0 p1 1 a0 μ1
/-! DroneLightShowModel.conflictCount()I -/
abbrev rmX8_conflictCount : Room := { frames := 3, cells := 0, slots := 0, locals := 65 }
def FX8_conflictCount_B32 (k9 : Nat → Int32 → Int32 → Me → Rs Int32) (k32 : Nat → Int32 → Int32 → Int32 → Me → Rs Int32) (v0 : Nat) (v1 : Int32) (v2 : Int32) (v3 : Int32) (μ : Me) : Rs Int32 :=
  (if v2 ≤ v3 then (k9 v0 v1 (v2 + 1) μ) else (bnd (vc μ v0 8 (FX8_wants v0 v3 μ)) (fun x13 μ12 => (if x13 = 0 then (k32 v0 (v1 + 0) v2 (v3 + 1) μ12) else (bnd (vc μ12 v0 8 (FX8_wish v0 v3 μ12)) (fun x17 μ16 => (bnd (vc μ16 v0 8 (FX8_wish v0 v2 μ16)) (fun x19 μ18 => (if x17 = x19 then (k32 v0 (v1 + 1) v2 (v3 + 1) μ18) else (k32 v0 (v1 + 0) v2 (v3 + 1) μ18))))))))))
set_option maxHeartbeats 4000000 in
set_option maxRecDepth 100000 in
theorem VX8_conflictCount_B32 {κ : Cx} {ρ : (Int32 ⊕ String) × Me} (F : Fx κ cX8_conflictCount RX8) (M : Mx κ (fun r : Int32 => some (.int r)) ρ rmX8_conflictCount (some .int) [] "conflictCount") (hNL : κ.2.2.2.2.2.2.2.2.2.2.2.2.2.2 = 4) {k9 : Nat → Int32 → Int32 → Me → Rs Int32} {k32 : Nat → Int32 → Int32 → Int32 → Me → Rs Int32} (hk9 : ∀ (v0 : Nat) (v1 : Int32) (v2 : Int32) (μ : Me), V κ ρ 0 0 μ (k9 v0 v1 v2 μ) 9 [(0, .ref v0), (1, .int v1), (2, .int v2)] []) (hk32 : ∀ (v0 : Nat) (v1 : Int32) (v2 : Int32) (v3 : Int32) (μ : Me), V κ ρ 0 0 μ (k32 v0 v1 v2 v3 μ) 32 [(0, .ref v0), (1, .int v1), (2, .int v2), (3, .int v3)] []) (v0 : Nat) (v1 : Int32) (v2 : Int32) (v3 : Int32) (μ : Me) : V κ ρ 0 0 μ (FX8_conflictCount_B32 k9 k32 v0 v1 v2 v3 μ) 32 [(0, .ref v0), (1, .int v1), (2, .int v2), (3, .int v3)] [] := by
  unfold FX8_conflictCount_B32
  refine V_iload_n F dX8_conflictCount_32 rfl 3 rfl ?_
  refine V_iload_n F dX8_conflictCount_33 rfl 2 rfl ?_
  refine V_icmp_ge (tgt := 72) F dX8_conflictCount_34 (by decide) (fun c10 => ?_) (fun c11 => ?_)
  · refine V_iinc (lv' := [(2, .int (v2 + 1)), (0, .ref v0), (1, .int v1), (3, .int v3)]) F dX8_conflictCount_72 2 rfl rfl (lt_L hNL (by decide)) rfl ?_
    refine V_goto (tgt := 9) F dX8_conflictCount_75 (by decide) ?_
    refine V_sub [1, 2, 0] rfl ?_
    exact hk9 v0 v1 (v2 + 1) μ
  · refine V_iload_n F dX8_conflictCount_37 rfl 1 rfl ?_
    refine V_aload_n F dX8_conflictCount_38 rfl 0 rfl ?_
    refine V_iload_n F dX8_conflictCount_39 rfl 3 rfl ?_
    refine V_cV (As := [.int v3]) (rest := [.int v1]) (C := RX8) (N := 1) F M (metX8_wants (Fx_G F) (Fx_l F) v0 v3 μ) rfl q1530 q72 q1527 q1529 q50 ⟨by decide +kernel, by decide +kernel, by decide +kernel⟩ rfl ⟨by decide, by decide⟩ (Nat.le_of_ble_eq_true rfl) dX8_conflictCount_40 (by decide) (by decide) (fun x13 μ12 => ?_)
    change V κ ρ 0 0 μ12 _ 43 [(0, .ref v0), (1, .int v1), (2, .int v2), (3, .int v3)] [.int x13, .int v1]
    refine V_if_eq (tgt := 63) F dX8_conflictCount_43 (by decide) (fun c14 => ?_) (fun c15 => ?_)
    · refine V_iconst (v := 0) F dX8_conflictCount_63 (by decide) ?_
      refine V_iadd F dX8_conflictCount_64 ?_
      refine V_istore_n (lv' := [(1, .int (v1 + 0)), (0, .ref v0), (2, .int v2), (3, .int v3)]) F dX8_conflictCount_65 rfl (lt_L hNL (by decide)) rfl ?_
      refine V_iinc (lv' := [(3, .int (v3 + 1)), (1, .int (v1 + 0)), (0, .ref v0), (2, .int v2)]) F dX8_conflictCount_66 3 rfl rfl (lt_L hNL (by decide)) rfl ?_
      refine V_goto (tgt := 32) F dX8_conflictCount_69 (by decide) ?_
      refine V_sub [2, 1, 3, 0] rfl ?_
      exact hk32 v0 (v1 + 0) v2 (v3 + 1) μ12
    · refine V_aload_n F dX8_conflictCount_46 rfl 0 rfl ?_
      refine V_iload_n F dX8_conflictCount_47 rfl 3 rfl ?_
      refine V_cV (As := [.int v3]) (rest := [.int v1]) (C := RX8) (N := 1) F M (metX8_wish (Fx_G F) (Fx_l F) v0 v3 μ12) rfl q1538 q72 q1535 q1537 q52 ⟨by decide +kernel, by decide +kernel, by decide +kernel⟩ rfl ⟨by decide, by decide⟩ (Nat.le_of_ble_eq_true rfl) dX8_conflictCount_48 (by decide) (by decide) (fun x17 μ16 => ?_)
      change V κ ρ 0 0 μ16 _ 51 [(0, .ref v0), (1, .int v1), (2, .int v2), (3, .int v3)] [.int x17, .int v1]
      refine V_aload_n F dX8_conflictCount_51 rfl 0 rfl ?_
      refine V_iload_n F dX8_conflictCount_52 rfl 2 rfl ?_
      refine V_cV (As := [.int v2]) (rest := [.int x17, .int v1]) (C := RX8) (N := 1) F M (metX8_wish (Fx_G F) (Fx_l F) v0 v2 μ16) rfl q1538 q72 q1535 q1537 q52 ⟨by decide +kernel, by decide +kernel, by decide +kernel⟩ rfl ⟨by decide, by decide⟩ (Nat.le_of_ble_eq_true rfl) dX8_conflictCount_53 (by decide) (by decide) (fun x19 μ18 => ?_)
      change V κ ρ 0 0 μ18 _ 56 [(0, .ref v0), (1, .int v1), (2, .int v2), (3, .int v3)] [.int x19, .int x17, .int v1]
      refine V_icmp_ne (tgt := 63) F dX8_conflictCount_56 (by decide) (fun c20 => ?_) (fun c21 => ?_)
      · refine V_iconst (v := 0) F dX8_conflictCount_63 (by decide) ?_
        refine V_iadd F dX8_conflictCount_64 ?_
        refine V_istore_n (lv' := [(1, .int (v1 + 0)), (0, .ref v0), (2, .int v2), (3, .int v3)]) F dX8_conflictCount_65 rfl (lt_L hNL (by decide)) rfl ?_
        refine V_iinc (lv' := [(3, .int (v3 + 1)), (1, .int (v1 + 0)), (0, .ref v0), (2, .int v2)]) F dX8_conflictCount_66 3 rfl rfl (lt_L hNL (by decide)) rfl ?_
        refine V_goto (tgt := 32) F dX8_conflictCount_69 (by decide) ?_
        refine V_sub [2, 1, 3, 0] rfl ?_
        exact hk32 v0 (v1 + 0) v2 (v3 + 1) μ18
      · refine V_iconst (v := 1) F dX8_conflictCount_59 (by decide) ?_
        refine V_goto (tgt := 64) F dX8_conflictCount_60 (by decide) ?_
        refine V_iadd F dX8_conflictCount_64 ?_
        refine V_istore_n (lv' := [(1, .int (v1 + 1)), (0, .ref v0), (2, .int v2), (3, .int v3)]) F dX8_conflictCount_65 rfl (lt_L hNL (by decide)) rfl ?_
        refine V_iinc (lv' := [(3, .int (v3 + 1)), (1, .int (v1 + 1)), (0, .ref v0), (2, .int v2)]) F dX8_conflictCount_66 3 rfl rfl (lt_L hNL (by decide)) rfl ?_
        refine V_goto (tgt := 32) F dX8_conflictCount_69 (by decide) ?_
        refine V_sub [2, 1, 3, 0] rfl ?_
        exact hk32 v0 (v1 + 1) v2 (v3 + 1) μ18
def FX8_conflictCount_L32 (k9 : Nat → Int32 → Int32 → Me → Rs Int32) : Nat → Nat → Int32 → Int32 → Int32 → Me → Rs Int32
  | 0, _, _, _, _, _ => none
  | f + 1, v0, v1, v2, v3, μ => FX8_conflictCount_B32 k9 (FX8_conflictCount_L32 k9 f) v0 v1 v2 v3 μ
theorem VX8_conflictCount_L32 {κ : Cx} {ρ : (Int32 ⊕ String) × Me} (F : Fx κ cX8_conflictCount RX8) (M : Mx κ (fun r : Int32 => some (.int r)) ρ rmX8_conflictCount (some .int) [] "conflictCount") (hNL : κ.2.2.2.2.2.2.2.2.2.2.2.2.2.2 = 4) {k9 : Nat → Int32 → Int32 → Me → Rs Int32} (hk9 : ∀ (v0 : Nat) (v1 : Int32) (v2 : Int32) (μ : Me), V κ ρ 0 0 μ (k9 v0 v1 v2 μ) 9 [(0, .ref v0), (1, .int v1), (2, .int v2)] []) : ∀ (f : Nat) (v0 : Nat) (v1 : Int32) (v2 : Int32) (v3 : Int32) (μ : Me), V κ ρ 0 0 μ (FX8_conflictCount_L32 k9 f v0 v1 v2 v3 μ) 32 [(0, .ref v0), (1, .int v1), (2, .int v2), (3, .int v3)] [] := by
  intro f
  induction f with
  | zero => intros; exact V_none
  | succ f ih => intro v0 v1 v2 v3 μ; exact VX8_conflictCount_B32 F M hNL hk9 (fun v0 v1 v2 v3 μ => ih v0 v1 v2 v3 μ) v0 v1 v2 v3 μ
def FX8_conflictCount_B9 (k9 : Nat → Int32 → Int32 → Me → Rs Int32) (v0 : Nat) (v1 : Int32) (v2 : Int32) (μ : Me) : Rs Int32 :=
  (gR μ v0 8 5 (fun x2 => (aI μ x2 0 (fun x3 => (if x3 ≤ v2 then (rt v1 μ) else (bnd (vc μ v0 8 (FX8_wants v0 v2 μ)) (fun x7 μ6 => (if x7 = 0 then (k9 v0 v1 (v2 + 1) μ6) else (FX8_conflictCount_L32 k9 FU v0 v1 v2 0 μ6)))))))))
set_option maxHeartbeats 4000000 in
set_option maxRecDepth 100000 in
theorem VX8_conflictCount_B9 {κ : Cx} {ρ : (Int32 ⊕ String) × Me} (F : Fx κ cX8_conflictCount RX8) (M : Mx κ (fun r : Int32 => some (.int r)) ρ rmX8_conflictCount (some .int) [] "conflictCount") (hNL : κ.2.2.2.2.2.2.2.2.2.2.2.2.2.2 = 4) {k9 : Nat → Int32 → Int32 → Me → Rs Int32} (hk9 : ∀ (v0 : Nat) (v1 : Int32) (v2 : Int32) (μ : Me), V κ ρ 0 0 μ (k9 v0 v1 v2 μ) 9 [(0, .ref v0), (1, .int v1), (2, .int v2)] []) (v0 : Nat) (v1 : Int32) (v2 : Int32) (μ : Me) : V κ ρ 0 0 μ (FX8_conflictCount_B9 k9 v0 v1 v2 μ) 9 [(0, .ref v0), (1, .int v1), (2, .int v2)] [] := by
  unfold FX8_conflictCount_B9
  refine V_iload_n F dX8_conflictCount_9 rfl 2 rfl ?_
  refine V_aload_n F dX8_conflictCount_10 rfl 0 rfl ?_
  refine V_gR (ci := 8) (k9 := 5) (C := RX8) (T := TX8) (N := 22) F rfl hinX8 (by decide) q1213 dX8_conflictCount_11 (fun x2 => ?_)
  refine V_iconst (v := 0) F dX8_conflictCount_14 (by decide) ?_
  refine V_aI F dX8_conflictCount_15 (fun x3 => ?_)
  refine V_icmp_ge (tgt := 78) F dX8_conflictCount_16 (by decide) (fun c4 => ?_) (fun c5 => ?_)
  · refine V_iload_n F dX8_conflictCount_78 rfl 1 rfl ?_
    exact V_iret F M dX8_conflictCount_79 rfl (by decide) (by decide)
  · refine V_aload_n F dX8_conflictCount_19 rfl 0 rfl ?_
    refine V_iload_n F dX8_conflictCount_20 rfl 2 rfl ?_
    refine V_cV (As := [.int v2]) (rest := []) (C := RX8) (N := 1) F M (metX8_wants (Fx_G F) (Fx_l F) v0 v2 μ) rfl q1530 q72 q1527 q1529 q50 ⟨by decide +kernel, by decide +kernel, by decide +kernel⟩ rfl ⟨by decide, by decide⟩ (Nat.le_of_ble_eq_true rfl) dX8_conflictCount_21 (by decide) (by decide) (fun x7 μ6 => ?_)
    change V κ ρ 0 0 μ6 _ 24 [(0, .ref v0), (1, .int v1), (2, .int v2)] [.int x7]
    refine V_if_ne (tgt := 30) F dX8_conflictCount_24 (by decide) (fun c8 => ?_) (fun c9 => ?_)
    · refine V_iconst (v := 0) F dX8_conflictCount_30 (by decide) ?_
      refine V_istore_n (lv' := [(3, .int 0), (0, .ref v0), (1, .int v1), (2, .int v2)]) F dX8_conflictCount_31 rfl (lt_L hNL (by decide)) rfl ?_
      refine V_sub [1, 2, 3, 0] rfl ?_
      exact VX8_conflictCount_L32 F M hNL hk9 FU v0 v1 v2 0 μ6
    · refine V_goto (tgt := 72) F dX8_conflictCount_27 (by decide) ?_
      refine V_iinc (lv' := [(2, .int (v2 + 1)), (0, .ref v0), (1, .int v1)]) F dX8_conflictCount_72 2 rfl rfl (lt_L hNL (by decide)) rfl ?_
      refine V_goto (tgt := 9) F dX8_conflictCount_75 (by decide) ?_
      refine V_sub [1, 2, 0] rfl ?_
      exact hk9 v0 v1 (v2 + 1) μ6
def FX8_conflictCount_L9  : Nat → Nat → Int32 → Int32 → Me → Rs Int32
  | 0, _, _, _, _ => none
  | f + 1, v0, v1, v2, μ => FX8_conflictCount_B9 (FX8_conflictCount_L9  f) v0 v1 v2 μ
theorem VX8_conflictCount_L9 {κ : Cx} {ρ : (Int32 ⊕ String) × Me} (F : Fx κ cX8_conflictCount RX8) (M : Mx κ (fun r : Int32 => some (.int r)) ρ rmX8_conflictCount (some .int) [] "conflictCount") (hNL : κ.2.2.2.2.2.2.2.2.2.2.2.2.2.2 = 4)   : ∀ (f : Nat) (v0 : Nat) (v1 : Int32) (v2 : Int32) (μ : Me), V κ ρ 0 0 μ (FX8_conflictCount_L9  f v0 v1 v2 μ) 9 [(0, .ref v0), (1, .int v1), (2, .int v2)] [] := by
  intro f
  induction f with
  | zero => intros; exact V_none
  | succ f ih => intro v0 v1 v2 μ; exact VX8_conflictCount_B9 F M hNL (fun v0 v1 v2 μ => ih v0 v1 v2 μ) v0 v1 v2 μ
def FX8_conflictCount (a0 : Nat) (μ : Me) : Rs Int32 :=
  (pf μ a0 8 0 (.int 0) (fun μ1 => (FX8_conflictCount_L9  FU a0 0 0 μ1)))
set_option maxHeartbeats 4000000 in
set_option maxRecDepth 100000 in
theorem metX8_conflictCount {l : Launch} {s0 : State} {D : va_G} {aC : Nat → ClassId} (hG : Gl s0 D aC) (hl : l.stackTraces = false) (a0 : Nat) (μ : Me) : Ct l yX8_conflictCount (ws_ yX8_conflictCount cX8_conflictCount 4 (some .int)) rmX8_conflictCount s0 D aC (fun r : Int32 => some (.int r)) [.ref a0] μ (FX8_conflictCount a0 μ) := by
  refine Ct_of hG hl (by decide +kernel) (Nat.le_of_ble_eq_true rfl) (fun κ ρ hNL F M hκ => ?_)
  have F : Fx κ cX8_conflictCount RX8 := F
  change V κ ρ 0 0 μ (FX8_conflictCount a0 μ) 0 [(0, .ref a0)] []
  unfold FX8_conflictCount
  refine V_aload_n F dX8_conflictCount_0 rfl 0 rfl ?_
  refine V_iconst (v := 0) F dX8_conflictCount_1 (by decide) ?_
  refine V_pf (ci := 8) (k9 := 0) (C := RX8) (T := TX8) (N := 22) (ty := tyX8) F rfl hinX8 tyX8_ok nmX8 (by decide) q1208 rfl rfl rfl dX8_conflictCount_2 (fun μ1 => ?_)
  refine V_iconst (v := 0) F dX8_conflictCount_5 (by decide) ?_
  refine V_istore_n (lv' := [(1, .int 0), (0, .ref a0)]) F dX8_conflictCount_6 rfl (lt_L hNL (by decide)) rfl ?_
  refine V_iconst (v := 0) F dX8_conflictCount_7 (by decide) ?_
  refine V_istore_n (lv' := [(2, .int 0), (1, .int 0), (0, .ref a0)]) F dX8_conflictCount_8 rfl (lt_L hNL (by decide)) rfl ?_
  refine V_sub [2, 1, 0] rfl ?_
  exact VX8_conflictCount_L9 F M hNL  FU a0 0 0 μ1
/-! DroneLightShowModel.conflictCountByCell()I -/
abbrev rmX8_conflictCountByCell : Room := { frames := 4, cells := 0, slots := 0, locals := 88 }
def FX8_conflictCountByCell (a0 : Nat) (μ : Me) : Rs Int32 :=
  (bnd (vc μ a0 8 (FX8_conflictCount a0  μ)) (fun x2 μ1 => (rt x2 μ1)))
set_option maxHeartbeats 4000000 in
set_option maxRecDepth 100000 in
theorem metX8_conflictCountByCell {l : Launch} {s0 : State} {D : va_G} {aC : Nat → ClassId} (hG : Gl s0 D aC) (hl : l.stackTraces = false) (a0 : Nat) (μ : Me) : Ct l yX8_conflictCountByCell (ws_ yX8_conflictCountByCell cX8_conflictCountByCell 1 (some .int)) rmX8_conflictCountByCell s0 D aC (fun r : Int32 => some (.int r)) [.ref a0] μ (FX8_conflictCountByCell a0 μ) := by
  refine Ct_of hG hl (by decide +kernel) (Nat.le_of_ble_eq_true rfl) (fun κ ρ hNL F M hκ => ?_)
  have F : Fx κ cX8_conflictCountByCell RX8 := F
  change V κ ρ 0 0 μ (FX8_conflictCountByCell a0 μ) 0 [(0, .ref a0)] []
  unfold FX8_conflictCountByCell
  refine V_aload_n F dX8_conflictCountByCell_0 rfl 0 rfl ?_
  refine V_cV (As := []) (rest := []) (C := RX8) (N := 0) F M (metX8_conflictCount (Fx_G F) (Fx_l F) a0  μ) rfl q1568 q72 q1573 q1566 q1567 ⟨by decide +kernel, by decide +kernel, by decide +kernel⟩ rfl ⟨by decide, by decide⟩ (Nat.le_of_ble_eq_true rfl) dX8_conflictCountByCell_1 (by decide) (by decide) (fun x2 μ1 => ?_)
  change V κ ρ 0 0 μ1 _ 4 [(0, .ref a0)] [.int x2]
  exact V_iret F M dX8_conflictCountByCell_4 rfl (by decide) (by decide)
/-! DroneLightShowModel.droneAtRank(I)I -/
abbrev rmX8_droneAtRank : Room := { frames := 1, cells := 0, slots := 0, locals := 21 }
def FX8_droneAtRank_B108 (k22 : Nat → Int32 → Int32 → Int32 → Int32 → Me → Rs Int32) (v0 : Nat) (v1 : Int32) (v2 : Int32) (v4 : Int32) (t0 : Int32) (μ : Me) : Rs Int32 :=
  (k22 v0 v1 v2 (t0 + 1) (v4 + 1) μ)
set_option maxHeartbeats 4000000 in
set_option maxRecDepth 100000 in
theorem VX8_droneAtRank_B108 {κ : Cx} {ρ : (Int32 ⊕ String) × Me} (F : Fx κ cX8_droneAtRank RX8) (M : Mx κ (fun r : Int32 => some (.int r)) ρ rmX8_droneAtRank (some .int) [] "droneAtRank") (hNL : κ.2.2.2.2.2.2.2.2.2.2.2.2.2.2 = 6) {k22 : Nat → Int32 → Int32 → Int32 → Int32 → Me → Rs Int32} (hk22 : ∀ (v0 : Nat) (v1 : Int32) (v2 : Int32) (v3 : Int32) (v4 : Int32) (μ : Me), V κ ρ 0 0 μ (k22 v0 v1 v2 v3 v4 μ) 22 [(0, .ref v0), (1, .int v1), (2, .int v2), (3, .int v3), (4, .int v4)] []) (v0 : Nat) (v1 : Int32) (v2 : Int32) (v4 : Int32) (t0 : Int32) (μ : Me) : V κ ρ 0 0 μ (FX8_droneAtRank_B108 k22 v0 v1 v2 v4 t0 μ) 108 [(0, .ref v0), (1, .int v1), (2, .int v2), (4, .int v4)] [.int t0] := by
  unfold FX8_droneAtRank_B108
  refine V_iconst (v := 1) F dX8_droneAtRank_108 (by decide) ?_
  refine V_goto (tgt := 113) F dX8_droneAtRank_109 (by decide) ?_
  refine V_iadd F dX8_droneAtRank_113 ?_
  refine V_istore_n (lv' := [(3, .int (t0 + 1)), (0, .ref v0), (1, .int v1), (2, .int v2), (4, .int v4)]) F dX8_droneAtRank_114 rfl (lt_L hNL (by decide)) rfl ?_
  refine V_iinc (lv' := [(4, .int (v4 + 1)), (3, .int (t0 + 1)), (0, .ref v0), (1, .int v1), (2, .int v2)]) F dX8_droneAtRank_115 4 rfl rfl (lt_L hNL (by decide)) rfl ?_
  refine V_goto (tgt := 22) F dX8_droneAtRank_118 (by decide) ?_
  refine V_sub [2, 3, 4, 1, 0] rfl ?_
  exact hk22 v0 v1 v2 (t0 + 1) (v4 + 1) μ
def FX8_droneAtRank_B89 (k22 : Nat → Int32 → Int32 → Int32 → Int32 → Me → Rs Int32) (v0 : Nat) (v1 : Int32) (v2 : Int32) (v3 : Int32) (v4 : Int32) (t0 : Int32) (μ : Me) : Rs Int32 :=
  (if 0 < t0 then (FX8_droneAtRank_B108 k22 v0 v1 v2 v4 v3 μ) else (if t0 = 0 then (if v2 ≤ v4 then (k22 v0 v1 v2 (v3 + 0) (v4 + 1) μ) else (FX8_droneAtRank_B108 k22 v0 v1 v2 v4 v3 μ)) else (k22 v0 v1 v2 (v3 + 0) (v4 + 1) μ)))
set_option maxHeartbeats 4000000 in
set_option maxRecDepth 100000 in
theorem VX8_droneAtRank_B89 {κ : Cx} {ρ : (Int32 ⊕ String) × Me} (F : Fx κ cX8_droneAtRank RX8) (M : Mx κ (fun r : Int32 => some (.int r)) ρ rmX8_droneAtRank (some .int) [] "droneAtRank") (hNL : κ.2.2.2.2.2.2.2.2.2.2.2.2.2.2 = 6) {k22 : Nat → Int32 → Int32 → Int32 → Int32 → Me → Rs Int32} (hk22 : ∀ (v0 : Nat) (v1 : Int32) (v2 : Int32) (v3 : Int32) (v4 : Int32) (μ : Me), V κ ρ 0 0 μ (k22 v0 v1 v2 v3 v4 μ) 22 [(0, .ref v0), (1, .int v1), (2, .int v2), (3, .int v3), (4, .int v4)] []) (v0 : Nat) (v1 : Int32) (v2 : Int32) (v3 : Int32) (v4 : Int32) (t0 : Int32) (μ : Me) : V κ ρ 0 0 μ (FX8_droneAtRank_B89 k22 v0 v1 v2 v3 v4 t0 μ) 89 [(0, .ref v0), (1, .int v1), (2, .int v2), (3, .int v3), (4, .int v4)] [.int t0] := by
  unfold FX8_droneAtRank_B89
  refine V_istore (lv' := [(5, .int t0), (0, .ref v0), (1, .int v1), (2, .int v2), (3, .int v3), (4, .int v4)]) F dX8_droneAtRank_89 (lt_L hNL (by decide)) rfl ?_
  refine V_iload_n F dX8_droneAtRank_91 rfl 4 rfl ?_
  refine V_iload F dX8_droneAtRank_92 0 rfl ?_
  refine V_if_gt (tgt := 108) F dX8_droneAtRank_94 (by decide) (fun c32 => ?_) (fun c33 => ?_)
  · refine V_sub [1, 2, 3, 5] rfl ?_
    exact VX8_droneAtRank_B108 F M hNL hk22 v0 v1 v2 v4 v3 μ
  · refine V_iload F dX8_droneAtRank_97 0 rfl ?_
    refine V_if_ne (tgt := 112) F dX8_droneAtRank_99 (by decide) (fun c34 => ?_) (fun c35 => ?_)
    · refine V_iconst (v := 0) F dX8_droneAtRank_112 (by decide) ?_
      refine V_iadd F dX8_droneAtRank_113 ?_
      refine V_istore_n (lv' := [(3, .int (v3 + 0)), (5, .int t0), (0, .ref v0), (1, .int v1), (2, .int v2), (4, .int v4)]) F dX8_droneAtRank_114 rfl (lt_L hNL (by decide)) rfl ?_
      refine V_iinc (lv' := [(4, .int (v4 + 1)), (3, .int (v3 + 0)), (5, .int t0), (0, .ref v0), (1, .int v1), (2, .int v2)]) F dX8_droneAtRank_115 5 rfl rfl (lt_L hNL (by decide)) rfl ?_
      refine V_goto (tgt := 22) F dX8_droneAtRank_118 (by decide) ?_
      refine V_sub [3, 4, 5, 1, 0] rfl ?_
      exact hk22 v0 v1 v2 (v3 + 0) (v4 + 1) μ
    · refine V_iload F dX8_droneAtRank_102 5 rfl ?_
      refine V_iload_n F dX8_droneAtRank_104 rfl 3 rfl ?_
      refine V_icmp_ge (tgt := 112) F dX8_droneAtRank_105 (by decide) (fun c36 => ?_) (fun c37 => ?_)
      · refine V_iconst (v := 0) F dX8_droneAtRank_112 (by decide) ?_
        refine V_iadd F dX8_droneAtRank_113 ?_
        refine V_istore_n (lv' := [(3, .int (v3 + 0)), (5, .int t0), (0, .ref v0), (1, .int v1), (2, .int v2), (4, .int v4)]) F dX8_droneAtRank_114 rfl (lt_L hNL (by decide)) rfl ?_
        refine V_iinc (lv' := [(4, .int (v4 + 1)), (3, .int (v3 + 0)), (5, .int t0), (0, .ref v0), (1, .int v1), (2, .int v2)]) F dX8_droneAtRank_115 5 rfl rfl (lt_L hNL (by decide)) rfl ?_
        refine V_goto (tgt := 22) F dX8_droneAtRank_118 (by decide) ?_
        refine V_sub [3, 4, 5, 1, 0] rfl ?_
        exact hk22 v0 v1 v2 (v3 + 0) (v4 + 1) μ
      · refine V_sub [1, 2, 3, 5] rfl ?_
        exact VX8_droneAtRank_B108 F M hNL hk22 v0 v1 v2 v4 v3 μ
def FX8_droneAtRank_B22 (k7 : Nat → Int32 → Int32 → Me → Rs Int32) (k22 : Nat → Int32 → Int32 → Int32 → Int32 → Me → Rs Int32) (v0 : Nat) (v1 : Int32) (v2 : Int32) (v3 : Int32) (v4 : Int32) (μ : Me) : Rs Int32 :=
  (gR μ v0 8 5 (fun x8 => (aI μ x8 0 (fun x9 => (if x9 ≤ v4 then (if v3 = v1 then (rt v2 μ) else (k7 v0 v1 (v2 + 1) μ)) else (gR μ v0 8 5 (fun x14 => (bnd (FX8_of v2 2 μ) (fun x16 μ15 => (aI μ15 x14 x16 (fun x17 => (gR μ15 v0 8 5 (fun x18 => (bnd (FX8_of v4 2 μ15) (fun x20 μ19 => (aI μ19 x18 x20 (fun x21 => (if (x17 - x21) = 0 then (gR μ19 v0 8 5 (fun x24 => (bnd (FX8_of v4 1 μ19) (fun x26 μ25 => (aI μ25 x24 x26 (fun x27 => (gR μ25 v0 8 5 (fun x28 => (bnd (FX8_of v2 1 μ25) (fun x30 μ29 => (aI μ29 x28 x30 (fun x31 => (FX8_droneAtRank_B89 k22 v0 v1 v2 v3 v4 (x27 - x31) μ29))))))))))))) else (FX8_droneAtRank_B89 k22 v0 v1 v2 v3 v4 (x17 - x21) μ19)))))))))))))))))))
set_option maxHeartbeats 4000000 in
set_option maxRecDepth 100000 in
theorem VX8_droneAtRank_B22 {κ : Cx} {ρ : (Int32 ⊕ String) × Me} (F : Fx κ cX8_droneAtRank RX8) (M : Mx κ (fun r : Int32 => some (.int r)) ρ rmX8_droneAtRank (some .int) [] "droneAtRank") (hNL : κ.2.2.2.2.2.2.2.2.2.2.2.2.2.2 = 6) {k7 : Nat → Int32 → Int32 → Me → Rs Int32} {k22 : Nat → Int32 → Int32 → Int32 → Int32 → Me → Rs Int32} (hk7 : ∀ (v0 : Nat) (v1 : Int32) (v2 : Int32) (μ : Me), V κ ρ 0 0 μ (k7 v0 v1 v2 μ) 7 [(0, .ref v0), (1, .int v1), (2, .int v2)] []) (hk22 : ∀ (v0 : Nat) (v1 : Int32) (v2 : Int32) (v3 : Int32) (v4 : Int32) (μ : Me), V κ ρ 0 0 μ (k22 v0 v1 v2 v3 v4 μ) 22 [(0, .ref v0), (1, .int v1), (2, .int v2), (3, .int v3), (4, .int v4)] []) (v0 : Nat) (v1 : Int32) (v2 : Int32) (v3 : Int32) (v4 : Int32) (μ : Me) : V κ ρ 0 0 μ (FX8_droneAtRank_B22 k7 k22 v0 v1 v2 v3 v4 μ) 22 [(0, .ref v0), (1, .int v1), (2, .int v2), (3, .int v3), (4, .int v4)] [] := by
  unfold FX8_droneAtRank_B22
  refine V_iload F dX8_droneAtRank_22 4 rfl ?_
  refine V_aload_n F dX8_droneAtRank_24 rfl 0 rfl ?_
  refine V_gR (ci := 8) (k9 := 5) (C := RX8) (T := TX8) (N := 22) F rfl hinX8 (by decide) q1213 dX8_droneAtRank_25 (fun x8 => ?_)
  refine V_iconst (v := 0) F dX8_droneAtRank_28 (by decide) ?_
  refine V_aI F dX8_droneAtRank_29 (fun x9 => ?_)
  refine V_icmp_ge (tgt := 121) F dX8_droneAtRank_30 (by decide) (fun c10 => ?_) (fun c11 => ?_)
  · refine V_iload_n F dX8_droneAtRank_121 rfl 3 rfl ?_
    refine V_iload_n F dX8_droneAtRank_122 rfl 1 rfl ?_
    refine V_icmp_ne (tgt := 128) F dX8_droneAtRank_123 (by decide) (fun c12 => ?_) (fun c13 => ?_)
    · refine V_iinc (lv' := [(2, .int (v2 + 1)), (0, .ref v0), (1, .int v1), (3, .int v3), (4, .int v4)]) F dX8_droneAtRank_128 2 rfl rfl (lt_L hNL (by decide)) rfl ?_
      refine V_goto (tgt := 7) F dX8_droneAtRank_131 (by decide) ?_
      refine V_sub [1, 2, 0] rfl ?_
      exact hk7 v0 v1 (v2 + 1) μ
    · refine V_iload_n F dX8_droneAtRank_126 rfl 2 rfl ?_
      exact V_iret F M dX8_droneAtRank_127 rfl (by decide) (by decide)
  · refine V_aload_n F dX8_droneAtRank_33 rfl 0 rfl ?_
    refine V_gR (ci := 8) (k9 := 5) (C := RX8) (T := TX8) (N := 22) F rfl hinX8 (by decide) q1213 dX8_droneAtRank_34 (fun x14 => ?_)
    refine V_iload_n F dX8_droneAtRank_37 rfl 2 rfl ?_
    refine V_iconst (v := 2) F dX8_droneAtRank_38 (by decide) ?_
    refine V_cS (As := [.int v2, .int 2]) (rest := [.ref x14]) (N := 2) F M (metX8_of (Fx_G F) (Fx_l F) v2 2 μ) q1310 q72 q1308 q1309 ⟨by decide +kernel, by decide +kernel, by decide +kernel⟩ rfl ⟨by decide, by decide⟩ (Nat.le_of_ble_eq_true rfl) dX8_droneAtRank_39 (by decide) (by decide) (fun x16 μ15 => ?_)
    change V κ ρ 0 0 μ15 _ 42 [(0, .ref v0), (1, .int v1), (2, .int v2), (3, .int v3), (4, .int v4)] [.int x16, .ref x14]
    refine V_aI F dX8_droneAtRank_42 (fun x17 => ?_)
    refine V_aload_n F dX8_droneAtRank_43 rfl 0 rfl ?_
    refine V_gR (ci := 8) (k9 := 5) (C := RX8) (T := TX8) (N := 22) F rfl hinX8 (by decide) q1213 dX8_droneAtRank_44 (fun x18 => ?_)
    refine V_iload F dX8_droneAtRank_47 4 rfl ?_
    refine V_iconst (v := 2) F dX8_droneAtRank_49 (by decide) ?_
    refine V_cS (As := [.int v4, .int 2]) (rest := [.ref x18, .int x17]) (N := 2) F M (metX8_of (Fx_G F) (Fx_l F) v4 2 μ15) q1310 q72 q1308 q1309 ⟨by decide +kernel, by decide +kernel, by decide +kernel⟩ rfl ⟨by decide, by decide⟩ (Nat.le_of_ble_eq_true rfl) dX8_droneAtRank_50 (by decide) (by decide) (fun x20 μ19 => ?_)
    change V κ ρ 0 0 μ19 _ 53 [(0, .ref v0), (1, .int v1), (2, .int v2), (3, .int v3), (4, .int v4)] [.int x20, .ref x18, .int x17]
    refine V_aI F dX8_droneAtRank_53 (fun x21 => ?_)
    refine V_isub F dX8_droneAtRank_54 ?_
    refine V_istore (lv' := [(5, .int (x17 - x21)), (0, .ref v0), (1, .int v1), (2, .int v2), (3, .int v3), (4, .int v4)]) F dX8_droneAtRank_55 (lt_L hNL (by decide)) rfl ?_
    refine V_iload F dX8_droneAtRank_57 0 rfl ?_
    refine V_if_eq (tgt := 67) F dX8_droneAtRank_59 (by decide) (fun c22 => ?_) (fun c23 => ?_)
    · refine V_aload_n F dX8_droneAtRank_67 rfl 1 rfl ?_
      refine V_gR (ci := 8) (k9 := 5) (C := RX8) (T := TX8) (N := 22) F rfl hinX8 (by decide) q1213 dX8_droneAtRank_68 (fun x24 => ?_)
      refine V_iload F dX8_droneAtRank_71 5 rfl ?_
      refine V_iconst (v := 1) F dX8_droneAtRank_73 (by decide) ?_
      refine V_cS (As := [.int v4, .int 1]) (rest := [.ref x24]) (N := 2) F M (metX8_of (Fx_G F) (Fx_l F) v4 1 μ19) q1310 q72 q1308 q1309 ⟨by decide +kernel, by decide +kernel, by decide +kernel⟩ rfl ⟨by decide, by decide⟩ (Nat.le_of_ble_eq_true rfl) dX8_droneAtRank_74 (by decide) (by decide) (fun x26 μ25 => ?_)
      change V κ ρ 0 0 μ25 _ 77 [(5, .int (x17 - x21)), (0, .ref v0), (1, .int v1), (2, .int v2), (3, .int v3), (4, .int v4)] [.int x26, .ref x24]
      refine V_aI F dX8_droneAtRank_77 (fun x27 => ?_)
      refine V_aload_n F dX8_droneAtRank_78 rfl 1 rfl ?_
      refine V_gR (ci := 8) (k9 := 5) (C := RX8) (T := TX8) (N := 22) F rfl hinX8 (by decide) q1213 dX8_droneAtRank_79 (fun x28 => ?_)
      refine V_iload_n F dX8_droneAtRank_82 rfl 3 rfl ?_
      refine V_iconst (v := 1) F dX8_droneAtRank_83 (by decide) ?_
      refine V_cS (As := [.int v2, .int 1]) (rest := [.ref x28, .int x27]) (N := 2) F M (metX8_of (Fx_G F) (Fx_l F) v2 1 μ25) q1310 q72 q1308 q1309 ⟨by decide +kernel, by decide +kernel, by decide +kernel⟩ rfl ⟨by decide, by decide⟩ (Nat.le_of_ble_eq_true rfl) dX8_droneAtRank_84 (by decide) (by decide) (fun x30 μ29 => ?_)
      change V κ ρ 0 0 μ29 _ 87 [(5, .int (x17 - x21)), (0, .ref v0), (1, .int v1), (2, .int v2), (3, .int v3), (4, .int v4)] [.int x30, .ref x28, .int x27]
      refine V_aI F dX8_droneAtRank_87 (fun x31 => ?_)
      refine V_isub F dX8_droneAtRank_88 ?_
      refine V_sub [1, 2, 3, 4, 5] rfl ?_
      exact VX8_droneAtRank_B89 F M hNL hk22 v0 v1 v2 v3 v4 (x27 - x31) μ29
    · refine V_iload F dX8_droneAtRank_62 0 rfl ?_
      refine V_goto (tgt := 89) F dX8_droneAtRank_64 (by decide) ?_
      refine V_sub [1, 2, 3, 4, 5] rfl ?_
      exact VX8_droneAtRank_B89 F M hNL hk22 v0 v1 v2 v3 v4 (x17 - x21) μ19
def FX8_droneAtRank_L22 (k7 : Nat → Int32 → Int32 → Me → Rs Int32) : Nat → Nat → Int32 → Int32 → Int32 → Int32 → Me → Rs Int32
  | 0, _, _, _, _, _, _ => none
  | f + 1, v0, v1, v2, v3, v4, μ => FX8_droneAtRank_B22 k7 (FX8_droneAtRank_L22 k7 f) v0 v1 v2 v3 v4 μ
theorem VX8_droneAtRank_L22 {κ : Cx} {ρ : (Int32 ⊕ String) × Me} (F : Fx κ cX8_droneAtRank RX8) (M : Mx κ (fun r : Int32 => some (.int r)) ρ rmX8_droneAtRank (some .int) [] "droneAtRank") (hNL : κ.2.2.2.2.2.2.2.2.2.2.2.2.2.2 = 6) {k7 : Nat → Int32 → Int32 → Me → Rs Int32} (hk7 : ∀ (v0 : Nat) (v1 : Int32) (v2 : Int32) (μ : Me), V κ ρ 0 0 μ (k7 v0 v1 v2 μ) 7 [(0, .ref v0), (1, .int v1), (2, .int v2)] []) : ∀ (f : Nat) (v0 : Nat) (v1 : Int32) (v2 : Int32) (v3 : Int32) (v4 : Int32) (μ : Me), V κ ρ 0 0 μ (FX8_droneAtRank_L22 k7 f v0 v1 v2 v3 v4 μ) 22 [(0, .ref v0), (1, .int v1), (2, .int v2), (3, .int v3), (4, .int v4)] [] := by
  intro f
  induction f with
  | zero => intros; exact V_none
  | succ f ih => intro v0 v1 v2 v3 v4 μ; exact VX8_droneAtRank_B22 F M hNL hk7 (fun v0 v1 v2 v3 v4 μ => ih v0 v1 v2 v3 v4 μ) v0 v1 v2 v3 v4 μ
def FX8_droneAtRank_B7 (k7 : Nat → Int32 → Int32 → Me → Rs Int32) (v0 : Nat) (v1 : Int32) (v2 : Int32) (μ : Me) : Rs Int32 :=
  (gR μ v0 8 5 (fun x2 => (aI μ x2 0 (fun x3 => (if x3 ≤ v2 then (bnd (vc μ v0 8 (FX8_fail v0 1 μ)) (fun x7 μ6 => (rt x7 μ6))) else (FX8_droneAtRank_L22 k7 FU v0 v1 v2 0 0 μ))))))
set_option maxHeartbeats 4000000 in
set_option maxRecDepth 100000 in
theorem VX8_droneAtRank_B7 {κ : Cx} {ρ : (Int32 ⊕ String) × Me} (F : Fx κ cX8_droneAtRank RX8) (M : Mx κ (fun r : Int32 => some (.int r)) ρ rmX8_droneAtRank (some .int) [] "droneAtRank") (hNL : κ.2.2.2.2.2.2.2.2.2.2.2.2.2.2 = 6) {k7 : Nat → Int32 → Int32 → Me → Rs Int32} (hk7 : ∀ (v0 : Nat) (v1 : Int32) (v2 : Int32) (μ : Me), V κ ρ 0 0 μ (k7 v0 v1 v2 μ) 7 [(0, .ref v0), (1, .int v1), (2, .int v2)] []) (v0 : Nat) (v1 : Int32) (v2 : Int32) (μ : Me) : V κ ρ 0 0 μ (FX8_droneAtRank_B7 k7 v0 v1 v2 μ) 7 [(0, .ref v0), (1, .int v1), (2, .int v2)] [] := by
  unfold FX8_droneAtRank_B7
  refine V_iload_n F dX8_droneAtRank_7 rfl 2 rfl ?_
  refine V_aload_n F dX8_droneAtRank_8 rfl 0 rfl ?_
  refine V_gR (ci := 8) (k9 := 5) (C := RX8) (T := TX8) (N := 22) F rfl hinX8 (by decide) q1213 dX8_droneAtRank_9 (fun x2 => ?_)
  refine V_iconst (v := 0) F dX8_droneAtRank_12 (by decide) ?_
  refine V_aI F dX8_droneAtRank_13 (fun x3 => ?_)
  refine V_icmp_ge (tgt := 134) F dX8_droneAtRank_14 (by decide) (fun c4 => ?_) (fun c5 => ?_)
  · refine V_aload_n F dX8_droneAtRank_134 rfl 0 rfl ?_
    refine V_iconst (v := 1) F dX8_droneAtRank_135 (by decide) ?_
    refine V_cV (As := [.int 1]) (rest := []) (C := RX8) (N := 1) F M (metX8_fail (Fx_G F) (Fx_l F) v0 1 μ) rfl q1303 q72 q1300 q1302 q22 ⟨by decide +kernel, by decide +kernel, by decide +kernel⟩ rfl ⟨by decide, by decide⟩ (Nat.le_of_ble_eq_true rfl) dX8_droneAtRank_136 (by decide) (by decide) (fun x7 μ6 => ?_)
    change V κ ρ 0 0 μ6 _ 139 [(0, .ref v0), (1, .int v1), (2, .int v2)] [.int x7]
    exact V_iret F M dX8_droneAtRank_139 rfl (by decide) (by decide)
  · refine V_iconst (v := 0) F dX8_droneAtRank_17 (by decide) ?_
    refine V_istore_n (lv' := [(3, .int 0), (0, .ref v0), (1, .int v1), (2, .int v2)]) F dX8_droneAtRank_18 rfl (lt_L hNL (by decide)) rfl ?_
    refine V_iconst (v := 0) F dX8_droneAtRank_19 (by decide) ?_
    refine V_istore (lv' := [(4, .int 0), (3, .int 0), (0, .ref v0), (1, .int v1), (2, .int v2)]) F dX8_droneAtRank_20 (lt_L hNL (by decide)) rfl ?_
    refine V_sub [2, 3, 4, 1, 0] rfl ?_
    exact VX8_droneAtRank_L22 F M hNL hk7 FU v0 v1 v2 0 0 μ
def FX8_droneAtRank_L7  : Nat → Nat → Int32 → Int32 → Me → Rs Int32
  | 0, _, _, _, _ => none
  | f + 1, v0, v1, v2, μ => FX8_droneAtRank_B7 (FX8_droneAtRank_L7  f) v0 v1 v2 μ
theorem VX8_droneAtRank_L7 {κ : Cx} {ρ : (Int32 ⊕ String) × Me} (F : Fx κ cX8_droneAtRank RX8) (M : Mx κ (fun r : Int32 => some (.int r)) ρ rmX8_droneAtRank (some .int) [] "droneAtRank") (hNL : κ.2.2.2.2.2.2.2.2.2.2.2.2.2.2 = 6)   : ∀ (f : Nat) (v0 : Nat) (v1 : Int32) (v2 : Int32) (μ : Me), V κ ρ 0 0 μ (FX8_droneAtRank_L7  f v0 v1 v2 μ) 7 [(0, .ref v0), (1, .int v1), (2, .int v2)] [] := by
  intro f
  induction f with
  | zero => intros; exact V_none
  | succ f ih => intro v0 v1 v2 μ; exact VX8_droneAtRank_B7 F M hNL (fun v0 v1 v2 μ => ih v0 v1 v2 μ) v0 v1 v2 μ
def FX8_droneAtRank (a0 : Nat) (p1 : Int32) (μ : Me) : Rs Int32 :=
  (pf μ a0 8 0 (.int 0) (fun μ1 => (FX8_droneAtRank_L7  FU a0 p1 0 μ1)))
set_option maxHeartbeats 4000000 in
set_option maxRecDepth 100000 in
theorem metX8_droneAtRank {l : Launch} {s0 : State} {D : va_G} {aC : Nat → ClassId} (hG : Gl s0 D aC) (hl : l.stackTraces = false) (a0 : Nat) (p1 : Int32) (μ : Me) : Ct l yX8_droneAtRank (ws_ yX8_droneAtRank cX8_droneAtRank 6 (some .int)) rmX8_droneAtRank s0 D aC (fun r : Int32 => some (.int r)) [.ref a0, .int p1] μ (FX8_droneAtRank a0 p1 μ) := by
  refine Ct_of hG hl (by decide +kernel) (Nat.le_of_ble_eq_true rfl) (fun κ ρ hNL F M hκ => ?_)
  have F : Fx κ cX8_droneAtRank RX8 := F
  change V κ ρ 0 0 μ (FX8_droneAtRank a0 p1 μ) 0 [(0, .ref a0), (1, .int p1)] []
  unfold FX8_droneAtRank
  refine V_aload_n F dX8_droneAtRank_0 rfl 0 rfl ?_
  refine V_iconst (v := 0) F dX8_droneAtRank_1 (by decide) ?_
  refine V_pf (ci := 8) (k9 := 0) (C := RX8) (T := TX8) (N := 22) (ty := tyX8) F rfl hinX8 tyX8_ok nmX8 (by decide) q1208 rfl rfl rfl dX8_droneAtRank_2 (fun μ1 => ?_)
  refine V_iconst (v := 0) F dX8_droneAtRank_5 (by decide) ?_
  refine V_istore_n (lv' := [(2, .int 0), (0, .ref a0), (1, .int p1)]) F dX8_droneAtRank_6 rfl (lt_L hNL (by decide)) rfl ?_
  refine V_sub [1, 2, 0] rfl ?_
  exact VX8_droneAtRank_L7 F M hNL  FU a0 p1 0 μ1
/-! DroneLightShowModel.batteryAfter(II)I -/
abbrev rmX8_batteryAfter : Room := { frames := 5, cells := 0, slots := 0, locals := 112 }
def FX8_batteryAfter_B56 (k56 : Nat → Int32 → Int32 → Int32 → Int32 → Me → Rs Int32) (v0 : Nat) (v1 : Int32) (v2 : Int32) (v3 : Int32) (v4 : Int32) (μ : Me) : Rs Int32 :=
  (if v2 ≤ v4 then (gR μ v0 8 5 (fun x19 => (bnd (FX8_of v1 2 μ) (fun x21 μ20 => (aI μ20 x19 x21 (fun x22 => (gR μ20 v0 8 5 (fun x23 => (gR μ20 v0 8 8 (fun x24 => (bnd (FX8_lays x23 x24 μ20) (fun x26 μ25 => (rt x22 μ25))))))))))))) else (bnd (vc μ v0 8 (FX8_tick v0  μ)) (fun x28 μ27 => (k56 v0 v1 v2 (v3 + x28) (v4 + 1) μ27))))
set_option maxHeartbeats 4000000 in
set_option maxRecDepth 100000 in
theorem VX8_batteryAfter_B56 {κ : Cx} {ρ : (Int32 ⊕ String) × Me} (F : Fx κ cX8_batteryAfter RX8) (M : Mx κ (fun r : Int32 => some (.int r)) ρ rmX8_batteryAfter (some .int) [] "batteryAfter") (hNL : κ.2.2.2.2.2.2.2.2.2.2.2.2.2.2 = 5) {k56 : Nat → Int32 → Int32 → Int32 → Int32 → Me → Rs Int32} (hk56 : ∀ (v0 : Nat) (v1 : Int32) (v2 : Int32) (v3 : Int32) (v4 : Int32) (μ : Me), V κ ρ 0 0 μ (k56 v0 v1 v2 v3 v4 μ) 56 [(0, .ref v0), (1, .int v1), (2, .int v2), (3, .int v3), (4, .int v4)] []) (v0 : Nat) (v1 : Int32) (v2 : Int32) (v3 : Int32) (v4 : Int32) (μ : Me) : V κ ρ 0 0 μ (FX8_batteryAfter_B56 k56 v0 v1 v2 v3 v4 μ) 56 [(0, .ref v0), (1, .int v1), (2, .int v2), (3, .int v3), (4, .int v4)] [] := by
  unfold FX8_batteryAfter_B56
  refine V_iload F dX8_batteryAfter_56 4 rfl ?_
  refine V_iload_n F dX8_batteryAfter_58 rfl 2 rfl ?_
  refine V_icmp_ge (tgt := 75) F dX8_batteryAfter_59 (by decide) (fun c17 => ?_) (fun c18 => ?_)
  · refine V_aload_n F dX8_batteryAfter_75 rfl 0 rfl ?_
    refine V_gR (ci := 8) (k9 := 5) (C := RX8) (T := TX8) (N := 22) F rfl hinX8 (by decide) q1213 dX8_batteryAfter_76 (fun x19 => ?_)
    refine V_iload_n F dX8_batteryAfter_79 rfl 1 rfl ?_
    refine V_iconst (v := 2) F dX8_batteryAfter_80 (by decide) ?_
    refine V_cS (As := [.int v1, .int 2]) (rest := [.ref x19]) (N := 2) F M (metX8_of (Fx_G F) (Fx_l F) v1 2 μ) q1310 q72 q1308 q1309 ⟨by decide +kernel, by decide +kernel, by decide +kernel⟩ rfl ⟨by decide, by decide⟩ (Nat.le_of_ble_eq_true rfl) dX8_batteryAfter_81 (by decide) (by decide) (fun x21 μ20 => ?_)
    change V κ ρ 0 0 μ20 _ 84 [(0, .ref v0), (1, .int v1), (2, .int v2), (3, .int v3), (4, .int v4)] [.int x21, .ref x19]
    refine V_aI F dX8_batteryAfter_84 (fun x22 => ?_)
    refine V_istore (lv' := [(4, .int x22), (0, .ref v0), (1, .int v1), (2, .int v2), (3, .int v3)]) F dX8_batteryAfter_85 (lt_L hNL (by decide)) rfl ?_
    refine V_aload_n F dX8_batteryAfter_87 rfl 1 rfl ?_
    refine V_gR (ci := 8) (k9 := 5) (C := RX8) (T := TX8) (N := 22) F rfl hinX8 (by decide) q1213 dX8_batteryAfter_88 (fun x23 => ?_)
    refine V_aload_n F dX8_batteryAfter_91 rfl 1 rfl ?_
    refine V_gR (ci := 8) (k9 := 8) (C := RX8) (T := TX8) (N := 22) F rfl hinX8 (by decide) q1216 dX8_batteryAfter_92 (fun x24 => ?_)
    refine V_cS (As := [.ref x23, .ref x24]) (rest := []) (N := 2) F M (metX8_lays (Fx_G F) (Fx_l F) x23 x24 μ20) q1289 q72 q1287 q1288 ⟨by decide +kernel, by decide +kernel, by decide +kernel⟩ rfl ⟨by decide, by decide⟩ (Nat.le_of_ble_eq_true rfl) dX8_batteryAfter_95 (by decide) (by decide) (fun x26 μ25 => ?_)
    change V κ ρ 0 0 μ25 _ 98 [(4, .int x22), (0, .ref v0), (1, .int v1), (2, .int v2), (3, .int v3)] []
    refine V_iload F dX8_batteryAfter_98 0 rfl ?_
    exact V_iret F M dX8_batteryAfter_100 rfl (by decide) (by decide)
  · refine V_iload_n F dX8_batteryAfter_62 rfl 3 rfl ?_
    refine V_aload_n F dX8_batteryAfter_63 rfl 0 rfl ?_
    refine V_cV (As := []) (rest := [.int v3]) (C := RX8) (N := 0) F M (metX8_tick (Fx_G F) (Fx_l F) v0  μ) rfl q1522 q72 q1519 q1521 q48 ⟨by decide +kernel, by decide +kernel, by decide +kernel⟩ rfl ⟨by decide, by decide⟩ (Nat.le_of_ble_eq_true rfl) dX8_batteryAfter_64 (by decide) (by decide) (fun x28 μ27 => ?_)
    change V κ ρ 0 0 μ27 _ 67 [(0, .ref v0), (1, .int v1), (2, .int v2), (3, .int v3), (4, .int v4)] [.int x28, .int v3]
    refine V_iadd F dX8_batteryAfter_67 ?_
    refine V_istore_n (lv' := [(3, .int (v3 + x28)), (0, .ref v0), (1, .int v1), (2, .int v2), (4, .int v4)]) F dX8_batteryAfter_68 rfl (lt_L hNL (by decide)) rfl ?_
    refine V_iinc (lv' := [(4, .int (v4 + 1)), (3, .int (v3 + x28)), (0, .ref v0), (1, .int v1), (2, .int v2)]) F dX8_batteryAfter_69 4 rfl rfl (lt_L hNL (by decide)) rfl ?_
    refine V_goto (tgt := 56) F dX8_batteryAfter_72 (by decide) ?_
    refine V_sub [2, 3, 4, 1, 0] rfl ?_
    exact hk56 v0 v1 v2 (v3 + x28) (v4 + 1) μ27
def FX8_batteryAfter_L56  : Nat → Nat → Int32 → Int32 → Int32 → Int32 → Me → Rs Int32
  | 0, _, _, _, _, _, _ => none
  | f + 1, v0, v1, v2, v3, v4, μ => FX8_batteryAfter_B56 (FX8_batteryAfter_L56  f) v0 v1 v2 v3 v4 μ
theorem VX8_batteryAfter_L56 {κ : Cx} {ρ : (Int32 ⊕ String) × Me} (F : Fx κ cX8_batteryAfter RX8) (M : Mx κ (fun r : Int32 => some (.int r)) ρ rmX8_batteryAfter (some .int) [] "batteryAfter") (hNL : κ.2.2.2.2.2.2.2.2.2.2.2.2.2.2 = 5)   : ∀ (f : Nat) (v0 : Nat) (v1 : Int32) (v2 : Int32) (v3 : Int32) (v4 : Int32) (μ : Me), V κ ρ 0 0 μ (FX8_batteryAfter_L56  f v0 v1 v2 v3 v4 μ) 56 [(0, .ref v0), (1, .int v1), (2, .int v2), (3, .int v3), (4, .int v4)] [] := by
  intro f
  induction f with
  | zero => intros; exact V_none
  | succ f ih => intro v0 v1 v2 v3 v4 μ; exact VX8_batteryAfter_B56 F M hNL (fun v0 v1 v2 v3 v4 μ => ih v0 v1 v2 v3 v4 μ) v0 v1 v2 v3 v4 μ
def FX8_batteryAfter_B28  (v0 : Nat) (v1 : Int32) (v2 : Int32) (t0 : Int32) (t1 : Nat) (μ : Me) : Rs Int32 :=
  (pf μ t1 8 0 (.int t0) (fun μ9 => (gI μ9 v0 8 0 (fun x10 => (if x10 = 0 then (gR μ9 v0 8 8 (fun x13 => (gR μ9 v0 8 5 (fun x14 => (bnd (FX8_lays x13 x14 μ9) (fun x16 μ15 => (FX8_batteryAfter_L56  FU v0 v1 v2 0 0 μ15))))))) else (rt 0 μ9))))))
set_option maxHeartbeats 4000000 in
set_option maxRecDepth 100000 in
theorem VX8_batteryAfter_B28 {κ : Cx} {ρ : (Int32 ⊕ String) × Me} (F : Fx κ cX8_batteryAfter RX8) (M : Mx κ (fun r : Int32 => some (.int r)) ρ rmX8_batteryAfter (some .int) [] "batteryAfter") (hNL : κ.2.2.2.2.2.2.2.2.2.2.2.2.2.2 = 5)   (v0 : Nat) (v1 : Int32) (v2 : Int32) (t0 : Int32) (t1 : Nat) (μ : Me) : V κ ρ 0 0 μ (FX8_batteryAfter_B28  v0 v1 v2 t0 t1 μ) 28 [(0, .ref v0), (1, .int v1), (2, .int v2)] [.int t0, .ref t1] := by
  unfold FX8_batteryAfter_B28
  refine V_pf (ci := 8) (k9 := 0) (C := RX8) (T := TX8) (N := 22) (ty := tyX8) F rfl hinX8 tyX8_ok nmX8 (by decide) q1208 rfl rfl rfl dX8_batteryAfter_28 (fun μ9 => ?_)
  refine V_aload_n F dX8_batteryAfter_31 rfl 0 rfl ?_
  refine V_gI (ci := 8) (k9 := 0) (C := RX8) (T := TX8) (N := 22) F rfl hinX8 (by decide) q1208 dX8_batteryAfter_32 (fun x10 => ?_)
  refine V_if_eq (tgt := 40) F dX8_batteryAfter_35 (by decide) (fun c11 => ?_) (fun c12 => ?_)
  · refine V_aload_n F dX8_batteryAfter_40 rfl 0 rfl ?_
    refine V_gR (ci := 8) (k9 := 8) (C := RX8) (T := TX8) (N := 22) F rfl hinX8 (by decide) q1216 dX8_batteryAfter_41 (fun x13 => ?_)
    refine V_aload_n F dX8_batteryAfter_44 rfl 0 rfl ?_
    refine V_gR (ci := 8) (k9 := 5) (C := RX8) (T := TX8) (N := 22) F rfl hinX8 (by decide) q1213 dX8_batteryAfter_45 (fun x14 => ?_)
    refine V_cS (As := [.ref x13, .ref x14]) (rest := []) (N := 2) F M (metX8_lays (Fx_G F) (Fx_l F) x13 x14 μ9) q1289 q72 q1287 q1288 ⟨by decide +kernel, by decide +kernel, by decide +kernel⟩ rfl ⟨by decide, by decide⟩ (Nat.le_of_ble_eq_true rfl) dX8_batteryAfter_48 (by decide) (by decide) (fun x16 μ15 => ?_)
    change V κ ρ 0 0 μ15 _ 51 [(0, .ref v0), (1, .int v1), (2, .int v2)] []
    refine V_iconst (v := 0) F dX8_batteryAfter_51 (by decide) ?_
    refine V_istore_n (lv' := [(3, .int 0), (0, .ref v0), (1, .int v1), (2, .int v2)]) F dX8_batteryAfter_52 rfl (lt_L hNL (by decide)) rfl ?_
    refine V_iconst (v := 0) F dX8_batteryAfter_53 (by decide) ?_
    refine V_istore (lv' := [(4, .int 0), (3, .int 0), (0, .ref v0), (1, .int v1), (2, .int v2)]) F dX8_batteryAfter_54 (lt_L hNL (by decide)) rfl ?_
    refine V_sub [2, 3, 4, 1, 0] rfl ?_
    exact VX8_batteryAfter_L56 F M hNL  FU v0 v1 v2 0 0 μ15
  · refine V_iconst (v := 0) F dX8_batteryAfter_38 (by decide) ?_
    exact V_iret F M dX8_batteryAfter_39 rfl (by decide) (by decide)
def FX8_batteryAfter (a0 : Nat) (p1 : Int32) (p2 : Int32) (μ : Me) : Rs Int32 :=
  (bnd (vc μ a0 8 (FX8_isDrone a0 p1 μ)) (fun x2 μ1 => (if x2 = 0 then (FX8_batteryAfter_B28  a0 p1 p2 1 a0 μ1) else (bnd (FX8_isIn p2 0 30 μ1) (fun x6 μ5 => (if x6 = 0 then (FX8_batteryAfter_B28  a0 p1 p2 2 a0 μ5) else (FX8_batteryAfter_B28  a0 p1 p2 0 a0 μ5)))))))
set_option maxHeartbeats 4000000 in
set_option maxRecDepth 100000 in
theorem metX8_batteryAfter {l : Launch} {s0 : State} {D : va_G} {aC : Nat → ClassId} (hG : Gl s0 D aC) (hl : l.stackTraces = false) (a0 : Nat) (p1 : Int32) (p2 : Int32) (μ : Me) : Ct l yX8_batteryAfter (ws_ yX8_batteryAfter cX8_batteryAfter 5 (some .int)) rmX8_batteryAfter s0 D aC (fun r : Int32 => some (.int r)) [.ref a0, .int p1, .int p2] μ (FX8_batteryAfter a0 p1 p2 μ) := by
  refine Ct_of hG hl (by decide +kernel) (Nat.le_of_ble_eq_true rfl) (fun κ ρ hNL F M hκ => ?_)
  have F : Fx κ cX8_batteryAfter RX8 := F
  change V κ ρ 0 0 μ (FX8_batteryAfter a0 p1 p2 μ) 0 [(0, .ref a0), (1, .int p1), (2, .int p2)] []
  unfold FX8_batteryAfter
  refine V_aload_n F dX8_batteryAfter_0 rfl 0 rfl ?_
  refine V_aload_n F dX8_batteryAfter_1 rfl 0 rfl ?_
  refine V_iload_n F dX8_batteryAfter_2 rfl 1 rfl ?_
  refine V_cV (As := [.int p1]) (rest := [.ref a0]) (C := RX8) (N := 1) F M (metX8_isDrone (Fx_G F) (Fx_l F) a0 p1 μ) rfl q1342 q72 q1339 q1341 q29 ⟨by decide +kernel, by decide +kernel, by decide +kernel⟩ rfl ⟨by decide, by decide⟩ (Nat.le_of_ble_eq_true rfl) dX8_batteryAfter_3 (by decide) (by decide) (fun x2 μ1 => ?_)
  change V κ ρ 0 0 μ1 _ 6 [(0, .ref a0), (1, .int p1), (2, .int p2)] [.int x2, .ref a0]
  refine V_if_ne (tgt := 13) F dX8_batteryAfter_6 (by decide) (fun c3 => ?_) (fun c4 => ?_)
  · refine V_iload_n F dX8_batteryAfter_13 rfl 2 rfl ?_
    refine V_iconst (v := 0) F dX8_batteryAfter_14 (by decide) ?_
    refine V_bipush (v := 30) F dX8_batteryAfter_15 (by decide) ?_
    refine V_cS (As := [.int p2, .int 0, .int 30]) (rest := [.ref a0]) (N := 3) F M (metX8_isIn (Fx_G F) (Fx_l F) p2 0 30 μ1) q1299 q72 q1297 q1298 ⟨by decide +kernel, by decide +kernel, by decide +kernel⟩ rfl ⟨by decide, by decide⟩ (Nat.le_of_ble_eq_true rfl) dX8_batteryAfter_17 (by decide) (by decide) (fun x6 μ5 => ?_)
    change V κ ρ 0 0 μ5 _ 20 [(0, .ref a0), (1, .int p1), (2, .int p2)] [.int x6, .ref a0]
    refine V_if_eq (tgt := 27) F dX8_batteryAfter_20 (by decide) (fun c7 => ?_) (fun c8 => ?_)
    · refine V_iconst (v := 2) F dX8_batteryAfter_27 (by decide) ?_
      refine V_sub [0, 1, 2] rfl ?_
      exact VX8_batteryAfter_B28 F M hNL  a0 p1 p2 2 a0 μ5
    · refine V_iconst (v := 0) F dX8_batteryAfter_23 (by decide) ?_
      refine V_goto (tgt := 28) F dX8_batteryAfter_24 (by decide) ?_
      refine V_sub [0, 1, 2] rfl ?_
      exact VX8_batteryAfter_B28 F M hNL  a0 p1 p2 0 a0 μ5
  · refine V_iconst (v := 1) F dX8_batteryAfter_9 (by decide) ?_
    refine V_goto (tgt := 28) F dX8_batteryAfter_10 (by decide) ?_
    refine V_sub [0, 1, 2] rfl ?_
    exact VX8_batteryAfter_B28 F M hNL  a0 p1 p2 1 a0 μ1
/-! DroneLightShowModel.addsCue(III)I -/
abbrev rmX8_addsCue : Room := { frames := 2, cells := 0, slots := 0, locals := 43 }
def FX8_addsCue_B41  (v0 : Nat) (μ : Me) : Rs Int32 :=
  (bnd (vc μ v0 8 (FX8_fail v0 2 μ)) (fun x10 μ9 => (rt x10 μ9)))
set_option maxHeartbeats 4000000 in
set_option maxRecDepth 100000 in
theorem VX8_addsCue_B41 {κ : Cx} {ρ : (Int32 ⊕ String) × Me} (F : Fx κ cX8_addsCue RX8) (M : Mx κ (fun r : Int32 => some (.int r)) ρ rmX8_addsCue (some .int) [] "addsCue") (hNL : κ.2.2.2.2.2.2.2.2.2.2.2.2.2.2 = 5)   (v0 : Nat) (μ : Me) : V κ ρ 0 0 μ (FX8_addsCue_B41  v0 μ) 41 [(0, .ref v0)] [] := by
  unfold FX8_addsCue_B41
  refine V_aload_n F dX8_addsCue_41 rfl 0 rfl ?_
  refine V_iconst (v := 2) F dX8_addsCue_42 (by decide) ?_
  refine V_cV (As := [.int 2]) (rest := []) (C := RX8) (N := 1) F M (metX8_fail (Fx_G F) (Fx_l F) v0 2 μ) rfl q1303 q72 q1300 q1302 q22 ⟨by decide +kernel, by decide +kernel, by decide +kernel⟩ rfl ⟨by decide, by decide⟩ (Nat.le_of_ble_eq_true rfl) dX8_addsCue_43 (by decide) (by decide) (fun x10 μ9 => ?_)
  change V κ ρ 0 0 μ9 _ 46 [(0, .ref v0)] [.int x10]
  exact V_iret F M dX8_addsCue_46 rfl (by decide) (by decide)
def FX8_addsCue (a0 : Nat) (p1 : Int32) (p2 : Int32) (p3 : Int32) (μ : Me) : Rs Int32 :=
  (bnd (vc μ a0 8 (FX8_isDrone a0 p1 μ)) (fun x2 μ1 => (if x2 = 0 then (bnd (vc μ1 a0 8 (FX8_fail a0 1 μ1)) (fun x37 μ36 => (rt x37 μ36))) else (gR μ1 a0 8 5 (fun x5 => (aI μ1 x5 3 (fun x6 => (if p2 ≤ x6 then (FX8_addsCue_B41  a0 μ1) else (if 999 < p2 then (FX8_addsCue_B41  a0 μ1) else (bnd (FX8_isIn p3 0 7 μ1) (fun x14 μ13 => (if x14 = 0 then (FX8_addsCue_B41  a0 μ13) else (gR μ13 a0 8 5 (fun x17 => (aI μ13 x17 8 (fun x18 => (if x18 = 12 then (bnd (vc μ13 a0 8 (FX8_fail a0 3 μ13)) (fun x35 μ34 => (rt x35 μ34))) else (gR μ13 a0 8 5 (fun x21 => (aI μ13 x21 8 (fun x22 => (gR μ13 a0 8 5 (fun x23 => (sI μ13 x23 (81 + (3 * x22)) p1 (fun μ24 => (gR μ24 a0 8 5 (fun x25 => (sI μ24 x25 ((81 + (3 * x22)) + 1) p2 (fun μ26 => (gR μ26 a0 8 5 (fun x27 => (sI μ26 x27 ((81 + (3 * x22)) + 2) p3 (fun μ28 => (gR μ28 a0 8 5 (fun x29 => (aI μ28 x29 8 (fun x30 => (sI μ28 x29 8 (x30 + 1) (fun μ31 => (gR μ31 a0 8 5 (fun x32 => (aI μ31 x32 8 (fun x33 => (rt x33 μ31))))))))))))))))))))))))))))))))))))))))))))
set_option maxHeartbeats 4000000 in
set_option maxRecDepth 100000 in
theorem metX8_addsCue {l : Launch} {s0 : State} {D : va_G} {aC : Nat → ClassId} (hG : Gl s0 D aC) (hl : l.stackTraces = false) (a0 : Nat) (p1 : Int32) (p2 : Int32) (p3 : Int32) (μ : Me) : Ct l yX8_addsCue (ws_ yX8_addsCue cX8_addsCue 5 (some .int)) rmX8_addsCue s0 D aC (fun r : Int32 => some (.int r)) [.ref a0, .int p1, .int p2, .int p3] μ (FX8_addsCue a0 p1 p2 p3 μ) := by
  refine Ct_of hG hl (by decide +kernel) (Nat.le_of_ble_eq_true rfl) (fun κ ρ hNL F M hκ => ?_)
  have F : Fx κ cX8_addsCue RX8 := F
  change V κ ρ 0 0 μ (FX8_addsCue a0 p1 p2 p3 μ) 0 [(0, .ref a0), (1, .int p1), (2, .int p2), (3, .int p3)] []
  unfold FX8_addsCue
  refine V_aload_n F dX8_addsCue_0 rfl 0 rfl ?_
  refine V_iload_n F dX8_addsCue_1 rfl 1 rfl ?_
  refine V_cV (As := [.int p1]) (rest := []) (C := RX8) (N := 1) F M (metX8_isDrone (Fx_G F) (Fx_l F) a0 p1 μ) rfl q1342 q72 q1339 q1341 q29 ⟨by decide +kernel, by decide +kernel, by decide +kernel⟩ rfl ⟨by decide, by decide⟩ (Nat.le_of_ble_eq_true rfl) dX8_addsCue_2 (by decide) (by decide) (fun x2 μ1 => ?_)
  change V κ ρ 0 0 μ1 _ 5 [(0, .ref a0), (1, .int p1), (2, .int p2), (3, .int p3)] [.int x2]
  refine V_if_ne (tgt := 14) F dX8_addsCue_5 (by decide) (fun c3 => ?_) (fun c4 => ?_)
  · refine V_iload_n F dX8_addsCue_14 rfl 2 rfl ?_
    refine V_aload_n F dX8_addsCue_15 rfl 0 rfl ?_
    refine V_gR (ci := 8) (k9 := 5) (C := RX8) (T := TX8) (N := 22) F rfl hinX8 (by decide) q1213 dX8_addsCue_16 (fun x5 => ?_)
    refine V_iconst (v := 3) F dX8_addsCue_19 (by decide) ?_
    refine V_aI F dX8_addsCue_20 (fun x6 => ?_)
    refine V_icmp_le (tgt := 41) F dX8_addsCue_21 (by decide) (fun c7 => ?_) (fun c8 => ?_)
    · refine V_sub [0] rfl ?_
      exact VX8_addsCue_B41 F M hNL  a0 μ1
    · refine V_iload_n F dX8_addsCue_24 rfl 2 rfl ?_
      refine V_sipush (v := 999) F dX8_addsCue_25 (by decide) ?_
      refine V_icmp_gt (tgt := 41) F dX8_addsCue_28 (by decide) (fun c11 => ?_) (fun c12 => ?_)
      · refine V_sub [0] rfl ?_
        exact VX8_addsCue_B41 F M hNL  a0 μ1
      · refine V_iload_n F dX8_addsCue_31 rfl 3 rfl ?_
        refine V_iconst (v := 0) F dX8_addsCue_32 (by decide) ?_
        refine V_bipush (v := 7) F dX8_addsCue_33 (by decide) ?_
        refine V_cS (As := [.int p3, .int 0, .int 7]) (rest := []) (N := 3) F M (metX8_isIn (Fx_G F) (Fx_l F) p3 0 7 μ1) q1299 q72 q1297 q1298 ⟨by decide +kernel, by decide +kernel, by decide +kernel⟩ rfl ⟨by decide, by decide⟩ (Nat.le_of_ble_eq_true rfl) dX8_addsCue_35 (by decide) (by decide) (fun x14 μ13 => ?_)
        change V κ ρ 0 0 μ13 _ 38 [(0, .ref a0), (1, .int p1), (2, .int p2), (3, .int p3)] [.int x14]
        refine V_if_ne (tgt := 47) F dX8_addsCue_38 (by decide) (fun c15 => ?_) (fun c16 => ?_)
        · refine V_aload_n F dX8_addsCue_47 rfl 0 rfl ?_
          refine V_gR (ci := 8) (k9 := 5) (C := RX8) (T := TX8) (N := 22) F rfl hinX8 (by decide) q1213 dX8_addsCue_48 (fun x17 => ?_)
          refine V_bipush (v := 8) F dX8_addsCue_51 (by decide) ?_
          refine V_aI F dX8_addsCue_53 (fun x18 => ?_)
          refine V_bipush (v := 12) F dX8_addsCue_54 (by decide) ?_
          refine V_icmp_ne (tgt := 65) F dX8_addsCue_56 (by decide) (fun c19 => ?_) (fun c20 => ?_)
          · refine V_bipush (v := 81) F dX8_addsCue_65 (by decide) ?_
            refine V_iconst (v := 3) F dX8_addsCue_67 (by decide) ?_
            refine V_aload_n F dX8_addsCue_68 rfl 0 rfl ?_
            refine V_gR (ci := 8) (k9 := 5) (C := RX8) (T := TX8) (N := 22) F rfl hinX8 (by decide) q1213 dX8_addsCue_69 (fun x21 => ?_)
            refine V_bipush (v := 8) F dX8_addsCue_72 (by decide) ?_
            refine V_aI F dX8_addsCue_74 (fun x22 => ?_)
            refine V_imul F dX8_addsCue_75 ?_
            refine V_iadd F dX8_addsCue_76 ?_
            refine V_istore (lv' := [(4, .int (81 + (3 * x22))), (0, .ref a0), (1, .int p1), (2, .int p2), (3, .int p3)]) F dX8_addsCue_77 (lt_L hNL (by decide)) rfl ?_
            refine V_aload_n F dX8_addsCue_79 rfl 1 rfl ?_
            refine V_gR (ci := 8) (k9 := 5) (C := RX8) (T := TX8) (N := 22) F rfl hinX8 (by decide) q1213 dX8_addsCue_80 (fun x23 => ?_)
            refine V_iload F dX8_addsCue_83 0 rfl ?_
            refine V_iload_n F dX8_addsCue_85 rfl 2 rfl ?_
            refine V_sI F dX8_addsCue_86 (fun μ24 => ?_)
            refine V_aload_n F dX8_addsCue_87 rfl 1 rfl ?_
            refine V_gR (ci := 8) (k9 := 5) (C := RX8) (T := TX8) (N := 22) F rfl hinX8 (by decide) q1213 dX8_addsCue_88 (fun x25 => ?_)
            refine V_iload F dX8_addsCue_91 0 rfl ?_
            refine V_iconst (v := 1) F dX8_addsCue_93 (by decide) ?_
            refine V_iadd F dX8_addsCue_94 ?_
            refine V_iload_n F dX8_addsCue_95 rfl 3 rfl ?_
            refine V_sI F dX8_addsCue_96 (fun μ26 => ?_)
            refine V_aload_n F dX8_addsCue_97 rfl 1 rfl ?_
            refine V_gR (ci := 8) (k9 := 5) (C := RX8) (T := TX8) (N := 22) F rfl hinX8 (by decide) q1213 dX8_addsCue_98 (fun x27 => ?_)
            refine V_iload F dX8_addsCue_101 0 rfl ?_
            refine V_iconst (v := 2) F dX8_addsCue_103 (by decide) ?_
            refine V_iadd F dX8_addsCue_104 ?_
            refine V_iload_n F dX8_addsCue_105 rfl 4 rfl ?_
            refine V_sI F dX8_addsCue_106 (fun μ28 => ?_)
            refine V_aload_n F dX8_addsCue_107 rfl 1 rfl ?_
            refine V_gR (ci := 8) (k9 := 5) (C := RX8) (T := TX8) (N := 22) F rfl hinX8 (by decide) q1213 dX8_addsCue_108 (fun x29 => ?_)
            refine V_bipush (v := 8) F dX8_addsCue_111 (by decide) ?_
            refine V_dup2 F dX8_addsCue_113 rfl rfl ?_
            refine V_aI F dX8_addsCue_114 (fun x30 => ?_)
            refine V_iconst (v := 1) F dX8_addsCue_115 (by decide) ?_
            refine V_iadd F dX8_addsCue_116 ?_
            refine V_sI F dX8_addsCue_117 (fun μ31 => ?_)
            refine V_aload_n F dX8_addsCue_118 rfl 1 rfl ?_
            refine V_gR (ci := 8) (k9 := 5) (C := RX8) (T := TX8) (N := 22) F rfl hinX8 (by decide) q1213 dX8_addsCue_119 (fun x32 => ?_)
            refine V_bipush (v := 8) F dX8_addsCue_122 (by decide) ?_
            refine V_aI F dX8_addsCue_124 (fun x33 => ?_)
            exact V_iret F M dX8_addsCue_125 rfl (by decide) (by decide)
          · refine V_aload_n F dX8_addsCue_59 rfl 0 rfl ?_
            refine V_iconst (v := 3) F dX8_addsCue_60 (by decide) ?_
            refine V_cV (As := [.int 3]) (rest := []) (C := RX8) (N := 1) F M (metX8_fail (Fx_G F) (Fx_l F) a0 3 μ13) rfl q1303 q72 q1300 q1302 q22 ⟨by decide +kernel, by decide +kernel, by decide +kernel⟩ rfl ⟨by decide, by decide⟩ (Nat.le_of_ble_eq_true rfl) dX8_addsCue_61 (by decide) (by decide) (fun x35 μ34 => ?_)
            change V κ ρ 0 0 μ34 _ 64 [(0, .ref a0), (1, .int p1), (2, .int p2), (3, .int p3)] [.int x35]
            exact V_iret F M dX8_addsCue_64 rfl (by decide) (by decide)
        · refine V_sub [0] rfl ?_
          exact VX8_addsCue_B41 F M hNL  a0 μ13
  · refine V_aload_n F dX8_addsCue_8 rfl 0 rfl ?_
    refine V_iconst (v := 1) F dX8_addsCue_9 (by decide) ?_
    refine V_cV (As := [.int 1]) (rest := []) (C := RX8) (N := 1) F M (metX8_fail (Fx_G F) (Fx_l F) a0 1 μ1) rfl q1303 q72 q1300 q1302 q22 ⟨by decide +kernel, by decide +kernel, by decide +kernel⟩ rfl ⟨by decide, by decide⟩ (Nat.le_of_ble_eq_true rfl) dX8_addsCue_10 (by decide) (by decide) (fun x37 μ36 => ?_)
    change V κ ρ 0 0 μ36 _ 13 [(0, .ref a0), (1, .int p1), (2, .int p2), (3, .int p3)] [.int x37]
    exact V_iret F M dX8_addsCue_13 rfl (by decide) (by decide)
/-! DroneLightShowModel.cueColour(III)I -/
abbrev rmX8_cueColour : Room := { frames := 3, cells := 0, slots := 0, locals := 67 }
def FX8_cueColour (a0 : Nat) (p1 : Int32) (p2 : Int32) (p3 : Int32) (μ : Me) : Rs Int32 :=
  (bnd (vc μ a0 8 (FX8_begins a0  μ)) (fun x2 μ1 => (bnd (vc μ1 a0 8 (FX8_addsCue a0 p1 p2 p3 μ1)) (fun x4 μ3 => (bnd (vc μ3 a0 8 (FX8_ends a0 x4 μ3)) (fun x6 μ5 => (rt x6 μ5)))))))
set_option maxHeartbeats 4000000 in
set_option maxRecDepth 100000 in
theorem metX8_cueColour {l : Launch} {s0 : State} {D : va_G} {aC : Nat → ClassId} (hG : Gl s0 D aC) (hl : l.stackTraces = false) (a0 : Nat) (p1 : Int32) (p2 : Int32) (p3 : Int32) (μ : Me) : Ct l yX8_cueColour (ws_ yX8_cueColour cX8_cueColour 4 (some .int)) rmX8_cueColour s0 D aC (fun r : Int32 => some (.int r)) [.ref a0, .int p1, .int p2, .int p3] μ (FX8_cueColour a0 p1 p2 p3 μ) := by
  refine Ct_of hG hl (by decide +kernel) (Nat.le_of_ble_eq_true rfl) (fun κ ρ hNL F M hκ => ?_)
  have F : Fx κ cX8_cueColour RX8 := F
  change V κ ρ 0 0 μ (FX8_cueColour a0 p1 p2 p3 μ) 0 [(0, .ref a0), (1, .int p1), (2, .int p2), (3, .int p3)] []
  unfold FX8_cueColour
  refine V_aload_n F dX8_cueColour_0 rfl 0 rfl ?_
  refine V_cV (As := []) (rest := []) (C := RX8) (N := 0) F M (metX8_begins (Fx_G F) (Fx_l F) a0  μ) rfl q1286 q72 q1283 q1285 q20 ⟨by decide +kernel, by decide +kernel, by decide +kernel⟩ rfl ⟨by decide, by decide⟩ (Nat.le_of_ble_eq_true rfl) dX8_cueColour_1 (by decide) (by decide) (fun x2 μ1 => ?_)
  change V κ ρ 0 0 μ1 _ 4 [(0, .ref a0), (1, .int p1), (2, .int p2), (3, .int p3)] []
  refine V_aload_n F dX8_cueColour_4 rfl 0 rfl ?_
  refine V_aload_n F dX8_cueColour_5 rfl 0 rfl ?_
  refine V_iload_n F dX8_cueColour_6 rfl 1 rfl ?_
  refine V_iload_n F dX8_cueColour_7 rfl 2 rfl ?_
  refine V_iload_n F dX8_cueColour_8 rfl 3 rfl ?_
  refine V_cV (As := [.int p1, .int p2, .int p3]) (rest := [.ref a0]) (C := RX8) (N := 3) F M (metX8_addsCue (Fx_G F) (Fx_l F) a0 p1 p2 p3 μ1) rfl q1589 q72 q1586 q1588 q56 ⟨by decide +kernel, by decide +kernel, by decide +kernel⟩ rfl ⟨by decide, by decide⟩ (Nat.le_of_ble_eq_true rfl) dX8_cueColour_9 (by decide) (by decide) (fun x4 μ3 => ?_)
  change V κ ρ 0 0 μ3 _ 12 [(0, .ref a0), (1, .int p1), (2, .int p2), (3, .int p3)] [.int x4, .ref a0]
  refine V_cV (As := [.int x4]) (rest := []) (C := RX8) (N := 1) F M (metX8_ends (Fx_G F) (Fx_l F) a0 x4 μ3) rfl q1318 q72 q1315 q1317 q25 ⟨by decide +kernel, by decide +kernel, by decide +kernel⟩ rfl ⟨by decide, by decide⟩ (Nat.le_of_ble_eq_true rfl) dX8_cueColour_12 (by decide) (by decide) (fun x6 μ5 => ?_)
  change V κ ρ 0 0 μ5 _ 15 [(0, .ref a0), (1, .int p1), (2, .int p2), (3, .int p3)] [.int x6]
  exact V_iret F M dX8_cueColour_15 rfl (by decide) (by decide)
/-! DroneLightShowModel.cueCount()I -/
abbrev rmX8_cueCount : Room := { frames := 0, cells := 0, slots := 0, locals := 0 }
def FX8_cueCount (a0 : Nat) (μ : Me) : Rs Int32 :=
  (pf μ a0 8 0 (.int 0) (fun μ1 => (gR μ1 a0 8 5 (fun x2 => (aI μ1 x2 8 (fun x3 => (rt x3 μ1)))))))
set_option maxHeartbeats 4000000 in
set_option maxRecDepth 100000 in
theorem metX8_cueCount {l : Launch} {s0 : State} {D : va_G} {aC : Nat → ClassId} (hG : Gl s0 D aC) (hl : l.stackTraces = false) (a0 : Nat) (μ : Me) : Ct l yX8_cueCount (ws_ yX8_cueCount cX8_cueCount 1 (some .int)) rmX8_cueCount s0 D aC (fun r : Int32 => some (.int r)) [.ref a0] μ (FX8_cueCount a0 μ) := by
  refine Ct_of hG hl (by decide +kernel) (Nat.le_of_ble_eq_true rfl) (fun κ ρ hNL F M hκ => ?_)
  have F : Fx κ cX8_cueCount RX8 := F
  change V κ ρ 0 0 μ (FX8_cueCount a0 μ) 0 [(0, .ref a0)] []
  unfold FX8_cueCount
  refine V_aload_n F dX8_cueCount_0 rfl 0 rfl ?_
  refine V_iconst (v := 0) F dX8_cueCount_1 (by decide) ?_
  refine V_pf (ci := 8) (k9 := 0) (C := RX8) (T := TX8) (N := 22) (ty := tyX8) F rfl hinX8 tyX8_ok nmX8 (by decide) q1208 rfl rfl rfl dX8_cueCount_2 (fun μ1 => ?_)
  refine V_aload_n F dX8_cueCount_5 rfl 0 rfl ?_
  refine V_gR (ci := 8) (k9 := 5) (C := RX8) (T := TX8) (N := 22) F rfl hinX8 (by decide) q1213 dX8_cueCount_6 (fun x2 => ?_)
  refine V_bipush (v := 8) F dX8_cueCount_9 (by decide) ?_
  refine V_aI F dX8_cueCount_11 (fun x3 => ?_)
  exact V_iret F M dX8_cueCount_12 rfl (by decide) (by decide)
/-! DroneLightShowModel.nextCueTime()I -/
abbrev rmX8_nextCueTime : Room := { frames := 0, cells := 0, slots := 0, locals := 0 }
def FX8_nextCueTime_B29 (k29 : Nat → Int32 → Int32 → Me → Rs Int32) (v0 : Nat) (v1 : Int32) (v2 : Int32) (μ : Me) : Rs Int32 :=
  (gR μ v0 8 5 (fun x8 => (aI μ x8 8 (fun x9 => (if x9 ≤ v2 then (gI μ v0 8 0 (fun x12 => (if x12 = 0 then (rt v1 μ) else (rt 0 μ)))) else (gR μ v0 8 5 (fun x15 => (aI μ x15 ((81 + (3 * v2)) + 1) (fun x16 => (if v1 ≤ x16 then (k29 v0 v1 (v2 + 1) μ) else (gR μ v0 8 5 (fun x19 => (aI μ x19 ((81 + (3 * v2)) + 1) (fun x20 => (k29 v0 x20 (v2 + 1) μ)))))))))))))))
set_option maxHeartbeats 4000000 in
set_option maxRecDepth 100000 in
theorem VX8_nextCueTime_B29 {κ : Cx} {ρ : (Int32 ⊕ String) × Me} (F : Fx κ cX8_nextCueTime RX8) (M : Mx κ (fun r : Int32 => some (.int r)) ρ rmX8_nextCueTime (some .int) [] "nextCueTime") (hNL : κ.2.2.2.2.2.2.2.2.2.2.2.2.2.2 = 3) {k29 : Nat → Int32 → Int32 → Me → Rs Int32} (hk29 : ∀ (v0 : Nat) (v1 : Int32) (v2 : Int32) (μ : Me), V κ ρ 0 0 μ (k29 v0 v1 v2 μ) 29 [(0, .ref v0), (1, .int v1), (2, .int v2)] []) (v0 : Nat) (v1 : Int32) (v2 : Int32) (μ : Me) : V κ ρ 0 0 μ (FX8_nextCueTime_B29 k29 v0 v1 v2 μ) 29 [(0, .ref v0), (1, .int v1), (2, .int v2)] [] := by
  unfold FX8_nextCueTime_B29
  refine V_iload_n F dX8_nextCueTime_29 rfl 2 rfl ?_
  refine V_aload_n F dX8_nextCueTime_30 rfl 0 rfl ?_
  refine V_gR (ci := 8) (k9 := 5) (C := RX8) (T := TX8) (N := 22) F rfl hinX8 (by decide) q1213 dX8_nextCueTime_31 (fun x8 => ?_)
  refine V_bipush (v := 8) F dX8_nextCueTime_34 (by decide) ?_
  refine V_aI F dX8_nextCueTime_36 (fun x9 => ?_)
  refine V_icmp_ge (tgt := 81) F dX8_nextCueTime_37 (by decide) (fun c10 => ?_) (fun c11 => ?_)
  · refine V_aload_n F dX8_nextCueTime_81 rfl 0 rfl ?_
    refine V_gI (ci := 8) (k9 := 0) (C := RX8) (T := TX8) (N := 22) F rfl hinX8 (by decide) q1208 dX8_nextCueTime_82 (fun x12 => ?_)
    refine V_if_ne (tgt := 92) F dX8_nextCueTime_85 (by decide) (fun c13 => ?_) (fun c14 => ?_)
    · refine V_iconst (v := 0) F dX8_nextCueTime_92 (by decide) ?_
      exact V_iret F M dX8_nextCueTime_93 rfl (by decide) (by decide)
    · refine V_iload_n F dX8_nextCueTime_88 rfl 1 rfl ?_
      refine V_goto (tgt := 93) F dX8_nextCueTime_89 (by decide) ?_
      exact V_iret F M dX8_nextCueTime_93 rfl (by decide) (by decide)
  · refine V_aload_n F dX8_nextCueTime_40 rfl 0 rfl ?_
    refine V_gR (ci := 8) (k9 := 5) (C := RX8) (T := TX8) (N := 22) F rfl hinX8 (by decide) q1213 dX8_nextCueTime_41 (fun x15 => ?_)
    refine V_bipush (v := 81) F dX8_nextCueTime_44 (by decide) ?_
    refine V_iconst (v := 3) F dX8_nextCueTime_46 (by decide) ?_
    refine V_iload_n F dX8_nextCueTime_47 rfl 2 rfl ?_
    refine V_imul F dX8_nextCueTime_48 ?_
    refine V_iadd F dX8_nextCueTime_49 ?_
    refine V_iconst (v := 1) F dX8_nextCueTime_50 (by decide) ?_
    refine V_iadd F dX8_nextCueTime_51 ?_
    refine V_aI F dX8_nextCueTime_52 (fun x16 => ?_)
    refine V_iload_n F dX8_nextCueTime_53 rfl 1 rfl ?_
    refine V_icmp_ge (tgt := 73) F dX8_nextCueTime_54 (by decide) (fun c17 => ?_) (fun c18 => ?_)
    · refine V_iload_n F dX8_nextCueTime_73 rfl 1 rfl ?_
      refine V_istore_n (lv' := [(1, .int v1), (0, .ref v0), (2, .int v2)]) F dX8_nextCueTime_74 rfl (lt_L hNL (by decide)) rfl ?_
      refine V_iinc (lv' := [(2, .int (v2 + 1)), (1, .int v1), (0, .ref v0)]) F dX8_nextCueTime_75 2 rfl rfl (lt_L hNL (by decide)) rfl ?_
      refine V_goto (tgt := 29) F dX8_nextCueTime_78 (by decide) ?_
      refine V_sub [2, 1, 0] rfl ?_
      exact hk29 v0 v1 (v2 + 1) μ
    · refine V_aload_n F dX8_nextCueTime_57 rfl 0 rfl ?_
      refine V_gR (ci := 8) (k9 := 5) (C := RX8) (T := TX8) (N := 22) F rfl hinX8 (by decide) q1213 dX8_nextCueTime_58 (fun x19 => ?_)
      refine V_bipush (v := 81) F dX8_nextCueTime_61 (by decide) ?_
      refine V_iconst (v := 3) F dX8_nextCueTime_63 (by decide) ?_
      refine V_iload_n F dX8_nextCueTime_64 rfl 2 rfl ?_
      refine V_imul F dX8_nextCueTime_65 ?_
      refine V_iadd F dX8_nextCueTime_66 ?_
      refine V_iconst (v := 1) F dX8_nextCueTime_67 (by decide) ?_
      refine V_iadd F dX8_nextCueTime_68 ?_
      refine V_aI F dX8_nextCueTime_69 (fun x20 => ?_)
      refine V_goto (tgt := 74) F dX8_nextCueTime_70 (by decide) ?_
      refine V_istore_n (lv' := [(1, .int x20), (0, .ref v0), (2, .int v2)]) F dX8_nextCueTime_74 rfl (lt_L hNL (by decide)) rfl ?_
      refine V_iinc (lv' := [(2, .int (v2 + 1)), (1, .int x20), (0, .ref v0)]) F dX8_nextCueTime_75 2 rfl rfl (lt_L hNL (by decide)) rfl ?_
      refine V_goto (tgt := 29) F dX8_nextCueTime_78 (by decide) ?_
      refine V_sub [2, 1, 0] rfl ?_
      exact hk29 v0 x20 (v2 + 1) μ
def FX8_nextCueTime_L29  : Nat → Nat → Int32 → Int32 → Me → Rs Int32
  | 0, _, _, _, _ => none
  | f + 1, v0, v1, v2, μ => FX8_nextCueTime_B29 (FX8_nextCueTime_L29  f) v0 v1 v2 μ
theorem VX8_nextCueTime_L29 {κ : Cx} {ρ : (Int32 ⊕ String) × Me} (F : Fx κ cX8_nextCueTime RX8) (M : Mx κ (fun r : Int32 => some (.int r)) ρ rmX8_nextCueTime (some .int) [] "nextCueTime") (hNL : κ.2.2.2.2.2.2.2.2.2.2.2.2.2.2 = 3)   : ∀ (f : Nat) (v0 : Nat) (v1 : Int32) (v2 : Int32) (μ : Me), V κ ρ 0 0 μ (FX8_nextCueTime_L29  f v0 v1 v2 μ) 29 [(0, .ref v0), (1, .int v1), (2, .int v2)] [] := by
  intro f
  induction f with
  | zero => intros; exact V_none
  | succ f ih => intro v0 v1 v2 μ; exact VX8_nextCueTime_B29 F M hNL (fun v0 v1 v2 μ => ih v0 v1 v2 μ) v0 v1 v2 μ
def FX8_nextCueTime_B16  (v0 : Nat) (t0 : Int32) (t1 : Nat) (μ : Me) : Rs Int32 :=
  (pf μ t1 8 0 (.int t0) (fun μ5 => (gR μ5 v0 8 5 (fun x6 => (aI μ5 x6 82 (fun x7 => (FX8_nextCueTime_L29  FU v0 x7 1 μ5)))))))
set_option maxHeartbeats 4000000 in
set_option maxRecDepth 100000 in
theorem VX8_nextCueTime_B16 {κ : Cx} {ρ : (Int32 ⊕ String) × Me} (F : Fx κ cX8_nextCueTime RX8) (M : Mx κ (fun r : Int32 => some (.int r)) ρ rmX8_nextCueTime (some .int) [] "nextCueTime") (hNL : κ.2.2.2.2.2.2.2.2.2.2.2.2.2.2 = 3)   (v0 : Nat) (t0 : Int32) (t1 : Nat) (μ : Me) : V κ ρ 0 0 μ (FX8_nextCueTime_B16  v0 t0 t1 μ) 16 [(0, .ref v0)] [.int t0, .ref t1] := by
  unfold FX8_nextCueTime_B16
  refine V_pf (ci := 8) (k9 := 0) (C := RX8) (T := TX8) (N := 22) (ty := tyX8) F rfl hinX8 tyX8_ok nmX8 (by decide) q1208 rfl rfl rfl dX8_nextCueTime_16 (fun μ5 => ?_)
  refine V_aload_n F dX8_nextCueTime_19 rfl 0 rfl ?_
  refine V_gR (ci := 8) (k9 := 5) (C := RX8) (T := TX8) (N := 22) F rfl hinX8 (by decide) q1213 dX8_nextCueTime_20 (fun x6 => ?_)
  refine V_bipush (v := 82) F dX8_nextCueTime_23 (by decide) ?_
  refine V_aI F dX8_nextCueTime_25 (fun x7 => ?_)
  refine V_istore_n (lv' := [(1, .int x7), (0, .ref v0)]) F dX8_nextCueTime_26 rfl (lt_L hNL (by decide)) rfl ?_
  refine V_iconst (v := 1) F dX8_nextCueTime_27 (by decide) ?_
  refine V_istore_n (lv' := [(2, .int 1), (1, .int x7), (0, .ref v0)]) F dX8_nextCueTime_28 rfl (lt_L hNL (by decide)) rfl ?_
  refine V_sub [2, 1, 0] rfl ?_
  exact VX8_nextCueTime_L29 F M hNL  FU v0 x7 1 μ5
def FX8_nextCueTime (a0 : Nat) (μ : Me) : Rs Int32 :=
  (gR μ a0 8 5 (fun x1 => (aI μ x1 8 (fun x2 => (if x2 = 0 then (FX8_nextCueTime_B16  a0 1 a0 μ) else (FX8_nextCueTime_B16  a0 0 a0 μ))))))
set_option maxHeartbeats 4000000 in
set_option maxRecDepth 100000 in
theorem metX8_nextCueTime {l : Launch} {s0 : State} {D : va_G} {aC : Nat → ClassId} (hG : Gl s0 D aC) (hl : l.stackTraces = false) (a0 : Nat) (μ : Me) : Ct l yX8_nextCueTime (ws_ yX8_nextCueTime cX8_nextCueTime 3 (some .int)) rmX8_nextCueTime s0 D aC (fun r : Int32 => some (.int r)) [.ref a0] μ (FX8_nextCueTime a0 μ) := by
  refine Ct_of hG hl (by decide +kernel) (Nat.le_of_ble_eq_true rfl) (fun κ ρ hNL F M hκ => ?_)
  have F : Fx κ cX8_nextCueTime RX8 := F
  change V κ ρ 0 0 μ (FX8_nextCueTime a0 μ) 0 [(0, .ref a0)] []
  unfold FX8_nextCueTime
  refine V_aload_n F dX8_nextCueTime_0 rfl 0 rfl ?_
  refine V_aload_n F dX8_nextCueTime_1 rfl 0 rfl ?_
  refine V_gR (ci := 8) (k9 := 5) (C := RX8) (T := TX8) (N := 22) F rfl hinX8 (by decide) q1213 dX8_nextCueTime_2 (fun x1 => ?_)
  refine V_bipush (v := 8) F dX8_nextCueTime_5 (by decide) ?_
  refine V_aI F dX8_nextCueTime_7 (fun x2 => ?_)
  refine V_if_ne (tgt := 15) F dX8_nextCueTime_8 (by decide) (fun c3 => ?_) (fun c4 => ?_)
  · refine V_iconst (v := 0) F dX8_nextCueTime_15 (by decide) ?_
    refine V_sub [0] rfl ?_
    exact VX8_nextCueTime_B16 F M hNL  a0 0 a0 μ
  · refine V_iconst (v := 1) F dX8_nextCueTime_11 (by decide) ?_
    refine V_goto (tgt := 16) F dX8_nextCueTime_12 (by decide) ?_
    refine V_sub [0] rfl ?_
    exact VX8_nextCueTime_B16 F M hNL  a0 1 a0 μ
/-! DroneLightShowModel.movedTotal()I -/
abbrev rmX8_movedTotal : Room := { frames := 0, cells := 0, slots := 0, locals := 0 }
def FX8_movedTotal (a0 : Nat) (μ : Me) : Rs Int32 :=
  (pf μ a0 8 0 (.int 0) (fun μ1 => (gR μ1 a0 8 5 (fun x2 => (aI μ1 x2 4 (fun x3 => (rt x3 μ1)))))))
set_option maxHeartbeats 4000000 in
set_option maxRecDepth 100000 in
theorem metX8_movedTotal {l : Launch} {s0 : State} {D : va_G} {aC : Nat → ClassId} (hG : Gl s0 D aC) (hl : l.stackTraces = false) (a0 : Nat) (μ : Me) : Ct l yX8_movedTotal (ws_ yX8_movedTotal cX8_movedTotal 1 (some .int)) rmX8_movedTotal s0 D aC (fun r : Int32 => some (.int r)) [.ref a0] μ (FX8_movedTotal a0 μ) := by
  refine Ct_of hG hl (by decide +kernel) (Nat.le_of_ble_eq_true rfl) (fun κ ρ hNL F M hκ => ?_)
  have F : Fx κ cX8_movedTotal RX8 := F
  change V κ ρ 0 0 μ (FX8_movedTotal a0 μ) 0 [(0, .ref a0)] []
  unfold FX8_movedTotal
  refine V_aload_n F dX8_movedTotal_0 rfl 0 rfl ?_
  refine V_iconst (v := 0) F dX8_movedTotal_1 (by decide) ?_
  refine V_pf (ci := 8) (k9 := 0) (C := RX8) (T := TX8) (N := 22) (ty := tyX8) F rfl hinX8 tyX8_ok nmX8 (by decide) q1208 rfl rfl rfl dX8_movedTotal_2 (fun μ1 => ?_)
  refine V_aload_n F dX8_movedTotal_5 rfl 0 rfl ?_
  refine V_gR (ci := 8) (k9 := 5) (C := RX8) (T := TX8) (N := 22) F rfl hinX8 (by decide) q1213 dX8_movedTotal_6 (fun x2 => ?_)
  refine V_iconst (v := 4) F dX8_movedTotal_9 (by decide) ?_
  refine V_aI F dX8_movedTotal_10 (fun x3 => ?_)
  exact V_iret F M dX8_movedTotal_11 rfl (by decide) (by decide)
/-! DroneLightShowModel.blockedTotal()I -/
abbrev rmX8_blockedTotal : Room := { frames := 0, cells := 0, slots := 0, locals := 0 }
def FX8_blockedTotal (a0 : Nat) (μ : Me) : Rs Int32 :=
  (pf μ a0 8 0 (.int 0) (fun μ1 => (gR μ1 a0 8 5 (fun x2 => (aI μ1 x2 5 (fun x3 => (rt x3 μ1)))))))
set_option maxHeartbeats 4000000 in
set_option maxRecDepth 100000 in
theorem metX8_blockedTotal {l : Launch} {s0 : State} {D : va_G} {aC : Nat → ClassId} (hG : Gl s0 D aC) (hl : l.stackTraces = false) (a0 : Nat) (μ : Me) : Ct l yX8_blockedTotal (ws_ yX8_blockedTotal cX8_blockedTotal 1 (some .int)) rmX8_blockedTotal s0 D aC (fun r : Int32 => some (.int r)) [.ref a0] μ (FX8_blockedTotal a0 μ) := by
  refine Ct_of hG hl (by decide +kernel) (Nat.le_of_ble_eq_true rfl) (fun κ ρ hNL F M hκ => ?_)
  have F : Fx κ cX8_blockedTotal RX8 := F
  change V κ ρ 0 0 μ (FX8_blockedTotal a0 μ) 0 [(0, .ref a0)] []
  unfold FX8_blockedTotal
  refine V_aload_n F dX8_blockedTotal_0 rfl 0 rfl ?_
  refine V_iconst (v := 0) F dX8_blockedTotal_1 (by decide) ?_
  refine V_pf (ci := 8) (k9 := 0) (C := RX8) (T := TX8) (N := 22) (ty := tyX8) F rfl hinX8 tyX8_ok nmX8 (by decide) q1208 rfl rfl rfl dX8_blockedTotal_2 (fun μ1 => ?_)
  refine V_aload_n F dX8_blockedTotal_5 rfl 0 rfl ?_
  refine V_gR (ci := 8) (k9 := 5) (C := RX8) (T := TX8) (N := 22) F rfl hinX8 (by decide) q1213 dX8_blockedTotal_6 (fun x2 => ?_)
  refine V_iconst (v := 5) F dX8_blockedTotal_9 (by decide) ?_
  refine V_aI F dX8_blockedTotal_10 (fun x3 => ?_)
  exact V_iret F M dX8_blockedTotal_11 rfl (by decide) (by decide)
/-! DroneLightShowModel.emergencyTotal()I -/
abbrev rmX8_emergencyTotal : Room := { frames := 0, cells := 0, slots := 0, locals := 0 }
def FX8_emergencyTotal (a0 : Nat) (μ : Me) : Rs Int32 :=
  (pf μ a0 8 0 (.int 0) (fun μ1 => (gR μ1 a0 8 5 (fun x2 => (aI μ1 x2 6 (fun x3 => (rt x3 μ1)))))))
set_option maxHeartbeats 4000000 in
set_option maxRecDepth 100000 in
theorem metX8_emergencyTotal {l : Launch} {s0 : State} {D : va_G} {aC : Nat → ClassId} (hG : Gl s0 D aC) (hl : l.stackTraces = false) (a0 : Nat) (μ : Me) : Ct l yX8_emergencyTotal (ws_ yX8_emergencyTotal cX8_emergencyTotal 1 (some .int)) rmX8_emergencyTotal s0 D aC (fun r : Int32 => some (.int r)) [.ref a0] μ (FX8_emergencyTotal a0 μ) := by
  refine Ct_of hG hl (by decide +kernel) (Nat.le_of_ble_eq_true rfl) (fun κ ρ hNL F M hκ => ?_)
  have F : Fx κ cX8_emergencyTotal RX8 := F
  change V κ ρ 0 0 μ (FX8_emergencyTotal a0 μ) 0 [(0, .ref a0)] []
  unfold FX8_emergencyTotal
  refine V_aload_n F dX8_emergencyTotal_0 rfl 0 rfl ?_
  refine V_iconst (v := 0) F dX8_emergencyTotal_1 (by decide) ?_
  refine V_pf (ci := 8) (k9 := 0) (C := RX8) (T := TX8) (N := 22) (ty := tyX8) F rfl hinX8 tyX8_ok nmX8 (by decide) q1208 rfl rfl rfl dX8_emergencyTotal_2 (fun μ1 => ?_)
  refine V_aload_n F dX8_emergencyTotal_5 rfl 0 rfl ?_
  refine V_gR (ci := 8) (k9 := 5) (C := RX8) (T := TX8) (N := 22) F rfl hinX8 (by decide) q1213 dX8_emergencyTotal_6 (fun x2 => ?_)
  refine V_bipush (v := 6) F dX8_emergencyTotal_9 (by decide) ?_
  refine V_aI F dX8_emergencyTotal_11 (fun x3 => ?_)
  exact V_iret F M dX8_emergencyTotal_12 rfl (by decide) (by decide)
/-! DroneLightShowModel.forcedTotal()I -/
abbrev rmX8_forcedTotal : Room := { frames := 0, cells := 0, slots := 0, locals := 0 }
def FX8_forcedTotal (a0 : Nat) (μ : Me) : Rs Int32 :=
  (pf μ a0 8 0 (.int 0) (fun μ1 => (gR μ1 a0 8 5 (fun x2 => (aI μ1 x2 7 (fun x3 => (rt x3 μ1)))))))
set_option maxHeartbeats 4000000 in
set_option maxRecDepth 100000 in
theorem metX8_forcedTotal {l : Launch} {s0 : State} {D : va_G} {aC : Nat → ClassId} (hG : Gl s0 D aC) (hl : l.stackTraces = false) (a0 : Nat) (μ : Me) : Ct l yX8_forcedTotal (ws_ yX8_forcedTotal cX8_forcedTotal 1 (some .int)) rmX8_forcedTotal s0 D aC (fun r : Int32 => some (.int r)) [.ref a0] μ (FX8_forcedTotal a0 μ) := by
  refine Ct_of hG hl (by decide +kernel) (Nat.le_of_ble_eq_true rfl) (fun κ ρ hNL F M hκ => ?_)
  have F : Fx κ cX8_forcedTotal RX8 := F
  change V κ ρ 0 0 μ (FX8_forcedTotal a0 μ) 0 [(0, .ref a0)] []
  unfold FX8_forcedTotal
  refine V_aload_n F dX8_forcedTotal_0 rfl 0 rfl ?_
  refine V_iconst (v := 0) F dX8_forcedTotal_1 (by decide) ?_
  refine V_pf (ci := 8) (k9 := 0) (C := RX8) (T := TX8) (N := 22) (ty := tyX8) F rfl hinX8 tyX8_ok nmX8 (by decide) q1208 rfl rfl rfl dX8_forcedTotal_2 (fun μ1 => ?_)
  refine V_aload_n F dX8_forcedTotal_5 rfl 0 rfl ?_
  refine V_gR (ci := 8) (k9 := 5) (C := RX8) (T := TX8) (N := 22) F rfl hinX8 (by decide) q1213 dX8_forcedTotal_6 (fun x2 => ?_)
  refine V_bipush (v := 7) F dX8_forcedTotal_9 (by decide) ?_
  refine V_aI F dX8_forcedTotal_11 (fun x3 => ?_)
  exact V_iret F M dX8_forcedTotal_12 rfl (by decide) (by decide)
/-! DroneLightShowModel.append(C)I -/
abbrev rmX8_append : Room := { frames := 1, cells := 0, slots := 0, locals := 22 }
def FX8_append_B30  (v0 : Nat) (v1 : Int32) (t0 : Int32) (t1 : Nat) (μ : Me) : Rs Int32 :=
  (pf μ t1 8 0 (.int t0) (fun μ8 => (gI μ8 v0 8 0 (fun x9 => (if x9 = 0 then (gR μ8 v0 8 11 (fun x12 => (gI μ8 v0 8 16 (fun x13 => (sI μ8 x12 x13 v1 (fun μ14 => (gI μ14 v0 8 16 (fun x15 => (pf μ14 v0 8 16 (.int (x15 + 1)) (fun μ16 => (gI μ16 v0 8 16 (fun x17 => (rt x17 μ16))))))))))))) else (rt 0 μ8))))))
set_option maxHeartbeats 4000000 in
set_option maxRecDepth 100000 in
theorem VX8_append_B30 {κ : Cx} {ρ : (Int32 ⊕ String) × Me} (F : Fx κ cX8_append RX8) (M : Mx κ (fun r : Int32 => some (.int r)) ρ rmX8_append (some .int) [] "append") (hNL : κ.2.2.2.2.2.2.2.2.2.2.2.2.2.2 = 2)   (v0 : Nat) (v1 : Int32) (t0 : Int32) (t1 : Nat) (μ : Me) : V κ ρ 0 0 μ (FX8_append_B30  v0 v1 t0 t1 μ) 30 [(0, .ref v0), (1, .int v1)] [.int t0, .ref t1] := by
  unfold FX8_append_B30
  refine V_pf (ci := 8) (k9 := 0) (C := RX8) (T := TX8) (N := 22) (ty := tyX8) F rfl hinX8 tyX8_ok nmX8 (by decide) q1208 rfl rfl rfl dX8_append_30 (fun μ8 => ?_)
  refine V_aload_n F dX8_append_33 rfl 0 rfl ?_
  refine V_gI (ci := 8) (k9 := 0) (C := RX8) (T := TX8) (N := 22) F rfl hinX8 (by decide) q1208 dX8_append_34 (fun x9 => ?_)
  refine V_if_eq (tgt := 42) F dX8_append_37 (by decide) (fun c10 => ?_) (fun c11 => ?_)
  · refine V_aload_n F dX8_append_42 rfl 0 rfl ?_
    refine V_gR (ci := 8) (k9 := 11) (C := RX8) (T := TX8) (N := 22) F rfl hinX8 (by decide) q1219 dX8_append_43 (fun x12 => ?_)
    refine V_aload_n F dX8_append_46 rfl 0 rfl ?_
    refine V_gI (ci := 8) (k9 := 16) (C := RX8) (T := TX8) (N := 22) F rfl hinX8 (by decide) q1224 dX8_append_47 (fun x13 => ?_)
    refine V_iload_n F dX8_append_50 rfl 1 rfl ?_
    refine V_sI F dX8_append_51 (fun μ14 => ?_)
    refine V_aload_n F dX8_append_52 rfl 0 rfl ?_
    refine V_dup F dX8_append_53 rfl ?_
    refine V_gI (ci := 8) (k9 := 16) (C := RX8) (T := TX8) (N := 22) F rfl hinX8 (by decide) q1224 dX8_append_54 (fun x15 => ?_)
    refine V_iconst (v := 1) F dX8_append_57 (by decide) ?_
    refine V_iadd F dX8_append_58 ?_
    refine V_pf (ci := 8) (k9 := 16) (C := RX8) (T := TX8) (N := 22) (ty := tyX8) F rfl hinX8 tyX8_ok nmX8 (by decide) q1224 rfl rfl rfl dX8_append_59 (fun μ16 => ?_)
    refine V_aload_n F dX8_append_62 rfl 0 rfl ?_
    refine V_gI (ci := 8) (k9 := 16) (C := RX8) (T := TX8) (N := 22) F rfl hinX8 (by decide) q1224 dX8_append_63 (fun x17 => ?_)
    exact V_iret F M dX8_append_66 rfl (by decide) (by decide)
  · refine V_iconst (v := 0) F dX8_append_40 (by decide) ?_
    exact V_iret F M dX8_append_41 rfl (by decide) (by decide)
def FX8_append (a0 : Nat) (p1 : Int32) (μ : Me) : Rs Int32 :=
  (bnd (FX8_isIn p1 32 126 μ) (fun x2 μ1 => (if x2 = 0 then (FX8_append_B30  a0 p1 1 a0 μ1) else (gI μ1 a0 8 16 (fun x5 => (if x5 = 60 then (FX8_append_B30  a0 p1 2 a0 μ1) else (FX8_append_B30  a0 p1 0 a0 μ1)))))))
set_option maxHeartbeats 4000000 in
set_option maxRecDepth 100000 in
theorem metX8_append {l : Launch} {s0 : State} {D : va_G} {aC : Nat → ClassId} (hG : Gl s0 D aC) (hl : l.stackTraces = false) (a0 : Nat) (p1 : Int32) (μ : Me) : Ct l yX8_append (ws_ yX8_append cX8_append 2 (some .int)) rmX8_append s0 D aC (fun r : Int32 => some (.int r)) [.ref a0, .int p1] μ (FX8_append a0 p1 μ) := by
  refine Ct_of hG hl (by decide +kernel) (Nat.le_of_ble_eq_true rfl) (fun κ ρ hNL F M hκ => ?_)
  have F : Fx κ cX8_append RX8 := F
  change V κ ρ 0 0 μ (FX8_append a0 p1 μ) 0 [(0, .ref a0), (1, .int p1)] []
  unfold FX8_append
  refine V_aload_n F dX8_append_0 rfl 0 rfl ?_
  refine V_iload_n F dX8_append_1 rfl 1 rfl ?_
  refine V_bipush (v := 32) F dX8_append_2 (by decide) ?_
  refine V_bipush (v := 126) F dX8_append_4 (by decide) ?_
  refine V_cS (As := [.int p1, .int 32, .int 126]) (rest := [.ref a0]) (N := 3) F M (metX8_isIn (Fx_G F) (Fx_l F) p1 32 126 μ) q1299 q72 q1297 q1298 ⟨by decide +kernel, by decide +kernel, by decide +kernel⟩ rfl ⟨by decide, by decide⟩ (Nat.le_of_ble_eq_true rfl) dX8_append_6 (by decide) (by decide) (fun x2 μ1 => ?_)
  change V κ ρ 0 0 μ1 _ 9 [(0, .ref a0), (1, .int p1)] [.int x2, .ref a0]
  refine V_if_ne (tgt := 16) F dX8_append_9 (by decide) (fun c3 => ?_) (fun c4 => ?_)
  · refine V_aload_n F dX8_append_16 rfl 0 rfl ?_
    refine V_gI (ci := 8) (k9 := 16) (C := RX8) (T := TX8) (N := 22) F rfl hinX8 (by decide) q1224 dX8_append_17 (fun x5 => ?_)
    refine V_bipush (v := 60) F dX8_append_20 (by decide) ?_
    refine V_icmp_ne (tgt := 29) F dX8_append_22 (by decide) (fun c6 => ?_) (fun c7 => ?_)
    · refine V_iconst (v := 0) F dX8_append_29 (by decide) ?_
      refine V_sub [0, 1] rfl ?_
      exact VX8_append_B30 F M hNL  a0 p1 0 a0 μ1
    · refine V_iconst (v := 2) F dX8_append_25 (by decide) ?_
      refine V_goto (tgt := 30) F dX8_append_26 (by decide) ?_
      refine V_sub [0, 1] rfl ?_
      exact VX8_append_B30 F M hNL  a0 p1 2 a0 μ1
  · refine V_iconst (v := 1) F dX8_append_12 (by decide) ?_
    refine V_goto (tgt := 30) F dX8_append_13 (by decide) ?_
    refine V_sub [0, 1] rfl ?_
    exact VX8_append_B30 F M hNL  a0 p1 1 a0 μ1
/-! DroneLightShowModel.sign()I -/
abbrev rmX8_sign : Room := { frames := 0, cells := 0, slots := 0, locals := 0 }
def FX8_sign (a0 : Nat) (μ : Me) : Rs Int32 :=
  (gI μ a0 8 17 (fun x1 => (gI μ a0 8 18 (fun x2 => (if x2 ≤ x1 then (rt (-1) μ) else (gR μ a0 8 11 (fun x5 => (gI μ a0 8 17 (fun x6 => (aI μ x5 x6 (fun x7 => (rt x7 μ))))))))))))
set_option maxHeartbeats 4000000 in
set_option maxRecDepth 100000 in
theorem metX8_sign {l : Launch} {s0 : State} {D : va_G} {aC : Nat → ClassId} (hG : Gl s0 D aC) (hl : l.stackTraces = false) (a0 : Nat) (μ : Me) : Ct l yX8_sign (ws_ yX8_sign cX8_sign 1 (some .int)) rmX8_sign s0 D aC (fun r : Int32 => some (.int r)) [.ref a0] μ (FX8_sign a0 μ) := by
  refine Ct_of hG hl (by decide +kernel) (Nat.le_of_ble_eq_true rfl) (fun κ ρ hNL F M hκ => ?_)
  have F : Fx κ cX8_sign RX8 := F
  change V κ ρ 0 0 μ (FX8_sign a0 μ) 0 [(0, .ref a0)] []
  unfold FX8_sign
  refine V_aload_n F dX8_sign_0 rfl 0 rfl ?_
  refine V_gI (ci := 8) (k9 := 17) (C := RX8) (T := TX8) (N := 22) F rfl hinX8 (by decide) q1225 dX8_sign_1 (fun x1 => ?_)
  refine V_aload_n F dX8_sign_4 rfl 0 rfl ?_
  refine V_gI (ci := 8) (k9 := 18) (C := RX8) (T := TX8) (N := 22) F rfl hinX8 (by decide) q1226 dX8_sign_5 (fun x2 => ?_)
  refine V_icmp_ge (tgt := 23) F dX8_sign_8 (by decide) (fun c3 => ?_) (fun c4 => ?_)
  · refine V_iconst (v := (-1)) F dX8_sign_23 (by decide) ?_
    exact V_iret F M dX8_sign_24 rfl (by decide) (by decide)
  · refine V_aload_n F dX8_sign_11 rfl 0 rfl ?_
    refine V_gR (ci := 8) (k9 := 11) (C := RX8) (T := TX8) (N := 22) F rfl hinX8 (by decide) q1219 dX8_sign_12 (fun x5 => ?_)
    refine V_aload_n F dX8_sign_15 rfl 0 rfl ?_
    refine V_gI (ci := 8) (k9 := 17) (C := RX8) (T := TX8) (N := 22) F rfl hinX8 (by decide) q1225 dX8_sign_16 (fun x6 => ?_)
    refine V_aI F dX8_sign_19 (fun x7 => ?_)
    refine V_goto (tgt := 24) F dX8_sign_20 (by decide) ?_
    exact V_iret F M dX8_sign_24 rfl (by decide) (by decide)
/-! DroneLightShowModel.mark(I)V -/
abbrev rmX8_mark : Room := { frames := 1, cells := 0, slots := 0, locals := 20 }
def FX8_mark_B22  (v0 : Nat) (t0 : Int32) (t1 : Nat) (μ : Me) : Rs Unit :=
  (gd (vp_nar .boolean t0 = t0) (pf μ t1 8 20 (.int t0) (fun μ8 => (gI μ8 v0 8 17 (fun x10 => (gI μ8 v0 8 20 (fun x11 => (if x11 = 0 then (pf μ8 v0 8 17 (.int (x10 + 1)) (fun μ14 => (rt () μ14))) else (pf μ8 v0 8 17 (.int (x10 + 0)) (fun μ15 => (rt () μ15)))))))))))
set_option maxHeartbeats 4000000 in
set_option maxRecDepth 100000 in
theorem VX8_mark_B22 {κ : Cx} {ρ : (Unit ⊕ String) × Me} (F : Fx κ cX8_mark RX8) (M : Mx κ (fun _ : Unit => none) ρ rmX8_mark none [] "mark") (hNL : κ.2.2.2.2.2.2.2.2.2.2.2.2.2.2 = 2)   (v0 : Nat) (t0 : Int32) (t1 : Nat) (μ : Me) : V κ ρ 0 0 μ (FX8_mark_B22  v0 t0 t1 μ) 22 [(0, .ref v0)] [.int t0, .ref t1] := by
  unfold FX8_mark_B22
  refine V_gd (fun g9 => ?_)
  refine V_pf (ci := 8) (k9 := 20) (C := RX8) (T := TX8) (N := 22) (ty := tyX8) F rfl hinX8 tyX8_ok nmX8 (by decide) q1228 rfl (nar_z g9) (fit_z g9) dX8_mark_22 (fun μ8 => ?_)
  refine V_aload_n F dX8_mark_25 rfl 0 rfl ?_
  refine V_dup F dX8_mark_26 rfl ?_
  refine V_gI (ci := 8) (k9 := 17) (C := RX8) (T := TX8) (N := 22) F rfl hinX8 (by decide) q1225 dX8_mark_27 (fun x10 => ?_)
  refine V_aload_n F dX8_mark_30 rfl 0 rfl ?_
  refine V_gI (ci := 8) (k9 := 20) (C := RX8) (T := TX8) (N := 22) F rfl hinX8 (by decide) q1228 dX8_mark_31 (fun x11 => ?_)
  refine V_if_eq (tgt := 41) F dX8_mark_34 (by decide) (fun c12 => ?_) (fun c13 => ?_)
  · refine V_iconst (v := 1) F dX8_mark_41 (by decide) ?_
    refine V_iadd F dX8_mark_42 ?_
    refine V_pf (ci := 8) (k9 := 17) (C := RX8) (T := TX8) (N := 22) (ty := tyX8) F rfl hinX8 tyX8_ok nmX8 (by decide) q1225 rfl rfl rfl dX8_mark_43 (fun μ14 => ?_)
    exact V_vret F M dX8_mark_46 rfl (by decide) (by decide)
  · refine V_iconst (v := 0) F dX8_mark_37 (by decide) ?_
    refine V_goto (tgt := 42) F dX8_mark_38 (by decide) ?_
    refine V_iadd F dX8_mark_42 ?_
    refine V_pf (ci := 8) (k9 := 17) (C := RX8) (T := TX8) (N := 22) (ty := tyX8) F rfl hinX8 tyX8_ok nmX8 (by decide) q1225 rfl rfl rfl dX8_mark_43 (fun μ15 => ?_)
    exact V_vret F M dX8_mark_46 rfl (by decide) (by decide)
def FX8_mark (a0 : Nat) (p1 : Int32) (μ : Me) : Rs Unit :=
  (gI μ a0 8 20 (fun x1 => (if x1 = 0 then (bnd (vc μ a0 8 (FX8_sign a0  μ)) (fun x5 μ4 => (if x5 = p1 then (FX8_mark_B22  a0 0 a0 μ4) else (FX8_mark_B22  a0 1 a0 μ4)))) else (rt () μ))))
set_option maxHeartbeats 4000000 in
set_option maxRecDepth 100000 in
theorem metX8_mark {l : Launch} {s0 : State} {D : va_G} {aC : Nat → ClassId} (hG : Gl s0 D aC) (hl : l.stackTraces = false) (a0 : Nat) (p1 : Int32) (μ : Me) : Ct l yX8_mark (ws_ yX8_mark cX8_mark 2 none) rmX8_mark s0 D aC (fun _ : Unit => none) [.ref a0, .int p1] μ (FX8_mark a0 p1 μ) := by
  refine Ct_of hG hl (by decide +kernel) (Nat.le_of_ble_eq_true rfl) (fun κ ρ hNL F M hκ => ?_)
  have F : Fx κ cX8_mark RX8 := F
  change V κ ρ 0 0 μ (FX8_mark a0 p1 μ) 0 [(0, .ref a0), (1, .int p1)] []
  unfold FX8_mark
  refine V_aload_n F dX8_mark_0 rfl 0 rfl ?_
  refine V_gI (ci := 8) (k9 := 20) (C := RX8) (T := TX8) (N := 22) F rfl hinX8 (by decide) q1228 dX8_mark_1 (fun x1 => ?_)
  refine V_if_eq (tgt := 8) F dX8_mark_4 (by decide) (fun c2 => ?_) (fun c3 => ?_)
  · refine V_aload_n F dX8_mark_8 rfl 0 rfl ?_
    refine V_aload_n F dX8_mark_9 rfl 0 rfl ?_
    refine V_cV (As := []) (rest := [.ref a0]) (C := RX8) (N := 0) F M (metX8_sign (Fx_G F) (Fx_l F) a0  μ) rfl q1637 q72 q1634 q1636 q60 ⟨by decide +kernel, by decide +kernel, by decide +kernel⟩ rfl ⟨by decide, by decide⟩ (Nat.le_of_ble_eq_true rfl) dX8_mark_10 (by decide) (by decide) (fun x5 μ4 => ?_)
    change V κ ρ 0 0 μ4 _ 13 [(0, .ref a0), (1, .int p1)] [.int x5, .ref a0]
    refine V_iload_n F dX8_mark_13 rfl 1 rfl ?_
    refine V_icmp_eq (tgt := 21) F dX8_mark_14 (by decide) (fun c6 => ?_) (fun c7 => ?_)
    · refine V_iconst (v := 0) F dX8_mark_21 (by decide) ?_
      refine V_sub [0] rfl ?_
      exact VX8_mark_B22 F M hNL  a0 0 a0 μ4
    · refine V_iconst (v := 1) F dX8_mark_17 (by decide) ?_
      refine V_goto (tgt := 22) F dX8_mark_18 (by decide) ?_
      refine V_sub [0] rfl ?_
      exact VX8_mark_B22 F M hNL  a0 1 a0 μ4
  · exact V_vret F M dX8_mark_7 rfl (by decide) (by decide)
/-! DroneLightShowModel.digits(I)I -/
abbrev rmX8_digits : Room := { frames := 1, cells := 0, slots := 0, locals := 22 }
def FX8_digits_B59  (v0 : Nat) (v2 : Int32) (v3 : Int32) (μ : Me) : Rs Int32 :=
  (gI μ v0 8 20 (fun x4 => (if v3 = 0 then (gd (vp_nar .boolean (x4 ||| 1) = (x4 ||| 1)) (pf μ v0 8 20 (.int (x4 ||| 1)) (fun μ9 => (rt v2 μ9)))) else (gd (vp_nar .boolean (x4 ||| 0) = (x4 ||| 0)) (pf μ v0 8 20 (.int (x4 ||| 0)) (fun μ7 => (rt v2 μ7)))))))
set_option maxHeartbeats 4000000 in
set_option maxRecDepth 100000 in
theorem VX8_digits_B59 {κ : Cx} {ρ : (Int32 ⊕ String) × Me} (F : Fx κ cX8_digits RX8) (M : Mx κ (fun r : Int32 => some (.int r)) ρ rmX8_digits (some .int) [] "digits") (hNL : κ.2.2.2.2.2.2.2.2.2.2.2.2.2.2 = 4)   (v0 : Nat) (v2 : Int32) (v3 : Int32) (μ : Me) : V κ ρ 0 0 μ (FX8_digits_B59  v0 v2 v3 μ) 59 [(0, .ref v0), (2, .int v2), (3, .int v3)] [] := by
  unfold FX8_digits_B59
  refine V_aload_n F dX8_digits_59 rfl 0 rfl ?_
  refine V_dup F dX8_digits_60 rfl ?_
  refine V_gI (ci := 8) (k9 := 20) (C := RX8) (T := TX8) (N := 22) F rfl hinX8 (by decide) q1228 dX8_digits_61 (fun x4 => ?_)
  refine V_iload_n F dX8_digits_64 rfl 2 rfl ?_
  refine V_if_ne (tgt := 72) F dX8_digits_65 (by decide) (fun c5 => ?_) (fun c6 => ?_)
  · refine V_iconst (v := 0) F dX8_digits_72 (by decide) ?_
    refine V_ior F dX8_digits_73 ?_
    refine V_gd (fun g8 => ?_)
    refine V_pf (ci := 8) (k9 := 20) (C := RX8) (T := TX8) (N := 22) (ty := tyX8) F rfl hinX8 tyX8_ok nmX8 (by decide) q1228 rfl (nar_z g8) (fit_z g8) dX8_digits_74 (fun μ7 => ?_)
    refine V_iload_n F dX8_digits_77 rfl 1 rfl ?_
    exact V_iret F M dX8_digits_78 rfl (by decide) (by decide)
  · refine V_iconst (v := 1) F dX8_digits_68 (by decide) ?_
    refine V_goto (tgt := 73) F dX8_digits_69 (by decide) ?_
    refine V_ior F dX8_digits_73 ?_
    refine V_gd (fun g10 => ?_)
    refine V_pf (ci := 8) (k9 := 20) (C := RX8) (T := TX8) (N := 22) (ty := tyX8) F rfl hinX8 tyX8_ok nmX8 (by decide) q1228 rfl (nar_z g10) (fit_z g10) dX8_digits_74 (fun μ9 => ?_)
    refine V_iload_n F dX8_digits_77 rfl 1 rfl ?_
    exact V_iret F M dX8_digits_78 rfl (by decide) (by decide)
def FX8_digits_B4 (k4 : Nat → Int32 → Int32 → Int32 → Me → Rs Int32) (v0 : Nat) (v1 : Int32) (v2 : Int32) (v3 : Int32) (μ : Me) : Rs Int32 :=
  (gI μ v0 8 20 (fun x1 => (if x1 = 0 then (if v1 ≤ v3 then (FX8_digits_B59  v0 v2 v3 μ) else (bnd (vc μ v0 8 (FX8_sign v0  μ)) (fun x14 μ13 => (bnd (FX8_isIn x14 48 57 μ13) (fun x16 μ15 => (if x16 = 0 then (FX8_digits_B59  v0 v2 v3 μ15) else (bnd (vc μ15 v0 8 (FX8_sign v0  μ15)) (fun x20 μ19 => (gI μ19 v0 8 17 (fun x21 => (pf μ19 v0 8 17 (.int (x21 + 1)) (fun μ22 => (k4 v0 v1 (((10 * v2) + x20) - 48) (v3 + 1) μ22))))))))))))) else (FX8_digits_B59  v0 v2 v3 μ))))
set_option maxHeartbeats 4000000 in
set_option maxRecDepth 100000 in
theorem VX8_digits_B4 {κ : Cx} {ρ : (Int32 ⊕ String) × Me} (F : Fx κ cX8_digits RX8) (M : Mx κ (fun r : Int32 => some (.int r)) ρ rmX8_digits (some .int) [] "digits") (hNL : κ.2.2.2.2.2.2.2.2.2.2.2.2.2.2 = 4) {k4 : Nat → Int32 → Int32 → Int32 → Me → Rs Int32} (hk4 : ∀ (v0 : Nat) (v1 : Int32) (v2 : Int32) (v3 : Int32) (μ : Me), V κ ρ 0 0 μ (k4 v0 v1 v2 v3 μ) 4 [(0, .ref v0), (1, .int v1), (2, .int v2), (3, .int v3)] []) (v0 : Nat) (v1 : Int32) (v2 : Int32) (v3 : Int32) (μ : Me) : V κ ρ 0 0 μ (FX8_digits_B4 k4 v0 v1 v2 v3 μ) 4 [(0, .ref v0), (1, .int v1), (2, .int v2), (3, .int v3)] [] := by
  unfold FX8_digits_B4
  refine V_aload_n F dX8_digits_4 rfl 0 rfl ?_
  refine V_gI (ci := 8) (k9 := 20) (C := RX8) (T := TX8) (N := 22) F rfl hinX8 (by decide) q1228 dX8_digits_5 (fun x1 => ?_)
  refine V_if_ne (tgt := 59) F dX8_digits_8 (by decide) (fun c2 => ?_) (fun c3 => ?_)
  · refine V_sub [0, 2, 3] rfl ?_
    exact VX8_digits_B59 F M hNL  v0 v2 v3 μ
  · refine V_iload_n F dX8_digits_11 rfl 3 rfl ?_
    refine V_iload_n F dX8_digits_12 rfl 1 rfl ?_
    refine V_icmp_ge (tgt := 59) F dX8_digits_13 (by decide) (fun c11 => ?_) (fun c12 => ?_)
    · refine V_sub [0, 2, 3] rfl ?_
      exact VX8_digits_B59 F M hNL  v0 v2 v3 μ
    · refine V_aload_n F dX8_digits_16 rfl 0 rfl ?_
      refine V_cV (As := []) (rest := []) (C := RX8) (N := 0) F M (metX8_sign (Fx_G F) (Fx_l F) v0  μ) rfl q1637 q72 q1634 q1636 q60 ⟨by decide +kernel, by decide +kernel, by decide +kernel⟩ rfl ⟨by decide, by decide⟩ (Nat.le_of_ble_eq_true rfl) dX8_digits_17 (by decide) (by decide) (fun x14 μ13 => ?_)
      change V κ ρ 0 0 μ13 _ 20 [(0, .ref v0), (1, .int v1), (2, .int v2), (3, .int v3)] [.int x14]
      refine V_bipush (v := 48) F dX8_digits_20 (by decide) ?_
      refine V_bipush (v := 57) F dX8_digits_22 (by decide) ?_
      refine V_cS (As := [.int x14, .int 48, .int 57]) (rest := []) (N := 3) F M (metX8_isIn (Fx_G F) (Fx_l F) x14 48 57 μ13) q1299 q72 q1297 q1298 ⟨by decide +kernel, by decide +kernel, by decide +kernel⟩ rfl ⟨by decide, by decide⟩ (Nat.le_of_ble_eq_true rfl) dX8_digits_24 (by decide) (by decide) (fun x16 μ15 => ?_)
      change V κ ρ 0 0 μ15 _ 27 [(0, .ref v0), (1, .int v1), (2, .int v2), (3, .int v3)] [.int x16]
      refine V_if_eq (tgt := 59) F dX8_digits_27 (by decide) (fun c17 => ?_) (fun c18 => ?_)
      · refine V_sub [0, 2, 3] rfl ?_
        exact VX8_digits_B59 F M hNL  v0 v2 v3 μ15
      · refine V_bipush (v := 10) F dX8_digits_30 (by decide) ?_
        refine V_iload_n F dX8_digits_32 rfl 2 rfl ?_
        refine V_imul F dX8_digits_33 ?_
        refine V_aload_n F dX8_digits_34 rfl 0 rfl ?_
        refine V_cV (As := []) (rest := [.int (10 * v2)]) (C := RX8) (N := 0) F M (metX8_sign (Fx_G F) (Fx_l F) v0  μ15) rfl q1637 q72 q1634 q1636 q60 ⟨by decide +kernel, by decide +kernel, by decide +kernel⟩ rfl ⟨by decide, by decide⟩ (Nat.le_of_ble_eq_true rfl) dX8_digits_35 (by decide) (by decide) (fun x20 μ19 => ?_)
        change V κ ρ 0 0 μ19 _ 38 [(0, .ref v0), (1, .int v1), (2, .int v2), (3, .int v3)] [.int x20, .int (10 * v2)]
        refine V_iadd F dX8_digits_38 ?_
        refine V_bipush (v := 48) F dX8_digits_39 (by decide) ?_
        refine V_isub F dX8_digits_41 ?_
        refine V_istore_n (lv' := [(2, .int (((10 * v2) + x20) - 48)), (0, .ref v0), (1, .int v1), (3, .int v3)]) F dX8_digits_42 rfl (lt_L hNL (by decide)) rfl ?_
        refine V_aload_n F dX8_digits_43 rfl 1 rfl ?_
        refine V_dup F dX8_digits_44 rfl ?_
        refine V_gI (ci := 8) (k9 := 17) (C := RX8) (T := TX8) (N := 22) F rfl hinX8 (by decide) q1225 dX8_digits_45 (fun x21 => ?_)
        refine V_iconst (v := 1) F dX8_digits_48 (by decide) ?_
        refine V_iadd F dX8_digits_49 ?_
        refine V_pf (ci := 8) (k9 := 17) (C := RX8) (T := TX8) (N := 22) (ty := tyX8) F rfl hinX8 tyX8_ok nmX8 (by decide) q1225 rfl rfl rfl dX8_digits_50 (fun μ22 => ?_)
        refine V_iinc (lv' := [(3, .int (v3 + 1)), (2, .int (((10 * v2) + x20) - 48)), (0, .ref v0), (1, .int v1)]) F dX8_digits_53 3 rfl rfl (lt_L hNL (by decide)) rfl ?_
        refine V_goto (tgt := 4) F dX8_digits_56 (by decide) ?_
        refine V_sub [2, 3, 1, 0] rfl ?_
        exact hk4 v0 v1 (((10 * v2) + x20) - 48) (v3 + 1) μ22
def FX8_digits_L4  : Nat → Nat → Int32 → Int32 → Int32 → Me → Rs Int32
  | 0, _, _, _, _, _ => none
  | f + 1, v0, v1, v2, v3, μ => FX8_digits_B4 (FX8_digits_L4  f) v0 v1 v2 v3 μ
theorem VX8_digits_L4 {κ : Cx} {ρ : (Int32 ⊕ String) × Me} (F : Fx κ cX8_digits RX8) (M : Mx κ (fun r : Int32 => some (.int r)) ρ rmX8_digits (some .int) [] "digits") (hNL : κ.2.2.2.2.2.2.2.2.2.2.2.2.2.2 = 4)   : ∀ (f : Nat) (v0 : Nat) (v1 : Int32) (v2 : Int32) (v3 : Int32) (μ : Me), V κ ρ 0 0 μ (FX8_digits_L4  f v0 v1 v2 v3 μ) 4 [(0, .ref v0), (1, .int v1), (2, .int v2), (3, .int v3)] [] := by
  intro f
  induction f with
  | zero => intros; exact V_none
  | succ f ih => intro v0 v1 v2 v3 μ; exact VX8_digits_B4 F M hNL (fun v0 v1 v2 v3 μ => ih v0 v1 v2 v3 μ) v0 v1 v2 v3 μ
def FX8_digits (a0 : Nat) (p1 : Int32) (μ : Me) : Rs Int32 :=
  (FX8_digits_L4  FU a0 p1 0 0 μ)
set_option maxHeartbeats 4000000 in
set_option maxRecDepth 100000 in
theorem metX8_digits {l : Launch} {s0 : State} {D : va_G} {aC : Nat → ClassId} (hG : Gl s0 D aC) (hl : l.stackTraces = false) (a0 : Nat) (p1 : Int32) (μ : Me) : Ct l yX8_digits (ws_ yX8_digits cX8_digits 4 (some .int)) rmX8_digits s0 D aC (fun r : Int32 => some (.int r)) [.ref a0, .int p1] μ (FX8_digits a0 p1 μ) := by
  refine Ct_of hG hl (by decide +kernel) (Nat.le_of_ble_eq_true rfl) (fun κ ρ hNL F M hκ => ?_)
  have F : Fx κ cX8_digits RX8 := F
  change V κ ρ 0 0 μ (FX8_digits a0 p1 μ) 0 [(0, .ref a0), (1, .int p1)] []
  unfold FX8_digits
  refine V_iconst (v := 0) F dX8_digits_0 (by decide) ?_
  refine V_istore_n (lv' := [(2, .int 0), (0, .ref a0), (1, .int p1)]) F dX8_digits_1 rfl (lt_L hNL (by decide)) rfl ?_
  refine V_iconst (v := 0) F dX8_digits_2 (by decide) ?_
  refine V_istore_n (lv' := [(3, .int 0), (2, .int 0), (0, .ref a0), (1, .int p1)]) F dX8_digits_3 rfl (lt_L hNL (by decide)) rfl ?_
  refine V_sub [2, 3, 1, 0] rfl ?_
  exact VX8_digits_L4 F M hNL  FU a0 p1 0 0 μ
/-! DroneLightShowModel.behind(I)I -/
abbrev rmX8_behind : Room := { frames := 2, cells := 0, slots := 0, locals := 45 }
def FX8_behind (a0 : Nat) (p1 : Int32) (μ : Me) : Rs Int32 :=
  (bnd (vc μ a0 8 (FX8_mark a0 32 μ)) (fun x2 μ1 => (gI μ1 a0 8 20 (fun x3 => (if x3 = 0 then (bnd (vc μ1 a0 8 (FX8_digits a0 p1 μ1)) (fun x7 μ6 => (rt x7 μ6))) else (rt 0 μ1))))))
set_option maxHeartbeats 4000000 in
set_option maxRecDepth 100000 in
theorem metX8_behind {l : Launch} {s0 : State} {D : va_G} {aC : Nat → ClassId} (hG : Gl s0 D aC) (hl : l.stackTraces = false) (a0 : Nat) (p1 : Int32) (μ : Me) : Ct l yX8_behind (ws_ yX8_behind cX8_behind 2 (some .int)) rmX8_behind s0 D aC (fun r : Int32 => some (.int r)) [.ref a0, .int p1] μ (FX8_behind a0 p1 μ) := by
  refine Ct_of hG hl (by decide +kernel) (Nat.le_of_ble_eq_true rfl) (fun κ ρ hNL F M hκ => ?_)
  have F : Fx κ cX8_behind RX8 := F
  change V κ ρ 0 0 μ (FX8_behind a0 p1 μ) 0 [(0, .ref a0), (1, .int p1)] []
  unfold FX8_behind
  refine V_aload_n F dX8_behind_0 rfl 0 rfl ?_
  refine V_bipush (v := 32) F dX8_behind_1 (by decide) ?_
  refine V_cV (As := [.int 32]) (rest := []) (C := RX8) (N := 1) F M (metX8_mark (Fx_G F) (Fx_l F) a0 32 μ) rfl q1649 q72 q1646 q1648 q63 ⟨by decide +kernel, by decide +kernel, by decide +kernel⟩ rfl ⟨by decide, by decide⟩ (Nat.le_of_ble_eq_true rfl) dX8_behind_3 (by decide) (by decide) (fun x2 μ1 => ?_)
  change V κ ρ 0 0 μ1 _ 6 [(0, .ref a0), (1, .int p1)] []
  refine V_aload_n F dX8_behind_6 rfl 0 rfl ?_
  refine V_gI (ci := 8) (k9 := 20) (C := RX8) (T := TX8) (N := 22) F rfl hinX8 (by decide) q1228 dX8_behind_7 (fun x3 => ?_)
  refine V_if_eq (tgt := 17) F dX8_behind_10 (by decide) (fun c4 => ?_) (fun c5 => ?_)
  · refine V_aload_n F dX8_behind_17 rfl 0 rfl ?_
    refine V_iload_n F dX8_behind_18 rfl 1 rfl ?_
    refine V_cV (As := [.int p1]) (rest := []) (C := RX8) (N := 1) F M (metX8_digits (Fx_G F) (Fx_l F) a0 p1 μ1) rfl q1641 q72 q1638 q1640 q61 ⟨by decide +kernel, by decide +kernel, by decide +kernel⟩ rfl ⟨by decide, by decide⟩ (Nat.le_of_ble_eq_true rfl) dX8_behind_19 (by decide) (by decide) (fun x7 μ6 => ?_)
    change V κ ρ 0 0 μ6 _ 22 [(0, .ref a0), (1, .int p1)] [.int x7]
    exact V_iret F M dX8_behind_22 rfl (by decide) (by decide)
  · refine V_iconst (v := 0) F dX8_behind_13 (by decide) ?_
    refine V_goto (tgt := 22) F dX8_behind_14 (by decide) ?_
    exact V_iret F M dX8_behind_22 rfl (by decide) (by decide)
/-! DroneLightShowModel.word()I -/
abbrev rmX8_word : Room := { frames := 1, cells := 0, slots := 0, locals := 20 }
def FX8_word_B167 (k25 : Nat → Int32 → Int32 → Me → Rs Int32) (k167 : Nat → Int32 → Int32 → Int32 → Me → Rs Int32) (v0 : Nat) (v1 : Int32) (v2 : Int32) (v4 : Int32) (μ : Me) : Rs Int32 :=
  (if 11 ≤ v4 then (k25 v0 v1 v2 μ) else (gR μ v0 8 13 (fun x20 => (aI μ x20 v4 (fun x21 => (if x21 = 1 then (gR μ v0 8 15 (fun x24 => (aI μ x24 v4 (fun x25 => (gR μ v0 8 15 (fun x26 => (aI μ x26 (v4 + 1) (fun x27 => (if (x25 + v1) = x27 then (k167 v0 v1 v4 (v4 + 1) μ) else (k167 v0 v1 v2 (v4 + 1) μ)))))))))) else (k167 v0 v1 v2 (v4 + 1) μ)))))))
set_option maxHeartbeats 4000000 in
set_option maxRecDepth 100000 in
theorem VX8_word_B167 {κ : Cx} {ρ : (Int32 ⊕ String) × Me} (F : Fx κ cX8_word RX8) (M : Mx κ (fun r : Int32 => some (.int r)) ρ rmX8_word (some .int) [] "word") (hNL : κ.2.2.2.2.2.2.2.2.2.2.2.2.2.2 = 5) {k25 : Nat → Int32 → Int32 → Me → Rs Int32} {k167 : Nat → Int32 → Int32 → Int32 → Me → Rs Int32} (hk25 : ∀ (v0 : Nat) (v1 : Int32) (v2 : Int32) (μ : Me), V κ ρ 0 0 μ (k25 v0 v1 v2 μ) 25 [(0, .ref v0), (1, .int v1), (2, .int v2)] []) (hk167 : ∀ (v0 : Nat) (v1 : Int32) (v2 : Int32) (v4 : Int32) (μ : Me), V κ ρ 0 0 μ (k167 v0 v1 v2 v4 μ) 167 [(0, .ref v0), (1, .int v1), (2, .int v2), (4, .int v4)] []) (v0 : Nat) (v1 : Int32) (v2 : Int32) (v4 : Int32) (μ : Me) : V κ ρ 0 0 μ (FX8_word_B167 k25 k167 v0 v1 v2 v4 μ) 167 [(0, .ref v0), (1, .int v1), (2, .int v2), (4, .int v4)] [] := by
  unfold FX8_word_B167
  refine V_iload F dX8_word_167 3 rfl ?_
  refine V_bipush (v := 11) F dX8_word_169 (by decide) ?_
  refine V_icmp_ge (tgt := 219) F dX8_word_171 (by decide) (fun c18 => ?_) (fun c19 => ?_)
  · refine V_goto (tgt := 25) F dX8_word_219 (by decide) ?_
    refine V_sub [0, 1, 2] rfl ?_
    exact hk25 v0 v1 v2 μ
  · refine V_aload_n F dX8_word_174 rfl 0 rfl ?_
    refine V_gR (ci := 8) (k9 := 13) (C := RX8) (T := TX8) (N := 22) F rfl hinX8 (by decide) q1221 dX8_word_175 (fun x20 => ?_)
    refine V_iload F dX8_word_178 3 rfl ?_
    refine V_aI F dX8_word_180 (fun x21 => ?_)
    refine V_iconst (v := 1) F dX8_word_181 (by decide) ?_
    refine V_icmp_ne (tgt := 211) F dX8_word_182 (by decide) (fun c22 => ?_) (fun c23 => ?_)
    · refine V_iload_n F dX8_word_211 rfl 2 rfl ?_
      refine V_istore_n (lv' := [(2, .int v2), (0, .ref v0), (1, .int v1), (4, .int v4)]) F dX8_word_212 rfl (lt_L hNL (by decide)) rfl ?_
      refine V_iinc (lv' := [(4, .int (v4 + 1)), (2, .int v2), (0, .ref v0), (1, .int v1)]) F dX8_word_213 3 rfl rfl (lt_L hNL (by decide)) rfl ?_
      refine V_goto (tgt := 167) F dX8_word_216 (by decide) ?_
      refine V_sub [2, 3, 1, 0] rfl ?_
      exact hk167 v0 v1 v2 (v4 + 1) μ
    · refine V_aload_n F dX8_word_185 rfl 0 rfl ?_
      refine V_gR (ci := 8) (k9 := 15) (C := RX8) (T := TX8) (N := 22) F rfl hinX8 (by decide) q1223 dX8_word_186 (fun x24 => ?_)
      refine V_iload F dX8_word_189 3 rfl ?_
      refine V_aI F dX8_word_191 (fun x25 => ?_)
      refine V_iload_n F dX8_word_192 rfl 1 rfl ?_
      refine V_iadd F dX8_word_193 ?_
      refine V_aload_n F dX8_word_194 rfl 0 rfl ?_
      refine V_gR (ci := 8) (k9 := 15) (C := RX8) (T := TX8) (N := 22) F rfl hinX8 (by decide) q1223 dX8_word_195 (fun x26 => ?_)
      refine V_iload F dX8_word_198 3 rfl ?_
      refine V_iconst (v := 1) F dX8_word_200 (by decide) ?_
      refine V_iadd F dX8_word_201 ?_
      refine V_aI F dX8_word_202 (fun x27 => ?_)
      refine V_icmp_ne (tgt := 211) F dX8_word_203 (by decide) (fun c28 => ?_) (fun c29 => ?_)
      · refine V_iload_n F dX8_word_211 rfl 2 rfl ?_
        refine V_istore_n (lv' := [(2, .int v2), (0, .ref v0), (1, .int v1), (4, .int v4)]) F dX8_word_212 rfl (lt_L hNL (by decide)) rfl ?_
        refine V_iinc (lv' := [(4, .int (v4 + 1)), (2, .int v2), (0, .ref v0), (1, .int v1)]) F dX8_word_213 3 rfl rfl (lt_L hNL (by decide)) rfl ?_
        refine V_goto (tgt := 167) F dX8_word_216 (by decide) ?_
        refine V_sub [2, 3, 1, 0] rfl ?_
        exact hk167 v0 v1 v2 (v4 + 1) μ
      · refine V_iload F dX8_word_206 3 rfl ?_
        refine V_goto (tgt := 212) F dX8_word_208 (by decide) ?_
        refine V_istore_n (lv' := [(2, .int v4), (0, .ref v0), (1, .int v1), (4, .int v4)]) F dX8_word_212 rfl (lt_L hNL (by decide)) rfl ?_
        refine V_iinc (lv' := [(4, .int (v4 + 1)), (2, .int v4), (0, .ref v0), (1, .int v1)]) F dX8_word_213 3 rfl rfl (lt_L hNL (by decide)) rfl ?_
        refine V_goto (tgt := 167) F dX8_word_216 (by decide) ?_
        refine V_sub [2, 3, 1, 0] rfl ?_
        exact hk167 v0 v1 v4 (v4 + 1) μ
def FX8_word_L167 (k25 : Nat → Int32 → Int32 → Me → Rs Int32) : Nat → Nat → Int32 → Int32 → Int32 → Me → Rs Int32
  | 0, _, _, _, _, _ => none
  | f + 1, v0, v1, v2, v4, μ => FX8_word_B167 k25 (FX8_word_L167 k25 f) v0 v1 v2 v4 μ
theorem VX8_word_L167 {κ : Cx} {ρ : (Int32 ⊕ String) × Me} (F : Fx κ cX8_word RX8) (M : Mx κ (fun r : Int32 => some (.int r)) ρ rmX8_word (some .int) [] "word") (hNL : κ.2.2.2.2.2.2.2.2.2.2.2.2.2.2 = 5) {k25 : Nat → Int32 → Int32 → Me → Rs Int32} (hk25 : ∀ (v0 : Nat) (v1 : Int32) (v2 : Int32) (μ : Me), V κ ρ 0 0 μ (k25 v0 v1 v2 μ) 25 [(0, .ref v0), (1, .int v1), (2, .int v2)] []) : ∀ (f : Nat) (v0 : Nat) (v1 : Int32) (v2 : Int32) (v4 : Int32) (μ : Me), V κ ρ 0 0 μ (FX8_word_L167 k25 f v0 v1 v2 v4 μ) 167 [(0, .ref v0), (1, .int v1), (2, .int v2), (4, .int v4)] [] := by
  intro f
  induction f with
  | zero => intros; exact V_none
  | succ f ih => intro v0 v1 v2 v4 μ; exact VX8_word_B167 F M hNL hk25 (fun v0 v1 v2 v4 μ => ih v0 v1 v2 v4 μ) v0 v1 v2 v4 μ
def FX8_word_B157 (k25 : Nat → Int32 → Int32 → Me → Rs Int32) (v0 : Nat) (v1 : Int32) (v2 : Int32) (t0 : Int32) (t1 : Int32) (t2 : Nat) (μ : Me) : Rs Int32 :=
  (pf μ t2 8 17 (.int (t1 + t0)) (fun μ17 => (FX8_word_L167 k25 FU v0 (v1 + 1) v2 0 μ17)))
set_option maxHeartbeats 4000000 in
set_option maxRecDepth 100000 in
theorem VX8_word_B157 {κ : Cx} {ρ : (Int32 ⊕ String) × Me} (F : Fx κ cX8_word RX8) (M : Mx κ (fun r : Int32 => some (.int r)) ρ rmX8_word (some .int) [] "word") (hNL : κ.2.2.2.2.2.2.2.2.2.2.2.2.2.2 = 5) {k25 : Nat → Int32 → Int32 → Me → Rs Int32} (hk25 : ∀ (v0 : Nat) (v1 : Int32) (v2 : Int32) (μ : Me), V κ ρ 0 0 μ (k25 v0 v1 v2 μ) 25 [(0, .ref v0), (1, .int v1), (2, .int v2)] []) (v0 : Nat) (v1 : Int32) (v2 : Int32) (t0 : Int32) (t1 : Int32) (t2 : Nat) (μ : Me) : V κ ρ 0 0 μ (FX8_word_B157 k25 v0 v1 v2 t0 t1 t2 μ) 157 [(0, .ref v0), (1, .int v1), (2, .int v2)] [.int t0, .int t1, .ref t2] := by
  unfold FX8_word_B157
  refine V_iadd F dX8_word_157 ?_
  refine V_pf (ci := 8) (k9 := 17) (C := RX8) (T := TX8) (N := 22) (ty := tyX8) F rfl hinX8 tyX8_ok nmX8 (by decide) q1225 rfl rfl rfl dX8_word_158 (fun μ17 => ?_)
  refine V_iinc (lv' := [(1, .int (v1 + 1)), (0, .ref v0), (2, .int v2)]) F dX8_word_161 1 rfl rfl (lt_L hNL (by decide)) rfl ?_
  refine V_iconst (v := 0) F dX8_word_164 (by decide) ?_
  refine V_istore (lv' := [(4, .int 0), (1, .int (v1 + 1)), (0, .ref v0), (2, .int v2)]) F dX8_word_165 (lt_L hNL (by decide)) rfl ?_
  refine V_sub [2, 1, 3, 0] rfl ?_
  exact VX8_word_L167 F M hNL hk25 FU v0 (v1 + 1) v2 0 μ17
def FX8_word_B140 (k25 : Nat → Int32 → Int32 → Me → Rs Int32) (v0 : Nat) (v1 : Int32) (v2 : Int32) (v3 : Int32) (t0 : Int32) (t1 : Nat) (μ : Me) : Rs Int32 :=
  (gd (vp_nar .boolean t0 = t0) (pf μ t1 8 20 (.int t0) (fun μ12 => (gI μ12 v0 8 17 (fun x14 => (if v3 = 0 then (FX8_word_B157 k25 v0 v1 v2 0 x14 v0 μ12) else (FX8_word_B157 k25 v0 v1 v2 1 x14 v0 μ12)))))))
set_option maxHeartbeats 4000000 in
set_option maxRecDepth 100000 in
theorem VX8_word_B140 {κ : Cx} {ρ : (Int32 ⊕ String) × Me} (F : Fx κ cX8_word RX8) (M : Mx κ (fun r : Int32 => some (.int r)) ρ rmX8_word (some .int) [] "word") (hNL : κ.2.2.2.2.2.2.2.2.2.2.2.2.2.2 = 5) {k25 : Nat → Int32 → Int32 → Me → Rs Int32} (hk25 : ∀ (v0 : Nat) (v1 : Int32) (v2 : Int32) (μ : Me), V κ ρ 0 0 μ (k25 v0 v1 v2 μ) 25 [(0, .ref v0), (1, .int v1), (2, .int v2)] []) (v0 : Nat) (v1 : Int32) (v2 : Int32) (v3 : Int32) (t0 : Int32) (t1 : Nat) (μ : Me) : V κ ρ 0 0 μ (FX8_word_B140 k25 v0 v1 v2 v3 t0 t1 μ) 140 [(0, .ref v0), (1, .int v1), (2, .int v2), (3, .int v3)] [.int t0, .ref t1] := by
  unfold FX8_word_B140
  refine V_gd (fun g13 => ?_)
  refine V_pf (ci := 8) (k9 := 20) (C := RX8) (T := TX8) (N := 22) (ty := tyX8) F rfl hinX8 tyX8_ok nmX8 (by decide) q1228 rfl (nar_z g13) (fit_z g13) dX8_word_140 (fun μ12 => ?_)
  refine V_aload_n F dX8_word_143 rfl 0 rfl ?_
  refine V_dup F dX8_word_144 rfl ?_
  refine V_gI (ci := 8) (k9 := 17) (C := RX8) (T := TX8) (N := 22) F rfl hinX8 (by decide) q1225 dX8_word_145 (fun x14 => ?_)
  refine V_iload_n F dX8_word_148 rfl 3 rfl ?_
  refine V_if_eq (tgt := 156) F dX8_word_149 (by decide) (fun c15 => ?_) (fun c16 => ?_)
  · refine V_iconst (v := 0) F dX8_word_156 (by decide) ?_
    refine V_sub [0, 1, 2] rfl ?_
    exact VX8_word_B157 F M hNL hk25 v0 v1 v2 0 x14 v0 μ12
  · refine V_iconst (v := 1) F dX8_word_152 (by decide) ?_
    refine V_goto (tgt := 157) F dX8_word_153 (by decide) ?_
    refine V_sub [0, 1, 2] rfl ?_
    exact VX8_word_B157 F M hNL hk25 v0 v1 v2 1 x14 v0 μ12
def FX8_word_B103 (k41 : Nat → Int32 → Int32 → Int32 → Int32 → Me → Rs Int32) (v0 : Nat) (v1 : Int32) (v2 : Int32) (v3 : Int32) (v4 : Int32) (t0 : Int32) (t1 : Int32) (t2 : Int32) (t3 : Nat) (μ : Me) : Rs Int32 :=
  (sI μ t3 t2 (t1 &&& t0) (fun μ38 => (gR μ38 v0 8 13 (fun x39 => (aI μ38 x39 v4 (fun x40 => (if x40 = 1 then (k41 v0 v1 v2 (v3 ||| 1) (v4 + 1) μ38) else (k41 v0 v1 v2 (v3 ||| 0) (v4 + 1) μ38))))))))
set_option maxHeartbeats 4000000 in
set_option maxRecDepth 100000 in
theorem VX8_word_B103 {κ : Cx} {ρ : (Int32 ⊕ String) × Me} (F : Fx κ cX8_word RX8) (M : Mx κ (fun r : Int32 => some (.int r)) ρ rmX8_word (some .int) [] "word") (hNL : κ.2.2.2.2.2.2.2.2.2.2.2.2.2.2 = 5) {k41 : Nat → Int32 → Int32 → Int32 → Int32 → Me → Rs Int32} (hk41 : ∀ (v0 : Nat) (v1 : Int32) (v2 : Int32) (v3 : Int32) (v4 : Int32) (μ : Me), V κ ρ 0 0 μ (k41 v0 v1 v2 v3 v4 μ) 41 [(0, .ref v0), (1, .int v1), (2, .int v2), (3, .int v3), (4, .int v4)] []) (v0 : Nat) (v1 : Int32) (v2 : Int32) (v3 : Int32) (v4 : Int32) (t0 : Int32) (t1 : Int32) (t2 : Int32) (t3 : Nat) (μ : Me) : V κ ρ 0 0 μ (FX8_word_B103 k41 v0 v1 v2 v3 v4 t0 t1 t2 t3 μ) 103 [(0, .ref v0), (1, .int v1), (2, .int v2), (3, .int v3), (4, .int v4)] [.int t0, .int t1, .int t2, .ref t3] := by
  unfold FX8_word_B103
  refine V_iand F dX8_word_103 ?_
  refine V_sI F dX8_word_104 (fun μ38 => ?_)
  refine V_iload_n F dX8_word_105 rfl 3 rfl ?_
  refine V_aload_n F dX8_word_106 rfl 0 rfl ?_
  refine V_gR (ci := 8) (k9 := 13) (C := RX8) (T := TX8) (N := 22) F rfl hinX8 (by decide) q1221 dX8_word_107 (fun x39 => ?_)
  refine V_iload F dX8_word_110 4 rfl ?_
  refine V_aI F dX8_word_112 (fun x40 => ?_)
  refine V_iconst (v := 1) F dX8_word_113 (by decide) ?_
  refine V_icmp_ne (tgt := 121) F dX8_word_114 (by decide) (fun c41 => ?_) (fun c42 => ?_)
  · refine V_iconst (v := 0) F dX8_word_121 (by decide) ?_
    refine V_ior F dX8_word_122 ?_
    refine V_istore_n (lv' := [(3, .int (v3 ||| 0)), (0, .ref v0), (1, .int v1), (2, .int v2), (4, .int v4)]) F dX8_word_123 rfl (lt_L hNL (by decide)) rfl ?_
    refine V_iinc (lv' := [(4, .int (v4 + 1)), (3, .int (v3 ||| 0)), (0, .ref v0), (1, .int v1), (2, .int v2)]) F dX8_word_124 4 rfl rfl (lt_L hNL (by decide)) rfl ?_
    refine V_goto (tgt := 41) F dX8_word_127 (by decide) ?_
    refine V_sub [2, 3, 4, 1, 0] rfl ?_
    exact hk41 v0 v1 v2 (v3 ||| 0) (v4 + 1) μ38
  · refine V_iconst (v := 1) F dX8_word_117 (by decide) ?_
    refine V_goto (tgt := 122) F dX8_word_118 (by decide) ?_
    refine V_ior F dX8_word_122 ?_
    refine V_istore_n (lv' := [(3, .int (v3 ||| 1)), (0, .ref v0), (1, .int v1), (2, .int v2), (4, .int v4)]) F dX8_word_123 rfl (lt_L hNL (by decide)) rfl ?_
    refine V_iinc (lv' := [(4, .int (v4 + 1)), (3, .int (v3 ||| 1)), (0, .ref v0), (1, .int v1), (2, .int v2)]) F dX8_word_124 4 rfl rfl (lt_L hNL (by decide)) rfl ?_
    refine V_goto (tgt := 41) F dX8_word_127 (by decide) ?_
    refine V_sub [2, 3, 4, 1, 0] rfl ?_
    exact hk41 v0 v1 v2 (v3 ||| 1) (v4 + 1) μ38
def FX8_word_B102 (k41 : Nat → Int32 → Int32 → Int32 → Int32 → Me → Rs Int32) (v0 : Nat) (v1 : Int32) (v2 : Int32) (v3 : Int32) (v4 : Int32) (t0 : Int32) (t1 : Int32) (t2 : Nat) (μ : Me) : Rs Int32 :=
  (FX8_word_B103 k41 v0 v1 v2 v3 v4 0 t0 t1 t2 μ)
set_option maxHeartbeats 4000000 in
set_option maxRecDepth 100000 in
theorem VX8_word_B102 {κ : Cx} {ρ : (Int32 ⊕ String) × Me} (F : Fx κ cX8_word RX8) (M : Mx κ (fun r : Int32 => some (.int r)) ρ rmX8_word (some .int) [] "word") (hNL : κ.2.2.2.2.2.2.2.2.2.2.2.2.2.2 = 5) {k41 : Nat → Int32 → Int32 → Int32 → Int32 → Me → Rs Int32} (hk41 : ∀ (v0 : Nat) (v1 : Int32) (v2 : Int32) (v3 : Int32) (v4 : Int32) (μ : Me), V κ ρ 0 0 μ (k41 v0 v1 v2 v3 v4 μ) 41 [(0, .ref v0), (1, .int v1), (2, .int v2), (3, .int v3), (4, .int v4)] []) (v0 : Nat) (v1 : Int32) (v2 : Int32) (v3 : Int32) (v4 : Int32) (t0 : Int32) (t1 : Int32) (t2 : Nat) (μ : Me) : V κ ρ 0 0 μ (FX8_word_B102 k41 v0 v1 v2 v3 v4 t0 t1 t2 μ) 102 [(0, .ref v0), (1, .int v1), (2, .int v2), (3, .int v3), (4, .int v4)] [.int t0, .int t1, .ref t2] := by
  unfold FX8_word_B102
  refine V_iconst (v := 0) F dX8_word_102 (by decide) ?_
  refine V_sub [0, 1, 2, 3, 4] rfl ?_
  exact VX8_word_B103 F M hNL hk41 v0 v1 v2 v3 v4 0 t0 t1 t2 μ
def FX8_word_B41 (k25 : Nat → Int32 → Int32 → Me → Rs Int32) (k41 : Nat → Int32 → Int32 → Int32 → Int32 → Me → Rs Int32) (v0 : Nat) (v1 : Int32) (v2 : Int32) (v3 : Int32) (v4 : Int32) (μ : Me) : Rs Int32 :=
  (if 11 ≤ v4 then (if v3 = 0 then (FX8_word_B140 k25 v0 v1 v2 v3 1 v0 μ) else (FX8_word_B140 k25 v0 v1 v2 v3 0 v0 μ)) else (gR μ v0 8 13 (fun x30 => (aI μ x30 v4 (fun x31 => (gR μ v0 8 15 (fun x32 => (aI μ x32 v4 (fun x33 => (gR μ v0 8 15 (fun x34 => (aI μ x34 (v4 + 1) (fun x35 => (if x35 ≤ (x33 + v1) then (FX8_word_B102 k41 v0 v1 v2 v3 v4 x31 v4 x30 μ) else (gR μ v0 8 14 (fun x43 => (gR μ v0 8 15 (fun x44 => (aI μ x44 v4 (fun x45 => (aI μ x43 (x45 + v1) (fun x46 => (bnd (vc μ v0 8 (FX8_sign v0  μ)) (fun x48 μ47 => (if x46 = x48 then (FX8_word_B103 k41 v0 v1 v2 v3 v4 1 x31 v4 x30 μ47) else (FX8_word_B102 k41 v0 v1 v2 v3 v4 x31 v4 x30 μ47))))))))))))))))))))))))))
set_option maxHeartbeats 4000000 in
set_option maxRecDepth 100000 in
theorem VX8_word_B41 {κ : Cx} {ρ : (Int32 ⊕ String) × Me} (F : Fx κ cX8_word RX8) (M : Mx κ (fun r : Int32 => some (.int r)) ρ rmX8_word (some .int) [] "word") (hNL : κ.2.2.2.2.2.2.2.2.2.2.2.2.2.2 = 5) {k25 : Nat → Int32 → Int32 → Me → Rs Int32} {k41 : Nat → Int32 → Int32 → Int32 → Int32 → Me → Rs Int32} (hk25 : ∀ (v0 : Nat) (v1 : Int32) (v2 : Int32) (μ : Me), V κ ρ 0 0 μ (k25 v0 v1 v2 μ) 25 [(0, .ref v0), (1, .int v1), (2, .int v2)] []) (hk41 : ∀ (v0 : Nat) (v1 : Int32) (v2 : Int32) (v3 : Int32) (v4 : Int32) (μ : Me), V κ ρ 0 0 μ (k41 v0 v1 v2 v3 v4 μ) 41 [(0, .ref v0), (1, .int v1), (2, .int v2), (3, .int v3), (4, .int v4)] []) (v0 : Nat) (v1 : Int32) (v2 : Int32) (v3 : Int32) (v4 : Int32) (μ : Me) : V κ ρ 0 0 μ (FX8_word_B41 k25 k41 v0 v1 v2 v3 v4 μ) 41 [(0, .ref v0), (1, .int v1), (2, .int v2), (3, .int v3), (4, .int v4)] [] := by
  unfold FX8_word_B41
  refine V_iload F dX8_word_41 4 rfl ?_
  refine V_bipush (v := 11) F dX8_word_43 (by decide) ?_
  refine V_icmp_ge (tgt := 130) F dX8_word_45 (by decide) (fun c8 => ?_) (fun c9 => ?_)
  · refine V_aload_n F dX8_word_130 rfl 0 rfl ?_
    refine V_iload_n F dX8_word_131 rfl 3 rfl ?_
    refine V_if_ne (tgt := 139) F dX8_word_132 (by decide) (fun c10 => ?_) (fun c11 => ?_)
    · refine V_iconst (v := 0) F dX8_word_139 (by decide) ?_
      refine V_sub [0, 1, 2, 3] rfl ?_
      exact VX8_word_B140 F M hNL hk25 v0 v1 v2 v3 0 v0 μ
    · refine V_iconst (v := 1) F dX8_word_135 (by decide) ?_
      refine V_goto (tgt := 140) F dX8_word_136 (by decide) ?_
      refine V_sub [0, 1, 2, 3] rfl ?_
      exact VX8_word_B140 F M hNL hk25 v0 v1 v2 v3 1 v0 μ
  · refine V_aload_n F dX8_word_48 rfl 0 rfl ?_
    refine V_gR (ci := 8) (k9 := 13) (C := RX8) (T := TX8) (N := 22) F rfl hinX8 (by decide) q1221 dX8_word_49 (fun x30 => ?_)
    refine V_iload F dX8_word_52 4 rfl ?_
    refine V_dup2 F dX8_word_54 rfl rfl ?_
    refine V_aI F dX8_word_55 (fun x31 => ?_)
    refine V_aload_n F dX8_word_56 rfl 0 rfl ?_
    refine V_gR (ci := 8) (k9 := 15) (C := RX8) (T := TX8) (N := 22) F rfl hinX8 (by decide) q1223 dX8_word_57 (fun x32 => ?_)
    refine V_iload F dX8_word_60 4 rfl ?_
    refine V_aI F dX8_word_62 (fun x33 => ?_)
    refine V_iload_n F dX8_word_63 rfl 1 rfl ?_
    refine V_iadd F dX8_word_64 ?_
    refine V_aload_n F dX8_word_65 rfl 0 rfl ?_
    refine V_gR (ci := 8) (k9 := 15) (C := RX8) (T := TX8) (N := 22) F rfl hinX8 (by decide) q1223 dX8_word_66 (fun x34 => ?_)
    refine V_iload F dX8_word_69 4 rfl ?_
    refine V_iconst (v := 1) F dX8_word_71 (by decide) ?_
    refine V_iadd F dX8_word_72 ?_
    refine V_aI F dX8_word_73 (fun x35 => ?_)
    refine V_icmp_ge (tgt := 102) F dX8_word_74 (by decide) (fun c36 => ?_) (fun c37 => ?_)
    · refine V_sub [0, 1, 2, 3, 4] rfl ?_
      exact VX8_word_B102 F M hNL hk41 v0 v1 v2 v3 v4 x31 v4 x30 μ
    · refine V_aload_n F dX8_word_77 rfl 0 rfl ?_
      refine V_gR (ci := 8) (k9 := 14) (C := RX8) (T := TX8) (N := 22) F rfl hinX8 (by decide) q1222 dX8_word_78 (fun x43 => ?_)
      refine V_aload_n F dX8_word_81 rfl 0 rfl ?_
      refine V_gR (ci := 8) (k9 := 15) (C := RX8) (T := TX8) (N := 22) F rfl hinX8 (by decide) q1223 dX8_word_82 (fun x44 => ?_)
      refine V_iload F dX8_word_85 4 rfl ?_
      refine V_aI F dX8_word_87 (fun x45 => ?_)
      refine V_iload_n F dX8_word_88 rfl 1 rfl ?_
      refine V_iadd F dX8_word_89 ?_
      refine V_aI F dX8_word_90 (fun x46 => ?_)
      refine V_aload_n F dX8_word_91 rfl 0 rfl ?_
      refine V_cV (As := []) (rest := [.int x46, .int x31, .int v4, .ref x30]) (C := RX8) (N := 0) F M (metX8_sign (Fx_G F) (Fx_l F) v0  μ) rfl q1637 q72 q1634 q1636 q60 ⟨by decide +kernel, by decide +kernel, by decide +kernel⟩ rfl ⟨by decide, by decide⟩ (Nat.le_of_ble_eq_true rfl) dX8_word_92 (by decide) (by decide) (fun x48 μ47 => ?_)
      change V κ ρ 0 0 μ47 _ 95 [(0, .ref v0), (1, .int v1), (2, .int v2), (3, .int v3), (4, .int v4)] [.int x48, .int x46, .int x31, .int v4, .ref x30]
      refine V_icmp_ne (tgt := 102) F dX8_word_95 (by decide) (fun c49 => ?_) (fun c50 => ?_)
      · refine V_sub [0, 1, 2, 3, 4] rfl ?_
        exact VX8_word_B102 F M hNL hk41 v0 v1 v2 v3 v4 x31 v4 x30 μ47
      · refine V_iconst (v := 1) F dX8_word_98 (by decide) ?_
        refine V_goto (tgt := 103) F dX8_word_99 (by decide) ?_
        refine V_sub [0, 1, 2, 3, 4] rfl ?_
        exact VX8_word_B103 F M hNL hk41 v0 v1 v2 v3 v4 1 x31 v4 x30 μ47
def FX8_word_L41 (k25 : Nat → Int32 → Int32 → Me → Rs Int32) : Nat → Nat → Int32 → Int32 → Int32 → Int32 → Me → Rs Int32
  | 0, _, _, _, _, _, _ => none
  | f + 1, v0, v1, v2, v3, v4, μ => FX8_word_B41 k25 (FX8_word_L41 k25 f) v0 v1 v2 v3 v4 μ
theorem VX8_word_L41 {κ : Cx} {ρ : (Int32 ⊕ String) × Me} (F : Fx κ cX8_word RX8) (M : Mx κ (fun r : Int32 => some (.int r)) ρ rmX8_word (some .int) [] "word") (hNL : κ.2.2.2.2.2.2.2.2.2.2.2.2.2.2 = 5) {k25 : Nat → Int32 → Int32 → Me → Rs Int32} (hk25 : ∀ (v0 : Nat) (v1 : Int32) (v2 : Int32) (μ : Me), V κ ρ 0 0 μ (k25 v0 v1 v2 μ) 25 [(0, .ref v0), (1, .int v1), (2, .int v2)] []) : ∀ (f : Nat) (v0 : Nat) (v1 : Int32) (v2 : Int32) (v3 : Int32) (v4 : Int32) (μ : Me), V κ ρ 0 0 μ (FX8_word_L41 k25 f v0 v1 v2 v3 v4 μ) 41 [(0, .ref v0), (1, .int v1), (2, .int v2), (3, .int v3), (4, .int v4)] [] := by
  intro f
  induction f with
  | zero => intros; exact V_none
  | succ f ih => intro v0 v1 v2 v3 v4 μ; exact VX8_word_B41 F M hNL hk25 (fun v0 v1 v2 v3 v4 μ => ih v0 v1 v2 v3 v4 μ) v0 v1 v2 v3 v4 μ
def FX8_word_B25 (k25 : Nat → Int32 → Int32 → Me → Rs Int32) (v0 : Nat) (v1 : Int32) (v2 : Int32) (μ : Me) : Rs Int32 :=
  (if 0 ≤ v2 then (rt v2 μ) else (gI μ v0 8 20 (fun x5 => (if x5 = 0 then (FX8_word_L41 k25 FU v0 v1 v2 0 0 μ) else (rt v2 μ)))))
set_option maxHeartbeats 4000000 in
set_option maxRecDepth 100000 in
theorem VX8_word_B25 {κ : Cx} {ρ : (Int32 ⊕ String) × Me} (F : Fx κ cX8_word RX8) (M : Mx κ (fun r : Int32 => some (.int r)) ρ rmX8_word (some .int) [] "word") (hNL : κ.2.2.2.2.2.2.2.2.2.2.2.2.2.2 = 5) {k25 : Nat → Int32 → Int32 → Me → Rs Int32} (hk25 : ∀ (v0 : Nat) (v1 : Int32) (v2 : Int32) (μ : Me), V κ ρ 0 0 μ (k25 v0 v1 v2 μ) 25 [(0, .ref v0), (1, .int v1), (2, .int v2)] []) (v0 : Nat) (v1 : Int32) (v2 : Int32) (μ : Me) : V κ ρ 0 0 μ (FX8_word_B25 k25 v0 v1 v2 μ) 25 [(0, .ref v0), (1, .int v1), (2, .int v2)] [] := by
  unfold FX8_word_B25
  refine V_iload_n F dX8_word_25 rfl 2 rfl ?_
  refine V_if_ge (tgt := 222) F dX8_word_26 (by decide) (fun c3 => ?_) (fun c4 => ?_)
  · refine V_iload_n F dX8_word_222 rfl 2 rfl ?_
    exact V_iret F M dX8_word_223 rfl (by decide) (by decide)
  · refine V_aload_n F dX8_word_29 rfl 0 rfl ?_
    refine V_gI (ci := 8) (k9 := 20) (C := RX8) (T := TX8) (N := 22) F rfl hinX8 (by decide) q1228 dX8_word_30 (fun x5 => ?_)
    refine V_if_ne (tgt := 222) F dX8_word_33 (by decide) (fun c6 => ?_) (fun c7 => ?_)
    · refine V_iload_n F dX8_word_222 rfl 2 rfl ?_
      exact V_iret F M dX8_word_223 rfl (by decide) (by decide)
    · refine V_iconst (v := 0) F dX8_word_36 (by decide) ?_
      refine V_istore_n (lv' := [(3, .int 0), (0, .ref v0), (1, .int v1), (2, .int v2)]) F dX8_word_37 rfl (lt_L hNL (by decide)) rfl ?_
      refine V_iconst (v := 0) F dX8_word_38 (by decide) ?_
      refine V_istore (lv' := [(4, .int 0), (3, .int 0), (0, .ref v0), (1, .int v1), (2, .int v2)]) F dX8_word_39 (lt_L hNL (by decide)) rfl ?_
      refine V_sub [2, 3, 4, 1, 0] rfl ?_
      exact VX8_word_L41 F M hNL hk25 FU v0 v1 v2 0 0 μ
def FX8_word_L25  : Nat → Nat → Int32 → Int32 → Me → Rs Int32
  | 0, _, _, _, _ => none
  | f + 1, v0, v1, v2, μ => FX8_word_B25 (FX8_word_L25  f) v0 v1 v2 μ
theorem VX8_word_L25 {κ : Cx} {ρ : (Int32 ⊕ String) × Me} (F : Fx κ cX8_word RX8) (M : Mx κ (fun r : Int32 => some (.int r)) ρ rmX8_word (some .int) [] "word") (hNL : κ.2.2.2.2.2.2.2.2.2.2.2.2.2.2 = 5)   : ∀ (f : Nat) (v0 : Nat) (v1 : Int32) (v2 : Int32) (μ : Me), V κ ρ 0 0 μ (FX8_word_L25  f v0 v1 v2 μ) 25 [(0, .ref v0), (1, .int v1), (2, .int v2)] [] := by
  intro f
  induction f with
  | zero => intros; exact V_none
  | succ f ih => intro v0 v1 v2 μ; exact VX8_word_B25 F M hNL (fun v0 v1 v2 μ => ih v0 v1 v2 μ) v0 v1 v2 μ
def FX8_word_B2 (k2 : Nat → Int32 → Me → Rs Int32) (v0 : Nat) (v1 : Int32) (μ : Me) : Rs Int32 :=
  (if 11 ≤ v1 then (FX8_word_L25  FU v0 0 (-1) μ) else (gR μ v0 8 13 (fun x51 => (sI μ x51 v1 1 (fun μ52 => (k2 v0 (v1 + 1) μ52))))))
set_option maxHeartbeats 4000000 in
set_option maxRecDepth 100000 in
theorem VX8_word_B2 {κ : Cx} {ρ : (Int32 ⊕ String) × Me} (F : Fx κ cX8_word RX8) (M : Mx κ (fun r : Int32 => some (.int r)) ρ rmX8_word (some .int) [] "word") (hNL : κ.2.2.2.2.2.2.2.2.2.2.2.2.2.2 = 5) {k2 : Nat → Int32 → Me → Rs Int32} (hk2 : ∀ (v0 : Nat) (v1 : Int32) (μ : Me), V κ ρ 0 0 μ (k2 v0 v1 μ) 2 [(0, .ref v0), (1, .int v1)] []) (v0 : Nat) (v1 : Int32) (μ : Me) : V κ ρ 0 0 μ (FX8_word_B2 k2 v0 v1 μ) 2 [(0, .ref v0), (1, .int v1)] [] := by
  unfold FX8_word_B2
  refine V_iload_n F dX8_word_2 rfl 1 rfl ?_
  refine V_bipush (v := 11) F dX8_word_3 (by decide) ?_
  refine V_icmp_ge (tgt := 21) F dX8_word_5 (by decide) (fun c1 => ?_) (fun c2 => ?_)
  · refine V_iconst (v := 0) F dX8_word_21 (by decide) ?_
    refine V_istore_n (lv' := [(1, .int 0), (0, .ref v0)]) F dX8_word_22 rfl (lt_L hNL (by decide)) rfl ?_
    refine V_iconst (v := (-1)) F dX8_word_23 (by decide) ?_
    refine V_istore_n (lv' := [(2, .int (-1)), (1, .int 0), (0, .ref v0)]) F dX8_word_24 rfl (lt_L hNL (by decide)) rfl ?_
    refine V_sub [2, 1, 0] rfl ?_
    exact VX8_word_L25 F M hNL  FU v0 0 (-1) μ
  · refine V_aload_n F dX8_word_8 rfl 0 rfl ?_
    refine V_gR (ci := 8) (k9 := 13) (C := RX8) (T := TX8) (N := 22) F rfl hinX8 (by decide) q1221 dX8_word_9 (fun x51 => ?_)
    refine V_iload_n F dX8_word_12 rfl 1 rfl ?_
    refine V_iconst (v := 1) F dX8_word_13 (by decide) ?_
    refine V_sI F dX8_word_14 (fun μ52 => ?_)
    refine V_iinc (lv' := [(1, .int (v1 + 1)), (0, .ref v0)]) F dX8_word_15 1 rfl rfl (lt_L hNL (by decide)) rfl ?_
    refine V_goto (tgt := 2) F dX8_word_18 (by decide) ?_
    refine V_sub [1, 0] rfl ?_
    exact hk2 v0 (v1 + 1) μ52
def FX8_word_L2  : Nat → Nat → Int32 → Me → Rs Int32
  | 0, _, _, _ => none
  | f + 1, v0, v1, μ => FX8_word_B2 (FX8_word_L2  f) v0 v1 μ
theorem VX8_word_L2 {κ : Cx} {ρ : (Int32 ⊕ String) × Me} (F : Fx κ cX8_word RX8) (M : Mx κ (fun r : Int32 => some (.int r)) ρ rmX8_word (some .int) [] "word") (hNL : κ.2.2.2.2.2.2.2.2.2.2.2.2.2.2 = 5)   : ∀ (f : Nat) (v0 : Nat) (v1 : Int32) (μ : Me), V κ ρ 0 0 μ (FX8_word_L2  f v0 v1 μ) 2 [(0, .ref v0), (1, .int v1)] [] := by
  intro f
  induction f with
  | zero => intros; exact V_none
  | succ f ih => intro v0 v1 μ; exact VX8_word_B2 F M hNL (fun v0 v1 μ => ih v0 v1 μ) v0 v1 μ
def FX8_word (a0 : Nat) (μ : Me) : Rs Int32 :=
  (FX8_word_L2  FU a0 0 μ)
set_option maxHeartbeats 4000000 in
set_option maxRecDepth 100000 in
theorem metX8_word {l : Launch} {s0 : State} {D : va_G} {aC : Nat → ClassId} (hG : Gl s0 D aC) (hl : l.stackTraces = false) (a0 : Nat) (μ : Me) : Ct l yX8_word (ws_ yX8_word cX8_word 5 (some .int)) rmX8_word s0 D aC (fun r : Int32 => some (.int r)) [.ref a0] μ (FX8_word a0 μ) := by
  refine Ct_of hG hl (by decide +kernel) (Nat.le_of_ble_eq_true rfl) (fun κ ρ hNL F M hκ => ?_)
  have F : Fx κ cX8_word RX8 := F
  change V κ ρ 0 0 μ (FX8_word a0 μ) 0 [(0, .ref a0)] []
  unfold FX8_word
  refine V_iconst (v := 0) F dX8_word_0 (by decide) ?_
  refine V_istore_n (lv' := [(1, .int 0), (0, .ref a0)]) F dX8_word_1 rfl (lt_L hNL (by decide)) rfl ?_
  refine V_sub [1, 0] rfl ?_
  exact VX8_word_L2 F M hNL  FU a0 0 μ
/-! DroneLightShowModel.does(IIII)I -/
abbrev rmX8_does : Room := { frames := 6, cells := 0, slots := 0, locals := 135 }
def FX8_does (a0 : Nat) (p1 : Int32) (p2 : Int32) (p3 : Int32) (p4 : Int32) (μ : Me) : Rs Int32 :=
  (if p1.toInt < 0 ∨ 9 < p1.toInt then (bnd (vc μ a0 8 (FX8_addsCue a0 p2 p3 p4 μ)) (fun x3 μ2 => (rt x3 μ2))) else (if p1.toInt = 0 then (bnd (vc μ a0 8 (FX8_adds a0 p2 μ)) (fun x7 μ6 => (rt x7 μ6))) else (if p1.toInt = 1 then (bnd (vc μ a0 8 (FX8_addsPad a0 p2 μ)) (fun x11 μ10 => (rt x11 μ10))) else (if p1.toInt = 2 then (bnd (vc μ a0 8 (FX8_starts a0 p2 μ)) (fun x15 μ14 => (rt x15 μ14))) else (if p1.toInt = 3 then (bnd (vc μ a0 8 (FX8_lands a0 p2 μ)) (fun x19 μ18 => (rt x19 μ18))) else (if p1.toInt = 4 then (bnd (vc μ a0 8 (FX8_sends a0 p2 p3 μ)) (fun x23 μ22 => (rt x23 μ22))) else (if p1.toInt = 5 then (bnd (vc μ a0 8 (FX8_reserves a0 p2 μ)) (fun x27 μ26 => (rt x27 μ26))) else (if p1.toInt = 6 then (bnd (vc μ a0 8 (FX8_forms a0 p2 p3 μ)) (fun x31 μ30 => (rt x31 μ30))) else (if p1.toInt = 7 then (bnd (vc μ a0 8 (FX8_clears a0 p2 μ)) (fun x35 μ34 => (rt x35 μ34))) else (if p1.toInt = 8 then (bnd (vc μ a0 8 (FX8_assigns a0 p2 μ)) (fun x39 μ38 => (rt x39 μ38))) else (if p1.toInt = 9 then (bnd (vc μ a0 8 (FX8_passes a0 p2 μ)) (fun x43 μ42 => (rt x43 μ42))) else none)))))))))))
set_option maxHeartbeats 4000000 in
set_option maxRecDepth 100000 in
theorem metX8_does {l : Launch} {s0 : State} {D : va_G} {aC : Nat → ClassId} (hG : Gl s0 D aC) (hl : l.stackTraces = false) (a0 : Nat) (p1 : Int32) (p2 : Int32) (p3 : Int32) (p4 : Int32) (μ : Me) : Ct l yX8_does (ws_ yX8_does cX8_does 5 (some .int)) rmX8_does s0 D aC (fun r : Int32 => some (.int r)) [.ref a0, .int p1, .int p2, .int p3, .int p4] μ (FX8_does a0 p1 p2 p3 p4 μ) := by
  refine Ct_of hG hl (by decide +kernel) (Nat.le_of_ble_eq_true rfl) (fun κ ρ hNL F M hκ => ?_)
  have F : Fx κ cX8_does RX8 := F
  change V κ ρ 0 0 μ (FX8_does a0 p1 p2 p3 p4 μ) 0 [(0, .ref a0), (1, .int p1), (2, .int p2), (3, .int p3), (4, .int p4)] []
  unfold FX8_does
  refine V_iload_n F dX8_does_0 rfl 1 rfl ?_
  refine V_out (tgt := 118) F dX8_does_1 (by decide) ?_ (fun c1 => ?_)
  · refine V_aload_n F dX8_does_118 rfl 0 rfl ?_
    refine V_iload_n F dX8_does_119 rfl 2 rfl ?_
    refine V_iload_n F dX8_does_120 rfl 3 rfl ?_
    refine V_iload F dX8_does_121 4 rfl ?_
    refine V_cV (As := [.int p2, .int p3, .int p4]) (rest := []) (C := RX8) (N := 3) F M (metX8_addsCue (Fx_G F) (Fx_l F) a0 p2 p3 p4 μ) rfl q1589 q72 q1586 q1588 q56 ⟨by decide +kernel, by decide +kernel, by decide +kernel⟩ rfl ⟨by decide, by decide⟩ (Nat.le_of_ble_eq_true rfl) dX8_does_123 (by decide) (by decide) (fun x3 μ2 => ?_)
    change V κ ρ 0 0 μ2 _ 126 [(0, .ref a0), (1, .int p1), (2, .int p2), (3, .int p3), (4, .int p4)] [.int x3]
    exact V_iret F M dX8_does_126 rfl (by decide) (by decide)
  · skip
    refine V_case (z := 0) (tgt := 56) F dX8_does_1 (by decide) rfl (by decide) (fun c4 => ?_) (fun c5 => ?_)
    · refine V_aload_n F dX8_does_56 rfl 0 rfl ?_
      refine V_iload_n F dX8_does_57 rfl 2 rfl ?_
      refine V_cV (As := [.int p2]) (rest := []) (C := RX8) (N := 1) F M (metX8_adds (Fx_G F) (Fx_l F) a0 p2 μ) rfl q1293 q72 q1290 q1292 q21 ⟨by decide +kernel, by decide +kernel, by decide +kernel⟩ rfl ⟨by decide, by decide⟩ (Nat.le_of_ble_eq_true rfl) dX8_does_58 (by decide) (by decide) (fun x7 μ6 => ?_)
      change V κ ρ 0 0 μ6 _ 61 [(0, .ref a0), (1, .int p1), (2, .int p2), (3, .int p3), (4, .int p4)] [.int x7]
      exact V_iret F M dX8_does_61 rfl (by decide) (by decide)
    refine V_case (z := 1) (tgt := 62) F dX8_does_1 (by decide) rfl (by decide) (fun c8 => ?_) (fun c9 => ?_)
    · refine V_aload_n F dX8_does_62 rfl 0 rfl ?_
      refine V_iload_n F dX8_does_63 rfl 2 rfl ?_
      refine V_cV (As := [.int p2]) (rest := []) (C := RX8) (N := 1) F M (metX8_addsPad (Fx_G F) (Fx_l F) a0 p2 μ) rfl q1326 q72 q1323 q1325 q26 ⟨by decide +kernel, by decide +kernel, by decide +kernel⟩ rfl ⟨by decide, by decide⟩ (Nat.le_of_ble_eq_true rfl) dX8_does_64 (by decide) (by decide) (fun x11 μ10 => ?_)
      change V κ ρ 0 0 μ10 _ 67 [(0, .ref a0), (1, .int p1), (2, .int p2), (3, .int p3), (4, .int p4)] [.int x11]
      exact V_iret F M dX8_does_67 rfl (by decide) (by decide)
    refine V_case (z := 2) (tgt := 68) F dX8_does_1 (by decide) rfl (by decide) (fun c12 => ?_) (fun c13 => ?_)
    · refine V_aload_n F dX8_does_68 rfl 0 rfl ?_
      refine V_iload_n F dX8_does_69 rfl 2 rfl ?_
      refine V_cV (As := [.int p2]) (rest := []) (C := RX8) (N := 1) F M (metX8_starts (Fx_G F) (Fx_l F) a0 p2 μ) rfl q1338 q72 q1335 q1337 q28 ⟨by decide +kernel, by decide +kernel, by decide +kernel⟩ rfl ⟨by decide, by decide⟩ (Nat.le_of_ble_eq_true rfl) dX8_does_70 (by decide) (by decide) (fun x15 μ14 => ?_)
      change V κ ρ 0 0 μ14 _ 73 [(0, .ref a0), (1, .int p1), (2, .int p2), (3, .int p3), (4, .int p4)] [.int x15]
      exact V_iret F M dX8_does_73 rfl (by decide) (by decide)
    refine V_case (z := 3) (tgt := 74) F dX8_does_1 (by decide) rfl (by decide) (fun c16 => ?_) (fun c17 => ?_)
    · refine V_aload_n F dX8_does_74 rfl 0 rfl ?_
      refine V_iload_n F dX8_does_75 rfl 2 rfl ?_
      refine V_cV (As := [.int p2]) (rest := []) (C := RX8) (N := 1) F M (metX8_lands (Fx_G F) (Fx_l F) a0 p2 μ) rfl q1358 q72 q1355 q1357 q32 ⟨by decide +kernel, by decide +kernel, by decide +kernel⟩ rfl ⟨by decide, by decide⟩ (Nat.le_of_ble_eq_true rfl) dX8_does_76 (by decide) (by decide) (fun x19 μ18 => ?_)
      change V κ ρ 0 0 μ18 _ 79 [(0, .ref a0), (1, .int p1), (2, .int p2), (3, .int p3), (4, .int p4)] [.int x19]
      exact V_iret F M dX8_does_79 rfl (by decide) (by decide)
    refine V_case (z := 4) (tgt := 80) F dX8_does_1 (by decide) rfl (by decide) (fun c20 => ?_) (fun c21 => ?_)
    · refine V_aload_n F dX8_does_80 rfl 0 rfl ?_
      refine V_iload_n F dX8_does_81 rfl 2 rfl ?_
      refine V_iload_n F dX8_does_82 rfl 3 rfl ?_
      refine V_cV (As := [.int p2, .int p3]) (rest := []) (C := RX8) (N := 2) F M (metX8_sends (Fx_G F) (Fx_l F) a0 p2 p3 μ) rfl q1366 q72 q1363 q1365 q33 ⟨by decide +kernel, by decide +kernel, by decide +kernel⟩ rfl ⟨by decide, by decide⟩ (Nat.le_of_ble_eq_true rfl) dX8_does_83 (by decide) (by decide) (fun x23 μ22 => ?_)
      change V κ ρ 0 0 μ22 _ 86 [(0, .ref a0), (1, .int p1), (2, .int p2), (3, .int p3), (4, .int p4)] [.int x23]
      exact V_iret F M dX8_does_86 rfl (by decide) (by decide)
    refine V_case (z := 5) (tgt := 87) F dX8_does_1 (by decide) rfl (by decide) (fun c24 => ?_) (fun c25 => ?_)
    · refine V_aload_n F dX8_does_87 rfl 0 rfl ?_
      refine V_iload_n F dX8_does_88 rfl 2 rfl ?_
      refine V_cV (As := [.int p2]) (rest := []) (C := RX8) (N := 1) F M (metX8_reserves (Fx_G F) (Fx_l F) a0 p2 μ) rfl q1384 q72 q1381 q1383 q35 ⟨by decide +kernel, by decide +kernel, by decide +kernel⟩ rfl ⟨by decide, by decide⟩ (Nat.le_of_ble_eq_true rfl) dX8_does_89 (by decide) (by decide) (fun x27 μ26 => ?_)
      change V κ ρ 0 0 μ26 _ 92 [(0, .ref a0), (1, .int p1), (2, .int p2), (3, .int p3), (4, .int p4)] [.int x27]
      exact V_iret F M dX8_does_92 rfl (by decide) (by decide)
    refine V_case (z := 6) (tgt := 93) F dX8_does_1 (by decide) rfl (by decide) (fun c28 => ?_) (fun c29 => ?_)
    · refine V_aload_n F dX8_does_93 rfl 0 rfl ?_
      refine V_iload_n F dX8_does_94 rfl 2 rfl ?_
      refine V_iload_n F dX8_does_95 rfl 3 rfl ?_
      refine V_cV (As := [.int p2, .int p3]) (rest := []) (C := RX8) (N := 2) F M (metX8_forms (Fx_G F) (Fx_l F) a0 p2 p3 μ) rfl q1449 q72 q1446 q1448 q39 ⟨by decide +kernel, by decide +kernel, by decide +kernel⟩ rfl ⟨by decide, by decide⟩ (Nat.le_of_ble_eq_true rfl) dX8_does_96 (by decide) (by decide) (fun x31 μ30 => ?_)
      change V κ ρ 0 0 μ30 _ 99 [(0, .ref a0), (1, .int p1), (2, .int p2), (3, .int p3), (4, .int p4)] [.int x31]
      exact V_iret F M dX8_does_99 rfl (by decide) (by decide)
    refine V_case (z := 7) (tgt := 100) F dX8_does_1 (by decide) rfl (by decide) (fun c32 => ?_) (fun c33 => ?_)
    · refine V_aload_n F dX8_does_100 rfl 0 rfl ?_
      refine V_iload_n F dX8_does_101 rfl 2 rfl ?_
      refine V_cV (As := [.int p2]) (rest := []) (C := RX8) (N := 1) F M (metX8_clears (Fx_G F) (Fx_l F) a0 p2 μ) rfl q1468 q72 q1465 q1467 q42 ⟨by decide +kernel, by decide +kernel, by decide +kernel⟩ rfl ⟨by decide, by decide⟩ (Nat.le_of_ble_eq_true rfl) dX8_does_102 (by decide) (by decide) (fun x35 μ34 => ?_)
      change V κ ρ 0 0 μ34 _ 105 [(0, .ref a0), (1, .int p1), (2, .int p2), (3, .int p3), (4, .int p4)] [.int x35]
      exact V_iret F M dX8_does_105 rfl (by decide) (by decide)
    refine V_case (z := 8) (tgt := 106) F dX8_does_1 (by decide) rfl (by decide) (fun c36 => ?_) (fun c37 => ?_)
    · refine V_aload_n F dX8_does_106 rfl 0 rfl ?_
      refine V_iload_n F dX8_does_107 rfl 2 rfl ?_
      refine V_cV (As := [.int p2]) (rest := []) (C := RX8) (N := 1) F M (metX8_assigns (Fx_G F) (Fx_l F) a0 p2 μ) rfl q1476 q72 q1473 q1475 q43 ⟨by decide +kernel, by decide +kernel, by decide +kernel⟩ rfl ⟨by decide, by decide⟩ (Nat.le_of_ble_eq_true rfl) dX8_does_108 (by decide) (by decide) (fun x39 μ38 => ?_)
      change V κ ρ 0 0 μ38 _ 111 [(0, .ref a0), (1, .int p1), (2, .int p2), (3, .int p3), (4, .int p4)] [.int x39]
      exact V_iret F M dX8_does_111 rfl (by decide) (by decide)
    refine V_case (z := 9) (tgt := 112) F dX8_does_1 (by decide) rfl (by decide) (fun c40 => ?_) (fun c41 => ?_)
    · refine V_aload_n F dX8_does_112 rfl 0 rfl ?_
      refine V_iload_n F dX8_does_113 rfl 2 rfl ?_
      refine V_cV (As := [.int p2]) (rest := []) (C := RX8) (N := 1) F M (metX8_passes (Fx_G F) (Fx_l F) a0 p2 μ) rfl q1518 q72 q1515 q1517 q47 ⟨by decide +kernel, by decide +kernel, by decide +kernel⟩ rfl ⟨by decide, by decide⟩ (Nat.le_of_ble_eq_true rfl) dX8_does_114 (by decide) (by decide) (fun x43 μ42 => ?_)
      change V κ ρ 0 0 μ42 _ 117 [(0, .ref a0), (1, .int p1), (2, .int p2), (3, .int p3), (4, .int p4)] [.int x43]
      exact V_iret F M dX8_does_117 rfl (by decide) (by decide)
    exact V_none
/-! DroneLightShowModel.command()V -/
abbrev rmX8_command : Room := { frames := 7, cells := 0, slots := 0, locals := 159 }
def FX8_command_B93  (v0 : Nat) (v1 : Int32) (v2 : Int32) (v3 : Int32) (v4 : Int32) (μ : Me) : Rs Unit :=
  (gI μ v0 8 20 (fun x17 => (if x17 = 0 then (gI μ v0 8 21 (fun x20 => (if x20 = 0 then (rt () μ) else (bnd (vc μ v0 8 (FX8_does v0 v1 v4 v2 v3 μ)) (fun x24 μ23 => (rt () μ23)))))) else (rt () μ))))
set_option maxHeartbeats 4000000 in
set_option maxRecDepth 100000 in
theorem VX8_command_B93 {κ : Cx} {ρ : (Unit ⊕ String) × Me} (F : Fx κ cX8_command RX8) (M : Mx κ (fun _ : Unit => none) ρ rmX8_command none [] "command") (hNL : κ.2.2.2.2.2.2.2.2.2.2.2.2.2.2 = 6)   (v0 : Nat) (v1 : Int32) (v2 : Int32) (v3 : Int32) (v4 : Int32) (μ : Me) : V κ ρ 0 0 μ (FX8_command_B93  v0 v1 v2 v3 v4 μ) 93 [(0, .ref v0), (1, .int v1), (2, .int v2), (3, .int v3), (4, .int v4)] [] := by
  unfold FX8_command_B93
  refine V_aload_n F dX8_command_93 rfl 0 rfl ?_
  refine V_gI (ci := 8) (k9 := 20) (C := RX8) (T := TX8) (N := 22) F rfl hinX8 (by decide) q1228 dX8_command_94 (fun x17 => ?_)
  refine V_if_ne (tgt := 107) F dX8_command_97 (by decide) (fun c18 => ?_) (fun c19 => ?_)
  · exact V_vret F M dX8_command_107 rfl (by decide) (by decide)
  · refine V_aload_n F dX8_command_100 rfl 0 rfl ?_
    refine V_gI (ci := 8) (k9 := 21) (C := RX8) (T := TX8) (N := 22) F rfl hinX8 (by decide) q1229 dX8_command_101 (fun x20 => ?_)
    refine V_if_ne (tgt := 108) F dX8_command_104 (by decide) (fun c21 => ?_) (fun c22 => ?_)
    · refine V_aload_n F dX8_command_108 rfl 0 rfl ?_
      refine V_iload_n F dX8_command_109 rfl 1 rfl ?_
      refine V_iload F dX8_command_110 4 rfl ?_
      refine V_iload_n F dX8_command_112 rfl 2 rfl ?_
      refine V_iload_n F dX8_command_113 rfl 3 rfl ?_
      refine V_cV (As := [.int v1, .int v4, .int v2, .int v3]) (rest := []) (C := RX8) (N := 4) F M (metX8_does (Fx_G F) (Fx_l F) v0 v1 v4 v2 v3 μ) rfl q1653 q72 q1650 q1652 q64 ⟨by decide +kernel, by decide +kernel, by decide +kernel⟩ rfl ⟨by decide, by decide⟩ (Nat.le_of_ble_eq_true rfl) dX8_command_114 (by decide) (by decide) (fun x24 μ23 => ?_)
      change V κ ρ 0 0 μ23 _ 117 [(0, .ref v0), (1, .int v1), (2, .int v2), (3, .int v3), (4, .int v4)] [.int x24]
      refine V_istore (lv' := [(5, .int x24), (0, .ref v0), (1, .int v1), (2, .int v2), (3, .int v3), (4, .int v4)]) F dX8_command_117 (lt_L hNL (by decide)) rfl ?_
      exact V_vret F M dX8_command_119 rfl (by decide) (by decide)
    · exact V_vret F M dX8_command_107 rfl (by decide) (by decide)
def FX8_command_B74  (v0 : Nat) (v1 : Int32) (v2 : Int32) (v3 : Int32) (v4 : Int32) (μ : Me) : Rs Unit :=
  (if v1 = 10 then (gI μ v0 8 20 (fun x25 => (if x25 = 0 then (bnd (vc μ v0 8 (FX8_behind v0 1 μ)) (fun x29 μ28 => (FX8_command_B93  v0 v1 v2 x29 v4 μ28))) else (FX8_command_B93  v0 v1 v2 v3 v4 μ)))) else (FX8_command_B93  v0 v1 v2 v3 v4 μ))
set_option maxHeartbeats 4000000 in
set_option maxRecDepth 100000 in
theorem VX8_command_B74 {κ : Cx} {ρ : (Unit ⊕ String) × Me} (F : Fx κ cX8_command RX8) (M : Mx κ (fun _ : Unit => none) ρ rmX8_command none [] "command") (hNL : κ.2.2.2.2.2.2.2.2.2.2.2.2.2.2 = 6)   (v0 : Nat) (v1 : Int32) (v2 : Int32) (v3 : Int32) (v4 : Int32) (μ : Me) : V κ ρ 0 0 μ (FX8_command_B74  v0 v1 v2 v3 v4 μ) 74 [(0, .ref v0), (1, .int v1), (2, .int v2), (3, .int v3), (4, .int v4)] [] := by
  unfold FX8_command_B74
  refine V_iload_n F dX8_command_74 rfl 1 rfl ?_
  refine V_bipush (v := 10) F dX8_command_75 (by decide) ?_
  refine V_icmp_ne (tgt := 93) F dX8_command_77 (by decide) (fun c15 => ?_) (fun c16 => ?_)
  · refine V_sub [0, 1, 2, 3, 4] rfl ?_
    exact VX8_command_B93 F M hNL  v0 v1 v2 v3 v4 μ
  · refine V_aload_n F dX8_command_80 rfl 0 rfl ?_
    refine V_gI (ci := 8) (k9 := 20) (C := RX8) (T := TX8) (N := 22) F rfl hinX8 (by decide) q1228 dX8_command_81 (fun x25 => ?_)
    refine V_if_ne (tgt := 93) F dX8_command_84 (by decide) (fun c26 => ?_) (fun c27 => ?_)
    · refine V_sub [0, 1, 2, 3, 4] rfl ?_
      exact VX8_command_B93 F M hNL  v0 v1 v2 v3 v4 μ
    · refine V_aload_n F dX8_command_87 rfl 0 rfl ?_
      refine V_iconst (v := 1) F dX8_command_88 (by decide) ?_
      refine V_cV (As := [.int 1]) (rest := []) (C := RX8) (N := 1) F M (metX8_behind (Fx_G F) (Fx_l F) v0 1 μ) rfl q1645 q72 q1642 q1644 q62 ⟨by decide +kernel, by decide +kernel, by decide +kernel⟩ rfl ⟨by decide, by decide⟩ (Nat.le_of_ble_eq_true rfl) dX8_command_89 (by decide) (by decide) (fun x29 μ28 => ?_)
      change V κ ρ 0 0 μ28 _ 92 [(0, .ref v0), (1, .int v1), (2, .int v2), (3, .int v3), (4, .int v4)] [.int x29]
      refine V_istore_n (lv' := [(3, .int x29), (0, .ref v0), (1, .int v1), (2, .int v2), (4, .int v4)]) F dX8_command_92 rfl (lt_L hNL (by decide)) rfl ?_
      refine V_sub [1, 2, 3, 0, 4] rfl ?_
      exact VX8_command_B93 F M hNL  v0 v1 v2 x29 v4 μ28
def FX8_command_B61  (v0 : Nat) (v1 : Int32) (v2 : Int32) (v3 : Int32) (v4 : Int32) (μ : Me) : Rs Unit :=
  (gI μ v0 8 20 (fun x12 => (if x12 = 0 then (bnd (vc μ v0 8 (FX8_behind v0 3 μ)) (fun x31 μ30 => (FX8_command_B74  v0 v1 x31 v3 v4 μ30))) else (FX8_command_B74  v0 v1 v2 v3 v4 μ))))
set_option maxHeartbeats 4000000 in
set_option maxRecDepth 100000 in
theorem VX8_command_B61 {κ : Cx} {ρ : (Unit ⊕ String) × Me} (F : Fx κ cX8_command RX8) (M : Mx κ (fun _ : Unit => none) ρ rmX8_command none [] "command") (hNL : κ.2.2.2.2.2.2.2.2.2.2.2.2.2.2 = 6)   (v0 : Nat) (v1 : Int32) (v2 : Int32) (v3 : Int32) (v4 : Int32) (μ : Me) : V κ ρ 0 0 μ (FX8_command_B61  v0 v1 v2 v3 v4 μ) 61 [(0, .ref v0), (1, .int v1), (2, .int v2), (3, .int v3), (4, .int v4)] [] := by
  unfold FX8_command_B61
  refine V_aload_n F dX8_command_61 rfl 0 rfl ?_
  refine V_gI (ci := 8) (k9 := 20) (C := RX8) (T := TX8) (N := 22) F rfl hinX8 (by decide) q1228 dX8_command_62 (fun x12 => ?_)
  refine V_if_ne (tgt := 74) F dX8_command_65 (by decide) (fun c13 => ?_) (fun c14 => ?_)
  · refine V_sub [0, 1, 2, 3, 4] rfl ?_
    exact VX8_command_B74 F M hNL  v0 v1 v2 v3 v4 μ
  · refine V_aload_n F dX8_command_68 rfl 0 rfl ?_
    refine V_iconst (v := 3) F dX8_command_69 (by decide) ?_
    refine V_cV (As := [.int 3]) (rest := []) (C := RX8) (N := 1) F M (metX8_behind (Fx_G F) (Fx_l F) v0 3 μ) rfl q1645 q72 q1642 q1644 q62 ⟨by decide +kernel, by decide +kernel, by decide +kernel⟩ rfl ⟨by decide, by decide⟩ (Nat.le_of_ble_eq_true rfl) dX8_command_70 (by decide) (by decide) (fun x31 μ30 => ?_)
    change V κ ρ 0 0 μ30 _ 73 [(0, .ref v0), (1, .int v1), (2, .int v2), (3, .int v3), (4, .int v4)] [.int x31]
    refine V_istore_n (lv' := [(2, .int x31), (0, .ref v0), (1, .int v1), (3, .int v3), (4, .int v4)]) F dX8_command_73 rfl (lt_L hNL (by decide)) rfl ?_
    refine V_sub [1, 2, 0, 3, 4] rfl ?_
    exact VX8_command_B74 F M hNL  v0 v1 x31 v3 v4 μ30
def FX8_command_B39  (v0 : Nat) (v1 : Int32) (v2 : Int32) (v3 : Int32) (t0 : Int32) (t1 : Nat) (μ : Me) : Rs Unit :=
  (bnd (vc μ t1 8 (FX8_digits t1 t0 μ)) (fun x9 μ8 => (if v1 = 4 then (FX8_command_B61  v0 v1 v2 v3 x9 μ8) else (if v1 = 6 then (FX8_command_B61  v0 v1 v2 v3 x9 μ8) else (if v1 = 10 then (FX8_command_B61  v0 v1 v2 v3 x9 μ8) else (FX8_command_B74  v0 v1 v2 v3 x9 μ8))))))
set_option maxHeartbeats 4000000 in
set_option maxRecDepth 100000 in
theorem VX8_command_B39 {κ : Cx} {ρ : (Unit ⊕ String) × Me} (F : Fx κ cX8_command RX8) (M : Mx κ (fun _ : Unit => none) ρ rmX8_command none [] "command") (hNL : κ.2.2.2.2.2.2.2.2.2.2.2.2.2.2 = 6)   (v0 : Nat) (v1 : Int32) (v2 : Int32) (v3 : Int32) (t0 : Int32) (t1 : Nat) (μ : Me) : V κ ρ 0 0 μ (FX8_command_B39  v0 v1 v2 v3 t0 t1 μ) 39 [(0, .ref v0), (1, .int v1), (2, .int v2), (3, .int v3)] [.int t0, .ref t1] := by
  unfold FX8_command_B39
  refine V_cV (As := [.int t0]) (rest := []) (C := RX8) (N := 1) F M (metX8_digits (Fx_G F) (Fx_l F) t1 t0 μ) rfl q1641 q72 q1638 q1640 q61 ⟨by decide +kernel, by decide +kernel, by decide +kernel⟩ rfl ⟨by decide, by decide⟩ (Nat.le_of_ble_eq_true rfl) dX8_command_39 (by decide) (by decide) (fun x9 μ8 => ?_)
  change V κ ρ 0 0 μ8 _ 42 [(0, .ref v0), (1, .int v1), (2, .int v2), (3, .int v3)] [.int x9]
  refine V_istore (lv' := [(4, .int x9), (0, .ref v0), (1, .int v1), (2, .int v2), (3, .int v3)]) F dX8_command_42 (lt_L hNL (by decide)) rfl ?_
  refine V_iload_n F dX8_command_44 rfl 2 rfl ?_
  refine V_iconst (v := 4) F dX8_command_45 (by decide) ?_
  refine V_icmp_eq (tgt := 61) F dX8_command_46 (by decide) (fun c10 => ?_) (fun c11 => ?_)
  · refine V_sub [1, 2, 3, 4, 0] rfl ?_
    exact VX8_command_B61 F M hNL  v0 v1 v2 v3 x9 μ8
  · refine V_iload_n F dX8_command_49 rfl 2 rfl ?_
    refine V_bipush (v := 6) F dX8_command_50 (by decide) ?_
    refine V_icmp_eq (tgt := 61) F dX8_command_52 (by decide) (fun c32 => ?_) (fun c33 => ?_)
    · refine V_sub [1, 2, 3, 4, 0] rfl ?_
      exact VX8_command_B61 F M hNL  v0 v1 v2 v3 x9 μ8
    · refine V_iload_n F dX8_command_55 rfl 2 rfl ?_
      refine V_bipush (v := 10) F dX8_command_56 (by decide) ?_
      refine V_icmp_ne (tgt := 74) F dX8_command_58 (by decide) (fun c34 => ?_) (fun c35 => ?_)
      · refine V_sub [1, 2, 3, 4, 0] rfl ?_
        exact VX8_command_B74 F M hNL  v0 v1 v2 v3 x9 μ8
      · refine V_sub [1, 2, 3, 4, 0] rfl ?_
        exact VX8_command_B61 F M hNL  v0 v1 v2 v3 x9 μ8
def FX8_command_B34  (v0 : Nat) (v1 : Int32) (v2 : Int32) (v3 : Int32) (t0 : Nat) (μ : Me) : Rs Unit :=
  (FX8_command_B39  v0 v1 v2 v3 3 t0 μ)
set_option maxHeartbeats 4000000 in
set_option maxRecDepth 100000 in
theorem VX8_command_B34 {κ : Cx} {ρ : (Unit ⊕ String) × Me} (F : Fx κ cX8_command RX8) (M : Mx κ (fun _ : Unit => none) ρ rmX8_command none [] "command") (hNL : κ.2.2.2.2.2.2.2.2.2.2.2.2.2.2 = 6)   (v0 : Nat) (v1 : Int32) (v2 : Int32) (v3 : Int32) (t0 : Nat) (μ : Me) : V κ ρ 0 0 μ (FX8_command_B34  v0 v1 v2 v3 t0 μ) 34 [(0, .ref v0), (1, .int v1), (2, .int v2), (3, .int v3)] [.ref t0] := by
  unfold FX8_command_B34
  refine V_iconst (v := 3) F dX8_command_34 (by decide) ?_
  refine V_goto (tgt := 39) F dX8_command_35 (by decide) ?_
  refine V_sub [0, 1, 2, 3] rfl ?_
  exact VX8_command_B39 F M hNL  v0 v1 v2 v3 3 t0 μ
def FX8_command (a0 : Nat) (μ : Me) : Rs Unit :=
  (bnd (vc μ a0 8 (FX8_word a0  μ)) (fun x2 μ1 => (gI μ1 a0 8 20 (fun x3 => (if x3 = 0 then (if x2 < 2 then (FX8_command_B34  a0 x2 0 0 a0 μ1) else (if x2 = 5 then (FX8_command_B34  a0 x2 0 0 a0 μ1) else (if x2 = 9 then (FX8_command_B34  a0 x2 0 0 a0 μ1) else (FX8_command_B39  a0 x2 0 0 1 a0 μ1)))) else (rt () μ1))))))
set_option maxHeartbeats 4000000 in
set_option maxRecDepth 100000 in
theorem metX8_command {l : Launch} {s0 : State} {D : va_G} {aC : Nat → ClassId} (hG : Gl s0 D aC) (hl : l.stackTraces = false) (a0 : Nat) (μ : Me) : Ct l yX8_command (ws_ yX8_command cX8_command 6 none) rmX8_command s0 D aC (fun _ : Unit => none) [.ref a0] μ (FX8_command a0 μ) := by
  refine Ct_of hG hl (by decide +kernel) (Nat.le_of_ble_eq_true rfl) (fun κ ρ hNL F M hκ => ?_)
  have F : Fx κ cX8_command RX8 := F
  change V κ ρ 0 0 μ (FX8_command a0 μ) 0 [(0, .ref a0)] []
  unfold FX8_command
  refine V_aload_n F dX8_command_0 rfl 0 rfl ?_
  refine V_cV (As := []) (rest := []) (C := RX8) (N := 0) F M (metX8_word (Fx_G F) (Fx_l F) a0  μ) rfl q1633 q72 q1630 q1632 q59 ⟨by decide +kernel, by decide +kernel, by decide +kernel⟩ rfl ⟨by decide, by decide⟩ (Nat.le_of_ble_eq_true rfl) dX8_command_1 (by decide) (by decide) (fun x2 μ1 => ?_)
  change V κ ρ 0 0 μ1 _ 4 [(0, .ref a0)] [.int x2]
  refine V_istore_n (lv' := [(1, .int x2), (0, .ref a0)]) F dX8_command_4 rfl (lt_L hNL (by decide)) rfl ?_
  refine V_iconst (v := 0) F dX8_command_5 (by decide) ?_
  refine V_istore_n (lv' := [(2, .int 0), (1, .int x2), (0, .ref a0)]) F dX8_command_6 rfl (lt_L hNL (by decide)) rfl ?_
  refine V_iconst (v := 0) F dX8_command_7 (by decide) ?_
  refine V_istore_n (lv' := [(3, .int 0), (2, .int 0), (1, .int x2), (0, .ref a0)]) F dX8_command_8 rfl (lt_L hNL (by decide)) rfl ?_
  refine V_aload_n F dX8_command_9 rfl 3 rfl ?_
  refine V_gI (ci := 8) (k9 := 20) (C := RX8) (T := TX8) (N := 22) F rfl hinX8 (by decide) q1228 dX8_command_10 (fun x3 => ?_)
  refine V_if_eq (tgt := 17) F dX8_command_13 (by decide) (fun c4 => ?_) (fun c5 => ?_)
  · refine V_aload_n F dX8_command_17 rfl 3 rfl ?_
    refine V_iload_n F dX8_command_18 rfl 2 rfl ?_
    refine V_iconst (v := 2) F dX8_command_19 (by decide) ?_
    refine V_icmp_lt (tgt := 34) F dX8_command_20 (by decide) (fun c6 => ?_) (fun c7 => ?_)
    · refine V_sub [3, 2, 1, 0] rfl ?_
      exact VX8_command_B34 F M hNL  a0 x2 0 0 a0 μ1
    · refine V_iload_n F dX8_command_23 rfl 2 rfl ?_
      refine V_iconst (v := 5) F dX8_command_24 (by decide) ?_
      refine V_icmp_eq (tgt := 34) F dX8_command_25 (by decide) (fun c36 => ?_) (fun c37 => ?_)
      · refine V_sub [3, 2, 1, 0] rfl ?_
        exact VX8_command_B34 F M hNL  a0 x2 0 0 a0 μ1
      · refine V_iload_n F dX8_command_28 rfl 2 rfl ?_
        refine V_bipush (v := 9) F dX8_command_29 (by decide) ?_
        refine V_icmp_ne (tgt := 38) F dX8_command_31 (by decide) (fun c38 => ?_) (fun c39 => ?_)
        · refine V_iconst (v := 1) F dX8_command_38 (by decide) ?_
          refine V_sub [3, 2, 1, 0] rfl ?_
          exact VX8_command_B39 F M hNL  a0 x2 0 0 1 a0 μ1
        · refine V_sub [3, 2, 1, 0] rfl ?_
          exact VX8_command_B34 F M hNL  a0 x2 0 0 a0 μ1
  · exact V_vret F M dX8_command_16 rfl (by decide) (by decide)
/-! DroneLightShowModel.commands()I -/
abbrev rmX8_commands : Room := { frames := 8, cells := 0, slots := 0, locals := 184 }
def FX8_commands_B16 (k16 : Nat → Int32 → Me → Rs Int32) (v0 : Nat) (v1 : Int32) (μ : Me) : Rs Int32 :=
  (gI μ v0 8 20 (fun x5 => (if x5 = 0 then (gI μ v0 8 0 (fun x8 => (if x8 = 0 then (gI μ v0 8 17 (fun x11 => (gI μ v0 8 18 (fun x12 => (if x12 ≤ x11 then (rt v1 μ) else (bnd (vc μ v0 8 (FX8_mark v0 59 μ)) (fun x16 μ15 => (gI μ15 v0 8 20 (fun x17 => (if x17 = 0 then (bnd (vc μ15 v0 8 (FX8_command v0  μ15)) (fun x21 μ20 => (k16 v0 (v1 + 1) μ20))) else (k16 v0 (v1 + 1) μ15))))))))))) else (rt v1 μ)))) else (rt v1 μ))))
set_option maxHeartbeats 4000000 in
set_option maxRecDepth 100000 in
theorem VX8_commands_B16 {κ : Cx} {ρ : (Int32 ⊕ String) × Me} (F : Fx κ cX8_commands RX8) (M : Mx κ (fun r : Int32 => some (.int r)) ρ rmX8_commands (some .int) [] "commands") (hNL : κ.2.2.2.2.2.2.2.2.2.2.2.2.2.2 = 2) {k16 : Nat → Int32 → Me → Rs Int32} (hk16 : ∀ (v0 : Nat) (v1 : Int32) (μ : Me), V κ ρ 0 0 μ (k16 v0 v1 μ) 16 [(0, .ref v0), (1, .int v1)] []) (v0 : Nat) (v1 : Int32) (μ : Me) : V κ ρ 0 0 μ (FX8_commands_B16 k16 v0 v1 μ) 16 [(0, .ref v0), (1, .int v1)] [] := by
  unfold FX8_commands_B16
  refine V_aload_n F dX8_commands_16 rfl 0 rfl ?_
  refine V_gI (ci := 8) (k9 := 20) (C := RX8) (T := TX8) (N := 22) F rfl hinX8 (by decide) q1228 dX8_commands_17 (fun x5 => ?_)
  refine V_if_ne (tgt := 64) F dX8_commands_20 (by decide) (fun c6 => ?_) (fun c7 => ?_)
  · refine V_iload_n F dX8_commands_64 rfl 1 rfl ?_
    exact V_iret F M dX8_commands_65 rfl (by decide) (by decide)
  · refine V_aload_n F dX8_commands_23 rfl 0 rfl ?_
    refine V_gI (ci := 8) (k9 := 0) (C := RX8) (T := TX8) (N := 22) F rfl hinX8 (by decide) q1208 dX8_commands_24 (fun x8 => ?_)
    refine V_if_ne (tgt := 64) F dX8_commands_27 (by decide) (fun c9 => ?_) (fun c10 => ?_)
    · refine V_iload_n F dX8_commands_64 rfl 1 rfl ?_
      exact V_iret F M dX8_commands_65 rfl (by decide) (by decide)
    · refine V_aload_n F dX8_commands_30 rfl 0 rfl ?_
      refine V_gI (ci := 8) (k9 := 17) (C := RX8) (T := TX8) (N := 22) F rfl hinX8 (by decide) q1225 dX8_commands_31 (fun x11 => ?_)
      refine V_aload_n F dX8_commands_34 rfl 0 rfl ?_
      refine V_gI (ci := 8) (k9 := 18) (C := RX8) (T := TX8) (N := 22) F rfl hinX8 (by decide) q1226 dX8_commands_35 (fun x12 => ?_)
      refine V_icmp_ge (tgt := 64) F dX8_commands_38 (by decide) (fun c13 => ?_) (fun c14 => ?_)
      · refine V_iload_n F dX8_commands_64 rfl 1 rfl ?_
        exact V_iret F M dX8_commands_65 rfl (by decide) (by decide)
      · refine V_aload_n F dX8_commands_41 rfl 0 rfl ?_
        refine V_bipush (v := 59) F dX8_commands_42 (by decide) ?_
        refine V_cV (As := [.int 59]) (rest := []) (C := RX8) (N := 1) F M (metX8_mark (Fx_G F) (Fx_l F) v0 59 μ) rfl q1649 q72 q1646 q1648 q63 ⟨by decide +kernel, by decide +kernel, by decide +kernel⟩ rfl ⟨by decide, by decide⟩ (Nat.le_of_ble_eq_true rfl) dX8_commands_44 (by decide) (by decide) (fun x16 μ15 => ?_)
        change V κ ρ 0 0 μ15 _ 47 [(0, .ref v0), (1, .int v1)] []
        refine V_aload_n F dX8_commands_47 rfl 0 rfl ?_
        refine V_gI (ci := 8) (k9 := 20) (C := RX8) (T := TX8) (N := 22) F rfl hinX8 (by decide) q1228 dX8_commands_48 (fun x17 => ?_)
        refine V_if_ne (tgt := 58) F dX8_commands_51 (by decide) (fun c18 => ?_) (fun c19 => ?_)
        · refine V_iinc (lv' := [(1, .int (v1 + 1)), (0, .ref v0)]) F dX8_commands_58 1 rfl rfl (lt_L hNL (by decide)) rfl ?_
          refine V_goto (tgt := 16) F dX8_commands_61 (by decide) ?_
          refine V_sub [1, 0] rfl ?_
          exact hk16 v0 (v1 + 1) μ15
        · refine V_aload_n F dX8_commands_54 rfl 0 rfl ?_
          refine V_cV (As := []) (rest := []) (C := RX8) (N := 0) F M (metX8_command (Fx_G F) (Fx_l F) v0  μ15) rfl q1629 q72 q1626 q1628 q58 ⟨by decide +kernel, by decide +kernel, by decide +kernel⟩ rfl ⟨by decide, by decide⟩ (Nat.le_of_ble_eq_true rfl) dX8_commands_55 (by decide) (by decide) (fun x21 μ20 => ?_)
          change V κ ρ 0 0 μ20 _ 58 [(0, .ref v0), (1, .int v1)] []
          refine V_iinc (lv' := [(1, .int (v1 + 1)), (0, .ref v0)]) F dX8_commands_58 1 rfl rfl (lt_L hNL (by decide)) rfl ?_
          refine V_goto (tgt := 16) F dX8_commands_61 (by decide) ?_
          refine V_sub [1, 0] rfl ?_
          exact hk16 v0 (v1 + 1) μ20
def FX8_commands_L16  : Nat → Nat → Int32 → Me → Rs Int32
  | 0, _, _, _ => none
  | f + 1, v0, v1, μ => FX8_commands_B16 (FX8_commands_L16  f) v0 v1 μ
theorem VX8_commands_L16 {κ : Cx} {ρ : (Int32 ⊕ String) × Me} (F : Fx κ cX8_commands RX8) (M : Mx κ (fun r : Int32 => some (.int r)) ρ rmX8_commands (some .int) [] "commands") (hNL : κ.2.2.2.2.2.2.2.2.2.2.2.2.2.2 = 2)   : ∀ (f : Nat) (v0 : Nat) (v1 : Int32) (μ : Me), V κ ρ 0 0 μ (FX8_commands_L16  f v0 v1 μ) 16 [(0, .ref v0), (1, .int v1)] [] := by
  intro f
  induction f with
  | zero => intros; exact V_none
  | succ f ih => intro v0 v1 μ; exact VX8_commands_B16 F M hNL (fun v0 v1 μ => ih v0 v1 μ) v0 v1 μ
def FX8_commands (a0 : Nat) (μ : Me) : Rs Int32 :=
  (pf μ a0 8 17 (.int 0) (fun μ1 => (pf μ1 a0 8 20 (.int 0) (fun μ2 => (bnd (vc μ2 a0 8 (FX8_command a0  μ2)) (fun x4 μ3 => (FX8_commands_L16  FU a0 1 μ3)))))))
set_option maxHeartbeats 4000000 in
set_option maxRecDepth 100000 in
theorem metX8_commands {l : Launch} {s0 : State} {D : va_G} {aC : Nat → ClassId} (hG : Gl s0 D aC) (hl : l.stackTraces = false) (a0 : Nat) (μ : Me) : Ct l yX8_commands (ws_ yX8_commands cX8_commands 2 (some .int)) rmX8_commands s0 D aC (fun r : Int32 => some (.int r)) [.ref a0] μ (FX8_commands a0 μ) := by
  refine Ct_of hG hl (by decide +kernel) (Nat.le_of_ble_eq_true rfl) (fun κ ρ hNL F M hκ => ?_)
  have F : Fx κ cX8_commands RX8 := F
  change V κ ρ 0 0 μ (FX8_commands a0 μ) 0 [(0, .ref a0)] []
  unfold FX8_commands
  refine V_aload_n F dX8_commands_0 rfl 0 rfl ?_
  refine V_iconst (v := 0) F dX8_commands_1 (by decide) ?_
  refine V_pf (ci := 8) (k9 := 17) (C := RX8) (T := TX8) (N := 22) (ty := tyX8) F rfl hinX8 tyX8_ok nmX8 (by decide) q1225 rfl rfl rfl dX8_commands_2 (fun μ1 => ?_)
  refine V_aload_n F dX8_commands_5 rfl 0 rfl ?_
  refine V_iconst (v := 0) F dX8_commands_6 (by decide) ?_
  refine V_pf (ci := 8) (k9 := 20) (C := RX8) (T := TX8) (N := 22) (ty := tyX8) F rfl hinX8 tyX8_ok nmX8 (by decide) q1228 rfl (by decide) (by decide) dX8_commands_7 (fun μ2 => ?_)
  refine V_iconst (v := 1) F dX8_commands_10 (by decide) ?_
  refine V_istore_n (lv' := [(1, .int 1), (0, .ref a0)]) F dX8_commands_11 rfl (lt_L hNL (by decide)) rfl ?_
  refine V_aload_n F dX8_commands_12 rfl 1 rfl ?_
  refine V_cV (As := []) (rest := []) (C := RX8) (N := 0) F M (metX8_command (Fx_G F) (Fx_l F) a0  μ2) rfl q1629 q72 q1626 q1628 q58 ⟨by decide +kernel, by decide +kernel, by decide +kernel⟩ rfl ⟨by decide, by decide⟩ (Nat.le_of_ble_eq_true rfl) dX8_commands_13 (by decide) (by decide) (fun x4 μ3 => ?_)
  change V κ ρ 0 0 μ3 _ 16 [(1, .int 1), (0, .ref a0)] []
  refine V_sub [1, 0] rfl ?_
  exact VX8_commands_L16 F M hNL  FU a0 1 μ3
/-! DroneLightShowModel.run()I -/
abbrev rmX8_run : Room := { frames := 9, cells := 0, slots := 0, locals := 205 }
def FX8_run_B77  (v0 : Nat) (v1 : Int32) (μ : Me) : Rs Int32 :=
  (bnd (vc μ v0 8 (FX8_ends v0 v1 μ)) (fun x19 μ18 => (rt x19 μ18)))
set_option maxHeartbeats 4000000 in
set_option maxRecDepth 100000 in
theorem VX8_run_B77 {κ : Cx} {ρ : (Int32 ⊕ String) × Me} (F : Fx κ cX8_run RX8) (M : Mx κ (fun r : Int32 => some (.int r)) ρ rmX8_run (some .int) [] "run") (hNL : κ.2.2.2.2.2.2.2.2.2.2.2.2.2.2 = 2)   (v0 : Nat) (v1 : Int32) (μ : Me) : V κ ρ 0 0 μ (FX8_run_B77  v0 v1 μ) 77 [(0, .ref v0), (1, .int v1)] [] := by
  unfold FX8_run_B77
  refine V_aload_n F dX8_run_77 rfl 0 rfl ?_
  refine V_iload_n F dX8_run_78 rfl 1 rfl ?_
  refine V_cV (As := [.int v1]) (rest := []) (C := RX8) (N := 1) F M (metX8_ends (Fx_G F) (Fx_l F) v0 v1 μ) rfl q1318 q72 q1315 q1317 q25 ⟨by decide +kernel, by decide +kernel, by decide +kernel⟩ rfl ⟨by decide, by decide⟩ (Nat.le_of_ble_eq_true rfl) dX8_run_79 (by decide) (by decide) (fun x19 μ18 => ?_)
  change V κ ρ 0 0 μ18 _ 82 [(0, .ref v0), (1, .int v1)] [.int x19]
  exact V_iret F M dX8_run_82 rfl (by decide) (by decide)
def FX8_run (a0 : Nat) (μ : Me) : Rs Int32 :=
  (bnd (vc μ a0 8 (FX8_begins a0  μ)) (fun x2 μ1 => (gI μ1 a0 8 16 (fun x3 => (pf μ1 a0 8 18 (.int x3) (fun μ4 => (pf μ4 a0 8 16 (.int 0) (fun μ5 => (pf μ5 a0 8 21 (.int 0) (fun μ6 => (bnd (vc μ6 a0 8 (FX8_commands a0  μ6)) (fun x8 μ7 => (gI μ7 a0 8 20 (fun x9 => (if x9 = 0 then (pf μ7 a0 8 21 (.int 1) (fun μ12 => (bnd (vc μ12 a0 8 (FX8_commands a0  μ12)) (fun x14 μ13 => (gI μ13 a0 8 0 (fun x15 => (if x15 = 0 then (FX8_run_B77  a0 x14 μ13) else (pf μ13 a0 8 3 (.int (x14 - 1)) (fun μ20 => (pf μ20 a0 8 0 (.int 2) (fun μ21 => (FX8_run_B77  a0 x14 μ21)))))))))))) else (gI μ7 a0 8 17 (fun x22 => (pf μ7 a0 8 2 (.int x22) (fun μ23 => (bnd (vc μ23 a0 8 (FX8_fail a0 1 μ23)) (fun x25 μ24 => (rt x25 μ24))))))))))))))))))))))
set_option maxHeartbeats 4000000 in
set_option maxRecDepth 100000 in
theorem metX8_run {l : Launch} {s0 : State} {D : va_G} {aC : Nat → ClassId} (hG : Gl s0 D aC) (hl : l.stackTraces = false) (a0 : Nat) (μ : Me) : Ct l yX8_run (ws_ yX8_run cX8_run 2 (some .int)) rmX8_run s0 D aC (fun r : Int32 => some (.int r)) [.ref a0] μ (FX8_run a0 μ) := by
  refine Ct_of hG hl (by decide +kernel) (Nat.le_of_ble_eq_true rfl) (fun κ ρ hNL F M hκ => ?_)
  have F : Fx κ cX8_run RX8 := F
  change V κ ρ 0 0 μ (FX8_run a0 μ) 0 [(0, .ref a0)] []
  unfold FX8_run
  refine V_aload_n F dX8_run_0 rfl 0 rfl ?_
  refine V_cV (As := []) (rest := []) (C := RX8) (N := 0) F M (metX8_begins (Fx_G F) (Fx_l F) a0  μ) rfl q1286 q72 q1283 q1285 q20 ⟨by decide +kernel, by decide +kernel, by decide +kernel⟩ rfl ⟨by decide, by decide⟩ (Nat.le_of_ble_eq_true rfl) dX8_run_1 (by decide) (by decide) (fun x2 μ1 => ?_)
  change V κ ρ 0 0 μ1 _ 4 [(0, .ref a0)] []
  refine V_aload_n F dX8_run_4 rfl 0 rfl ?_
  refine V_aload_n F dX8_run_5 rfl 0 rfl ?_
  refine V_gI (ci := 8) (k9 := 16) (C := RX8) (T := TX8) (N := 22) F rfl hinX8 (by decide) q1224 dX8_run_6 (fun x3 => ?_)
  refine V_pf (ci := 8) (k9 := 18) (C := RX8) (T := TX8) (N := 22) (ty := tyX8) F rfl hinX8 tyX8_ok nmX8 (by decide) q1226 rfl rfl rfl dX8_run_9 (fun μ4 => ?_)
  refine V_aload_n F dX8_run_12 rfl 0 rfl ?_
  refine V_iconst (v := 0) F dX8_run_13 (by decide) ?_
  refine V_pf (ci := 8) (k9 := 16) (C := RX8) (T := TX8) (N := 22) (ty := tyX8) F rfl hinX8 tyX8_ok nmX8 (by decide) q1224 rfl rfl rfl dX8_run_14 (fun μ5 => ?_)
  refine V_aload_n F dX8_run_17 rfl 0 rfl ?_
  refine V_iconst (v := 0) F dX8_run_18 (by decide) ?_
  refine V_pf (ci := 8) (k9 := 21) (C := RX8) (T := TX8) (N := 22) (ty := tyX8) F rfl hinX8 tyX8_ok nmX8 (by decide) q1229 rfl (by decide) (by decide) dX8_run_19 (fun μ6 => ?_)
  refine V_aload_n F dX8_run_22 rfl 0 rfl ?_
  refine V_cV (As := []) (rest := []) (C := RX8) (N := 0) F M (metX8_commands (Fx_G F) (Fx_l F) a0  μ6) rfl q1625 q72 q1622 q1624 q57 ⟨by decide +kernel, by decide +kernel, by decide +kernel⟩ rfl ⟨by decide, by decide⟩ (Nat.le_of_ble_eq_true rfl) dX8_run_23 (by decide) (by decide) (fun x8 μ7 => ?_)
  change V κ ρ 0 0 μ7 _ 26 [(0, .ref a0)] [.int x8]
  refine V_istore_n (lv' := [(1, .int x8), (0, .ref a0)]) F dX8_run_26 rfl (lt_L hNL (by decide)) rfl ?_
  refine V_aload_n F dX8_run_27 rfl 1 rfl ?_
  refine V_gI (ci := 8) (k9 := 20) (C := RX8) (T := TX8) (N := 22) F rfl hinX8 (by decide) q1228 dX8_run_28 (fun x9 => ?_)
  refine V_if_eq (tgt := 48) F dX8_run_31 (by decide) (fun c10 => ?_) (fun c11 => ?_)
  · refine V_aload_n F dX8_run_48 rfl 1 rfl ?_
    refine V_iconst (v := 1) F dX8_run_49 (by decide) ?_
    refine V_pf (ci := 8) (k9 := 21) (C := RX8) (T := TX8) (N := 22) (ty := tyX8) F rfl hinX8 tyX8_ok nmX8 (by decide) q1229 rfl (by decide) (by decide) dX8_run_50 (fun μ12 => ?_)
    refine V_aload_n F dX8_run_53 rfl 1 rfl ?_
    refine V_cV (As := []) (rest := []) (C := RX8) (N := 0) F M (metX8_commands (Fx_G F) (Fx_l F) a0  μ12) rfl q1625 q72 q1622 q1624 q57 ⟨by decide +kernel, by decide +kernel, by decide +kernel⟩ rfl ⟨by decide, by decide⟩ (Nat.le_of_ble_eq_true rfl) dX8_run_54 (by decide) (by decide) (fun x14 μ13 => ?_)
    change V κ ρ 0 0 μ13 _ 57 [(1, .int x8), (0, .ref a0)] [.int x14]
    refine V_istore_n (lv' := [(1, .int x14), (0, .ref a0)]) F dX8_run_57 rfl (lt_L hNL (by decide)) rfl ?_
    refine V_aload_n F dX8_run_58 rfl 1 rfl ?_
    refine V_gI (ci := 8) (k9 := 0) (C := RX8) (T := TX8) (N := 22) F rfl hinX8 (by decide) q1208 dX8_run_59 (fun x15 => ?_)
    refine V_if_eq (tgt := 77) F dX8_run_62 (by decide) (fun c16 => ?_) (fun c17 => ?_)
    · refine V_sub [1, 0] rfl ?_
      exact VX8_run_B77 F M hNL  a0 x14 μ13
    · refine V_aload_n F dX8_run_65 rfl 1 rfl ?_
      refine V_iload_n F dX8_run_66 rfl 0 rfl ?_
      refine V_iconst (v := 1) F dX8_run_67 (by decide) ?_
      refine V_isub F dX8_run_68 ?_
      refine V_pf (ci := 8) (k9 := 3) (C := RX8) (T := TX8) (N := 22) (ty := tyX8) F rfl hinX8 tyX8_ok nmX8 (by decide) q1211 rfl rfl rfl dX8_run_69 (fun μ20 => ?_)
      refine V_aload_n F dX8_run_72 rfl 1 rfl ?_
      refine V_iconst (v := 2) F dX8_run_73 (by decide) ?_
      refine V_pf (ci := 8) (k9 := 0) (C := RX8) (T := TX8) (N := 22) (ty := tyX8) F rfl hinX8 tyX8_ok nmX8 (by decide) q1208 rfl rfl rfl dX8_run_74 (fun μ21 => ?_)
      refine V_sub [1, 0] rfl ?_
      exact VX8_run_B77 F M hNL  a0 x14 μ21
  · refine V_aload_n F dX8_run_34 rfl 1 rfl ?_
    refine V_aload_n F dX8_run_35 rfl 1 rfl ?_
    refine V_gI (ci := 8) (k9 := 17) (C := RX8) (T := TX8) (N := 22) F rfl hinX8 (by decide) q1225 dX8_run_36 (fun x22 => ?_)
    refine V_pf (ci := 8) (k9 := 2) (C := RX8) (T := TX8) (N := 22) (ty := tyX8) F rfl hinX8 tyX8_ok nmX8 (by decide) q1210 rfl rfl rfl dX8_run_39 (fun μ23 => ?_)
    refine V_aload_n F dX8_run_42 rfl 1 rfl ?_
    refine V_iconst (v := 1) F dX8_run_43 (by decide) ?_
    refine V_cV (As := [.int 1]) (rest := []) (C := RX8) (N := 1) F M (metX8_fail (Fx_G F) (Fx_l F) a0 1 μ23) rfl q1303 q72 q1300 q1302 q22 ⟨by decide +kernel, by decide +kernel, by decide +kernel⟩ rfl ⟨by decide, by decide⟩ (Nat.le_of_ble_eq_true rfl) dX8_run_44 (by decide) (by decide) (fun x25 μ24 => ?_)
    change V κ ρ 0 0 μ24 _ 47 [(1, .int x8), (0, .ref a0)] [.int x25]
    exact V_iret F M dX8_run_47 rfl (by decide) (by decide)
/-! DroneLightShowModel.errorPosition()I -/
abbrev rmX8_errorPosition : Room := { frames := 0, cells := 0, slots := 0, locals := 0 }
def FX8_errorPosition_B13  (v0 : Nat) (t0 : Int32) (t1 : Nat) (μ : Me) : Rs Int32 :=
  (pf μ t1 8 0 (.int t0) (fun μ4 => (gI μ4 v0 8 0 (fun x5 => (if x5 = 0 then (gI μ4 v0 8 2 (fun x8 => (rt x8 μ4))) else (rt 0 μ4))))))
set_option maxHeartbeats 4000000 in
set_option maxRecDepth 100000 in
theorem VX8_errorPosition_B13 {κ : Cx} {ρ : (Int32 ⊕ String) × Me} (F : Fx κ cX8_errorPosition RX8) (M : Mx κ (fun r : Int32 => some (.int r)) ρ rmX8_errorPosition (some .int) [] "errorPosition") (hNL : κ.2.2.2.2.2.2.2.2.2.2.2.2.2.2 = 1)   (v0 : Nat) (t0 : Int32) (t1 : Nat) (μ : Me) : V κ ρ 0 0 μ (FX8_errorPosition_B13  v0 t0 t1 μ) 13 [(0, .ref v0)] [.int t0, .ref t1] := by
  unfold FX8_errorPosition_B13
  refine V_pf (ci := 8) (k9 := 0) (C := RX8) (T := TX8) (N := 22) (ty := tyX8) F rfl hinX8 tyX8_ok nmX8 (by decide) q1208 rfl rfl rfl dX8_errorPosition_13 (fun μ4 => ?_)
  refine V_aload_n F dX8_errorPosition_16 rfl 0 rfl ?_
  refine V_gI (ci := 8) (k9 := 0) (C := RX8) (T := TX8) (N := 22) F rfl hinX8 (by decide) q1208 dX8_errorPosition_17 (fun x5 => ?_)
  refine V_if_ne (tgt := 30) F dX8_errorPosition_20 (by decide) (fun c6 => ?_) (fun c7 => ?_)
  · refine V_iconst (v := 0) F dX8_errorPosition_30 (by decide) ?_
    exact V_iret F M dX8_errorPosition_31 rfl (by decide) (by decide)
  · refine V_aload_n F dX8_errorPosition_23 rfl 0 rfl ?_
    refine V_gI (ci := 8) (k9 := 2) (C := RX8) (T := TX8) (N := 22) F rfl hinX8 (by decide) q1210 dX8_errorPosition_24 (fun x8 => ?_)
    refine V_goto (tgt := 31) F dX8_errorPosition_27 (by decide) ?_
    exact V_iret F M dX8_errorPosition_31 rfl (by decide) (by decide)
def FX8_errorPosition (a0 : Nat) (μ : Me) : Rs Int32 :=
  (gI μ a0 8 2 (fun x1 => (if 0 ≤ x1 then (FX8_errorPosition_B13  a0 0 a0 μ) else (FX8_errorPosition_B13  a0 1 a0 μ))))
set_option maxHeartbeats 4000000 in
set_option maxRecDepth 100000 in
theorem metX8_errorPosition {l : Launch} {s0 : State} {D : va_G} {aC : Nat → ClassId} (hG : Gl s0 D aC) (hl : l.stackTraces = false) (a0 : Nat) (μ : Me) : Ct l yX8_errorPosition (ws_ yX8_errorPosition cX8_errorPosition 1 (some .int)) rmX8_errorPosition s0 D aC (fun r : Int32 => some (.int r)) [.ref a0] μ (FX8_errorPosition a0 μ) := by
  refine Ct_of hG hl (by decide +kernel) (Nat.le_of_ble_eq_true rfl) (fun κ ρ hNL F M hκ => ?_)
  have F : Fx κ cX8_errorPosition RX8 := F
  change V κ ρ 0 0 μ (FX8_errorPosition a0 μ) 0 [(0, .ref a0)] []
  unfold FX8_errorPosition
  refine V_aload_n F dX8_errorPosition_0 rfl 0 rfl ?_
  refine V_aload_n F dX8_errorPosition_1 rfl 0 rfl ?_
  refine V_gI (ci := 8) (k9 := 2) (C := RX8) (T := TX8) (N := 22) F rfl hinX8 (by decide) q1210 dX8_errorPosition_2 (fun x1 => ?_)
  refine V_if_ge (tgt := 12) F dX8_errorPosition_5 (by decide) (fun c2 => ?_) (fun c3 => ?_)
  · refine V_iconst (v := 0) F dX8_errorPosition_12 (by decide) ?_
    refine V_sub [0] rfl ?_
    exact VX8_errorPosition_B13 F M hNL  a0 0 a0 μ
  · refine V_iconst (v := 1) F dX8_errorPosition_8 (by decide) ?_
    refine V_goto (tgt := 13) F dX8_errorPosition_9 (by decide) ?_
    refine V_sub [0] rfl ?_
    exact VX8_errorPosition_B13 F M hNL  a0 1 a0 μ
/-! DroneLightShowModel.failedCommand()I -/
abbrev rmX8_failedCommand : Room := { frames := 0, cells := 0, slots := 0, locals := 0 }
def FX8_failedCommand_B13  (v0 : Nat) (t0 : Int32) (t1 : Nat) (μ : Me) : Rs Int32 :=
  (pf μ t1 8 0 (.int t0) (fun μ4 => (gI μ4 v0 8 0 (fun x5 => (if x5 = 0 then (gI μ4 v0 8 3 (fun x8 => (rt x8 μ4))) else (rt 0 μ4))))))
set_option maxHeartbeats 4000000 in
set_option maxRecDepth 100000 in
theorem VX8_failedCommand_B13 {κ : Cx} {ρ : (Int32 ⊕ String) × Me} (F : Fx κ cX8_failedCommand RX8) (M : Mx κ (fun r : Int32 => some (.int r)) ρ rmX8_failedCommand (some .int) [] "failedCommand") (hNL : κ.2.2.2.2.2.2.2.2.2.2.2.2.2.2 = 1)   (v0 : Nat) (t0 : Int32) (t1 : Nat) (μ : Me) : V κ ρ 0 0 μ (FX8_failedCommand_B13  v0 t0 t1 μ) 13 [(0, .ref v0)] [.int t0, .ref t1] := by
  unfold FX8_failedCommand_B13
  refine V_pf (ci := 8) (k9 := 0) (C := RX8) (T := TX8) (N := 22) (ty := tyX8) F rfl hinX8 tyX8_ok nmX8 (by decide) q1208 rfl rfl rfl dX8_failedCommand_13 (fun μ4 => ?_)
  refine V_aload_n F dX8_failedCommand_16 rfl 0 rfl ?_
  refine V_gI (ci := 8) (k9 := 0) (C := RX8) (T := TX8) (N := 22) F rfl hinX8 (by decide) q1208 dX8_failedCommand_17 (fun x5 => ?_)
  refine V_if_ne (tgt := 30) F dX8_failedCommand_20 (by decide) (fun c6 => ?_) (fun c7 => ?_)
  · refine V_iconst (v := 0) F dX8_failedCommand_30 (by decide) ?_
    exact V_iret F M dX8_failedCommand_31 rfl (by decide) (by decide)
  · refine V_aload_n F dX8_failedCommand_23 rfl 0 rfl ?_
    refine V_gI (ci := 8) (k9 := 3) (C := RX8) (T := TX8) (N := 22) F rfl hinX8 (by decide) q1211 dX8_failedCommand_24 (fun x8 => ?_)
    refine V_goto (tgt := 31) F dX8_failedCommand_27 (by decide) ?_
    exact V_iret F M dX8_failedCommand_31 rfl (by decide) (by decide)
def FX8_failedCommand (a0 : Nat) (μ : Me) : Rs Int32 :=
  (gI μ a0 8 3 (fun x1 => (if 0 ≤ x1 then (FX8_failedCommand_B13  a0 0 a0 μ) else (FX8_failedCommand_B13  a0 1 a0 μ))))
set_option maxHeartbeats 4000000 in
set_option maxRecDepth 100000 in
theorem metX8_failedCommand {l : Launch} {s0 : State} {D : va_G} {aC : Nat → ClassId} (hG : Gl s0 D aC) (hl : l.stackTraces = false) (a0 : Nat) (μ : Me) : Ct l yX8_failedCommand (ws_ yX8_failedCommand cX8_failedCommand 1 (some .int)) rmX8_failedCommand s0 D aC (fun r : Int32 => some (.int r)) [.ref a0] μ (FX8_failedCommand a0 μ) := by
  refine Ct_of hG hl (by decide +kernel) (Nat.le_of_ble_eq_true rfl) (fun κ ρ hNL F M hκ => ?_)
  have F : Fx κ cX8_failedCommand RX8 := F
  change V κ ρ 0 0 μ (FX8_failedCommand a0 μ) 0 [(0, .ref a0)] []
  unfold FX8_failedCommand
  refine V_aload_n F dX8_failedCommand_0 rfl 0 rfl ?_
  refine V_aload_n F dX8_failedCommand_1 rfl 0 rfl ?_
  refine V_gI (ci := 8) (k9 := 3) (C := RX8) (T := TX8) (N := 22) F rfl hinX8 (by decide) q1211 dX8_failedCommand_2 (fun x1 => ?_)
  refine V_if_ge (tgt := 12) F dX8_failedCommand_5 (by decide) (fun c2 => ?_) (fun c3 => ?_)
  · refine V_iconst (v := 0) F dX8_failedCommand_12 (by decide) ?_
    refine V_sub [0] rfl ?_
    exact VX8_failedCommand_B13 F M hNL  a0 0 a0 μ
  · refine V_iconst (v := 1) F dX8_failedCommand_8 (by decide) ?_
    refine V_goto (tgt := 13) F dX8_failedCommand_9 (by decide) ?_
    refine V_sub [0] rfl ?_
    exact VX8_failedCommand_B13 F M hNL  a0 1 a0 μ
/-! DroneLightShowModel.describeRow(I)I -/
abbrev rmX8_describeRow : Room := { frames := 2, cells := 0, slots := 0, locals := 43 }
def FX8_describeRow_B65 (k30 : Nat → Int32 → Int32 → Me → Rs Int32) (v0 : Nat) (v1 : Int32) (v2 : Int32) (v4 : Int32) (t0 : Int32) (μ : Me) : Rs Int32 :=
  (gR μ v0 8 12 (fun x19 => (if 0 ≤ v4 then (bnd (vc μ v0 8 (FX8_flies v0 v4 μ)) (fun x23 μ22 => (if x23 = 0 then (sI μ22 x19 v2 (97 + v4) (fun μ26 => (k30 v0 v1 (v2 + 1) μ26))) else (sI μ22 x19 v2 (48 + v4) (fun μ27 => (k30 v0 v1 (v2 + 1) μ27)))))) else (sI μ x19 v2 t0 (fun μ28 => (k30 v0 v1 (v2 + 1) μ28))))))
set_option maxHeartbeats 4000000 in
set_option maxRecDepth 100000 in
theorem VX8_describeRow_B65 {κ : Cx} {ρ : (Int32 ⊕ String) × Me} (F : Fx κ cX8_describeRow RX8) (M : Mx κ (fun r : Int32 => some (.int r)) ρ rmX8_describeRow (some .int) [] "describeRow") (hNL : κ.2.2.2.2.2.2.2.2.2.2.2.2.2.2 = 6) {k30 : Nat → Int32 → Int32 → Me → Rs Int32} (hk30 : ∀ (v0 : Nat) (v1 : Int32) (v2 : Int32) (μ : Me), V κ ρ 0 0 μ (k30 v0 v1 v2 μ) 30 [(0, .ref v0), (1, .int v1), (2, .int v2)] []) (v0 : Nat) (v1 : Int32) (v2 : Int32) (v4 : Int32) (t0 : Int32) (μ : Me) : V κ ρ 0 0 μ (FX8_describeRow_B65 k30 v0 v1 v2 v4 t0 μ) 65 [(0, .ref v0), (1, .int v1), (2, .int v2), (4, .int v4)] [.int t0] := by
  unfold FX8_describeRow_B65
  refine V_istore (lv' := [(5, .int t0), (0, .ref v0), (1, .int v1), (2, .int v2), (4, .int v4)]) F dX8_describeRow_65 (lt_L hNL (by decide)) rfl ?_
  refine V_aload_n F dX8_describeRow_67 rfl 1 rfl ?_
  refine V_gR (ci := 8) (k9 := 12) (C := RX8) (T := TX8) (N := 22) F rfl hinX8 (by decide) q1220 dX8_describeRow_68 (fun x19 => ?_)
  refine V_iload_n F dX8_describeRow_71 rfl 3 rfl ?_
  refine V_iload F dX8_describeRow_72 4 rfl ?_
  refine V_if_ge (tgt := 82) F dX8_describeRow_74 (by decide) (fun c20 => ?_) (fun c21 => ?_)
  · refine V_aload_n F dX8_describeRow_82 rfl 1 rfl ?_
    refine V_iload F dX8_describeRow_83 4 rfl ?_
    refine V_cV (As := [.int v4]) (rest := [.int v2, .ref x19]) (C := RX8) (N := 1) F M (metX8_flies (Fx_G F) (Fx_l F) v0 v4 μ) rfl q1346 q72 q1343 q1345 q30 ⟨by decide +kernel, by decide +kernel, by decide +kernel⟩ rfl ⟨by decide, by decide⟩ (Nat.le_of_ble_eq_true rfl) dX8_describeRow_85 (by decide) (by decide) (fun x23 μ22 => ?_)
    change V κ ρ 0 0 μ22 _ 88 [(5, .int t0), (0, .ref v0), (1, .int v1), (2, .int v2), (4, .int v4)] [.int x23, .int v2, .ref x19]
    refine V_if_eq (tgt := 99) F dX8_describeRow_88 (by decide) (fun c24 => ?_) (fun c25 => ?_)
    · refine V_bipush (v := 97) F dX8_describeRow_99 (by decide) ?_
      refine V_iload F dX8_describeRow_101 4 rfl ?_
      refine V_iadd F dX8_describeRow_103 ?_
      refine V_sI F dX8_describeRow_104 (fun μ26 => ?_)
      refine V_iinc (lv' := [(2, .int (v2 + 1)), (5, .int t0), (0, .ref v0), (1, .int v1), (4, .int v4)]) F dX8_describeRow_105 3 rfl rfl (lt_L hNL (by decide)) rfl ?_
      refine V_goto (tgt := 30) F dX8_describeRow_108 (by decide) ?_
      refine V_sub [2, 3, 0] rfl ?_
      exact hk30 v0 v1 (v2 + 1) μ26
    · refine V_bipush (v := 48) F dX8_describeRow_91 (by decide) ?_
      refine V_iload F dX8_describeRow_93 4 rfl ?_
      refine V_iadd F dX8_describeRow_95 ?_
      refine V_goto (tgt := 104) F dX8_describeRow_96 (by decide) ?_
      refine V_sI F dX8_describeRow_104 (fun μ27 => ?_)
      refine V_iinc (lv' := [(2, .int (v2 + 1)), (5, .int t0), (0, .ref v0), (1, .int v1), (4, .int v4)]) F dX8_describeRow_105 3 rfl rfl (lt_L hNL (by decide)) rfl ?_
      refine V_goto (tgt := 30) F dX8_describeRow_108 (by decide) ?_
      refine V_sub [2, 3, 0] rfl ?_
      exact hk30 v0 v1 (v2 + 1) μ27
  · refine V_iload F dX8_describeRow_77 0 rfl ?_
    refine V_goto (tgt := 104) F dX8_describeRow_79 (by decide) ?_
    refine V_sI F dX8_describeRow_104 (fun μ28 => ?_)
    refine V_iinc (lv' := [(2, .int (v2 + 1)), (5, .int t0), (0, .ref v0), (1, .int v1), (4, .int v4)]) F dX8_describeRow_105 3 rfl rfl (lt_L hNL (by decide)) rfl ?_
    refine V_goto (tgt := 30) F dX8_describeRow_108 (by decide) ?_
    refine V_sub [2, 3, 0] rfl ?_
    exact hk30 v0 v1 (v2 + 1) μ28
def FX8_describeRow_B30 (k30 : Nat → Int32 → Int32 → Me → Rs Int32) (v0 : Nat) (v1 : Int32) (v2 : Int32) (μ : Me) : Rs Int32 :=
  (if 8 ≤ v2 then (pf μ v0 8 19 (.int 8) (fun μ11 => (gI μ11 v0 8 19 (fun x12 => (rt x12 μ11))))) else (bnd (vc μ v0 8 (FX8_in v0 ((8 * v1) + v2) μ)) (fun x14 μ13 => (bnd (vc μ13 v0 8 (FX8_isPadCell v0 ((8 * v1) + v2) μ13)) (fun x16 μ15 => (if x16 = 0 then (FX8_describeRow_B65 k30 v0 v1 v2 x14 46 μ15) else (FX8_describeRow_B65 k30 v0 v1 v2 x14 95 μ15)))))))
set_option maxHeartbeats 4000000 in
set_option maxRecDepth 100000 in
theorem VX8_describeRow_B30 {κ : Cx} {ρ : (Int32 ⊕ String) × Me} (F : Fx κ cX8_describeRow RX8) (M : Mx κ (fun r : Int32 => some (.int r)) ρ rmX8_describeRow (some .int) [] "describeRow") (hNL : κ.2.2.2.2.2.2.2.2.2.2.2.2.2.2 = 6) {k30 : Nat → Int32 → Int32 → Me → Rs Int32} (hk30 : ∀ (v0 : Nat) (v1 : Int32) (v2 : Int32) (μ : Me), V κ ρ 0 0 μ (k30 v0 v1 v2 μ) 30 [(0, .ref v0), (1, .int v1), (2, .int v2)] []) (v0 : Nat) (v1 : Int32) (v2 : Int32) (μ : Me) : V κ ρ 0 0 μ (FX8_describeRow_B30 k30 v0 v1 v2 μ) 30 [(0, .ref v0), (1, .int v1), (2, .int v2)] [] := by
  unfold FX8_describeRow_B30
  refine V_iload_n F dX8_describeRow_30 rfl 2 rfl ?_
  refine V_bipush (v := 8) F dX8_describeRow_31 (by decide) ?_
  refine V_icmp_ge (tgt := 111) F dX8_describeRow_33 (by decide) (fun c9 => ?_) (fun c10 => ?_)
  · refine V_aload_n F dX8_describeRow_111 rfl 0 rfl ?_
    refine V_bipush (v := 8) F dX8_describeRow_112 (by decide) ?_
    refine V_pf (ci := 8) (k9 := 19) (C := RX8) (T := TX8) (N := 22) (ty := tyX8) F rfl hinX8 tyX8_ok nmX8 (by decide) q1227 rfl rfl rfl dX8_describeRow_114 (fun μ11 => ?_)
    refine V_aload_n F dX8_describeRow_117 rfl 0 rfl ?_
    refine V_gI (ci := 8) (k9 := 19) (C := RX8) (T := TX8) (N := 22) F rfl hinX8 (by decide) q1227 dX8_describeRow_118 (fun x12 => ?_)
    exact V_iret F M dX8_describeRow_121 rfl (by decide) (by decide)
  · refine V_bipush (v := 8) F dX8_describeRow_36 (by decide) ?_
    refine V_iload_n F dX8_describeRow_38 rfl 1 rfl ?_
    refine V_imul F dX8_describeRow_39 ?_
    refine V_iload_n F dX8_describeRow_40 rfl 2 rfl ?_
    refine V_iadd F dX8_describeRow_41 ?_
    refine V_istore_n (lv' := [(3, .int ((8 * v1) + v2)), (0, .ref v0), (1, .int v1), (2, .int v2)]) F dX8_describeRow_42 rfl (lt_L hNL (by decide)) rfl ?_
    refine V_aload_n F dX8_describeRow_43 rfl 1 rfl ?_
    refine V_iload_n F dX8_describeRow_44 rfl 0 rfl ?_
    refine V_cV (As := [.int ((8 * v1) + v2)]) (rest := []) (C := RX8) (N := 1) F M (metX8_in (Fx_G F) (Fx_l F) v0 ((8 * v1) + v2) μ) rfl q1307 q72 q1304 q1306 q23 ⟨by decide +kernel, by decide +kernel, by decide +kernel⟩ rfl ⟨by decide, by decide⟩ (Nat.le_of_ble_eq_true rfl) dX8_describeRow_45 (by decide) (by decide) (fun x14 μ13 => ?_)
    change V κ ρ 0 0 μ13 _ 48 [(3, .int ((8 * v1) + v2)), (0, .ref v0), (1, .int v1), (2, .int v2)] [.int x14]
    refine V_istore (lv' := [(4, .int x14), (3, .int ((8 * v1) + v2)), (0, .ref v0), (1, .int v1), (2, .int v2)]) F dX8_describeRow_48 (lt_L hNL (by decide)) rfl ?_
    refine V_aload_n F dX8_describeRow_50 rfl 2 rfl ?_
    refine V_iload_n F dX8_describeRow_51 rfl 1 rfl ?_
    refine V_cV (As := [.int ((8 * v1) + v2)]) (rest := []) (C := RX8) (N := 1) F M (metX8_isPadCell (Fx_G F) (Fx_l F) v0 ((8 * v1) + v2) μ13) rfl q1330 q72 q1327 q1329 q27 ⟨by decide +kernel, by decide +kernel, by decide +kernel⟩ rfl ⟨by decide, by decide⟩ (Nat.le_of_ble_eq_true rfl) dX8_describeRow_52 (by decide) (by decide) (fun x16 μ15 => ?_)
    change V κ ρ 0 0 μ15 _ 55 [(4, .int x14), (3, .int ((8 * v1) + v2)), (0, .ref v0), (1, .int v1), (2, .int v2)] [.int x16]
    refine V_if_eq (tgt := 63) F dX8_describeRow_55 (by decide) (fun c17 => ?_) (fun c18 => ?_)
    · refine V_bipush (v := 46) F dX8_describeRow_63 (by decide) ?_
      refine V_sub [2, 3, 4, 0] rfl ?_
      exact VX8_describeRow_B65 F M hNL hk30 v0 v1 v2 x14 46 μ15
    · refine V_bipush (v := 95) F dX8_describeRow_58 (by decide) ?_
      refine V_goto (tgt := 65) F dX8_describeRow_60 (by decide) ?_
      refine V_sub [2, 3, 4, 0] rfl ?_
      exact VX8_describeRow_B65 F M hNL hk30 v0 v1 v2 x14 95 μ15
def FX8_describeRow_L30  : Nat → Nat → Int32 → Int32 → Me → Rs Int32
  | 0, _, _, _, _ => none
  | f + 1, v0, v1, v2, μ => FX8_describeRow_B30 (FX8_describeRow_L30  f) v0 v1 v2 μ
theorem VX8_describeRow_L30 {κ : Cx} {ρ : (Int32 ⊕ String) × Me} (F : Fx κ cX8_describeRow RX8) (M : Mx κ (fun r : Int32 => some (.int r)) ρ rmX8_describeRow (some .int) [] "describeRow") (hNL : κ.2.2.2.2.2.2.2.2.2.2.2.2.2.2 = 6)   : ∀ (f : Nat) (v0 : Nat) (v1 : Int32) (v2 : Int32) (μ : Me), V κ ρ 0 0 μ (FX8_describeRow_L30  f v0 v1 v2 μ) 30 [(0, .ref v0), (1, .int v1), (2, .int v2)] [] := by
  intro f
  induction f with
  | zero => intros; exact V_none
  | succ f ih => intro v0 v1 v2 μ; exact VX8_describeRow_B30 F M hNL (fun v0 v1 v2 μ => ih v0 v1 v2 μ) v0 v1 v2 μ
def FX8_describeRow_B16  (v0 : Nat) (v1 : Int32) (t0 : Int32) (t1 : Nat) (μ : Me) : Rs Int32 :=
  (pf μ t1 8 0 (.int t0) (fun μ5 => (gI μ5 v0 8 0 (fun x6 => (if x6 = 0 then (FX8_describeRow_L30  FU v0 v1 0 μ5) else (rt 0 μ5))))))
set_option maxHeartbeats 4000000 in
set_option maxRecDepth 100000 in
theorem VX8_describeRow_B16 {κ : Cx} {ρ : (Int32 ⊕ String) × Me} (F : Fx κ cX8_describeRow RX8) (M : Mx κ (fun r : Int32 => some (.int r)) ρ rmX8_describeRow (some .int) [] "describeRow") (hNL : κ.2.2.2.2.2.2.2.2.2.2.2.2.2.2 = 6)   (v0 : Nat) (v1 : Int32) (t0 : Int32) (t1 : Nat) (μ : Me) : V κ ρ 0 0 μ (FX8_describeRow_B16  v0 v1 t0 t1 μ) 16 [(0, .ref v0), (1, .int v1)] [.int t0, .ref t1] := by
  unfold FX8_describeRow_B16
  refine V_pf (ci := 8) (k9 := 0) (C := RX8) (T := TX8) (N := 22) (ty := tyX8) F rfl hinX8 tyX8_ok nmX8 (by decide) q1208 rfl rfl rfl dX8_describeRow_16 (fun μ5 => ?_)
  refine V_aload_n F dX8_describeRow_19 rfl 0 rfl ?_
  refine V_gI (ci := 8) (k9 := 0) (C := RX8) (T := TX8) (N := 22) F rfl hinX8 (by decide) q1208 dX8_describeRow_20 (fun x6 => ?_)
  refine V_if_eq (tgt := 28) F dX8_describeRow_23 (by decide) (fun c7 => ?_) (fun c8 => ?_)
  · refine V_iconst (v := 0) F dX8_describeRow_28 (by decide) ?_
    refine V_istore_n (lv' := [(2, .int 0), (0, .ref v0), (1, .int v1)]) F dX8_describeRow_29 rfl (lt_L hNL (by decide)) rfl ?_
    refine V_sub [1, 2, 0] rfl ?_
    exact VX8_describeRow_L30 F M hNL  FU v0 v1 0 μ5
  · refine V_iconst (v := 0) F dX8_describeRow_26 (by decide) ?_
    exact V_iret F M dX8_describeRow_27 rfl (by decide) (by decide)
def FX8_describeRow (a0 : Nat) (p1 : Int32) (μ : Me) : Rs Int32 :=
  (bnd (FX8_isIn p1 0 7 μ) (fun x2 μ1 => (if x2 = 0 then (FX8_describeRow_B16  a0 p1 1 a0 μ1) else (FX8_describeRow_B16  a0 p1 0 a0 μ1))))
set_option maxHeartbeats 4000000 in
set_option maxRecDepth 100000 in
theorem metX8_describeRow {l : Launch} {s0 : State} {D : va_G} {aC : Nat → ClassId} (hG : Gl s0 D aC) (hl : l.stackTraces = false) (a0 : Nat) (p1 : Int32) (μ : Me) : Ct l yX8_describeRow (ws_ yX8_describeRow cX8_describeRow 6 (some .int)) rmX8_describeRow s0 D aC (fun r : Int32 => some (.int r)) [.ref a0, .int p1] μ (FX8_describeRow a0 p1 μ) := by
  refine Ct_of hG hl (by decide +kernel) (Nat.le_of_ble_eq_true rfl) (fun κ ρ hNL F M hκ => ?_)
  have F : Fx κ cX8_describeRow RX8 := F
  change V κ ρ 0 0 μ (FX8_describeRow a0 p1 μ) 0 [(0, .ref a0), (1, .int p1)] []
  unfold FX8_describeRow
  refine V_aload_n F dX8_describeRow_0 rfl 0 rfl ?_
  refine V_iload_n F dX8_describeRow_1 rfl 1 rfl ?_
  refine V_iconst (v := 0) F dX8_describeRow_2 (by decide) ?_
  refine V_bipush (v := 7) F dX8_describeRow_3 (by decide) ?_
  refine V_cS (As := [.int p1, .int 0, .int 7]) (rest := [.ref a0]) (N := 3) F M (metX8_isIn (Fx_G F) (Fx_l F) p1 0 7 μ) q1299 q72 q1297 q1298 ⟨by decide +kernel, by decide +kernel, by decide +kernel⟩ rfl ⟨by decide, by decide⟩ (Nat.le_of_ble_eq_true rfl) dX8_describeRow_5 (by decide) (by decide) (fun x2 μ1 => ?_)
  change V κ ρ 0 0 μ1 _ 8 [(0, .ref a0), (1, .int p1)] [.int x2, .ref a0]
  refine V_if_eq (tgt := 15) F dX8_describeRow_8 (by decide) (fun c3 => ?_) (fun c4 => ?_)
  · refine V_iconst (v := 1) F dX8_describeRow_15 (by decide) ?_
    refine V_sub [0, 1] rfl ?_
    exact VX8_describeRow_B16 F M hNL  a0 p1 1 a0 μ1
  · refine V_iconst (v := 0) F dX8_describeRow_11 (by decide) ?_
    refine V_goto (tgt := 16) F dX8_describeRow_12 (by decide) ?_
    refine V_sub [0, 1] rfl ?_
    exact VX8_describeRow_B16 F M hNL  a0 p1 0 a0 μ1
/-! DroneLightShowModel.lineAt(I)C -/
abbrev rmX8_lineAt : Room := { frames := 1, cells := 0, slots := 0, locals := 22 }
def FX8_lineAt_B20  (v0 : Nat) (v1 : Int32) (t0 : Int32) (t1 : Nat) (μ : Me) : Rs Int32 :=
  (pf μ t1 8 0 (.int t0) (fun μ6 => (gI μ6 v0 8 0 (fun x7 => (if x7 = 0 then (gR μ6 v0 8 12 (fun x11 => (aI μ6 x11 v1 (fun x12 => (gd (vp_nar .char (((x12 : Int32).toUInt32 % 65536).toInt32) = ((x12 : Int32).toUInt32 % 65536).toInt32) (rt (((x12 : Int32).toUInt32 % 65536).toInt32) μ6)))))) else (gd (vp_nar .char 97 = 97) (rt 97 μ6)))))))
set_option maxHeartbeats 4000000 in
set_option maxRecDepth 100000 in
theorem VX8_lineAt_B20 {κ : Cx} {ρ : (Int32 ⊕ String) × Me} (F : Fx κ cX8_lineAt RX8) (M : Mx κ (fun r : Int32 => some (.int r)) ρ rmX8_lineAt (some .char) [] "lineAt") (hNL : κ.2.2.2.2.2.2.2.2.2.2.2.2.2.2 = 2)   (v0 : Nat) (v1 : Int32) (t0 : Int32) (t1 : Nat) (μ : Me) : V κ ρ 0 0 μ (FX8_lineAt_B20  v0 v1 t0 t1 μ) 20 [(0, .ref v0), (1, .int v1)] [.int t0, .ref t1] := by
  unfold FX8_lineAt_B20
  refine V_pf (ci := 8) (k9 := 0) (C := RX8) (T := TX8) (N := 22) (ty := tyX8) F rfl hinX8 tyX8_ok nmX8 (by decide) q1208 rfl rfl rfl dX8_lineAt_20 (fun μ6 => ?_)
  refine V_aload_n F dX8_lineAt_23 rfl 0 rfl ?_
  refine V_gI (ci := 8) (k9 := 0) (C := RX8) (T := TX8) (N := 22) F rfl hinX8 (by decide) q1208 dX8_lineAt_24 (fun x7 => ?_)
  refine V_if_ne (tgt := 40) F dX8_lineAt_27 (by decide) (fun c8 => ?_) (fun c9 => ?_)
  · refine V_bipush (v := 97) F dX8_lineAt_40 (by decide) ?_
    refine V_gd (fun g10 => ?_)
    exact V_zret F M dX8_lineAt_42 rfl (nar_c g10) (by decide) (by decide)
  · refine V_aload_n F dX8_lineAt_30 rfl 0 rfl ?_
    refine V_gR (ci := 8) (k9 := 12) (C := RX8) (T := TX8) (N := 22) F rfl hinX8 (by decide) q1220 dX8_lineAt_31 (fun x11 => ?_)
    refine V_iload_n F dX8_lineAt_34 rfl 1 rfl ?_
    refine V_aI F dX8_lineAt_35 (fun x12 => ?_)
    refine V_i2c F dX8_lineAt_36 ?_
    refine V_goto (tgt := 42) F dX8_lineAt_37 (by decide) ?_
    refine V_gd (fun g13 => ?_)
    exact V_zret F M dX8_lineAt_42 rfl (nar_c g13) (by decide) (by decide)
def FX8_lineAt (a0 : Nat) (p1 : Int32) (μ : Me) : Rs Int32 :=
  (gI μ a0 8 19 (fun x1 => (bnd (FX8_isIn p1 0 (x1 - 1) μ) (fun x3 μ2 => (if x3 = 0 then (FX8_lineAt_B20  a0 p1 1 a0 μ2) else (FX8_lineAt_B20  a0 p1 0 a0 μ2))))))
set_option maxHeartbeats 4000000 in
set_option maxRecDepth 100000 in
theorem metX8_lineAt {l : Launch} {s0 : State} {D : va_G} {aC : Nat → ClassId} (hG : Gl s0 D aC) (hl : l.stackTraces = false) (a0 : Nat) (p1 : Int32) (μ : Me) : Ct l yX8_lineAt (ws_ yX8_lineAt cX8_lineAt 2 (some .char)) rmX8_lineAt s0 D aC (fun r : Int32 => some (.int r)) [.ref a0, .int p1] μ (FX8_lineAt a0 p1 μ) := by
  refine Ct_of hG hl (by decide +kernel) (Nat.le_of_ble_eq_true rfl) (fun κ ρ hNL F M hκ => ?_)
  have F : Fx κ cX8_lineAt RX8 := F
  change V κ ρ 0 0 μ (FX8_lineAt a0 p1 μ) 0 [(0, .ref a0), (1, .int p1)] []
  unfold FX8_lineAt
  refine V_aload_n F dX8_lineAt_0 rfl 0 rfl ?_
  refine V_iload_n F dX8_lineAt_1 rfl 1 rfl ?_
  refine V_iconst (v := 0) F dX8_lineAt_2 (by decide) ?_
  refine V_aload_n F dX8_lineAt_3 rfl 0 rfl ?_
  refine V_gI (ci := 8) (k9 := 19) (C := RX8) (T := TX8) (N := 22) F rfl hinX8 (by decide) q1227 dX8_lineAt_4 (fun x1 => ?_)
  refine V_iconst (v := 1) F dX8_lineAt_7 (by decide) ?_
  refine V_isub F dX8_lineAt_8 ?_
  refine V_cS (As := [.int p1, .int 0, .int (x1 - 1)]) (rest := [.ref a0]) (N := 3) F M (metX8_isIn (Fx_G F) (Fx_l F) p1 0 (x1 - 1) μ) q1299 q72 q1297 q1298 ⟨by decide +kernel, by decide +kernel, by decide +kernel⟩ rfl ⟨by decide, by decide⟩ (Nat.le_of_ble_eq_true rfl) dX8_lineAt_9 (by decide) (by decide) (fun x3 μ2 => ?_)
  change V κ ρ 0 0 μ2 _ 12 [(0, .ref a0), (1, .int p1)] [.int x3, .ref a0]
  refine V_if_eq (tgt := 19) F dX8_lineAt_12 (by decide) (fun c4 => ?_) (fun c5 => ?_)
  · refine V_iconst (v := 1) F dX8_lineAt_19 (by decide) ?_
    refine V_sub [0, 1] rfl ?_
    exact VX8_lineAt_B20 F M hNL  a0 p1 1 a0 μ2
  · refine V_iconst (v := 0) F dX8_lineAt_15 (by decide) ?_
    refine V_goto (tgt := 20) F dX8_lineAt_16 (by decide) ?_
    refine V_sub [0, 1] rfl ?_
    exact VX8_lineAt_B20 F M hNL  a0 p1 0 a0 μ2
/-! DroneLightShowModel.meanDistance()D -/
abbrev rmX8_meanDistance : Room := { frames := 2, cells := 0, slots := 0, locals := 42 }
def FX8_meanDistance_B75  (v0 : Nat) (v1 : Int32) (v2 : Int32) (t0 : Int32) (t1 : Nat) (μ : Me) : Rs UInt64 :=
  (pf μ t1 8 0 (.int t0) (fun μ7 => (gI μ7 v0 8 0 (fun x8 => (if x8 = 0 then (gd (nn64 (FP.ddiv (FP.i2d v1) (FP.i2d v2)) = true) (rt (FP.ddiv (FP.i2d v1) (FP.i2d v2)) μ7)) else (rt FP.dconst0 μ7))))))
set_option maxHeartbeats 4000000 in
set_option maxRecDepth 100000 in
theorem VX8_meanDistance_B75 {κ : Cx} {ρ : (UInt64 ⊕ String) × Me} (F : Fx κ cX8_meanDistance RX8) (M : Mx κ (fun r : UInt64 => some (.double r)) ρ rmX8_meanDistance (some .double) [] "meanDistance") (hNL : κ.2.2.2.2.2.2.2.2.2.2.2.2.2.2 = 4)   (v0 : Nat) (v1 : Int32) (v2 : Int32) (t0 : Int32) (t1 : Nat) (μ : Me) : V κ ρ 0 0 μ (FX8_meanDistance_B75  v0 v1 v2 t0 t1 μ) 75 [(0, .ref v0), (1, .int v1), (2, .int v2)] [.int t0, .ref t1] := by
  unfold FX8_meanDistance_B75
  refine V_pf (ci := 8) (k9 := 0) (C := RX8) (T := TX8) (N := 22) (ty := tyX8) F rfl hinX8 tyX8_ok nmX8 (by decide) q1208 rfl rfl rfl dX8_meanDistance_75 (fun μ7 => ?_)
  refine V_aload_n F dX8_meanDistance_78 rfl 0 rfl ?_
  refine V_gI (ci := 8) (k9 := 0) (C := RX8) (T := TX8) (N := 22) F rfl hinX8 (by decide) q1208 dX8_meanDistance_79 (fun x8 => ?_)
  refine V_if_ne (tgt := 93) F dX8_meanDistance_82 (by decide) (fun c9 => ?_) (fun c10 => ?_)
  · refine V_dconst0 F dX8_meanDistance_93 ?_
    exact V_dret F M dX8_meanDistance_94 rfl (by decide) (by decide)
  · refine V_iload_n F dX8_meanDistance_85 rfl 1 rfl ?_
    refine V_i2d F dX8_meanDistance_86 ?_
    refine V_iload_n F dX8_meanDistance_87 rfl 2 rfl ?_
    refine V_i2d F dX8_meanDistance_88 ?_
    refine V_gd (fun g11 => ?_)
    refine V_ddiv F dX8_meanDistance_89 g11 ?_
    refine V_goto (tgt := 94) F dX8_meanDistance_90 (by decide) ?_
    exact V_dret F M dX8_meanDistance_94 rfl (by decide) (by decide)
def FX8_meanDistance_B6 (k6 : Nat → Int32 → Int32 → Int32 → Me → Rs UInt64) (v0 : Nat) (v1 : Int32) (v2 : Int32) (v3 : Int32) (μ : Me) : Rs UInt64 :=
  (gR μ v0 8 5 (fun x1 => (aI μ x1 0 (fun x2 => (if x2 ≤ v3 then (if v2 = 0 then (FX8_meanDistance_B75  v0 v1 v2 1 v0 μ) else (FX8_meanDistance_B75  v0 v1 v2 0 v0 μ)) else (bnd (vc μ v0 8 (FX8_flies v0 v3 μ)) (fun x13 μ12 => (if x13 = 0 then (k6 v0 v1 v2 (v3 + 1) μ12) else (bnd (vc μ12 v0 8 (FX8_goal v0 v3 μ12)) (fun x17 μ16 => (if 0 ≤ x17 then (gR μ16 v0 8 5 (fun x20 => (bnd (FX8_of v3 0 μ16) (fun x22 μ21 => (aI μ21 x20 x22 (fun x23 => (bnd (vc μ21 v0 8 (FX8_goal v0 v3 μ21)) (fun x25 μ24 => (bnd (FX8_far x23 x25 μ24) (fun x27 μ26 => (k6 v0 (v1 + x27) (v2 + 1) (v3 + 1) μ26))))))))))) else (k6 v0 v1 v2 (v3 + 1) μ16))))))))))))
set_option maxHeartbeats 4000000 in
set_option maxRecDepth 100000 in
theorem VX8_meanDistance_B6 {κ : Cx} {ρ : (UInt64 ⊕ String) × Me} (F : Fx κ cX8_meanDistance RX8) (M : Mx κ (fun r : UInt64 => some (.double r)) ρ rmX8_meanDistance (some .double) [] "meanDistance") (hNL : κ.2.2.2.2.2.2.2.2.2.2.2.2.2.2 = 4) {k6 : Nat → Int32 → Int32 → Int32 → Me → Rs UInt64} (hk6 : ∀ (v0 : Nat) (v1 : Int32) (v2 : Int32) (v3 : Int32) (μ : Me), V κ ρ 0 0 μ (k6 v0 v1 v2 v3 μ) 6 [(0, .ref v0), (1, .int v1), (2, .int v2), (3, .int v3)] []) (v0 : Nat) (v1 : Int32) (v2 : Int32) (v3 : Int32) (μ : Me) : V κ ρ 0 0 μ (FX8_meanDistance_B6 k6 v0 v1 v2 v3 μ) 6 [(0, .ref v0), (1, .int v1), (2, .int v2), (3, .int v3)] [] := by
  unfold FX8_meanDistance_B6
  refine V_iload_n F dX8_meanDistance_6 rfl 3 rfl ?_
  refine V_aload_n F dX8_meanDistance_7 rfl 0 rfl ?_
  refine V_gR (ci := 8) (k9 := 5) (C := RX8) (T := TX8) (N := 22) F rfl hinX8 (by decide) q1213 dX8_meanDistance_8 (fun x1 => ?_)
  refine V_iconst (v := 0) F dX8_meanDistance_11 (by decide) ?_
  refine V_aI F dX8_meanDistance_12 (fun x2 => ?_)
  refine V_icmp_ge (tgt := 65) F dX8_meanDistance_13 (by decide) (fun c3 => ?_) (fun c4 => ?_)
  · refine V_aload_n F dX8_meanDistance_65 rfl 0 rfl ?_
    refine V_iload_n F dX8_meanDistance_66 rfl 2 rfl ?_
    refine V_if_ne (tgt := 74) F dX8_meanDistance_67 (by decide) (fun c5 => ?_) (fun c6 => ?_)
    · refine V_iconst (v := 0) F dX8_meanDistance_74 (by decide) ?_
      refine V_sub [0, 1, 2] rfl ?_
      exact VX8_meanDistance_B75 F M hNL  v0 v1 v2 0 v0 μ
    · refine V_iconst (v := 1) F dX8_meanDistance_70 (by decide) ?_
      refine V_goto (tgt := 75) F dX8_meanDistance_71 (by decide) ?_
      refine V_sub [0, 1, 2] rfl ?_
      exact VX8_meanDistance_B75 F M hNL  v0 v1 v2 1 v0 μ
  · refine V_aload_n F dX8_meanDistance_16 rfl 0 rfl ?_
    refine V_iload_n F dX8_meanDistance_17 rfl 3 rfl ?_
    refine V_cV (As := [.int v3]) (rest := []) (C := RX8) (N := 1) F M (metX8_flies (Fx_G F) (Fx_l F) v0 v3 μ) rfl q1346 q72 q1343 q1345 q30 ⟨by decide +kernel, by decide +kernel, by decide +kernel⟩ rfl ⟨by decide, by decide⟩ (Nat.le_of_ble_eq_true rfl) dX8_meanDistance_18 (by decide) (by decide) (fun x13 μ12 => ?_)
    change V κ ρ 0 0 μ12 _ 21 [(0, .ref v0), (1, .int v1), (2, .int v2), (3, .int v3)] [.int x13]
    refine V_if_eq (tgt := 59) F dX8_meanDistance_21 (by decide) (fun c14 => ?_) (fun c15 => ?_)
    · refine V_iinc (lv' := [(3, .int (v3 + 1)), (0, .ref v0), (1, .int v1), (2, .int v2)]) F dX8_meanDistance_59 3 rfl rfl (lt_L hNL (by decide)) rfl ?_
      refine V_goto (tgt := 6) F dX8_meanDistance_62 (by decide) ?_
      refine V_sub [1, 2, 3, 0] rfl ?_
      exact hk6 v0 v1 v2 (v3 + 1) μ12
    · refine V_aload_n F dX8_meanDistance_24 rfl 0 rfl ?_
      refine V_iload_n F dX8_meanDistance_25 rfl 3 rfl ?_
      refine V_cV (As := [.int v3]) (rest := []) (C := RX8) (N := 1) F M (metX8_goal (Fx_G F) (Fx_l F) v0 v3 μ12) rfl q1416 q72 q1413 q1415 q37 ⟨by decide +kernel, by decide +kernel, by decide +kernel⟩ rfl ⟨by decide, by decide⟩ (Nat.le_of_ble_eq_true rfl) dX8_meanDistance_26 (by decide) (by decide) (fun x17 μ16 => ?_)
      change V κ ρ 0 0 μ16 _ 29 [(0, .ref v0), (1, .int v1), (2, .int v2), (3, .int v3)] [.int x17]
      refine V_if_ge (tgt := 35) F dX8_meanDistance_29 (by decide) (fun c18 => ?_) (fun c19 => ?_)
      · refine V_iload_n F dX8_meanDistance_35 rfl 1 rfl ?_
        refine V_aload_n F dX8_meanDistance_36 rfl 0 rfl ?_
        refine V_gR (ci := 8) (k9 := 5) (C := RX8) (T := TX8) (N := 22) F rfl hinX8 (by decide) q1213 dX8_meanDistance_37 (fun x20 => ?_)
        refine V_iload_n F dX8_meanDistance_40 rfl 3 rfl ?_
        refine V_iconst (v := 0) F dX8_meanDistance_41 (by decide) ?_
        refine V_cS (As := [.int v3, .int 0]) (rest := [.ref x20, .int v1]) (N := 2) F M (metX8_of (Fx_G F) (Fx_l F) v3 0 μ16) q1310 q72 q1308 q1309 ⟨by decide +kernel, by decide +kernel, by decide +kernel⟩ rfl ⟨by decide, by decide⟩ (Nat.le_of_ble_eq_true rfl) dX8_meanDistance_42 (by decide) (by decide) (fun x22 μ21 => ?_)
        change V κ ρ 0 0 μ21 _ 45 [(0, .ref v0), (1, .int v1), (2, .int v2), (3, .int v3)] [.int x22, .ref x20, .int v1]
        refine V_aI F dX8_meanDistance_45 (fun x23 => ?_)
        refine V_aload_n F dX8_meanDistance_46 rfl 0 rfl ?_
        refine V_iload_n F dX8_meanDistance_47 rfl 3 rfl ?_
        refine V_cV (As := [.int v3]) (rest := [.int x23, .int v1]) (C := RX8) (N := 1) F M (metX8_goal (Fx_G F) (Fx_l F) v0 v3 μ21) rfl q1416 q72 q1413 q1415 q37 ⟨by decide +kernel, by decide +kernel, by decide +kernel⟩ rfl ⟨by decide, by decide⟩ (Nat.le_of_ble_eq_true rfl) dX8_meanDistance_48 (by decide) (by decide) (fun x25 μ24 => ?_)
        change V κ ρ 0 0 μ24 _ 51 [(0, .ref v0), (1, .int v1), (2, .int v2), (3, .int v3)] [.int x25, .int x23, .int v1]
        refine V_cS (As := [.int x23, .int x25]) (rest := [.int v1]) (N := 2) F M (metX8_far (Fx_G F) (Fx_l F) x23 x25 μ24) q1373 q72 q1371 q1372 ⟨by decide +kernel, by decide +kernel, by decide +kernel⟩ rfl ⟨by decide, by decide⟩ (Nat.le_of_ble_eq_true rfl) dX8_meanDistance_51 (by decide) (by decide) (fun x27 μ26 => ?_)
        change V κ ρ 0 0 μ26 _ 54 [(0, .ref v0), (1, .int v1), (2, .int v2), (3, .int v3)] [.int x27, .int v1]
        refine V_iadd F dX8_meanDistance_54 ?_
        refine V_istore_n (lv' := [(1, .int (v1 + x27)), (0, .ref v0), (2, .int v2), (3, .int v3)]) F dX8_meanDistance_55 rfl (lt_L hNL (by decide)) rfl ?_
        refine V_iinc (lv' := [(2, .int (v2 + 1)), (1, .int (v1 + x27)), (0, .ref v0), (3, .int v3)]) F dX8_meanDistance_56 2 rfl rfl (lt_L hNL (by decide)) rfl ?_
        refine V_iinc (lv' := [(3, .int (v3 + 1)), (2, .int (v2 + 1)), (1, .int (v1 + x27)), (0, .ref v0)]) F dX8_meanDistance_59 3 rfl rfl (lt_L hNL (by decide)) rfl ?_
        refine V_goto (tgt := 6) F dX8_meanDistance_62 (by decide) ?_
        refine V_sub [3, 2, 1, 0] rfl ?_
        exact hk6 v0 (v1 + x27) (v2 + 1) (v3 + 1) μ26
      · refine V_goto (tgt := 59) F dX8_meanDistance_32 (by decide) ?_
        refine V_iinc (lv' := [(3, .int (v3 + 1)), (0, .ref v0), (1, .int v1), (2, .int v2)]) F dX8_meanDistance_59 3 rfl rfl (lt_L hNL (by decide)) rfl ?_
        refine V_goto (tgt := 6) F dX8_meanDistance_62 (by decide) ?_
        refine V_sub [1, 2, 3, 0] rfl ?_
        exact hk6 v0 v1 v2 (v3 + 1) μ16
def FX8_meanDistance_L6  : Nat → Nat → Int32 → Int32 → Int32 → Me → Rs UInt64
  | 0, _, _, _, _, _ => none
  | f + 1, v0, v1, v2, v3, μ => FX8_meanDistance_B6 (FX8_meanDistance_L6  f) v0 v1 v2 v3 μ
theorem VX8_meanDistance_L6 {κ : Cx} {ρ : (UInt64 ⊕ String) × Me} (F : Fx κ cX8_meanDistance RX8) (M : Mx κ (fun r : UInt64 => some (.double r)) ρ rmX8_meanDistance (some .double) [] "meanDistance") (hNL : κ.2.2.2.2.2.2.2.2.2.2.2.2.2.2 = 4)   : ∀ (f : Nat) (v0 : Nat) (v1 : Int32) (v2 : Int32) (v3 : Int32) (μ : Me), V κ ρ 0 0 μ (FX8_meanDistance_L6  f v0 v1 v2 v3 μ) 6 [(0, .ref v0), (1, .int v1), (2, .int v2), (3, .int v3)] [] := by
  intro f
  induction f with
  | zero => intros; exact V_none
  | succ f ih => intro v0 v1 v2 v3 μ; exact VX8_meanDistance_B6 F M hNL (fun v0 v1 v2 v3 μ => ih v0 v1 v2 v3 μ) v0 v1 v2 v3 μ
def FX8_meanDistance (a0 : Nat) (μ : Me) : Rs UInt64 :=
  (FX8_meanDistance_L6  FU a0 0 0 0 μ)
set_option maxHeartbeats 4000000 in
set_option maxRecDepth 100000 in
theorem metX8_meanDistance {l : Launch} {s0 : State} {D : va_G} {aC : Nat → ClassId} (hG : Gl s0 D aC) (hl : l.stackTraces = false) (a0 : Nat) (μ : Me) : Ct l yX8_meanDistance (ws_ yX8_meanDistance cX8_meanDistance 4 (some .double)) rmX8_meanDistance s0 D aC (fun r : UInt64 => some (.double r)) [.ref a0] μ (FX8_meanDistance a0 μ) := by
  refine Ct_of hG hl (by decide +kernel) (Nat.le_of_ble_eq_true rfl) (fun κ ρ hNL F M hκ => ?_)
  have F : Fx κ cX8_meanDistance RX8 := F
  change V κ ρ 0 0 μ (FX8_meanDistance a0 μ) 0 [(0, .ref a0)] []
  unfold FX8_meanDistance
  refine V_iconst (v := 0) F dX8_meanDistance_0 (by decide) ?_
  refine V_istore_n (lv' := [(1, .int 0), (0, .ref a0)]) F dX8_meanDistance_1 rfl (lt_L hNL (by decide)) rfl ?_
  refine V_iconst (v := 0) F dX8_meanDistance_2 (by decide) ?_
  refine V_istore_n (lv' := [(2, .int 0), (1, .int 0), (0, .ref a0)]) F dX8_meanDistance_3 rfl (lt_L hNL (by decide)) rfl ?_
  refine V_iconst (v := 0) F dX8_meanDistance_4 (by decide) ?_
  refine V_istore_n (lv' := [(3, .int 0), (2, .int 0), (1, .int 0), (0, .ref a0)]) F dX8_meanDistance_5 rfl (lt_L hNL (by decide)) rfl ?_
  refine V_sub [3, 2, 1, 0] rfl ?_
  exact VX8_meanDistance_L6 F M hNL  FU a0 0 0 0 μ
/-! DroneLightShowModel.isConsistent()Z -/
abbrev rmX8_isConsistent : Room := { frames := 2, cells := 0, slots := 0, locals := 43 }
def FX8_isConsistent_B9 (k9 : Nat → Int32 → Int32 → Me → Rs Int32) (v0 : Nat) (v1 : Int32) (v2 : Int32) (μ : Me) : Rs Int32 :=
  (gR μ v0 8 5 (fun x2 => (aI μ x2 0 (fun x3 => (if x3 ≤ v2 then (gd (vp_nar .boolean v1 = v1) (rt v1 μ)) else (gR μ v0 8 5 (fun x7 => (bnd (FX8_of v2 0 μ) (fun x9 μ8 => (aI μ8 x7 x9 (fun x10 => (bnd (vc μ8 v0 8 (FX8_in v0 x10 μ8)) (fun x12 μ11 => (if x12 = v2 then (k9 v0 (v1 &&& 1) (v2 + 1) μ11) else (k9 v0 (v1 &&& 0) (v2 + 1) μ11)))))))))))))))
set_option maxHeartbeats 4000000 in
set_option maxRecDepth 100000 in
theorem VX8_isConsistent_B9 {κ : Cx} {ρ : (Int32 ⊕ String) × Me} (F : Fx κ cX8_isConsistent RX8) (M : Mx κ (fun r : Int32 => some (.int r)) ρ rmX8_isConsistent (some .boolean) [] "isConsistent") (hNL : κ.2.2.2.2.2.2.2.2.2.2.2.2.2.2 = 3) {k9 : Nat → Int32 → Int32 → Me → Rs Int32} (hk9 : ∀ (v0 : Nat) (v1 : Int32) (v2 : Int32) (μ : Me), V κ ρ 0 0 μ (k9 v0 v1 v2 μ) 9 [(0, .ref v0), (1, .int v1), (2, .int v2)] []) (v0 : Nat) (v1 : Int32) (v2 : Int32) (μ : Me) : V κ ρ 0 0 μ (FX8_isConsistent_B9 k9 v0 v1 v2 μ) 9 [(0, .ref v0), (1, .int v1), (2, .int v2)] [] := by
  unfold FX8_isConsistent_B9
  refine V_iload_n F dX8_isConsistent_9 rfl 2 rfl ?_
  refine V_aload_n F dX8_isConsistent_10 rfl 0 rfl ?_
  refine V_gR (ci := 8) (k9 := 5) (C := RX8) (T := TX8) (N := 22) F rfl hinX8 (by decide) q1213 dX8_isConsistent_11 (fun x2 => ?_)
  refine V_iconst (v := 0) F dX8_isConsistent_14 (by decide) ?_
  refine V_aI F dX8_isConsistent_15 (fun x3 => ?_)
  refine V_icmp_ge (tgt := 51) F dX8_isConsistent_16 (by decide) (fun c4 => ?_) (fun c5 => ?_)
  · refine V_iload_n F dX8_isConsistent_51 rfl 1 rfl ?_
    refine V_gd (fun g6 => ?_)
    exact V_zret F M dX8_isConsistent_52 rfl (nar_z g6) (by decide) (by decide)
  · refine V_iload_n F dX8_isConsistent_19 rfl 1 rfl ?_
    refine V_aload_n F dX8_isConsistent_20 rfl 0 rfl ?_
    refine V_aload_n F dX8_isConsistent_21 rfl 0 rfl ?_
    refine V_gR (ci := 8) (k9 := 5) (C := RX8) (T := TX8) (N := 22) F rfl hinX8 (by decide) q1213 dX8_isConsistent_22 (fun x7 => ?_)
    refine V_iload_n F dX8_isConsistent_25 rfl 2 rfl ?_
    refine V_iconst (v := 0) F dX8_isConsistent_26 (by decide) ?_
    refine V_cS (As := [.int v2, .int 0]) (rest := [.ref x7, .ref v0, .int v1]) (N := 2) F M (metX8_of (Fx_G F) (Fx_l F) v2 0 μ) q1310 q72 q1308 q1309 ⟨by decide +kernel, by decide +kernel, by decide +kernel⟩ rfl ⟨by decide, by decide⟩ (Nat.le_of_ble_eq_true rfl) dX8_isConsistent_27 (by decide) (by decide) (fun x9 μ8 => ?_)
    change V κ ρ 0 0 μ8 _ 30 [(0, .ref v0), (1, .int v1), (2, .int v2)] [.int x9, .ref x7, .ref v0, .int v1]
    refine V_aI F dX8_isConsistent_30 (fun x10 => ?_)
    refine V_cV (As := [.int x10]) (rest := [.int v1]) (C := RX8) (N := 1) F M (metX8_in (Fx_G F) (Fx_l F) v0 x10 μ8) rfl q1307 q72 q1304 q1306 q23 ⟨by decide +kernel, by decide +kernel, by decide +kernel⟩ rfl ⟨by decide, by decide⟩ (Nat.le_of_ble_eq_true rfl) dX8_isConsistent_31 (by decide) (by decide) (fun x12 μ11 => ?_)
    change V κ ρ 0 0 μ11 _ 34 [(0, .ref v0), (1, .int v1), (2, .int v2)] [.int x12, .int v1]
    refine V_iload_n F dX8_isConsistent_34 rfl 2 rfl ?_
    refine V_icmp_ne (tgt := 42) F dX8_isConsistent_35 (by decide) (fun c13 => ?_) (fun c14 => ?_)
    · refine V_iconst (v := 0) F dX8_isConsistent_42 (by decide) ?_
      refine V_iand F dX8_isConsistent_43 ?_
      refine V_istore_n (lv' := [(1, .int (v1 &&& 0)), (0, .ref v0), (2, .int v2)]) F dX8_isConsistent_44 rfl (lt_L hNL (by decide)) rfl ?_
      refine V_iinc (lv' := [(2, .int (v2 + 1)), (1, .int (v1 &&& 0)), (0, .ref v0)]) F dX8_isConsistent_45 2 rfl rfl (lt_L hNL (by decide)) rfl ?_
      refine V_goto (tgt := 9) F dX8_isConsistent_48 (by decide) ?_
      refine V_sub [2, 1, 0] rfl ?_
      exact hk9 v0 (v1 &&& 0) (v2 + 1) μ11
    · refine V_iconst (v := 1) F dX8_isConsistent_38 (by decide) ?_
      refine V_goto (tgt := 43) F dX8_isConsistent_39 (by decide) ?_
      refine V_iand F dX8_isConsistent_43 ?_
      refine V_istore_n (lv' := [(1, .int (v1 &&& 1)), (0, .ref v0), (2, .int v2)]) F dX8_isConsistent_44 rfl (lt_L hNL (by decide)) rfl ?_
      refine V_iinc (lv' := [(2, .int (v2 + 1)), (1, .int (v1 &&& 1)), (0, .ref v0)]) F dX8_isConsistent_45 2 rfl rfl (lt_L hNL (by decide)) rfl ?_
      refine V_goto (tgt := 9) F dX8_isConsistent_48 (by decide) ?_
      refine V_sub [2, 1, 0] rfl ?_
      exact hk9 v0 (v1 &&& 1) (v2 + 1) μ11
def FX8_isConsistent_L9  : Nat → Nat → Int32 → Int32 → Me → Rs Int32
  | 0, _, _, _, _ => none
  | f + 1, v0, v1, v2, μ => FX8_isConsistent_B9 (FX8_isConsistent_L9  f) v0 v1 v2 μ
theorem VX8_isConsistent_L9 {κ : Cx} {ρ : (Int32 ⊕ String) × Me} (F : Fx κ cX8_isConsistent RX8) (M : Mx κ (fun r : Int32 => some (.int r)) ρ rmX8_isConsistent (some .boolean) [] "isConsistent") (hNL : κ.2.2.2.2.2.2.2.2.2.2.2.2.2.2 = 3)   : ∀ (f : Nat) (v0 : Nat) (v1 : Int32) (v2 : Int32) (μ : Me), V κ ρ 0 0 μ (FX8_isConsistent_L9  f v0 v1 v2 μ) 9 [(0, .ref v0), (1, .int v1), (2, .int v2)] [] := by
  intro f
  induction f with
  | zero => intros; exact V_none
  | succ f ih => intro v0 v1 v2 μ; exact VX8_isConsistent_B9 F M hNL (fun v0 v1 v2 μ => ih v0 v1 v2 μ) v0 v1 v2 μ
def FX8_isConsistent (a0 : Nat) (μ : Me) : Rs Int32 :=
  (pf μ a0 8 0 (.int 0) (fun μ1 => (FX8_isConsistent_L9  FU a0 1 0 μ1)))
set_option maxHeartbeats 4000000 in
set_option maxRecDepth 100000 in
theorem metX8_isConsistent {l : Launch} {s0 : State} {D : va_G} {aC : Nat → ClassId} (hG : Gl s0 D aC) (hl : l.stackTraces = false) (a0 : Nat) (μ : Me) : Ct l yX8_isConsistent (ws_ yX8_isConsistent cX8_isConsistent 3 (some .boolean)) rmX8_isConsistent s0 D aC (fun r : Int32 => some (.int r)) [.ref a0] μ (FX8_isConsistent a0 μ) := by
  refine Ct_of hG hl (by decide +kernel) (Nat.le_of_ble_eq_true rfl) (fun κ ρ hNL F M hκ => ?_)
  have F : Fx κ cX8_isConsistent RX8 := F
  change V κ ρ 0 0 μ (FX8_isConsistent a0 μ) 0 [(0, .ref a0)] []
  unfold FX8_isConsistent
  refine V_aload_n F dX8_isConsistent_0 rfl 0 rfl ?_
  refine V_iconst (v := 0) F dX8_isConsistent_1 (by decide) ?_
  refine V_pf (ci := 8) (k9 := 0) (C := RX8) (T := TX8) (N := 22) (ty := tyX8) F rfl hinX8 tyX8_ok nmX8 (by decide) q1208 rfl rfl rfl dX8_isConsistent_2 (fun μ1 => ?_)
  refine V_iconst (v := 1) F dX8_isConsistent_5 (by decide) ?_
  refine V_istore_n (lv' := [(1, .int 1), (0, .ref a0)]) F dX8_isConsistent_6 rfl (lt_L hNL (by decide)) rfl ?_
  refine V_iconst (v := 0) F dX8_isConsistent_7 (by decide) ?_
  refine V_istore_n (lv' := [(2, .int 0), (1, .int 1), (0, .ref a0)]) F dX8_isConsistent_8 rfl (lt_L hNL (by decide)) rfl ?_
  refine V_sub [2, 1, 0] rfl ?_
  exact VX8_isConsistent_L9 F M hNL  FU a0 1 0 μ1
/-! DroneLightShowModel.undo()I -/
abbrev rmX8_undo : Room := { frames := 0, cells := 0, slots := 0, locals := 0 }
def FX8_undo_B37 (k37 : Nat → Int32 → Me → Rs Int32) (v0 : Nat) (v1 : Int32) (μ : Me) : Rs Int32 :=
  (if 117 ≤ v1 then (gI μ v0 8 1 (fun x12 => (rt x12 μ))) else (gR μ v0 8 5 (fun x13 => (gR μ v0 8 9 (fun x14 => (gI μ v0 8 1 (fun x15 => (aI μ x14 ((x15 * 117) + v1) (fun x16 => (sI μ x13 v1 x16 (fun μ17 => (k37 v0 (v1 + 1) μ17))))))))))))
set_option maxHeartbeats 4000000 in
set_option maxRecDepth 100000 in
theorem VX8_undo_B37 {κ : Cx} {ρ : (Int32 ⊕ String) × Me} (F : Fx κ cX8_undo RX8) (M : Mx κ (fun r : Int32 => some (.int r)) ρ rmX8_undo (some .int) [] "undo") (hNL : κ.2.2.2.2.2.2.2.2.2.2.2.2.2.2 = 2) {k37 : Nat → Int32 → Me → Rs Int32} (hk37 : ∀ (v0 : Nat) (v1 : Int32) (μ : Me), V κ ρ 0 0 μ (k37 v0 v1 μ) 37 [(0, .ref v0), (1, .int v1)] []) (v0 : Nat) (v1 : Int32) (μ : Me) : V κ ρ 0 0 μ (FX8_undo_B37 k37 v0 v1 μ) 37 [(0, .ref v0), (1, .int v1)] [] := by
  unfold FX8_undo_B37
  refine V_iload_n F dX8_undo_37 rfl 1 rfl ?_
  refine V_bipush (v := 117) F dX8_undo_38 (by decide) ?_
  refine V_icmp_ge (tgt := 69) F dX8_undo_40 (by decide) (fun c10 => ?_) (fun c11 => ?_)
  · refine V_aload_n F dX8_undo_69 rfl 0 rfl ?_
    refine V_gI (ci := 8) (k9 := 1) (C := RX8) (T := TX8) (N := 22) F rfl hinX8 (by decide) q1209 dX8_undo_70 (fun x12 => ?_)
    exact V_iret F M dX8_undo_73 rfl (by decide) (by decide)
  · refine V_aload_n F dX8_undo_43 rfl 0 rfl ?_
    refine V_gR (ci := 8) (k9 := 5) (C := RX8) (T := TX8) (N := 22) F rfl hinX8 (by decide) q1213 dX8_undo_44 (fun x13 => ?_)
    refine V_iload_n F dX8_undo_47 rfl 1 rfl ?_
    refine V_aload_n F dX8_undo_48 rfl 0 rfl ?_
    refine V_gR (ci := 8) (k9 := 9) (C := RX8) (T := TX8) (N := 22) F rfl hinX8 (by decide) q1217 dX8_undo_49 (fun x14 => ?_)
    refine V_aload_n F dX8_undo_52 rfl 0 rfl ?_
    refine V_gI (ci := 8) (k9 := 1) (C := RX8) (T := TX8) (N := 22) F rfl hinX8 (by decide) q1209 dX8_undo_53 (fun x15 => ?_)
    refine V_bipush (v := 117) F dX8_undo_56 (by decide) ?_
    refine V_imul F dX8_undo_58 ?_
    refine V_iload_n F dX8_undo_59 rfl 1 rfl ?_
    refine V_iadd F dX8_undo_60 ?_
    refine V_aI F dX8_undo_61 (fun x16 => ?_)
    refine V_sI F dX8_undo_62 (fun μ17 => ?_)
    refine V_iinc (lv' := [(1, .int (v1 + 1)), (0, .ref v0)]) F dX8_undo_63 1 rfl rfl (lt_L hNL (by decide)) rfl ?_
    refine V_goto (tgt := 37) F dX8_undo_66 (by decide) ?_
    refine V_sub [1, 0] rfl ?_
    exact hk37 v0 (v1 + 1) μ17
def FX8_undo_L37  : Nat → Nat → Int32 → Me → Rs Int32
  | 0, _, _, _ => none
  | f + 1, v0, v1, μ => FX8_undo_B37 (FX8_undo_L37  f) v0 v1 μ
theorem VX8_undo_L37 {κ : Cx} {ρ : (Int32 ⊕ String) × Me} (F : Fx κ cX8_undo RX8) (M : Mx κ (fun r : Int32 => some (.int r)) ρ rmX8_undo (some .int) [] "undo") (hNL : κ.2.2.2.2.2.2.2.2.2.2.2.2.2.2 = 2)   : ∀ (f : Nat) (v0 : Nat) (v1 : Int32) (μ : Me), V κ ρ 0 0 μ (FX8_undo_L37  f v0 v1 μ) 37 [(0, .ref v0), (1, .int v1)] [] := by
  intro f
  induction f with
  | zero => intros; exact V_none
  | succ f ih => intro v0 v1 μ; exact VX8_undo_B37 F M hNL (fun v0 v1 μ => ih v0 v1 μ) v0 v1 μ
def FX8_undo_B13  (v0 : Nat) (t0 : Int32) (t1 : Nat) (μ : Me) : Rs Int32 :=
  (pf μ t1 8 0 (.int t0) (fun μ4 => (gI μ4 v0 8 0 (fun x5 => (if x5 = 0 then (gI μ4 v0 8 1 (fun x8 => (pf μ4 v0 8 1 (.int (x8 - 1)) (fun μ9 => (FX8_undo_L37  FU v0 0 μ9))))) else (rt 0 μ4))))))
set_option maxHeartbeats 4000000 in
set_option maxRecDepth 100000 in
theorem VX8_undo_B13 {κ : Cx} {ρ : (Int32 ⊕ String) × Me} (F : Fx κ cX8_undo RX8) (M : Mx κ (fun r : Int32 => some (.int r)) ρ rmX8_undo (some .int) [] "undo") (hNL : κ.2.2.2.2.2.2.2.2.2.2.2.2.2.2 = 2)   (v0 : Nat) (t0 : Int32) (t1 : Nat) (μ : Me) : V κ ρ 0 0 μ (FX8_undo_B13  v0 t0 t1 μ) 13 [(0, .ref v0)] [.int t0, .ref t1] := by
  unfold FX8_undo_B13
  refine V_pf (ci := 8) (k9 := 0) (C := RX8) (T := TX8) (N := 22) (ty := tyX8) F rfl hinX8 tyX8_ok nmX8 (by decide) q1208 rfl rfl rfl dX8_undo_13 (fun μ4 => ?_)
  refine V_aload_n F dX8_undo_16 rfl 0 rfl ?_
  refine V_gI (ci := 8) (k9 := 0) (C := RX8) (T := TX8) (N := 22) F rfl hinX8 (by decide) q1208 dX8_undo_17 (fun x5 => ?_)
  refine V_if_eq (tgt := 25) F dX8_undo_20 (by decide) (fun c6 => ?_) (fun c7 => ?_)
  · refine V_aload_n F dX8_undo_25 rfl 0 rfl ?_
    refine V_dup F dX8_undo_26 rfl ?_
    refine V_gI (ci := 8) (k9 := 1) (C := RX8) (T := TX8) (N := 22) F rfl hinX8 (by decide) q1209 dX8_undo_27 (fun x8 => ?_)
    refine V_iconst (v := 1) F dX8_undo_30 (by decide) ?_
    refine V_isub F dX8_undo_31 ?_
    refine V_pf (ci := 8) (k9 := 1) (C := RX8) (T := TX8) (N := 22) (ty := tyX8) F rfl hinX8 tyX8_ok nmX8 (by decide) q1209 rfl rfl rfl dX8_undo_32 (fun μ9 => ?_)
    refine V_iconst (v := 0) F dX8_undo_35 (by decide) ?_
    refine V_istore_n (lv' := [(1, .int 0), (0, .ref v0)]) F dX8_undo_36 rfl (lt_L hNL (by decide)) rfl ?_
    refine V_sub [1, 0] rfl ?_
    exact VX8_undo_L37 F M hNL  FU v0 0 μ9
  · refine V_iconst (v := 0) F dX8_undo_23 (by decide) ?_
    exact V_iret F M dX8_undo_24 rfl (by decide) (by decide)
def FX8_undo (a0 : Nat) (μ : Me) : Rs Int32 :=
  (gI μ a0 8 1 (fun x1 => (if x1 = 0 then (FX8_undo_B13  a0 1 a0 μ) else (FX8_undo_B13  a0 0 a0 μ))))
set_option maxHeartbeats 4000000 in
set_option maxRecDepth 100000 in
theorem metX8_undo {l : Launch} {s0 : State} {D : va_G} {aC : Nat → ClassId} (hG : Gl s0 D aC) (hl : l.stackTraces = false) (a0 : Nat) (μ : Me) : Ct l yX8_undo (ws_ yX8_undo cX8_undo 2 (some .int)) rmX8_undo s0 D aC (fun r : Int32 => some (.int r)) [.ref a0] μ (FX8_undo a0 μ) := by
  refine Ct_of hG hl (by decide +kernel) (Nat.le_of_ble_eq_true rfl) (fun κ ρ hNL F M hκ => ?_)
  have F : Fx κ cX8_undo RX8 := F
  change V κ ρ 0 0 μ (FX8_undo a0 μ) 0 [(0, .ref a0)] []
  unfold FX8_undo
  refine V_aload_n F dX8_undo_0 rfl 0 rfl ?_
  refine V_aload_n F dX8_undo_1 rfl 0 rfl ?_
  refine V_gI (ci := 8) (k9 := 1) (C := RX8) (T := TX8) (N := 22) F rfl hinX8 (by decide) q1209 dX8_undo_2 (fun x1 => ?_)
  refine V_if_ne (tgt := 12) F dX8_undo_5 (by decide) (fun c2 => ?_) (fun c3 => ?_)
  · refine V_iconst (v := 0) F dX8_undo_12 (by decide) ?_
    refine V_sub [0] rfl ?_
    exact VX8_undo_B13 F M hNL  a0 0 a0 μ
  · refine V_iconst (v := 1) F dX8_undo_8 (by decide) ?_
    refine V_goto (tgt := 13) F dX8_undo_9 (by decide) ?_
    refine V_sub [0] rfl ?_
    exact VX8_undo_B13 F M hNL  a0 1 a0 μ
/-! DroneLightShowModel.save()I -/
abbrev rmX8_save : Room := { frames := 1, cells := 0, slots := 0, locals := 22 }
def FX8_save (a0 : Nat) (μ : Me) : Rs Int32 :=
  (pf μ a0 8 0 (.int 0) (fun μ1 => (gR μ1 a0 8 7 (fun x2 => (gR μ1 a0 8 5 (fun x3 => (bnd (FX8_lays x2 x3 μ1) (fun x5 μ4 => (pf μ4 a0 8 4 (.int 1) (fun μ6 => (gR μ6 a0 8 5 (fun x7 => (aI μ6 x7 0 (fun x8 => (rt x8 μ6)))))))))))))))
set_option maxHeartbeats 4000000 in
set_option maxRecDepth 100000 in
theorem metX8_save {l : Launch} {s0 : State} {D : va_G} {aC : Nat → ClassId} (hG : Gl s0 D aC) (hl : l.stackTraces = false) (a0 : Nat) (μ : Me) : Ct l yX8_save (ws_ yX8_save cX8_save 1 (some .int)) rmX8_save s0 D aC (fun r : Int32 => some (.int r)) [.ref a0] μ (FX8_save a0 μ) := by
  refine Ct_of hG hl (by decide +kernel) (Nat.le_of_ble_eq_true rfl) (fun κ ρ hNL F M hκ => ?_)
  have F : Fx κ cX8_save RX8 := F
  change V κ ρ 0 0 μ (FX8_save a0 μ) 0 [(0, .ref a0)] []
  unfold FX8_save
  refine V_aload_n F dX8_save_0 rfl 0 rfl ?_
  refine V_iconst (v := 0) F dX8_save_1 (by decide) ?_
  refine V_pf (ci := 8) (k9 := 0) (C := RX8) (T := TX8) (N := 22) (ty := tyX8) F rfl hinX8 tyX8_ok nmX8 (by decide) q1208 rfl rfl rfl dX8_save_2 (fun μ1 => ?_)
  refine V_aload_n F dX8_save_5 rfl 0 rfl ?_
  refine V_gR (ci := 8) (k9 := 7) (C := RX8) (T := TX8) (N := 22) F rfl hinX8 (by decide) q1215 dX8_save_6 (fun x2 => ?_)
  refine V_aload_n F dX8_save_9 rfl 0 rfl ?_
  refine V_gR (ci := 8) (k9 := 5) (C := RX8) (T := TX8) (N := 22) F rfl hinX8 (by decide) q1213 dX8_save_10 (fun x3 => ?_)
  refine V_cS (As := [.ref x2, .ref x3]) (rest := []) (N := 2) F M (metX8_lays (Fx_G F) (Fx_l F) x2 x3 μ1) q1289 q72 q1287 q1288 ⟨by decide +kernel, by decide +kernel, by decide +kernel⟩ rfl ⟨by decide, by decide⟩ (Nat.le_of_ble_eq_true rfl) dX8_save_13 (by decide) (by decide) (fun x5 μ4 => ?_)
  change V κ ρ 0 0 μ4 _ 16 [(0, .ref a0)] []
  refine V_aload_n F dX8_save_16 rfl 0 rfl ?_
  refine V_iconst (v := 1) F dX8_save_17 (by decide) ?_
  refine V_pf (ci := 8) (k9 := 4) (C := RX8) (T := TX8) (N := 22) (ty := tyX8) F rfl hinX8 tyX8_ok nmX8 (by decide) q1212 rfl (by decide) (by decide) dX8_save_18 (fun μ6 => ?_)
  refine V_aload_n F dX8_save_21 rfl 0 rfl ?_
  refine V_gR (ci := 8) (k9 := 5) (C := RX8) (T := TX8) (N := 22) F rfl hinX8 (by decide) q1213 dX8_save_22 (fun x7 => ?_)
  refine V_iconst (v := 0) F dX8_save_25 (by decide) ?_
  refine V_aI F dX8_save_26 (fun x8 => ?_)
  exact V_iret F M dX8_save_27 rfl (by decide) (by decide)
/-! DroneLightShowModel.restore()I -/
abbrev rmX8_restore : Room := { frames := 1, cells := 0, slots := 0, locals := 22 }
def FX8_restore_B13  (v0 : Nat) (t0 : Int32) (t1 : Nat) (μ : Me) : Rs Int32 :=
  (pf μ t1 8 0 (.int t0) (fun μ4 => (gI μ4 v0 8 0 (fun x5 => (if x5 = 0 then (gR μ4 v0 8 5 (fun x8 => (gR μ4 v0 8 7 (fun x9 => (bnd (FX8_lays x8 x9 μ4) (fun x11 μ10 => (pf μ10 v0 8 1 (.int 0) (fun μ12 => (gR μ12 v0 8 5 (fun x13 => (aI μ12 x13 0 (fun x14 => (rt x14 μ12))))))))))))) else (rt 0 μ4))))))
set_option maxHeartbeats 4000000 in
set_option maxRecDepth 100000 in
theorem VX8_restore_B13 {κ : Cx} {ρ : (Int32 ⊕ String) × Me} (F : Fx κ cX8_restore RX8) (M : Mx κ (fun r : Int32 => some (.int r)) ρ rmX8_restore (some .int) [] "restore") (hNL : κ.2.2.2.2.2.2.2.2.2.2.2.2.2.2 = 1)   (v0 : Nat) (t0 : Int32) (t1 : Nat) (μ : Me) : V κ ρ 0 0 μ (FX8_restore_B13  v0 t0 t1 μ) 13 [(0, .ref v0)] [.int t0, .ref t1] := by
  unfold FX8_restore_B13
  refine V_pf (ci := 8) (k9 := 0) (C := RX8) (T := TX8) (N := 22) (ty := tyX8) F rfl hinX8 tyX8_ok nmX8 (by decide) q1208 rfl rfl rfl dX8_restore_13 (fun μ4 => ?_)
  refine V_aload_n F dX8_restore_16 rfl 0 rfl ?_
  refine V_gI (ci := 8) (k9 := 0) (C := RX8) (T := TX8) (N := 22) F rfl hinX8 (by decide) q1208 dX8_restore_17 (fun x5 => ?_)
  refine V_if_eq (tgt := 25) F dX8_restore_20 (by decide) (fun c6 => ?_) (fun c7 => ?_)
  · refine V_aload_n F dX8_restore_25 rfl 0 rfl ?_
    refine V_gR (ci := 8) (k9 := 5) (C := RX8) (T := TX8) (N := 22) F rfl hinX8 (by decide) q1213 dX8_restore_26 (fun x8 => ?_)
    refine V_aload_n F dX8_restore_29 rfl 0 rfl ?_
    refine V_gR (ci := 8) (k9 := 7) (C := RX8) (T := TX8) (N := 22) F rfl hinX8 (by decide) q1215 dX8_restore_30 (fun x9 => ?_)
    refine V_cS (As := [.ref x8, .ref x9]) (rest := []) (N := 2) F M (metX8_lays (Fx_G F) (Fx_l F) x8 x9 μ4) q1289 q72 q1287 q1288 ⟨by decide +kernel, by decide +kernel, by decide +kernel⟩ rfl ⟨by decide, by decide⟩ (Nat.le_of_ble_eq_true rfl) dX8_restore_33 (by decide) (by decide) (fun x11 μ10 => ?_)
    change V κ ρ 0 0 μ10 _ 36 [(0, .ref v0)] []
    refine V_aload_n F dX8_restore_36 rfl 0 rfl ?_
    refine V_iconst (v := 0) F dX8_restore_37 (by decide) ?_
    refine V_pf (ci := 8) (k9 := 1) (C := RX8) (T := TX8) (N := 22) (ty := tyX8) F rfl hinX8 tyX8_ok nmX8 (by decide) q1209 rfl rfl rfl dX8_restore_38 (fun μ12 => ?_)
    refine V_aload_n F dX8_restore_41 rfl 0 rfl ?_
    refine V_gR (ci := 8) (k9 := 5) (C := RX8) (T := TX8) (N := 22) F rfl hinX8 (by decide) q1213 dX8_restore_42 (fun x13 => ?_)
    refine V_iconst (v := 0) F dX8_restore_45 (by decide) ?_
    refine V_aI F dX8_restore_46 (fun x14 => ?_)
    exact V_iret F M dX8_restore_47 rfl (by decide) (by decide)
  · refine V_iconst (v := 0) F dX8_restore_23 (by decide) ?_
    exact V_iret F M dX8_restore_24 rfl (by decide) (by decide)
def FX8_restore (a0 : Nat) (μ : Me) : Rs Int32 :=
  (gI μ a0 8 4 (fun x1 => (if x1 = 0 then (FX8_restore_B13  a0 1 a0 μ) else (FX8_restore_B13  a0 0 a0 μ))))
set_option maxHeartbeats 4000000 in
set_option maxRecDepth 100000 in
theorem metX8_restore {l : Launch} {s0 : State} {D : va_G} {aC : Nat → ClassId} (hG : Gl s0 D aC) (hl : l.stackTraces = false) (a0 : Nat) (μ : Me) : Ct l yX8_restore (ws_ yX8_restore cX8_restore 1 (some .int)) rmX8_restore s0 D aC (fun r : Int32 => some (.int r)) [.ref a0] μ (FX8_restore a0 μ) := by
  refine Ct_of hG hl (by decide +kernel) (Nat.le_of_ble_eq_true rfl) (fun κ ρ hNL F M hκ => ?_)
  have F : Fx κ cX8_restore RX8 := F
  change V κ ρ 0 0 μ (FX8_restore a0 μ) 0 [(0, .ref a0)] []
  unfold FX8_restore
  refine V_aload_n F dX8_restore_0 rfl 0 rfl ?_
  refine V_aload_n F dX8_restore_1 rfl 0 rfl ?_
  refine V_gI (ci := 8) (k9 := 4) (C := RX8) (T := TX8) (N := 22) F rfl hinX8 (by decide) q1212 dX8_restore_2 (fun x1 => ?_)
  refine V_if_eq (tgt := 12) F dX8_restore_5 (by decide) (fun c2 => ?_) (fun c3 => ?_)
  · refine V_iconst (v := 1) F dX8_restore_12 (by decide) ?_
    refine V_sub [0] rfl ?_
    exact VX8_restore_B13 F M hNL  a0 1 a0 μ
  · refine V_iconst (v := 0) F dX8_restore_8 (by decide) ?_
    refine V_goto (tgt := 13) F dX8_restore_9 (by decide) ?_
    refine V_sub [0] rfl ?_
    exact VX8_restore_B13 F M hNL  a0 0 a0 μ
/-! DroneLightShowModel.meanBatteryBits()I -/
abbrev rmX8_meanBatteryBits : Room := { frames := 2, cells := 0, slots := 0, locals := 45 }
def FX8_meanBatteryBits_B22 (k22 : Nat → Int32 → Int32 → Me → Rs Int32) (v0 : Nat) (v1 : Int32) (v2 : Int32) (μ : Me) : Rs Int32 :=
  (gR μ v0 8 5 (fun x6 => (aI μ x6 0 (fun x7 => (if x7 ≤ v2 then (gI μ v0 8 0 (fun x10 => (if x10 = 0 then (gR μ v0 8 5 (fun x13 => (aI μ x13 0 (fun x14 => (gd (nn32 (FP.fdiv (FP.i2f v1) (FP.i2f x14)) = true) (bnd (FJxf58ca_floatToIntBits_5c35a (FP.fdiv (FP.i2f v1) (FP.i2f x14)) μ) (fun x17 μ16 => (rt x17 μ16)))))))) else (rt 0 μ)))) else (gR μ v0 8 5 (fun x18 => (bnd (FX8_of v2 2 μ) (fun x20 μ19 => (aI μ19 x18 x20 (fun x21 => (k22 v0 (v1 + x21) (v2 + 1) μ19))))))))))))
set_option maxHeartbeats 4000000 in
set_option maxRecDepth 100000 in
theorem VX8_meanBatteryBits_B22 {κ : Cx} {ρ : (Int32 ⊕ String) × Me} (F : Fx κ cX8_meanBatteryBits RX8) (M : Mx κ (fun r : Int32 => some (.int r)) ρ rmX8_meanBatteryBits (some .int) [] "meanBatteryBits") (hNL : κ.2.2.2.2.2.2.2.2.2.2.2.2.2.2 = 3) {k22 : Nat → Int32 → Int32 → Me → Rs Int32} (hk22 : ∀ (v0 : Nat) (v1 : Int32) (v2 : Int32) (μ : Me), V κ ρ 0 0 μ (k22 v0 v1 v2 μ) 22 [(0, .ref v0), (1, .int v1), (2, .int v2)] []) (v0 : Nat) (v1 : Int32) (v2 : Int32) (μ : Me) : V κ ρ 0 0 μ (FX8_meanBatteryBits_B22 k22 v0 v1 v2 μ) 22 [(0, .ref v0), (1, .int v1), (2, .int v2)] [] := by
  unfold FX8_meanBatteryBits_B22
  refine V_iload_n F dX8_meanBatteryBits_22 rfl 2 rfl ?_
  refine V_aload_n F dX8_meanBatteryBits_23 rfl 0 rfl ?_
  refine V_gR (ci := 8) (k9 := 5) (C := RX8) (T := TX8) (N := 22) F rfl hinX8 (by decide) q1213 dX8_meanBatteryBits_24 (fun x6 => ?_)
  refine V_iconst (v := 0) F dX8_meanBatteryBits_27 (by decide) ?_
  refine V_aI F dX8_meanBatteryBits_28 (fun x7 => ?_)
  refine V_icmp_ge (tgt := 51) F dX8_meanBatteryBits_29 (by decide) (fun c8 => ?_) (fun c9 => ?_)
  · refine V_aload_n F dX8_meanBatteryBits_51 rfl 0 rfl ?_
    refine V_gI (ci := 8) (k9 := 0) (C := RX8) (T := TX8) (N := 22) F rfl hinX8 (by decide) q1208 dX8_meanBatteryBits_52 (fun x10 => ?_)
    refine V_if_ne (tgt := 74) F dX8_meanBatteryBits_55 (by decide) (fun c11 => ?_) (fun c12 => ?_)
    · refine V_iconst (v := 0) F dX8_meanBatteryBits_74 (by decide) ?_
      exact V_iret F M dX8_meanBatteryBits_75 rfl (by decide) (by decide)
    · refine V_iload_n F dX8_meanBatteryBits_58 rfl 1 rfl ?_
      refine V_i2f F dX8_meanBatteryBits_59 ?_
      refine V_aload_n F dX8_meanBatteryBits_60 rfl 0 rfl ?_
      refine V_gR (ci := 8) (k9 := 5) (C := RX8) (T := TX8) (N := 22) F rfl hinX8 (by decide) q1213 dX8_meanBatteryBits_61 (fun x13 => ?_)
      refine V_iconst (v := 0) F dX8_meanBatteryBits_64 (by decide) ?_
      refine V_aI F dX8_meanBatteryBits_65 (fun x14 => ?_)
      refine V_i2f F dX8_meanBatteryBits_66 ?_
      refine V_gd (fun g15 => ?_)
      refine V_fdiv F dX8_meanBatteryBits_67 g15 ?_
      refine V_cS (As := [.float (FP.fdiv (FP.i2f v1) (FP.i2f x14))]) (rest := []) (N := 1) F M (metJxf58ca_floatToIntBits_5c35a (Fx_G F) (Fx_l F) (FP.fdiv (FP.i2f v1) (FP.i2f x14)) μ) q1676 q91 q1674 q1675 ⟨by decide +kernel, by decide +kernel, by decide +kernel⟩ rfl ⟨by decide, by decide⟩ (Nat.le_of_ble_eq_true rfl) dX8_meanBatteryBits_68 (by decide) (by decide) (fun x17 μ16 => ?_)
      change V κ ρ 0 0 μ16 _ 71 [(0, .ref v0), (1, .int v1), (2, .int v2)] [.int x17]
      refine V_goto (tgt := 75) F dX8_meanBatteryBits_71 (by decide) ?_
      exact V_iret F M dX8_meanBatteryBits_75 rfl (by decide) (by decide)
  · refine V_iload_n F dX8_meanBatteryBits_32 rfl 1 rfl ?_
    refine V_aload_n F dX8_meanBatteryBits_33 rfl 0 rfl ?_
    refine V_gR (ci := 8) (k9 := 5) (C := RX8) (T := TX8) (N := 22) F rfl hinX8 (by decide) q1213 dX8_meanBatteryBits_34 (fun x18 => ?_)
    refine V_iload_n F dX8_meanBatteryBits_37 rfl 2 rfl ?_
    refine V_iconst (v := 2) F dX8_meanBatteryBits_38 (by decide) ?_
    refine V_cS (As := [.int v2, .int 2]) (rest := [.ref x18, .int v1]) (N := 2) F M (metX8_of (Fx_G F) (Fx_l F) v2 2 μ) q1310 q72 q1308 q1309 ⟨by decide +kernel, by decide +kernel, by decide +kernel⟩ rfl ⟨by decide, by decide⟩ (Nat.le_of_ble_eq_true rfl) dX8_meanBatteryBits_39 (by decide) (by decide) (fun x20 μ19 => ?_)
    change V κ ρ 0 0 μ19 _ 42 [(0, .ref v0), (1, .int v1), (2, .int v2)] [.int x20, .ref x18, .int v1]
    refine V_aI F dX8_meanBatteryBits_42 (fun x21 => ?_)
    refine V_iadd F dX8_meanBatteryBits_43 ?_
    refine V_istore_n (lv' := [(1, .int (v1 + x21)), (0, .ref v0), (2, .int v2)]) F dX8_meanBatteryBits_44 rfl (lt_L hNL (by decide)) rfl ?_
    refine V_iinc (lv' := [(2, .int (v2 + 1)), (1, .int (v1 + x21)), (0, .ref v0)]) F dX8_meanBatteryBits_45 2 rfl rfl (lt_L hNL (by decide)) rfl ?_
    refine V_goto (tgt := 22) F dX8_meanBatteryBits_48 (by decide) ?_
    refine V_sub [2, 1, 0] rfl ?_
    exact hk22 v0 (v1 + x21) (v2 + 1) μ19
def FX8_meanBatteryBits_L22  : Nat → Nat → Int32 → Int32 → Me → Rs Int32
  | 0, _, _, _, _ => none
  | f + 1, v0, v1, v2, μ => FX8_meanBatteryBits_B22 (FX8_meanBatteryBits_L22  f) v0 v1 v2 μ
theorem VX8_meanBatteryBits_L22 {κ : Cx} {ρ : (Int32 ⊕ String) × Me} (F : Fx κ cX8_meanBatteryBits RX8) (M : Mx κ (fun r : Int32 => some (.int r)) ρ rmX8_meanBatteryBits (some .int) [] "meanBatteryBits") (hNL : κ.2.2.2.2.2.2.2.2.2.2.2.2.2.2 = 3)   : ∀ (f : Nat) (v0 : Nat) (v1 : Int32) (v2 : Int32) (μ : Me), V κ ρ 0 0 μ (FX8_meanBatteryBits_L22  f v0 v1 v2 μ) 22 [(0, .ref v0), (1, .int v1), (2, .int v2)] [] := by
  intro f
  induction f with
  | zero => intros; exact V_none
  | succ f ih => intro v0 v1 v2 μ; exact VX8_meanBatteryBits_B22 F M hNL (fun v0 v1 v2 μ => ih v0 v1 v2 μ) v0 v1 v2 μ
def FX8_meanBatteryBits_B15  (v0 : Nat) (t0 : Int32) (t1 : Nat) (μ : Me) : Rs Int32 :=
  (pf μ t1 8 0 (.int t0) (fun μ5 => (FX8_meanBatteryBits_L22  FU v0 0 0 μ5)))
set_option maxHeartbeats 4000000 in
set_option maxRecDepth 100000 in
theorem VX8_meanBatteryBits_B15 {κ : Cx} {ρ : (Int32 ⊕ String) × Me} (F : Fx κ cX8_meanBatteryBits RX8) (M : Mx κ (fun r : Int32 => some (.int r)) ρ rmX8_meanBatteryBits (some .int) [] "meanBatteryBits") (hNL : κ.2.2.2.2.2.2.2.2.2.2.2.2.2.2 = 3)   (v0 : Nat) (t0 : Int32) (t1 : Nat) (μ : Me) : V κ ρ 0 0 μ (FX8_meanBatteryBits_B15  v0 t0 t1 μ) 15 [(0, .ref v0)] [.int t0, .ref t1] := by
  unfold FX8_meanBatteryBits_B15
  refine V_pf (ci := 8) (k9 := 0) (C := RX8) (T := TX8) (N := 22) (ty := tyX8) F rfl hinX8 tyX8_ok nmX8 (by decide) q1208 rfl rfl rfl dX8_meanBatteryBits_15 (fun μ5 => ?_)
  refine V_iconst (v := 0) F dX8_meanBatteryBits_18 (by decide) ?_
  refine V_istore_n (lv' := [(1, .int 0), (0, .ref v0)]) F dX8_meanBatteryBits_19 rfl (lt_L hNL (by decide)) rfl ?_
  refine V_iconst (v := 0) F dX8_meanBatteryBits_20 (by decide) ?_
  refine V_istore_n (lv' := [(2, .int 0), (1, .int 0), (0, .ref v0)]) F dX8_meanBatteryBits_21 rfl (lt_L hNL (by decide)) rfl ?_
  refine V_sub [2, 1, 0] rfl ?_
  exact VX8_meanBatteryBits_L22 F M hNL  FU v0 0 0 μ5
def FX8_meanBatteryBits (a0 : Nat) (μ : Me) : Rs Int32 :=
  (gR μ a0 8 5 (fun x1 => (aI μ x1 0 (fun x2 => (if x2 = 0 then (FX8_meanBatteryBits_B15  a0 1 a0 μ) else (FX8_meanBatteryBits_B15  a0 0 a0 μ))))))
set_option maxHeartbeats 4000000 in
set_option maxRecDepth 100000 in
theorem metX8_meanBatteryBits {l : Launch} {s0 : State} {D : va_G} {aC : Nat → ClassId} (hG : Gl s0 D aC) (hl : l.stackTraces = false) (a0 : Nat) (μ : Me) : Ct l yX8_meanBatteryBits (ws_ yX8_meanBatteryBits cX8_meanBatteryBits 3 (some .int)) rmX8_meanBatteryBits s0 D aC (fun r : Int32 => some (.int r)) [.ref a0] μ (FX8_meanBatteryBits a0 μ) := by
  refine Ct_of hG hl (by decide +kernel) (Nat.le_of_ble_eq_true rfl) (fun κ ρ hNL F M hκ => ?_)
  have F : Fx κ cX8_meanBatteryBits RX8 := F
  change V κ ρ 0 0 μ (FX8_meanBatteryBits a0 μ) 0 [(0, .ref a0)] []
  unfold FX8_meanBatteryBits
  refine V_aload_n F dX8_meanBatteryBits_0 rfl 0 rfl ?_
  refine V_aload_n F dX8_meanBatteryBits_1 rfl 0 rfl ?_
  refine V_gR (ci := 8) (k9 := 5) (C := RX8) (T := TX8) (N := 22) F rfl hinX8 (by decide) q1213 dX8_meanBatteryBits_2 (fun x1 => ?_)
  refine V_iconst (v := 0) F dX8_meanBatteryBits_5 (by decide) ?_
  refine V_aI F dX8_meanBatteryBits_6 (fun x2 => ?_)
  refine V_if_ne (tgt := 14) F dX8_meanBatteryBits_7 (by decide) (fun c3 => ?_) (fun c4 => ?_)
  · refine V_iconst (v := 0) F dX8_meanBatteryBits_14 (by decide) ?_
    refine V_sub [0] rfl ?_
    exact VX8_meanBatteryBits_B15 F M hNL  a0 0 a0 μ
  · refine V_iconst (v := 1) F dX8_meanBatteryBits_10 (by decide) ?_
    refine V_goto (tgt := 15) F dX8_meanBatteryBits_11 (by decide) ?_
    refine V_sub [0] rfl ?_
    exact VX8_meanBatteryBits_B15 F M hNL  a0 1 a0 μ
