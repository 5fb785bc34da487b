/-! ===== MY LAYER: constants, switches, making things ===== -/
section VF
variable {α β : Type} {κ : Cx} {ρ : (α ⊕ String) × Me} {k n : Nat} {μ : Me} {x : Rs α} {pc : Nat} {lv : List (Nat × Value)} {st : List Value} {cc : ByteArray} {own : String} {cv : α → Option Value} {rm : Room} {tb : List ExceptionTableEntry} {nm : String} {ret : Option FieldType}
theorem V_ldc2 {idx : Nat} {v : Int64} (F : Fx κ cc own) (hq : Cond.constantLong own idx v ∈ WA) (d : decode cc pc = .ok (.ldc2_w idx, 3)) (kk : V κ ρ k n μ x (pc + 3) lv (.long v :: st)) : V κ ρ k n μ x pc lv st := by
  obtain ⟨p, l, e, R, s, m, args, below, meth, c, Q, s0, D, aC, nL⟩ := κ
  intro hx H locs ls hM hloc hl
  exact lv_ldc2 F.1 F.2.1 F.2.2.2.1 (F.2.2.2.2.1 _ hq) d (kk hx H locs ls hM hloc hl)
theorem V_ldcF {idx : Nat} {v : UInt32} (F : Fx κ cc own) (hq : Cond.constantFloat own idx v ∈ WA) (d : decode cc pc = .ok (.ldc idx, 2)) (kk : V κ ρ k n μ x (pc + 2) lv (.float v :: st)) : V κ ρ k n μ x pc lv st := by
  obtain ⟨p, l, e, R, s, m, args, below, meth, c, Q, s0, D, aC, nL⟩ := κ
  intro hx H locs ls hM hloc hl
  exact lv_ldcf F.1 F.2.1 F.2.2.2.1 (F.2.2.2.2.1 _ hq) d (kk hx H locs ls hM hloc hl)
theorem V_ldcFW {idx : Nat} {v : UInt32} (F : Fx κ cc own) (hq : Cond.constantFloat own idx v ∈ WA) (d : decode cc pc = .ok (.ldc_w idx, 3)) (kk : V κ ρ k n μ x (pc + 3) lv (.float v :: st)) : V κ ρ k n μ x pc lv st := by
  obtain ⟨p, l, e, R, s, m, args, below, meth, c, Q, s0, D, aC, nL⟩ := κ
  intro hx H locs ls hM hloc hl T hT X
  obtain ⟨t, a, b⟩ := kk hx H locs ls hM hloc hl T hT X
  obtain ⟨k9, cf, hk, hcf, hcp⟩ := Cond.constantFloat_spec F.2.2.2.1 (F.2.2.2.2.1 _ hq)
  obtain ⟨k', hk', he⟩ := X.warmed.alike.2.2 _ _ hk
  have hexec := F.1
  have d' : decode c.code pc = .ok (.ldc_w idx, 3) := by rw [F.2.1]; exact d
  refine ⟨t, ?_, b⟩
  jvm_step X.here [hexec, d', ldc_w.wp_float (s := T) (f := F0 m pc ls st) X.here.top hk' (by rw [he]; exact hcf) hcp]
  exact a
/-- a switch: out of its table, or one of its cases -/
theorem V_out {dflt lo hi : Int} {offs : Array Int} {len : Nat} {a : Int32} {tgt : Nat} {x2 : Rs α} (F : Fx κ cc own) (d : decode cc pc = .ok (.tableswitch dflt lo hi offs, len)) (ht : (pc : Int) + dflt = (tgt : Int)) (k1 : V κ ρ k n μ x tgt lv st) (k2 : ¬ (a.toInt < lo ∨ hi < a.toInt) → V κ ρ k n μ x2 pc lv (.int a :: st)) : V κ ρ k n μ (if a.toInt < lo ∨ hi < a.toInt then x else x2) pc lv (.int a :: st) := by
  split
  · rename_i h
    obtain ⟨p, l, e, R, s, m, args, below, meth, c, Q, s0, D, aC, nL⟩ := κ
    intro hx H locs ls hM hloc hl
    exact lv_tableOut F.1 F.2.1 d h ht (k1 hx H locs ls hM hloc hl)
  · rename_i h
    exact k2 h
theorem V_case {dflt lo hi : Int} {offs : Array Int} {len : Nat} {a : Int32} {z off : Int} {tgt : Nat} {x2 : Rs α} (F : Fx κ cc own) (d : decode cc pc = .ok (.tableswitch dflt lo hi offs, len)) (hz : lo ≤ z ∧ z ≤ hi) (ho : offs[(z - lo).toNat]? = some off) (ht : (pc : Int) + off = (tgt : Int)) (k1 : a.toInt = z → V κ ρ k n μ x tgt lv st) (k2 : ¬ a.toInt = z → V κ ρ k n μ x2 pc lv (.int a :: st)) : V κ ρ k n μ (if a.toInt = z then x else x2) pc lv (.int a :: st) := by
  split
  · rename_i h
    have k1 := k1 h
    obtain ⟨p, l, e, R, s, m, args, below, meth, c, Q, s0, D, aC, nL⟩ := κ
    intro hx H locs ls hM hloc hl
    exact lv_tableIn F.1 F.2.1 d (by rw [h]; exact Int.not_lt.mpr hz.1) (by rw [h]; exact Int.not_lt.mpr hz.2) (by rw [h]; exact ho) ht (k1 hx H locs ls hM hloc hl)
  · rename_i h
    exact k2 h
theorem V_oinit {idx a : Nat} (F : Fx κ cc own) (M : Mx κ cv ρ rm ret tb nm) (hl : Cond.methodLink own idx Lib.objectInit ∈ WA) (hin : Cond.instanceMethod Lib.objectInit ∈ WA) (hco : Cond.code Lib.objectInit ⟨#[0xb1]⟩ 1 none ∈ WA) (d : decode cc pc = .ok (.invokespecial idx, 3)) (hf : 1 ≤ rm.frames) (hlo : (st.map fun v => v.category).sum + 12 ≤ rm.locals) (kk : V κ ρ k n μ x (pc + 3) lv st) : V κ ρ k n μ x pc lv (.ref a :: st) := by
  obtain ⟨p, l, e, R, s, m, args, below, meth, c, Q, s0, D, aC, nL⟩ := κ
  have hR : R = rm := M.1
  subst hR
  intro hx H locs ls hM hloc hl0
  have hts := F.2.2.2.2.1
  exact W.objInit F.1 F.2.1 F.2.2.2.1 (hts _ hl) (hts _ hin) (hts _ hco) (g := F0 m pc ls (.ref a :: st)) rfl (hl0.1.trans F.2.2.1.symm) rfl d hf (by show 2 * 0 + _ + 12 ≤ _; omega) (kk hx H locs ls hM hloc hl0)
/-- the next place in memory, where it is kept -/
def nx {γ : Type} (μ : Me) (K : Nat → Me → Rs γ) : Rs γ := match μ 0 with
  | some (.inr (h, [])) => if h = 0 then none else K h (mset μ 0 (.inr (h + 1, [])))
  | _ => none
/-- a new thing -/
def nw {γ : Type} (μ : Me) (e : E_) (K : Nat → Me → Rs γ) : Rs γ := nx μ (fun a μ' => K a (mset μ' a e))
theorem VM_new {s0 : State} {D : va_G} {aC : Nat → ClassId} {μ : Me} {H H1 : Heap} {h : Nat} {e : E_} (hM : VM s0 D aC μ H) (h0 : μ 0 = some (.inr (h, []))) (hne : h ≠ 0) (hz : H1.size = h + 1) (hq : ∀ q : Nat, q < h → H1[q]? = H[q]?) (hat : va_at D vwCl (h, tr_ aC e) H1) : VM s0 D aC (mset (mset μ 0 (.inr (h + 1, []))) h e) H1 := by
  obtain ⟨n0, e0, hs⟩ := hM.2.2.2 _ h0
  cases e0
  have hb : s0.heap.size ≤ H.size := hM.1
  rw [hs] at hb
  refine ⟨by omega, fun q hq0 => by rw [hq q (by omega)]; exact hM.2.1 q hq0, fun b e' hb0 he' => ?_, fun z hz0 => ?_⟩
  · by_cases hbh : b = h
    · subst hbh
      rw [mset_eq] at he'
      cases he'
      exact ⟨hb, hat⟩
    · rw [mset_ne hbh, mset_ne hb0] at he'
      obtain ⟨g1, g2⟩ := hM.2.2.1 b e' hb0 he'
      have hlt := g2.lt
      rw [hs] at hlt
      exact ⟨g1, g2.kept (hq b hlt)⟩
  · rw [mset_ne (Ne.symm hne), mset_eq] at hz0
    cases hz0
    exact ⟨_, rfl, hz⟩
theorem V_new {idx ci N : Nat} {C : String} {T : u_T} {ty : Nat → FieldType} {fs : List Value} {K : Nat → Me → Rs α} (F : Fx κ cc own) (hR : κ.2.2.2.1 = rm) (hc : vwCl[ci]? = some (C, T, N)) (hin : ∀ w ∈ u_ws C T N, w ∈ WA) (hty : ∀ k, k < N → parseFieldDescriptor (T k).2.2.1 = some (ty k)) (hkl : Cond.classLink own idx C ∈ WA) (hins : Cond.instantiable C N ∈ WA) (hini : Cond.initialized C ∈ WA) (hfs : ∀ j, j < N → defaultValue (ty j) = vp_V fs j) (d : decode cc pc = .ok (.new idx, 3)) (hk : k + 1 ≤ rm.cells) (hn : n + N ≤ rm.slots) (kk : ∀ a μ', V κ ρ (k + 1) (n + N) μ' (K a μ') (pc + 3) lv (.ref a :: st)) : V κ ρ k n μ (nw μ (.inr (ci, fs)) K) pc lv st := by
  unfold nw nx
  split
  · rename_i h h0
    split
    · exact V_none
    · rename_i hne
      have kk := kk h (mset (mset μ 0 (.inr (h + 1, []))) h (.inr (ci, fs)))
      obtain ⟨p, l, e, R, s, m, args, below, meth, c, Q, s0, D, aC, nL⟩ := κ
      have hR : R = rm := hR
      subst hR
      intro hx H locs ls hM hloc hl
      have hts := F.2.2.2.2.1
      have hKn := (Fx_K F).1 ci _ hc
      obtain ⟨n0, e0, hs⟩ := hM.2.2.2 _ h0
      cases e0
      refine W.newcK F.1 F.2.1 F.2.2.2.1 (hts _ hkl) (hts _ hins) (hts _ hini) rfl d hk hn hKn.2.1 hs fun H1 kC hkC e1 z1 o1 => ?_
      exact kk hx H1 locs ls (VM_new (e := .inr (ci, fs)) hM h0 hne z1 o1 ⟨_, hc, (u_born ty hts hin hKn hkC e1 hty).to hfs⟩) hloc hl
  · exact V_none
theorem V_na {c9 N : Nat} {atype : ArrayType} {ty : FieldType} {v : Int32} {a0 : vp_A} {K : Nat → Me → Rs α} (F : Fx κ cc own) (hR : κ.2.2.2.1 = rm) (harr : Cond.arrayClass ty ∈ WA) (hty : newarray.typeOf atype = ty) (ht : c9 < 5) (htt : ∀ aC : Nat → ClassId, (tysL aC)[c9]? = some (aC c9, ty)) (ha : ∀ cA : ClassId, vp_cell cA a0 = arrV cA N (fun _ => defaultValue ty)) (hnn : ¬ v < 0) (hN : v.toNatClampNeg = N) (hbytes : N * componentBytes ty ≤ 536870912) (hnmt : ∀ (U : State) (cA : ClassId), va_RA U cA ty = (U.vm.findClass ("[" ++ ty.toString) = some cA)) (d : decode cc pc = .ok (.newarray atype, 2)) (hk : k + 1 ≤ rm.cells) (hn : n + N ≤ rm.slots) (kk : ∀ a μ', V κ ρ (k + 1) (n + N) μ' (K a μ') (pc + 2) lv (.ref a :: st)) : V κ ρ k n μ (nw μ (.inl (c9, a0)) K) pc lv (.int v :: st) := by
  subst hty
  unfold nw nx
  split
  · rename_i h h0
    split
    · exact V_none
    · rename_i hne
      have kk := kk h (mset (mset μ 0 (.inr (h + 1, []))) h (.inl (c9, a0)))
      obtain ⟨p, l, e, R, s, m, args, below, meth, c, Q, s0, D, aC, nL⟩ := κ
      have hR : R = rm := hR
      subst hR
      intro hx H locs ls hM hloc hl
      have hts := F.2.2.2.2.1
      obtain ⟨n0, e0, hs⟩ := hM.2.2.2 _ h0
      cases e0
      refine va_newaK F.1 F.2.1 (hts _ harr) rfl d rfl hnn hN hbytes hk hn hs fun H1 cA e1 z1 o1 hAr hNm => ?_
      have hRA := ((Fx_K F).2 c9 _ (htt aC)).2
      rw [hnmt] at hRA
      have hcA : cA = aC c9 := by
        have h9 : s.vm.findClass ("[" ++ (newarray.typeOf atype).toString) = some cA := by cases atype <;> exact hNm
        exact Option.some.inj (h9.symm.trans hRA)
      subst hcA
      exact kk hx H1 locs ls (VM_new (e := .inl (c9, a0)) hM h0 hne z1 o1 (by show H1[h]? = some (vp_cell _ _); rw [ha]; exact e1)) hloc hl
  · exact V_none
/-- calls of constructors -/
theorem Rn_I {y : MethodName} {bytes : ByteArray} {maxL idx N : Nat} {rmc : Room} {cvb : β → Option Value} {As rest : List Value} {a : Nat} {x : Rs β} (F : Fx κ cc own) (hct : Ct κ.2.1 y (ws_ y bytes maxL none) rmc κ.2.2.2.2.2.2.2.2.2.2.2.1 κ.2.2.2.2.2.2.2.2.2.2.2.2.1 κ.2.2.2.2.2.2.2.2.2.2.2.2.2.1 cvb (.ref a :: As) μ x) (hcode : Cond.code y bytes maxL none ∈ WA) (hini : Cond.initialized y.cls ∈ WA) (hl : Cond.methodLink own idx y ∈ WA) (hin : Cond.instanceMethod y ∈ WA) (hy : y.name = "<init>")
    (hd : hd_ y N) (hN : As.length = N) (hR : rmIn rmc κ.2.2.2.1 maxL) (hrest : (rest.map fun v => v.category).sum ≤ 8) (d : decode cc pc = .ok (.invokespecial idx, 3)) (hcells : k + rmc.cells ≤ κ.2.2.2.1.cells ∧ n + rmc.slots ≤ κ.2.2.2.1.slots) : Rn κ k n rmc.cells rmc.slots μ cvb x pc lv (As.reverse ++ .ref a :: rest) rest := by
  obtain ⟨p, l, e, R, s, m, args, below, meth, c, Q, s0, D, aC, nL⟩ := κ
  intro ρ' hx H locs ls hM hl0
  refine ⟨_, vx_runI (As := As) ⟨F.1, F.2.1, F.2.2.1, F.2.2.2.1, F.2.2.2.2.1⟩ (hct ρ' hx) ⟨callB_ F hcode hini hl hd hR, hy, F.2.2.2.2.1 _ hin⟩ ⟨blind_, fun U hU hW => ⟨rfl, State.WarmedH.trans F.2.2.2.2.2.2.1 hW, by rw [hU]; exact hM⟩⟩ rfl hN hl0.1 rfl (lv_room hrest) d hcells⟩
theorem Rn_IN {y : MethodName} {bytes : ByteArray} {maxL idx N : Nat} {host : String} {rmc : Room} {cvb : β → Option Value} {As rest : List Value} {a : Nat} {x : Rs β} (F : Fx κ cc own) (hct : Ct κ.2.1 y (ws_ y bytes maxL none) rmc κ.2.2.2.2.2.2.2.2.2.2.2.1 κ.2.2.2.2.2.2.2.2.2.2.2.2.1 κ.2.2.2.2.2.2.2.2.2.2.2.2.2.1 cvb (.ref a :: As) μ x) (hcode : Cond.code y bytes maxL none ∈ WA) (hini : Cond.initialized y.cls ∈ WA) (hl : Cond.methodLinkNest own idx y host ∈ lw_tbl) (hin : Cond.instanceMethod y ∈ WA) (hy : y.name = "<init>")
    (hd : hd_ y N) (hN : As.length = N) (hR : rmIn rmc κ.2.2.2.1 maxL) (hrest : (rest.map fun v => v.category).sum ≤ 8) (d : decode cc pc = .ok (.invokespecial idx, 3)) (hcells : k + rmc.cells ≤ κ.2.2.2.1.cells ∧ n + rmc.slots ≤ κ.2.2.2.1.slots) : Rn κ k n rmc.cells rmc.slots μ cvb x pc lv (As.reverse ++ .ref a :: rest) rest := by
  obtain ⟨p, l, e, R, s, m, args, below, meth, c, Q, s0, D, aC, nL⟩ := κ
  intro ρ' hx H locs ls hM hl0
  refine ⟨_, vx_runIN (As := As) ⟨F.1, F.2.1, F.2.2.1, F.2.2.2.1, F.2.2.2.2.1⟩ (hct ρ' hx) ⟨va_cnB N F.2.2.2.2.1 (ws_good hcode) rfl rfl rfl (nest_ F hl) (F.2.2.2.2.1 _ hini) hd hR, hy, F.2.2.2.2.1 _ hin⟩ ⟨blind_, fun U hU hW => ⟨rfl, State.WarmedH.trans F.2.2.2.2.2.2.1 hW, by rw [hU]; exact hM⟩⟩ rfl hN hl0.1 rfl (lv_room hrest) d hcells⟩
theorem V_cI {y : MethodName} {bytes : ByteArray} {maxL idx N : Nat} {ret2 : Option FieldType} {rmc : Room} {cvb : β → Option Value} {As rest : List Value} {a : Nat} {x : Rs β} {K : β → Me → Rs α} (F : Fx κ cc own) (M : Mx κ cv ρ rm ret2 [] nm) (hct : Ct κ.2.1 y (ws_ y bytes maxL none) rmc κ.2.2.2.2.2.2.2.2.2.2.2.1 κ.2.2.2.2.2.2.2.2.2.2.2.2.1 κ.2.2.2.2.2.2.2.2.2.2.2.2.2.1 cvb (.ref a :: As) μ x) (hcode : Cond.code y bytes maxL none ∈ WA) (hini : Cond.initialized y.cls ∈ WA) (hl : Cond.methodLink own idx y ∈ WA) (hin : Cond.instanceMethod y ∈ WA) (hy : y.name = "<init>")
    (hd : hd_ y N) (hN : As.length = N) (hR : rmIn rmc rm maxL) (hrest : (rest.map fun v => v.category).sum ≤ 8) (d : decode cc pc = .ok (.invokespecial idx, 3)) (hk : k + rmc.cells ≤ rm.cells) (hn : n + rmc.slots ≤ rm.slots) (kk : ∀ v μ', V κ ρ (k + rmc.cells) (n + rmc.slots) μ' (K v μ') (pc + 3) lv ((cvb v).toList ++ rest)) : V κ ρ k n μ (bnd x K) pc lv (As.reverse ++ .ref a :: rest) :=
  V_bnd F M (Rn_I F hct hcode hini hl hin hy hd hN (by rw [Mx_R M]; exact hR) hrest d (by rw [Mx_R M]; exact ⟨hk, hn⟩)) hk hn kk
theorem V_cIN {y : MethodName} {bytes : ByteArray} {maxL idx N : Nat} {host : String} {ret2 : Option FieldType} {rmc : Room} {cvb : β → Option Value} {As rest : List Value} {a : Nat} {x : Rs β} {K : β → Me → Rs α} (F : Fx κ cc own) (M : Mx κ cv ρ rm ret2 [] nm) (hct : Ct κ.2.1 y (ws_ y bytes maxL none) rmc κ.2.2.2.2.2.2.2.2.2.2.2.1 κ.2.2.2.2.2.2.2.2.2.2.2.2.1 κ.2.2.2.2.2.2.2.2.2.2.2.2.2.1 cvb (.ref a :: As) μ x) (hcode : Cond.code y bytes maxL none ∈ WA) (hini : Cond.initialized y.cls ∈ WA) (hl : Cond.methodLinkNest own idx y host ∈ lw_tbl) (hin : Cond.instanceMethod y ∈ WA) (hy : y.name = "<init>")
    (hd : hd_ y N) (hN : As.length = N) (hR : rmIn rmc rm maxL) (hrest : (rest.map fun v => v.category).sum ≤ 8) (d : decode cc pc = .ok (.invokespecial idx, 3)) (hk : k + rmc.cells ≤ rm.cells) (hn : n + rmc.slots ≤ rm.slots) (kk : ∀ v μ', V κ ρ (k + rmc.cells) (n + rmc.slots) μ' (K v μ') (pc + 3) lv ((cvb v).toList ++ rest)) : V κ ρ k n μ (bnd x K) pc lv (As.reverse ++ .ref a :: rest) :=
  V_bnd F M (Rn_IN F hct hcode hini hl hin hy hd hN (by rw [Mx_R M]; exact hR) hrest d (by rw [Mx_R M]; exact ⟨hk, hn⟩)) hk hn kk
end VF
