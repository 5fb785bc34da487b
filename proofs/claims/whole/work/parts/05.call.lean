/-! ===== MY LAYER: contracts, calls, ends ===== -/
/-- a state that holds the memory μ, over the start s0 -/
def Wd (s0 : State) (D : va_G) (aC : Nat → ClassId) (μ : Me) (U : State) : Prop := s0.WarmedH U.vm ∧ VM s0 D aC μ U.heap
def Qr {α : Type} (s0 : State) (D : va_G) (aC : Nat → ClassId) (cv : α → Option Value) (ρ : (α ⊕ String) × Me) : Array Value → State → Outcome → State → Prop := fun _ _ o t => ∃ v, ρ.1 = .inl v ∧ o = .returned (cv v) ∧ VM s0 D aC ρ.2 t.heap
def Xr {α : Type} (s0 : State) (D : va_G) (aC : Nat → ClassId) (ρ : (α ⊕ String) × Me) : String → State → State → Prop := fun E _ t => ρ.1 = .inr E ∧ VM s0 D aC ρ.2 t.heap
/-- THE CONTRACT: whatever the pure computation x comes to, the method comes to -/
def Ct {α : Type} (l : Launch) (y : MethodName) (ws : List Cond) (rm : Room) (s0 : State) (D : va_G) (aC : Nat → ClassId) (cv : α → Option Value) (av : List Value) (μ : Me) (x : Rs α) : Prop :=
  ∀ ρ, x = some ρ → vx_Met l y ws rm (va_Pc av (Wd s0 D aC μ)) (Qr s0 D aC cv ρ) (Xr s0 D aC ρ) rm.cells rm.slots (fun q => s0.heap.size ≤ q)
/-- a method's own facts: its room, what its end owes -/
def Mx {α : Type} (κ : Cx) (cv : α → Option Value) (ρ : (α ⊕ String) × Me) (rm : Room) (ret : Option FieldType) (tb : List ExceptionTableEntry) (nm : String) : Prop := match κ with
  | (p, l, e, R, s, m, args, below, meth, c, Q, s0, D, aC, nL) => R = rm ∧ Q = vx_MQ below (Qr s0 D aC cv ρ) (Xr s0 D aC ρ) args s rm.cells rm.slots (fun q => s0.heap.size ≤ q) ∧ meth.sig.returnType = ret ∧ meth.locks = false ∧ c.exceptionTable.toList = tb ∧ meth.name = nm
theorem WA_at {s0 s : State} {a0 args : Array Value} (hW : s0.WarmedH s.vm) (h : ∀ w ∈ lw_tbl, w.before a0 s0 = true) : ∀ w ∈ WA, w.before args s = true := by
  intro w hw
  obtain ⟨h1, h2⟩ := List.mem_filter.mp hw
  exact word_at hW (good_of_word h2) (h w h1)
theorem Ct_of {α : Type} {l : Launch} {y : MethodName} {cc : ByteArray} {maxL : Nat} {ret : Option FieldType} {rm : Room} {s0 : State} {D : va_G} {aC : Nat → ClassId} {cv : α → Option Value} {av : List Value} {μ : Me} {x : Rs α} (hG : Gl s0 D aC) (hl : l.stackTraces = false) (hy : plainFor y = true) (hav : (lg_sl av).length ≤ maxL)
    (body : ∀ (κ : Cx) (ρ : (α ⊕ String) × Me), κ.2.2.2.2.2.2.2.2.2.2.2.2.2.2 = maxL → Fx κ cc y.cls → Mx κ cv ρ rm ret [] y.name → κ.2.2.2.2.2.2.2.2.2.2.2.2.2.1 = aC → V κ ρ 0 0 μ x 0 (lv_args 0 av) []) : Ct l y (ws_ y cc maxL ret) rm s0 D aC cv av μ x := by
  intro ρ hx
  refine vx_ofW hy rfl ?_
  intro p e s m args below meth c s₁ B hml htab hv
  obtain ⟨rfl, hWd⟩ := hv
  obtain ⟨a0, hwords⟩ := hG.2.2.2.2.1
  have hsz : s0.heap.size ≤ s.heap.size := hWd.2.1
  have F : Fx (p, l, e, (headSpec (ws_ y cc maxL ret) rm).room, s, m, av.toArray, below, meth, c, vx_MQ below (Qr s0 D aC cv ρ) (Xr s0 D aC ρ) av.toArray s rm.cells rm.slots (fun q => s0.heap.size ≤ q), s0, D, aC, maxL) cc y.cls :=
    ⟨B.exec, B.bytes, hml, findClass_of_methodNamed B.named, WA_at hWd.1 hwords, hG, hWd.1, hsz, hWd.2.2.1, hl⟩
  have hnm : meth.name = y.name := (name_of_methodNamed B.named B.method).1
  have htb : c.exceptionTable.toList = [] := List.eq_nil_iff_forall_not_mem.mpr (fun z hz => htab z hz)
  have K := body _ ρ rfl F ⟨rfl, rfl, B.returns, B.notSynchronized, htb, hnm⟩ rfl
  have hls := lv_entry av (n := maxL) hav
  show W p l e (headSpec (ws_ y cc maxL ret) rm).room s m av.toArray below meth c s.heap [] 0 0 _ (entryFrame m av.toArray maxL)
  rw [lg_entry_eq]
  exact K hx s.heap [] _ hWd.2 (fun z hz => by cases hz) hls
section VE
variable {α β : Type} {κ : Cx} {ρ : (α ⊕ String) × Me} {k n : Nat} {μ : Me} {pc : Nat} {lv : List (Nat × Value)} {st : List Value} {cc : ByteArray} {own : String} {cv : α → Option Value} {rm : Room} {tb : List ExceptionTableEntry} {nm : String}
def rt {α : Type} (v : α) (μ : Me) : Rs α := some (.inl v, μ)
theorem V_iret {v : α} {w : Int32} (F : Fx κ cc own) (M : Mx κ cv ρ rm (some .int) tb nm) (d : decode cc pc = .ok (.ireturn, 1)) (hc : cv v = some (.int w)) (hk : k ≤ rm.cells) (hn : n ≤ rm.slots) : V κ ρ k n μ (rt v μ) pc lv [.int w] := by
  obtain ⟨p, l, e, R, s, m, args, below, meth, c, Q, s0, D, aC, nL⟩ := κ
  intro hx H locs ls hM hloc hl
  obtain ⟨hR, hQ, hr, hlk, -, -⟩ := M
  cases hx
  rw [hQ]
  exact W.widen hk hn (vx_ret (W.iret F.1 F.2.1 hr (fun t ht hW => ⟨v, rfl, by rw [hc], by rw [ht]; exact hM⟩) hloc d hlk))
theorem V_zret {v : α} {w : Int32} {ty : FieldType} (F : Fx κ cc own) (M : Mx κ cv ρ rm (some ty) tb nm) (d : decode cc pc = .ok (.ireturn, 1)) (hc : cv v = some (.int w)) (hnar : narrow ty (.int w) = .int w) (hk : k ≤ rm.cells) (hn : n ≤ rm.slots) : V κ ρ k n μ (rt v μ) pc lv [.int w] := by
  obtain ⟨p, l, e, R, s, m, args, below, meth, c, Q, s0, D, aC, nL⟩ := κ
  intro hx H locs ls hM hloc hl
  obtain ⟨hR, hQ, hr, hlk, -, -⟩ := M
  cases hx
  rw [hQ]
  exact W.widen hk hn (vx_ret (W.zret F.1 F.2.1 hr hnar (fun t ht hW => ⟨v, rfl, by rw [hc], by rw [ht]; exact hM⟩) hloc d hlk))
theorem V_lret {v : α} {w : Int64} (F : Fx κ cc own) (M : Mx κ cv ρ rm (some .long) tb nm) (d : decode cc pc = .ok (.lreturn, 1)) (hc : cv v = some (.long w)) (hk : k ≤ rm.cells) (hn : n ≤ rm.slots) : V κ ρ k n μ (rt v μ) pc lv [.long w] := by
  obtain ⟨p, l, e, R, s, m, args, below, meth, c, Q, s0, D, aC, nL⟩ := κ
  intro hx H locs ls hM hloc hl
  obtain ⟨hR, hQ, hr, hlk, -, -⟩ := M
  cases hx
  rw [hQ]
  exact W.widen hk hn (vx_ret (W.lret F.1 F.2.1 hr (fun t ht hW => ⟨v, rfl, by rw [hc], by rw [ht]; exact hM⟩) hloc d hlk))
theorem V_fret {v : α} {w : UInt32} (F : Fx κ cc own) (M : Mx κ cv ρ rm (some .float) tb nm) (d : decode cc pc = .ok (.freturn, 1)) (hc : cv v = some (.float w)) (hk : k ≤ rm.cells) (hn : n ≤ rm.slots) : V κ ρ k n μ (rt v μ) pc lv [.float w] := by
  obtain ⟨p, l, e, R, s, m, args, below, meth, c, Q, s0, D, aC, nL⟩ := κ
  intro hx H locs ls hM hloc hl
  obtain ⟨hR, hQ, hr, hlk, -, -⟩ := M
  cases hx
  rw [hQ]
  exact W.widen hk hn (vx_ret (W.fret F.1 F.2.1 hr (fun t ht hW => ⟨v, rfl, by rw [hc], by rw [ht]; exact hM⟩) hloc d hlk))
theorem V_dret {v : α} {w : UInt64} (F : Fx κ cc own) (M : Mx κ cv ρ rm (some .double) tb nm) (d : decode cc pc = .ok (.dreturn, 1)) (hc : cv v = some (.double w)) (hk : k ≤ rm.cells) (hn : n ≤ rm.slots) : V κ ρ k n μ (rt v μ) pc lv [.double w] := by
  obtain ⟨p, l, e, R, s, m, args, below, meth, c, Q, s0, D, aC, nL⟩ := κ
  intro hx H locs ls hM hloc hl
  obtain ⟨hR, hQ, hr, hlk, -, -⟩ := M
  cases hx
  rw [hQ]
  exact W.widen hk hn (vx_ret (W.dret F.1 F.2.1 hr (fun t ht hW => ⟨v, rfl, by rw [hc], by rw [ht]; exact hM⟩) hloc d hlk))
theorem V_vret {v : α} (F : Fx κ cc own) (M : Mx κ cv ρ rm none tb nm) (d : decode cc pc = .ok (.return_, 1)) (hc : cv v = none) (hk : k ≤ rm.cells) (hn : n ≤ rm.slots) : V κ ρ k n μ (rt v μ) pc lv [] := by
  obtain ⟨p, l, e, R, s, m, args, below, meth, c, Q, s0, D, aC, nL⟩ := κ
  intro hx H locs ls hM hloc hl
  obtain ⟨hR, hQ, hr, hlk, -, -⟩ := M
  cases hx
  rw [hQ]
  exact W.widen hk hn (vx_ret (W.vret F.1 F.2.1 hr (fun t ht hW => ⟨v, rfl, by rw [hc], by rw [ht]; exact hM⟩) hloc d hlk))
theorem V_aret {v : α} {w : Value} {ty : FieldType} (F : Fx κ cc own) (M : Mx κ cv ρ rm (some ty) tb nm) (hty : (∃ n, ty = .object n) ∨ ∃ t, ty = .array t) (hw : w = .null ∨ ∃ a, w = .ref a) (d : decode cc pc = .ok (.areturn, 1)) (hc : cv v = some w) (hk : k ≤ rm.cells) (hn : n ≤ rm.slots) : V κ ρ k n μ (rt v μ) pc lv [w] := by
  obtain ⟨p, l, e, R, s, m, args, below, meth, c, Q, s0, D, aC, nL⟩ := κ
  intro hx H locs ls hM hloc hl
  obtain ⟨hR, hQ, hr, hlk, -, -⟩ := M
  cases hx
  rw [hQ]
  exact W.widen hk hn (vx_ret (W.aret F.1 F.2.1 hr hty hw (fun t ht hW => ⟨v, rfl, by rw [hc], by rw [ht]; exact hM⟩) hloc d hlk))
/-- a computation that returns goes on, one that throws is through -/
def bnd {α β : Type} (y : Rs β) (K : β → Me → Rs α) : Rs α := match y with
  | some (.inl v, μ) => K v μ
  | some (.inr E, μ) => some (.inr E, μ)
  | none => none
/-- a call's run, as the kit's call rows give it -/
def Rn {β : Type} (κ : Cx) (k n mc ms : Nat) (μ : Me) (cvb : β → Option Value) (y : Rs β) (pc : Nat) (lv : List (Nat × Value)) (st0 rest : List Value) : Prop := match κ with
  | (p, l, e, R, s, m, args, below, meth, c, Q, s0, D, aC, nL) => ∀ ρ', y = some ρ' → ∀ (H : Heap) (locs : List Loc) (ls : Array Slot), VM s0 D aC μ H → lv_has ls nL lv → ∃ a : Array Value, vx_Run p l e R s m args below meth c H locs k n mc ms (F0 m pc ls st0) rest (Qr s0 D aC cvb ρ' a) (Xr s0 D aC ρ') (fun q => s0.heap.size ≤ q)
theorem V_bnd {mc ms : Nat} {y : Rs β} {cvb : β → Option Value} {K : β → Me → Rs α} {ret : Option FieldType} {st0 rest : List Value} (F : Fx κ cc own) (M : Mx κ cv ρ rm ret [] nm) (hr : Rn κ k n mc ms μ cvb y pc lv st0 rest) (hk : k + mc ≤ rm.cells) (hn : n + ms ≤ rm.slots)
    (kk : ∀ v μ', V κ ρ (k + mc) (n + ms) μ' (K v μ') (pc + 3) lv ((cvb v).toList ++ rest)) : V κ ρ k n μ (bnd y K) pc lv st0 := by
  obtain ⟨p, l, e, R, s, m, args, below, meth, c, Q, s0, D, aC, nL⟩ := κ
  intro hx H locs ls hM hloc hl
  obtain ⟨hR, hQ, hrt, hlk, htb, -⟩ := M
  cases hy : y with
  | none => rw [hy] at hx; cases hx
  | some ρ' =>
    rw [hy] at hx
    intro T hT X
    obtain ⟨a, hrun⟩ := hr ρ' hy H locs ls hM hl
    rcases hrun T hT X with ⟨v, st₀, t, T', L, h0, X', hL, e1, e2, ⟨w, hw, ho, hWd⟩, go⟩ | ⟨q, st₀, t, T', L, E, ce, h0, X', hL, e1, e2, ⟨hE, hWd⟩, hce, hcv, hcl, go⟩
    · obtain ⟨r', μ'⟩ := ρ'
      dsimp only at hw hWd
      subst hw
      cases ho
      obtain ⟨t2, a1, b1⟩ := kk w μ' hx T'.heap (locs ++ L) ls (by rw [e1]; exact hWd) (fun z hz => (List.mem_append.mp hz).elim (hloc z) (hL z)) hl T' rfl X'
      exact ⟨t2, go t2 a1, b1⟩
    · obtain ⟨r', μ'⟩ := ρ'
      dsimp only at hE hWd
      subst hE
      have hρ : ρ = (.inr E, μ') := (Option.some.inj hx).symm
      subst hρ
      subst hQ
      obtain ⟨t2, a1, b1⟩ := vx_out (pc := pc) (E := E) (ce := ce) (q := q) (ls := ls) (rest := rest) (Qc := Qr s0 D aC cv (Sum.inr E, μ')) (XC := Xr s0 D aC (Sum.inr E, μ')) (free := fun q => s0.heap.size ≤ q) (locs := locs ++ L) (H := T'.heap) (fun x hx => by rw [htb] at hx; cases hx) hlk (by rw [e1]; exact hce) hcv hcl
        (fun t' ht' hA => ⟨rfl, by rw [ht', e1]; exact hWd⟩) (fun z hz => (List.mem_append.mp hz).elim (hloc z) (hL z)) hk hn T' rfl X'
      exact ⟨t2, go.trans a1, b1⟩

theorem ws_good {y : MethodName} {cc : ByteArray} {n : Nat} {ret : Option FieldType} (h : Cond.code y cc n ret ∈ WA) : GoodIn WA (ws_ y cc n ret) := by
  intro w hw
  rw [List.mem_singleton.mp hw]
  exact ⟨h, good_of_word (List.mem_filter.mp h).2⟩
/-- the room of the callee within the caller's -/
abbrev rmIn (a b : Room) (maxL : Nat) : Prop := a.frames + 1 ≤ b.frames ∧ 8 + (maxL + 11) + a.locals ≤ b.locals
theorem callB_ {p : Program} {l : Launch} {e : Env} {R : Room} {s : State} {m : MethodId} {args : Array Value} {below : List Frame} {meth : Method} {c : Code} {Q : State → Prop} {s0 : State} {D : va_G} {aC : Nat → ClassId} {nL : Nat} {y : MethodName} {bytes : ByteArray} {maxL idx N : Nat} {ret : Option FieldType} {rmc : Room} (F : Fx (p, l, e, R, s, m, args, below, meth, c, Q, s0, D, aC, nL) cc own) (hcode : Cond.code y bytes maxL ret ∈ WA) (hini : Cond.initialized y.cls ∈ WA) (hl : Cond.methodLink own idx y ∈ WA)
    (hd : y.cls ≠ "java/lang/invoke/MethodHandle" ∧ y.cls ≠ "java/lang/invoke/VarHandle" ∧ (parseMethodDescriptor y.desc).map (fun d => d.parameters.length) = some N) (hR : rmIn rmc R maxL) : CallB R s args own idx y bytes maxL ret (ws_ y bytes maxL ret) rmc rmc.cells rmc.slots N :=
  callB_of N F.2.2.2.2.1 (ws_good hcode) rfl rfl rfl (F.2.2.2.2.1 _ hini) (F.2.2.2.2.1 _ hl) hd hR
theorem blind_ {s0 : State} {D : va_G} {aC : Nat → ClassId} {av : List Value} : FrameBlind (va_Pc av (Wd s0 D aC μ)) := fun a U g mk q => q
/-- a receiver: an object of class number ci at a -/
theorem recv_ {s0 s : State} {D : va_G} {aC : Nat → ClassId} {H : Heap} {a ci : Nat} {q : vw_C} {fs : List Value} (hK : va_K D vwCl (tysL aC) s) (hM : VM s0 D aC μ H) (hc : vwCl[ci]? = some q) (ho : ob μ a ci = some fs) : ∃ cell : Cell, H[a]? = some cell ∧ cell.vm.isStatics = false ∧ s.vm.findClass q.1 = some cell.cls :=
  va_recv (q0 := 0) hK (VM_get hM (ob_some ho).1 (ob_some ho).2) hc rfl
/-- a call of a method of an object: it must be there -/
def vc {α : Type} (μ : Me) (a ci : Nat) (x : Rs α) : Rs α := if (ob μ a ci).isSome = true then x else none
theorem vc_some {μ : Me} {a ci : Nat} {x : Rs α} {r : (α ⊕ String) × Me} (h : vc μ a ci x = some r) : (∃ fs, ob μ a ci = some fs) ∧ x = some r := by
  unfold vc at h
  split at h
  · rename_i h1
    exact ⟨Option.isSome_iff_exists.mp h1, h⟩
  · cases h
theorem Rn_V {y : MethodName} {bytes : ByteArray} {maxL idx N ci N9 : Nat} {ret : Option FieldType} {C : String} {T : u_T} {rmc : Room} {cvb : β → Option Value} {As rest : List Value} {a : Nat} {x : Rs β} (F : Fx κ cc own) (hct : Ct κ.2.1 y (ws_ y bytes maxL ret) rmc κ.2.2.2.2.2.2.2.2.2.2.2.1 κ.2.2.2.2.2.2.2.2.2.2.2.2.1 κ.2.2.2.2.2.2.2.2.2.2.2.2.2.1 cvb (.ref a :: As) μ x) (hc : vwCl[ci]? = some (C, T, N9)) (hcode : Cond.code y bytes maxL ret ∈ WA) (hini : Cond.initialized y.cls ∈ WA) (hl : Cond.methodLink own idx y ∈ WA) (hin : Cond.instanceMethod y ∈ WA) (hsel : Cond.selects C y y ∈ WA)
    (hd : y.cls ≠ "java/lang/invoke/MethodHandle" ∧ y.cls ≠ "java/lang/invoke/VarHandle" ∧ (parseMethodDescriptor y.desc).map (fun d => d.parameters.length) = some N) (hN : As.length = N) (hR : rmIn rmc κ.2.2.2.1 maxL) (hrest : (rest.map fun v => v.category).sum ≤ 8) (d : decode cc pc = .ok (.invokevirtual idx, 3)) (hcells : k + rmc.cells ≤ κ.2.2.2.1.cells ∧ n + rmc.slots ≤ κ.2.2.2.1.slots) : Rn κ k n rmc.cells rmc.slots μ cvb (vc μ a ci x) pc lv (As.reverse ++ .ref a :: rest) rest := by
  obtain ⟨p, l, e, R, s, m, args, below, meth, c, Q, s0, D, aC, nL⟩ := κ
  intro ρ' hy H locs ls hM hl0
  obtain ⟨⟨fs, ho⟩, hx⟩ := vc_some hy
  refine ⟨_, vx_runV (As := As) ⟨F.1, F.2.1, F.2.2.1, F.2.2.2.1, F.2.2.2.2.1⟩ (hct ρ' hx) ⟨callB_ F hcode hini hl hd hR, F.2.2.2.2.1 _ hin, F.2.2.2.2.1 _ hsel⟩ ⟨blind_, recv_ (Fx_K F) hM hc ho, fun U hU hW => ⟨rfl, State.WarmedH.trans F.2.2.2.2.2.2.1 hW, by rw [hU]; exact hM⟩⟩ rfl hN hl0.1 rfl (lv_room hrest) d hcells⟩
theorem Rn_S {y : MethodName} {bytes : ByteArray} {maxL idx N : Nat} {ret : Option FieldType} {rmc : Room} {cvb : β → Option Value} {As rest : List Value} {x : Rs β} (F : Fx κ cc own) (hct : Ct κ.2.1 y (ws_ y bytes maxL ret) rmc κ.2.2.2.2.2.2.2.2.2.2.2.1 κ.2.2.2.2.2.2.2.2.2.2.2.2.1 κ.2.2.2.2.2.2.2.2.2.2.2.2.2.1 cvb As μ x) (hcode : Cond.code y bytes maxL ret ∈ WA) (hini : Cond.initialized y.cls ∈ WA) (hl : Cond.methodLink own idx y ∈ WA) (hst : Cond.static y ∈ WA)
    (hd : y.cls ≠ "java/lang/invoke/MethodHandle" ∧ y.cls ≠ "java/lang/invoke/VarHandle" ∧ (parseMethodDescriptor y.desc).map (fun d => d.parameters.length) = some N) (hN : As.length = N) (hR : rmIn rmc κ.2.2.2.1 maxL) (hrest : (rest.map fun v => v.category).sum ≤ 8) (d : decode cc pc = .ok (.invokestatic idx, 3)) (hcells : k + rmc.cells ≤ κ.2.2.2.1.cells ∧ n + rmc.slots ≤ κ.2.2.2.1.slots) : Rn κ k n rmc.cells rmc.slots μ cvb x pc lv (As.reverse ++ rest) rest := by
  obtain ⟨p, l, e, R, s, m, args, below, meth, c, Q, s0, D, aC, nL⟩ := κ
  intro ρ' hx H locs ls hM hl0
  refine ⟨_, vx_runS (As := As) ⟨F.1, F.2.1, F.2.2.1, F.2.2.2.1, F.2.2.2.2.1⟩ (hct ρ' hx) ⟨callB_ F hcode hini hl hd hR, F.2.2.2.2.1 _ hst⟩ ⟨blind_, fun U hU hW => ⟨rfl, State.WarmedH.trans F.2.2.2.2.2.2.1 hW, by rw [hU]; exact hM⟩⟩ rfl hN hl0.1 rfl (lv_room hrest) d hcells⟩
theorem nest_ {p : Program} {l : Launch} {e : Env} {R : Room} {s : State} {m : MethodId} {args : Array Value} {below : List Frame} {meth : Method} {c : Code} {Q : State → Prop} {s0 : State} {D : va_G} {aC : Nat → ClassId} {nL : Nat} {y : MethodName} {idx : Nat} {host : String} (F : Fx (p, l, e, R, s, m, args, below, meth, c, Q, s0, D, aC, nL) cc own) (h : Cond.methodLinkNest own idx y host ∈ lw_tbl) : va_Nw (.methodLinkNest own idx y host) s := by
  obtain ⟨a0, hw⟩ := F.2.2.2.2.2.1.2.2.2.2.1
  exact va_Nw.warmM F.2.2.2.2.2.2.1 (va_Nw.of rfl (hw _ h))
/-- a nest mate's private static method -/
theorem Rn_SN {y : MethodName} {bytes : ByteArray} {maxL idx N : Nat} {host : String} {ret : Option FieldType} {rmc : Room} {cvb : β → Option Value} {As rest : List Value} {x : Rs β} (F : Fx κ cc own) (hct : Ct κ.2.1 y (ws_ y bytes maxL ret) rmc κ.2.2.2.2.2.2.2.2.2.2.2.1 κ.2.2.2.2.2.2.2.2.2.2.2.2.1 κ.2.2.2.2.2.2.2.2.2.2.2.2.2.1 cvb As μ x) (hcode : Cond.code y bytes maxL ret ∈ WA) (hini : Cond.initialized y.cls ∈ WA) (hl : Cond.methodLinkNest own idx y host ∈ lw_tbl) (hst : Cond.static y ∈ WA)
    (hd : y.cls ≠ "java/lang/invoke/MethodHandle" ∧ y.cls ≠ "java/lang/invoke/VarHandle" ∧ (parseMethodDescriptor y.desc).map (fun d => d.parameters.length) = some N) (hN : As.length = N) (hR : rmIn rmc κ.2.2.2.1 maxL) (hrest : (rest.map fun v => v.category).sum ≤ 8) (d : decode cc pc = .ok (.invokestatic idx, 3)) (hcells : k + rmc.cells ≤ κ.2.2.2.1.cells ∧ n + rmc.slots ≤ κ.2.2.2.1.slots) : Rn κ k n rmc.cells rmc.slots μ cvb x pc lv (As.reverse ++ rest) rest := by
  obtain ⟨p, l, e, R, s, m, args, below, meth, c, Q, s0, D, aC, nL⟩ := κ
  intro ρ' hx H locs ls hM hl0
  refine ⟨_, vx_runSN (As := As) ⟨F.1, F.2.1, F.2.2.1, F.2.2.2.1, F.2.2.2.2.1⟩ (hct ρ' hx) ⟨va_cnB N F.2.2.2.2.1 (ws_good hcode) rfl rfl rfl (nest_ F hl) (F.2.2.2.2.1 _ hini) hd hR, F.2.2.2.2.1 _ hst, trivial⟩ ⟨blind_, fun U hU hW => ⟨rfl, State.WarmedH.trans F.2.2.2.2.2.2.1 hW, by rw [hU]; exact hM⟩⟩ rfl hN hl0.1 rfl (lv_room hrest) d hcells⟩

theorem Mx_R {ret : Option FieldType} (M : Mx κ cv ρ rm ret tb nm) : κ.2.2.2.1 = rm := by
  obtain ⟨p, l, e, R, s, m, args, below, meth, c, Q, s0, D, aC, nL⟩ := κ
  exact M.1
theorem Mx_nm {ret : Option FieldType} (M : Mx κ cv ρ rm ret tb nm) : κ.2.2.2.2.2.2.2.2.1.name = nm := by
  obtain ⟨p, l, e, R, s, m, args, below, meth, c, Q, s0, D, aC, nL⟩ := κ
  exact M.2.2.2.2.2
abbrev hd_ (y : MethodName) (N : Nat) : Prop := y.cls ≠ "java/lang/invoke/MethodHandle" ∧ y.cls ≠ "java/lang/invoke/VarHandle" ∧ (parseMethodDescriptor y.desc).map (fun d => d.parameters.length) = some N
theorem V_cV {y : MethodName} {bytes : ByteArray} {maxL idx N ci N9 : Nat} {ret ret2 : Option FieldType} {C : String} {T : u_T} {rmc : Room} {cvb : β → Option Value} {As rest : List Value} {a : Nat} {x : Rs β} {K : β → Me → Rs α} (F : Fx κ cc own) (M : Mx κ cv ρ rm ret2 [] nm) (hct : Ct κ.2.1 y (ws_ y bytes maxL ret) rmc κ.2.2.2.2.2.2.2.2.2.2.2.1 κ.2.2.2.2.2.2.2.2.2.2.2.2.1 κ.2.2.2.2.2.2.2.2.2.2.2.2.2.1 cvb (.ref a :: As) μ x) (hc : vwCl[ci]? = some (C, T, N9)) (hcode : Cond.code y bytes maxL ret ∈ WA) (hini : Cond.initialized y.cls ∈ WA) (hl : Cond.methodLink own idx y ∈ WA) (hin : Cond.instanceMethod y ∈ WA) (hsel : Cond.selects C y y ∈ WA)
    (hd : hd_ y N) (hN : As.length = N) (hR : rmIn rmc rm maxL) (hrest : (rest.map fun v => v.category).sum ≤ 8) (d : decode cc pc = .ok (.invokevirtual idx, 3)) (hk : k + rmc.cells ≤ rm.cells) (hn : n + rmc.slots ≤ rm.slots) (kk : ∀ v μ', V κ ρ (k + rmc.cells) (n + rmc.slots) μ' (K v μ') (pc + 3) lv ((cvb v).toList ++ rest)) : V κ ρ k n μ (bnd (vc μ a ci x) K) pc lv (As.reverse ++ .ref a :: rest) :=
  V_bnd F M (Rn_V F hct hc hcode hini hl hin hsel hd hN (by rw [Mx_R M]; exact hR) hrest d (by rw [Mx_R M]; exact ⟨hk, hn⟩)) hk hn kk
theorem V_cS {y : MethodName} {bytes : ByteArray} {maxL idx N : Nat} {ret ret2 : Option FieldType} {rmc : Room} {cvb : β → Option Value} {As rest : List Value} {x : Rs β} {K : β → Me → Rs α} (F : Fx κ cc own) (M : Mx κ cv ρ rm ret2 [] nm) (hct : Ct κ.2.1 y (ws_ y bytes maxL ret) rmc κ.2.2.2.2.2.2.2.2.2.2.2.1 κ.2.2.2.2.2.2.2.2.2.2.2.2.1 κ.2.2.2.2.2.2.2.2.2.2.2.2.2.1 cvb As μ x) (hcode : Cond.code y bytes maxL ret ∈ WA) (hini : Cond.initialized y.cls ∈ WA) (hl : Cond.methodLink own idx y ∈ WA) (hst : Cond.static y ∈ WA)
    (hd : hd_ y N) (hN : As.length = N) (hR : rmIn rmc rm maxL) (hrest : (rest.map fun v => v.category).sum ≤ 8) (d : decode cc pc = .ok (.invokestatic idx, 3)) (hk : k + rmc.cells ≤ rm.cells) (hn : n + rmc.slots ≤ rm.slots) (kk : ∀ v μ', V κ ρ (k + rmc.cells) (n + rmc.slots) μ' (K v μ') (pc + 3) lv ((cvb v).toList ++ rest)) : V κ ρ k n μ (bnd x K) pc lv (As.reverse ++ rest) :=
  V_bnd F M (Rn_S F hct hcode hini hl hst hd hN (by rw [Mx_R M]; exact hR) hrest d (by rw [Mx_R M]; exact ⟨hk, hn⟩)) hk hn kk
theorem V_cSN {y : MethodName} {bytes : ByteArray} {maxL idx N : Nat} {host : String} {ret ret2 : Option FieldType} {rmc : Room} {cvb : β → Option Value} {As rest : List Value} {x : Rs β} {K : β → Me → Rs α} (F : Fx κ cc own) (M : Mx κ cv ρ rm ret2 [] nm) (hct : Ct κ.2.1 y (ws_ y bytes maxL ret) rmc κ.2.2.2.2.2.2.2.2.2.2.2.1 κ.2.2.2.2.2.2.2.2.2.2.2.2.1 κ.2.2.2.2.2.2.2.2.2.2.2.2.2.1 cvb As μ x) (hcode : Cond.code y bytes maxL ret ∈ WA) (hini : Cond.initialized y.cls ∈ WA) (hl : Cond.methodLinkNest own idx y host ∈ lw_tbl) (hst : Cond.static y ∈ WA)
    (hd : hd_ y N) (hN : As.length = N) (hR : rmIn rmc rm maxL) (hrest : (rest.map fun v => v.category).sum ≤ 8) (d : decode cc pc = .ok (.invokestatic idx, 3)) (hk : k + rmc.cells ≤ rm.cells) (hn : n + rmc.slots ≤ rm.slots) (kk : ∀ v μ', V κ ρ (k + rmc.cells) (n + rmc.slots) μ' (K v μ') (pc + 3) lv ((cvb v).toList ++ rest)) : V κ ρ k n μ (bnd x K) pc lv (As.reverse ++ rest) :=
  V_bnd F M (Rn_SN F hct hcode hini hl hst hd hN (by rw [Mx_R M]; exact hR) hrest d (by rw [Mx_R M]; exact ⟨hk, hn⟩)) hk hn kk
/-- a reference that may be null, case by case -/
def op_ {γ : Type} (o : Option Nat) (x1 : Rs γ) (x2 : Nat → Rs γ) : Rs γ := match o with
  | none => x1
  | some a => x2 a
theorem V_opt {o : Option Nat} {x1 : Rs α} {x2 : Nat → Rs α} (h1 : V κ ρ k n μ x1 pc lv (.null :: st)) (h2 : ∀ a, V κ ρ k n μ (x2 a) pc lv (.ref a :: st)) : V κ ρ k n μ (op_ o x1 x2) pc lv (va_rf o :: st) := by
  cases o with
  | none => exact h1
  | some a => exact h2 a
theorem V_max {idx : Nat} {a b : Int32} {ret : Option FieldType} {x : Rs α} (F : Fx κ cc own) (M : Mx κ cv ρ rm ret tb nm) (hl : Cond.methodLink own idx Lib.Math.max.name ∈ WA) (hst : Cond.static Lib.Math.max.name ∈ WA) (hini : Cond.initialized "java/lang/Math" ∈ WA) (hcode : Cond.code Lib.Math.max.name Lib.Math.max.code 2 (some .int) ∈ WA) (d : decode cc pc = .ok (.invokestatic idx, 3)) (hf : 1 ≤ rm.frames) (hlo : (st.map fun v => v.category).sum + 13 ≤ rm.locals) (hk : k ≤ rm.cells) (hn : n ≤ rm.slots) (kk : V κ ρ k n μ x (pc + 3) lv (.int (if a < b then b else a) :: st)) : V κ ρ k n μ x pc lv (.int b :: .int a :: st) := by
  obtain ⟨p, l, e, R, s, m, args, below, meth, c, Q, s0, D, aC, nL⟩ := κ
  have hR : R = rm := M.1
  subst hR
  intro hx H locs ls hM hloc hl0
  have hts := F.2.2.2.2.1
  exact va_mmax F.1 F.2.1 (F.2.2.1.trans hl0.1.symm) F.2.2.2.1 (hts _ hl) (hts _ hst) (hts _ hini) (hts _ hcode) hf hlo hk hn d (kk hx H locs ls hM hloc hl0)
theorem V_min {idx : Nat} {a b : Int32} {ret : Option FieldType} {x : Rs α} (F : Fx κ cc own) (M : Mx κ cv ρ rm ret tb nm) (hl : Cond.methodLink own idx Lib.Math.min.name ∈ WA) (hst : Cond.static Lib.Math.min.name ∈ WA) (hini : Cond.initialized "java/lang/Math" ∈ WA) (hcode : Cond.code Lib.Math.min.name Lib.Math.min.code 2 (some .int) ∈ WA) (d : decode cc pc = .ok (.invokestatic idx, 3)) (hf : 1 ≤ rm.frames) (hlo : (st.map fun v => v.category).sum + 13 ≤ rm.locals) (hk : k ≤ rm.cells) (hn : n ≤ rm.slots) (kk : V κ ρ k n μ x (pc + 3) lv (.int (if b < a then b else a) :: st)) : V κ ρ k n μ x pc lv (.int b :: .int a :: st) := by
  obtain ⟨p, l, e, R, s, m, args, below, meth, c, Q, s0, D, aC, nL⟩ := κ
  have hR : R = rm := M.1
  subst hR
  intro hx H locs ls hM hloc hl0
  have hts := F.2.2.2.2.1
  exact va_mmin F.1 F.2.1 (F.2.2.1.trans hl0.1.symm) F.2.2.2.1 (hts _ hl) (hts _ hst) (hts _ hini) (hts _ hcode) hf hlo hk hn d (kk hx H locs ls hM hloc hl0)
theorem V_abs {idx : Nat} {a : Int32} {ret : Option FieldType} {x : Rs α} (F : Fx κ cc own) (M : Mx κ cv ρ rm ret tb nm) (hl : Cond.methodLink own idx Lib.Math.abs.name ∈ WA) (hst : Cond.static Lib.Math.abs.name ∈ WA) (hini : Cond.initialized "java/lang/Math" ∈ WA) (hcode : Cond.code Lib.Math.abs.name Lib.Math.abs.code 1 (some .int) ∈ WA) (d : decode cc pc = .ok (.invokestatic idx, 3)) (hf : 1 ≤ rm.frames) (hlo : (st.map fun v => v.category).sum + 13 ≤ rm.locals) (hk : k ≤ rm.cells) (hn : n ≤ rm.slots) (kk : V κ ρ k n μ x (pc + 3) lv (.int (if 0 ≤ a then a else 0 - a) :: st)) : V κ ρ k n μ x pc lv (.int a :: st) := by
  obtain ⟨p, l, e, R, s, m, args, below, meth, c, Q, s0, D, aC, nL⟩ := κ
  have hR : R = rm := M.1
  subst hR
  intro hx H locs ls hM hloc hl0
  have hts := F.2.2.2.2.1
  exact va_mabs F.1 F.2.1 (F.2.2.1.trans hl0.1.symm) F.2.2.2.1 (hts _ hl) (hts _ hst) (hts _ hini) (hts _ hcode) hf hlo hk hn d (kk hx H locs ls hM hloc hl0)
/-! throwing -/
def wmb : Cond → Bool
  | .castable _ _ => true
  | .declares _ => true
  | w => goodWord w
theorem warm_at {s0 s : State} {a0 args : Array Value} (hW : s0.WarmedH s.vm) {w : Cond} (h : w.before a0 s0 = true) (hg : wmb w = true) : w.before args s = true := by
  by_cases g : goodWord w = true
  · exact word_at hW (good_of_word g) h
  · cases w with
    | castable C T => exact va_Nw.use rfl (va_Nw.warmC hW (va_Nw.of rfl h))
    | declares x => exact va_Nw.use rfl (va_Nw.warmD hW (va_Nw.of rfl h))
    | _ => exact absurd hg g
abbrev thN : List String := ["java/lang/RuntimeException", "java/lang/Exception"]
/-- what the tables say of a throw of E by the constructor's link ic -/
def Th (own : String) (ic : Nat) (E : String) : Prop := ∀ w ∈ vx_atS own ic E thN, w ∈ lw_tbl ∧ wmb w = true ∧ vx_ot w = true
def thr {γ : Type} (E : String) (μ : Me) : Rs γ := match μ 0 with
  | none => some (.inr E, μ)
  | some _ => none
theorem VM_grow {s0 : State} {D : va_G} {aC : Nat → ClassId} {μ : Me} {H H1 : Heap} (hM : VM s0 D aC μ H) (h0 : μ 0 = none) (hz : H.size ≤ H1.size) (hq : ∀ q : Nat, q < H.size → H1[q]? = H[q]?) : VM s0 D aC μ H1 :=
  ⟨Nat.le_trans hM.1 hz, fun q h => by rw [hq q (Nat.lt_of_lt_of_le h hM.1)]; exact hM.2.1 q h, fun a e ha he => ⟨(hM.2.2.1 a e ha he).1, (hM.2.2.1 a e ha he).2.kept (hq a ((hM.2.2.1 a e ha he).2).lt)⟩, fun z hz0 => by rw [h0] at hz0; cases hz0⟩
theorem V_throw {E text : String} {ik is ic : Nat} {ret : Option FieldType} (F : Fx κ cc own) (M : Mx κ cv ρ rm ret [] nm) (hkl : Cond.classLink own ik E ∈ WA) (hini : Cond.initialized E ∈ WA) (hs : (own, is, text) ∈ strL) (hth : Th own ic E) (hfit : Bundle.fit E = true) (d0 : decode cc pc = .ok (.new ik, 3)) (d3 : decode cc (pc + 3) = .ok (.dup, 1)) (d4 : decode cc (pc + 4) = .ok (.ldc is, 2)) (d6 : decode cc (pc + 6) = .ok (.invokespecial ic, 3)) (d9 : decode cc (pc + 9) = .ok (.athrow, 1)) (hf : 5 < rm.frames) (hlo : (st.map fun v => v.category).sum + (13 * (thN.length + 1) + 43) ≤ rm.locals) (hk : k + 1 ≤ rm.cells) (hn : n + 6 ≤ rm.slots) : V κ ρ k n μ (thr E μ) pc lv st := by
  obtain ⟨p, l, e, R, s, m, args, below, meth, c, Q, s0, D, aC, nL⟩ := κ
  obtain ⟨hR, hQ, -, hlk, htb, -⟩ := M
  subst hR
  intro hx H locs ls hM hloc hl0
  unfold thr at hx
  split at hx
  · rename_i h0
    cases hx
    subst hQ
    intro T hT X
    obtain ⟨e1, e2, e3, e4, e5, e6, e7, e8, e9, e10⟩ := F
    obtain ⟨g1, g2, g3, g4, ⟨a0, g5⟩, g6⟩ := e6
    obtain ⟨sa, hsa⟩ := g6.1 _ hs
    have hsz : s.heap.size ≤ T.heap.size := (vx_frame (U := T) X.same).1
    rw [hT] at hsz
    have hA : ∀ (q : Nat), q < s.heap.size → ¬ s0.heap.size ≤ q → H[q]? = s.heap[q]? := fun q _ h => by rw [e9 q (Nat.not_le.mp h)]; exact hM.2.1 q (Nat.not_le.mp h)
    have hA0 : ∀ (q : Nat), q < s0.heap.size → ¬ s0.heap.size ≤ q → s.heap[q]? = s0.heap[q]? := fun q h _ => e9 q h
    exact vx_throwS (A := fun q => s0.heap.size ≤ q) (names := thN) e1 e2 e10 e4 hfit (by decide) (e5 _ hkl) (e5 _ hini) (vk_R.warm e7 hsa) (fun w hw => warm_at e7 (g5 w (hth w hw).1) (hth w hw).2.1)
      (fun w hw => by
        rcases List.mem_cons.mp hw with h | h
        · rw [h]; simp [vx_ot, (List.mem_filter.mp hkl).2]
        · rcases List.mem_cons.mp h with h | h
          · rw [h]; simp [vx_ot, (List.mem_filter.mp hini).2]
          · exact (hth w h).2.2)
      ((g3.kept hA0).moved e7.alike) ((g4.kept hA0).moved e7.alike) ⟨hsz, hA, hloc⟩ (hl0.1.trans e3.symm) d0 d3 d4 d6 d9 (fun x hx => by rw [htb] at hx; cases hx) hf hlo hk hn hlk
      (fun t hA1 h1 h2 => ⟨rfl, VM_grow hM h0 h1 h2⟩) hloc hk hn T hT X
  · cases hx
theorem V_throwW {E text : String} {ik is ic : Nat} {ret : Option FieldType} (F : Fx κ cc own) (M : Mx κ cv ρ rm ret [] nm) (hkl : Cond.classLink own ik E ∈ WA) (hini : Cond.initialized E ∈ WA) (hs : (own, is, text) ∈ strL) (hth : Th own ic E) (hfit : Bundle.fit E = true) (d0 : decode cc pc = .ok (.new ik, 3)) (d3 : decode cc (pc + 3) = .ok (.dup, 1)) (d4 : decode cc (pc + 4) = .ok (.ldc_w is, 3)) (d6 : decode cc (pc + 7) = .ok (.invokespecial ic, 3)) (d9 : decode cc (pc + 10) = .ok (.athrow, 1)) (hf : 5 < rm.frames) (hlo : (st.map fun v => v.category).sum + (13 * (thN.length + 1) + 43) ≤ rm.locals) (hk : k + 1 ≤ rm.cells) (hn : n + 6 ≤ rm.slots) : V κ ρ k n μ (thr E μ) pc lv st := by
  obtain ⟨p, l, e, R, s, m, args, below, meth, c, Q, s0, D, aC, nL⟩ := κ
  obtain ⟨hR, hQ, -, hlk, htb, -⟩ := M
  subst hR
  intro hx H locs ls hM hloc hl0
  unfold thr at hx
  split at hx
  · rename_i h0
    cases hx
    subst hQ
    intro T hT X
    obtain ⟨e1, e2, e3, e4, e5, e6, e7, e8, e9, e10⟩ := F
    obtain ⟨g1, g2, g3, g4, ⟨a0, g5⟩, g6⟩ := e6
    obtain ⟨sa, hsa⟩ := g6.1 _ hs
    have hsz : s.heap.size ≤ T.heap.size := (vx_frame (U := T) X.same).1
    rw [hT] at hsz
    have hA : ∀ (q : Nat), q < s.heap.size → ¬ s0.heap.size ≤ q → H[q]? = s.heap[q]? := fun q _ h => by rw [e9 q (Nat.not_le.mp h)]; exact hM.2.1 q (Nat.not_le.mp h)
    have hA0 : ∀ (q : Nat), q < s0.heap.size → ¬ s0.heap.size ≤ q → s.heap[q]? = s0.heap[q]? := fun q h _ => e9 q h
    exact vx_throwSW (A := fun q => s0.heap.size ≤ q) (names := thN) e1 e2 e10 e4 hfit (by decide) (e5 _ hkl) (e5 _ hini) (vk_R.warm e7 hsa) (fun w hw => warm_at e7 (g5 w (hth w hw).1) (hth w hw).2.1)
      (fun w hw => by
        rcases List.mem_cons.mp hw with h | h
        · rw [h]; simp [vx_ot, (List.mem_filter.mp hkl).2]
        · rcases List.mem_cons.mp h with h | h
          · rw [h]; simp [vx_ot, (List.mem_filter.mp hini).2]
          · exact (hth w h).2.2)
      ((g3.kept hA0).moved e7.alike) ((g4.kept hA0).moved e7.alike) ⟨hsz, hA, hloc⟩ (hl0.1.trans e3.symm) d0 d3 d4 d6 d9 (fun x hx => by rw [htb] at hx; cases hx) hf hlo hk hn hlk
      (fun t hA1 h1 h2 => ⟨rfl, VM_grow hM h0 h1 h2⟩) hloc hk hn T hT X
  · cases hx
end VE
theorem th_IndexOutOfBoundsException : Th "DroneLightShow" 267 "java/lang/IndexOutOfBoundsException" := by
  unfold Th
  decide +kernel
theorem th_IllegalArgumentException : Th "DroneLightShow" 195 "java/lang/IllegalArgumentException" := by
  unfold Th
  decide +kernel
theorem th_IllegalStateException : Th "DroneLightShow" 234 "java/lang/IllegalStateException" := by
  unfold Th
  decide +kernel
theorem th_UnsupportedOperationException : Th "DroneLightShow" 328 "java/lang/UnsupportedOperationException" := by
  unfold Th
  decide +kernel
theorem th_ArithmeticException : Th "DroneLightShow" 169 "java/lang/ArithmeticException" := by
  unfold Th
  decide +kernel
