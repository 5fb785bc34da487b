/-! THE CLAIM OUT OF ONE WALK OF THE LAW'S BODY. Your part is whole_start (and what it stands on); all else here is the same for every law, but numbers. -/
def R_law : String := "DroneLightShowLaw"
def lw_P (b : Addr) (xs : List Int32) (args : Array Value) (s : State) : Prop := args = #[.ref b] ∧ s.IntsAt b xs ∧ xs.length ≤ 2048 ∧ (Jvm.Cond.and given_1 narrow_1).before args s = true
/-- what a walk over the start with the record d0 says of its end, said of the start itself -/
theorem lw_closed {s t : State} {o : Outcome} {d0 : Drawn} {L : List Loc} {k n : Nat} (hd0 : s.drawn.sameBut d0 lw_cs) (hv : ∃ v, o = .returned v) (hW : (s.setDrawn d0).WarmedH t.vm) (hs : (s.setDrawn d0).sameButNew ({ t with vm := s.vm } : State) L k n) : State.butDraws s t lw_cs (fun t1 => Framed s o t1 L k n) := by
  have h2 : t.drawn = d0 := congrArg State.drawn hs.1
  refine ⟨⟨hv, hW, State.sameButNew.setDrawn hs s.drawn⟩, ?_, by decide⟩
  rw [h2]
  exact hd0
def lw_Q (_ : Array Value) (s : State) (o : Outcome) (t : State) : Prop := o = .returned (some (.int 1)) ∧ State.butDraws s t lw_cs (fun t1 => Framed s o t1 [] 603072 7198826)
def lw_Z (below : List Frame) (a : Array Value) (s : State) : State → Prop := fun t => ∃ o, t.status = .running ∧ Ended t below o ∧ lw_Q a s o t
/-- the law's own end, with 1 on the stack, nothing written that was there before, its room as the claim has it; d0: the record of draws at this point (at the entry s.drawn: begin with 'refine W.base ?_' and 'have hd0 := Drawn.sameBut.refl s.drawn lw_cs') -/
theorem lw_ret {p : Program} {l : Launch} {e : Env} {s : State} {m : MethodId} {below : List Frame} {meth : Method} {c : Code} {b : Nat} {d0 : Drawn} (hd0 : s.drawn.sameBut d0 lw_cs) (hx : p.tables.exec = Jvm.exec) (hb : c.code = code) (hr : meth.sig.returnType = ret) (hlocks : meth.locks = false) {pc : Nat} {H : Heap} {ls : Array Slot} (hdg : decode code pc = .ok (.ireturn, 1)) : W p l e room_1 (s.setDrawn d0) m #[Value.ref b] below meth c H [] 603072 7198826 (lw_Z below #[Value.ref b] s) (F0 m pc ls [.int 1]) := by
  intro T hT X
  obtain ⟨fs, hret, hrun, hended, hW, hframe⟩ := X.leave (v := some (.int 1)) (hlocks := hlocks) (fun h => by rw [hr] at h; cases h)
  have hmeth' : T.vm.method? m = some meth := X.method'
  refine ⟨T.setFrames fs, ?_, .returned (some (.int 1)), hrun, hended, rfl, lw_closed hd0 ⟨_, rfl⟩ hW hframe⟩
  jvm_step X.here [X.here.top, hx, hb, hdg, hmeth', hr, ret, narrow_b1]
  (try refine ⟨rfl, ?_⟩); (try refine ⟨rfl, ?_⟩)
  first | (intro acts; rw [hret _ acts rfl rfl rfl]) | rw [hret _ _ rfl rfl rfl]
  exact Steps.refl _
/-- what holds at the law's entry: the machine, the code, the tables' words (any of lw_tbl by 'hts w (by decide +kernel)'), the script of L ints xs at the cell b, what the Statement gives of the start (any of its parts by flat_of_before) -/
def lw_At (p : Program) (s : State) (m : MethodId) (meth : Method) (c : Code) (b L : Nat) (xs : Nat → Int32) : Prop :=
  p.tables.exec = Jvm.exec ∧ c.code = code ∧ meth.sig.returnType = ret ∧ c.maxLocals = 9 ∧ s.vm.findClass R_law = some m.cls ∧ (∀ w ∈ lw_tbl, w.before #[Value.ref b] s = true) ∧ va_X b L xs s s.heap ∧ b < s.heap.size ∧ meth.locks = false ∧ (Jvm.Cond.and given_1 narrow_1).before #[Value.ref b] s = true
/-! ===== the law's own rows ===== -/
/-- the law's surroundings -/
def Lx (κ : Cx) (b L : Nat) (xs : Nat → Int32) : Prop := match κ with
  | (p, l, e, R, s, m, args, below, meth, c, Q, s0, D, aC, nL) => R = room_1 ∧ args = #[Value.ref b] ∧ Q = lw_Z below #[Value.ref b] s ∧ s0 = s ∧ meth.sig.returnType = ret ∧ meth.locks = false ∧ va_X b L xs s s.heap ∧ b < s.heap.size
section VL
variable {α β : Type} {κ : Cx} {ρ : (α ⊕ String) × Me} {k n : Nat} {μ : Me} {x : Rs α} {pc : Nat} {lv : List (Nat × Value)} {st : List Value} {own : String} {cc : ByteArray} {b L : Nat} {xs : Nat → Int32} {ret9 : Option FieldType}
theorem Lx_R (X : Lx κ b L xs) : κ.2.2.2.1 = room_1 := by
  obtain ⟨p, l, e, R, s, m, args, below, meth, c, Q, s0, D, aC, nL⟩ := κ
  exact X.1
/-- a call that doesn't throw -/
def bndn {α β : Type} (y : Rs β) (K : β → Me → Rs α) : Rs α := match y with
  | some (.inl v, μ) => K v μ
  | _ => none
theorem V_bndn {mc ms : Nat} {y : Rs β} {cvb : β → Option Value} {K : β → Me → Rs α} {st0 rest : List Value} (hr : Rn κ k n mc ms μ cvb y pc lv st0 rest)
    (kk : ∀ v μ', V κ ρ (k + mc) (n + ms) μ' (K v μ') (pc + 3) lv ((cvb v).toList ++ rest)) : V κ ρ k n μ (bndn y K) pc lv st0 := by
  obtain ⟨p, l, e, R, s, m, args, below, meth, c, Q, s0, D, aC, nL⟩ := κ
  intro hx H locs ls hM hloc hl
  cases hy : y with
  | none => rw [hy] at hx; cases hx
  | some ρ' =>
    rw [hy] at hx
    obtain ⟨r', μ'⟩ := ρ'
    cases r' with
    | inr E => cases hx
    | inl w0 =>
      intro T hT X
      obtain ⟨a, hrun⟩ := hr _ hy H locs ls hM hl
      rcases hrun T hT X with ⟨v, st₀, t, T', L, h0, X', hL, e1, e2, ⟨w, hw, ho, hWd⟩, go⟩ | ⟨q, st₀, t, T', L, E, ce, h0, X', hL, e1, e2, ⟨hE, hWd⟩, hce, hcv, hcl, go⟩
      · cases hw
        cases ho
        obtain ⟨t2, a1, b1⟩ := kk w0 μ' hx T'.heap (locs ++ L) ls (by rw [e1]; exact hWd) (fun z hz => (List.mem_append.mp hz).elim (hloc z) (hL z)) hl T' rfl X'
        exact ⟨t2, go t2 a1, b1⟩
      · cases hE
theorem V_lV {y : MethodName} {bytes : ByteArray} {maxL idx N ci N9 : Nat} {C : String} {T : u_T} {rmc : Room} {cvb : β → Option Value} {As rest : List Value} {a : Nat} {x : Rs β} {K : β → Me → Rs α} (F : Fx κ cc own) (X : Lx κ b L xs) (hct : Ct κ.2.1 y (ws_ y bytes maxL ret9) rmc κ.2.2.2.2.2.2.2.2.2.2.2.1 κ.2.2.2.2.2.2.2.2.2.2.2.2.1 κ.2.2.2.2.2.2.2.2.2.2.2.2.2.1 cvb (.ref a :: As) μ x) (hc : vwCl[ci]? = some (C, T, N9)) (hcode : Cond.code y bytes maxL ret9 ∈ WA) (hini : Cond.initialized y.cls ∈ WA) (hl : Cond.methodLink own idx y ∈ WA) (hin : Cond.instanceMethod y ∈ WA) (hsel : Cond.selects C y y ∈ WA)
    (hd : hd_ y N) (hN : As.length = N) (hR : rmIn rmc room_1 maxL) (hrest : (rest.map fun v => v.category).sum ≤ 8) (d : decode cc pc = .ok (.invokevirtual idx, 3)) (hk : k + rmc.cells ≤ 603072) (hn : n + rmc.slots ≤ 7198826) (kk : ∀ v μ', V κ ρ (k + rmc.cells) (n + rmc.slots) μ' (K v μ') (pc + 3) lv ((cvb v).toList ++ rest)) : V κ ρ k n μ (bndn (vc μ a ci x) K) pc lv (As.reverse ++ .ref a :: rest) :=
  V_bndn (Rn_V F hct hc hcode hini hl hin hsel hd hN (by rw [Lx_R X]; exact hR) hrest d (by rw [Lx_R X]; exact ⟨hk, hn⟩)) kk
theorem V_lI {y : MethodName} {bytes : ByteArray} {maxL idx N : Nat} {rmc : Room} {cvb : β → Option Value} {As rest : List Value} {a : Nat} {x : Rs β} {K : β → Me → Rs α} (F : Fx κ cc own) (X : Lx κ b L xs) (hct : Ct κ.2.1 y (ws_ y bytes maxL none) rmc κ.2.2.2.2.2.2.2.2.2.2.2.1 κ.2.2.2.2.2.2.2.2.2.2.2.2.1 κ.2.2.2.2.2.2.2.2.2.2.2.2.2.1 cvb (.ref a :: As) μ x) (hcode : Cond.code y bytes maxL none ∈ WA) (hini : Cond.initialized y.cls ∈ WA) (hl : Cond.methodLink own idx y ∈ WA) (hin : Cond.instanceMethod y ∈ WA) (hy : y.name = "<init>")
    (hd : hd_ y N) (hN : As.length = N) (hR : rmIn rmc room_1 maxL) (hrest : (rest.map fun v => v.category).sum ≤ 8) (d : decode cc pc = .ok (.invokespecial idx, 3)) (hk : k + rmc.cells ≤ 603072) (hn : n + rmc.slots ≤ 7198826) (kk : ∀ v μ', V κ ρ (k + rmc.cells) (n + rmc.slots) μ' (K v μ') (pc + 3) lv ((cvb v).toList ++ rest)) : V κ ρ k n μ (bndn x K) pc lv (As.reverse ++ .ref a :: rest) :=
  V_bndn (Rn_I F hct hcode hini hl hin hy hd hN (by rw [Lx_R X]; exact hR) hrest d (by rw [Lx_R X]; exact ⟨hk, hn⟩)) kk
/-- a static method with a table -/
theorem Rn_SX {y : MethodName} {bytes : ByteArray} {maxL idx N : Nat} {hh : List (Nat × Nat × Nat × Nat)} {rmc : Room} {cvb : β → Option Value} {As rest : List Value} {x : Rs β} (F : Fx κ cc own) (hct : Ct κ.2.1 y (wsH_ y bytes maxL ret9 hh) rmc κ.2.2.2.2.2.2.2.2.2.2.2.1 κ.2.2.2.2.2.2.2.2.2.2.2.2.1 κ.2.2.2.2.2.2.2.2.2.2.2.2.2.1 cvb As μ x) (hcode : Cond.codeWith y bytes maxL ret9 hh ∈ WA) (hini : Cond.initialized y.cls ∈ WA) (hl : Cond.methodLink own idx y ∈ WA) (hst : Cond.static y ∈ WA)
    (hd : hd_ y N) (hN : As.length = N) (hR : rmIn rmc κ.2.2.2.1 maxL) (hrest : (rest.map fun v => v.category).sum ≤ 8) (d : decode cc pc = .ok (.invokestatic idx, 3)) (hcells : k + rmc.cells ≤ κ.2.2.2.1.cells ∧ n + rmc.slots ≤ κ.2.2.2.1.slots) : Rn κ k n rmc.cells rmc.slots μ cvb x pc lv (As.reverse ++ rest) rest := by
  obtain ⟨p, l, e, R, s, m, args, below, meth, c, Q, s0, D, aC, nL⟩ := κ
  intro ρ' hx H locs ls hM hl0
  have hts := F.2.2.2.2.1
  have hG : GoodIn WA (wsH_ y bytes maxL ret9 hh) := by
    intro w hw
    rw [List.mem_singleton.mp hw]
    exact ⟨hcode, good_of_word (List.mem_filter.mp hcode).2⟩
  refine ⟨_, vx_runSX (As := As) ⟨F.1, F.2.1, F.2.2.1, F.2.2.2.1, F.2.2.2.2.1⟩ (hct ρ' hx) ⟨⟨rfl, rfl, hR.1, hR.2, pay_in hts hG, List.mem_cons_self⟩, hts _ hcode, hts _ hini, ⟨hd.1, hd.2.1⟩, fun sig h => ?_, hts _ hl, hts _ hst⟩ ⟨blind_, fun U hU hW => ⟨rfl, State.WarmedH.trans F.2.2.2.2.2.2.1 hW, by rw [hU]; exact hM⟩⟩ rfl hN hl0.1 rfl (lv_room hrest) d hcells⟩
  have h2 := hd.2.2
  rw [h] at h2
  exact (Option.some.inj h2).symm
theorem V_lSX {y : MethodName} {bytes : ByteArray} {maxL idx N : Nat} {hh : List (Nat × Nat × Nat × Nat)} {rmc : Room} {cvb : β → Option Value} {As rest : List Value} {x : Rs β} {K : β → Me → Rs α} (F : Fx κ cc own) (X : Lx κ b L xs) (hct : Ct κ.2.1 y (wsH_ y bytes maxL ret9 hh) rmc κ.2.2.2.2.2.2.2.2.2.2.2.1 κ.2.2.2.2.2.2.2.2.2.2.2.2.1 κ.2.2.2.2.2.2.2.2.2.2.2.2.2.1 cvb As μ x) (hcode : Cond.codeWith y bytes maxL ret9 hh ∈ WA) (hini : Cond.initialized y.cls ∈ WA) (hl : Cond.methodLink own idx y ∈ WA) (hst : Cond.static y ∈ WA)
    (hd : hd_ y N) (hN : As.length = N) (hR : rmIn rmc room_1 maxL) (hrest : (rest.map fun v => v.category).sum ≤ 8) (d : decode cc pc = .ok (.invokestatic idx, 3)) (hk : k + rmc.cells ≤ 603072) (hn : n + rmc.slots ≤ 7198826) (kk : ∀ v μ', V κ ρ (k + rmc.cells) (n + rmc.slots) μ' (K v μ') (pc + 3) lv ((cvb v).toList ++ rest)) : V κ ρ k n μ (bndn x K) pc lv (As.reverse ++ rest) :=
  V_bndn (Rn_SX F hct hcode hini hl hst hd hN (by rw [Lx_R X]; exact hR) hrest d (by rw [Lx_R X]; exact ⟨hk, hn⟩)) kk
theorem Lx_S {p : Program} {l : Launch} {e : Env} {R : Room} {s : State} {m : MethodId} {args : Array Value} {below : List Frame} {meth : Method} {c : Code} {Q : State → Prop} {s0 : State} {D : va_G} {aC : Nat → ClassId} {nL : Nat} (X : Lx (p, l, e, R, s, m, args, below, meth, c, Q, s0, D, aC, nL) b L xs) {H : Heap} {locs : List Loc} (hM : VM s0 D aC μ H) (hloc : ∀ z ∈ locs, s0.heap.size ≤ z.base) : va_S (fun q => s.heap.size ≤ q) s.heap H locs := by
  obtain ⟨-, -, -, rfl, -⟩ := X
  exact ⟨hM.1, fun q h _ => hM.2.1 q h, hloc⟩
theorem V_slen (F : Fx κ cc own) (X : Lx κ b L xs) (d : decode cc pc = .ok (.arraylength, 1)) (kk : V κ ρ k n μ x (pc + 1) lv (.int (nI L) :: st)) : V κ ρ k n μ x pc lv (.ref b :: st) := by
  obtain ⟨p, l, e, R, s, m, args, below, meth, c, Q, s0, D, aC, nL⟩ := κ
  intro hx H locs ls hM hloc hl
  have hX := X.2.2.2.2.2.2.1
  have hb := X.2.2.2.2.2.2.2
  exact va_slen F.1 F.2.1 hX hb (Nat.not_le.mpr hb) (Lx_S X hM hloc) d (kk hx H locs ls hM hloc hl)
theorem V_sld {i : Int32} (F : Fx κ cc own) (X : Lx κ b L xs) (hi : inb i L = true) (d : decode cc pc = .ok (.iaload, 1)) (kk : V κ ρ k n μ x (pc + 1) lv (.int (xs i.toNatClampNeg) :: st)) : V κ ρ k n μ x pc lv (.int i :: .ref b :: st) := by
  obtain ⟨p, l, e, R, s, m, args, below, meth, c, Q, s0, D, aC, nL⟩ := κ
  intro hx H locs ls hM hloc hl
  have hX := X.2.2.2.2.2.2.1
  have hb := X.2.2.2.2.2.2.2
  exact va_sld F.1 F.2.1 hX hb (Nat.not_le.mpr hb) (Lx_S X hM hloc) (inb_ok hi) d (kk hx H locs ls hM hloc hl)
theorem V_lend {v : α} (F : Fx κ code own) (X : Lx κ b L xs) (d : decode code pc = .ok (.ireturn, 1)) (hk : k ≤ 603072) (hn : n ≤ 7198826) : V κ ρ k n μ (rt v μ) pc lv [.int 1] := by
  obtain ⟨p, l, e, R, s, m, args, below, meth, c, Q, s0, D, aC, nL⟩ := κ
  intro hx H locs ls hM hloc hl
  obtain ⟨hR, ha, hQ, h0, hr, hlk, -, -⟩ := X
  subst hR
  subst ha
  subst hQ
  subst h0
  refine W.widen hk hn (va_forget hloc ?_)
  exact lw_ret (d0 := s0.drawn) (Drawn.sameBut.refl s0.drawn lw_cs) F.1 F.2.1 hr hlk d
end VL
/-- from here on nothing is made but exceptions: the place of the next thing is forgotten -/
def dr0 (μ : Me) : Me := fun q => if q = 0 then none else μ q
theorem V_drop {α : Type} {κ : Cx} {ρ : (α ⊕ String) × Me} {k n : Nat} {μ : Me} {x : Rs α} {pc : Nat} {lv : List (Nat × Value)} {st : List Value} (kk : V κ ρ k n (dr0 μ) x pc lv st) : V κ ρ k n μ x pc lv st := by
  obtain ⟨p, l, e, R, s, m, args, below, meth, c, Q, s0, D, aC, nL⟩ := κ
  intro hx H locs ls hM hloc hl
  refine kk hx H locs ls ⟨hM.1, hM.2.1, fun a e ha h => ?_, fun z h => ?_⟩ hloc hl
  · rw [dr0, if_neg ha] at h
    exact hM.2.2.1 a e ha h
  · rw [dr0, if_pos rfl] at h
    cases h
