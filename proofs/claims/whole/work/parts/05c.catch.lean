/-! ===== MY LAYER: methods with a table; what is thrown is caught ===== -/
theorem Ct_ofH {α : Type} {l : Launch} {y : MethodName} {cc : ByteArray} {maxL : Nat} {ret : Option FieldType} {hh : List (Nat × Nat × Nat × Nat)} {rm : Room} {s0 : State} {D : va_G} {aC : Nat → ClassId} {cv : α → Option Value} {av : List Value} {μ : Me} {x : Rs α} (hG : Gl s0 D aC) (hl : l.stackTraces = false) (hy : plainName y.cls = true) (hav : (lg_sl av).length ≤ maxL)
    (body : ∀ (κ : Cx) (ρ : (α ⊕ String) × Me), κ.2.2.2.2.2.2.2.2.2.2.2.2.2.2 = maxL → Fx κ cc y.cls → Mx κ cv ρ rm ret (tableOf hh) y.name → κ.2.2.2.2.2.2.2.2.2.2.2.2.2.1 = aC → V κ ρ 0 0 μ x 0 (lv_args 0 av) []) : Ct l y (wsH_ y cc maxL ret hh) rm s0 D aC cv av μ x := by
  intro ρ hx
  refine vx_ofWH hy rfl ?_
  intro p e s m args below meth c s₁ B hml hv
  obtain ⟨rfl, hWd⟩ := hv
  obtain ⟨a0, hwords⟩ := hG.2.2.2.2.1
  have hsz : s0.heap.size ≤ s.heap.size := hWd.2.1
  have F : Fx (p, l, e, (headSpec (wsH_ y cc maxL ret hh) rm).room, s, m, av.toArray, below, meth, c, vx_MQ below (Qr s0 D aC cv ρ) (Xr s0 D aC ρ) av.toArray s rm.cells rm.slots (fun q => s0.heap.size ≤ q), s0, D, aC, maxL) cc y.cls :=
    ⟨B.exec, B.bytes, hml, findClass_of_methodNamed B.named, WA_at hWd.1 hwords, hG, hWd.1, hsz, hWd.2.2.1, hl⟩
  have hnm : meth.name = y.name := (name_of_methodNamed B.named B.method).1
  have htb : c.exceptionTable.toList = tableOf hh := vx_table (x := y) B (atoms_spec (ws := wsH_ y cc maxL ret hh) B.pre _ List.mem_cons_self)
  have K := body _ ρ rfl F ⟨rfl, rfl, B.returns, B.notSynchronized, htb, hnm⟩ rfl
  have hls := lv_entry av (n := maxL) hav
  show W p l e (headSpec (wsH_ y cc maxL ret hh) rm).room s m av.toArray below meth c s.heap [] 0 0 _ (entryFrame m av.toArray maxL)
  rw [lg_entry_eq]
  exact K hx s.heap [] _ hWd.2 (fun z hz => by cases hz) hls
section VG
variable {α β : Type} {κ : Cx} {ρ : (α ⊕ String) × Me} {k n : Nat} {μ : Me} {x : Rs α} {pc : Nat} {lv : List (Nat × Value)} {st : List Value} {cc : ByteArray} {own : String} {cv : α → Option Value} {rm : Room} {tb : List ExceptionTableEntry} {nm : String} {ret : Option FieldType}
/-- an E stands thrown over the frame at pc -/
def VX {α : Type} (κ : Cx) (ρ : (α ⊕ String) × Me) (k n : Nat) (μ : Me) (x : Rs α) (pc : Nat) (lv : List (Nat × Value)) (rest : List Value) (E : String) : Prop := match κ with
  | (p, l, e, R, s, m, args, below, meth, c, Q, s0, D, aC, nL) => x = some ρ → ∀ (H : Heap) (locs : List Loc) (ls : Array Slot) (q : Addr) (ce : Cell), VM s0 D aC μ H → (∀ z ∈ locs, s0.heap.size ≤ z.base) → lv_has ls nL lv → H[q]? = some ce → ce.vm = .none → s.vm.findClass E = some ce.cls → vx_W p l e R s m args below meth c H locs k n Q (F0 m pc ls rest) q
def bndc {α β : Type} (y : Rs β) (K : β → Me → Rs α) (KX : String → Me → Rs α) : Rs α := match y with
  | some (.inl v, μ) => K v μ
  | some (.inr E, μ) => KX E μ
  | none => none
theorem V_bndc {mc ms : Nat} {y : Rs β} {cvb : β → Option Value} {K : β → Me → Rs α} {KX : String → Me → Rs α} {st0 rest : List Value} (F : Fx κ cc own) (hr : Rn κ k n mc ms μ cvb y pc lv st0 rest)
    (kk : ∀ v μ', V κ ρ (k + mc) (n + ms) μ' (K v μ') (pc + 3) lv ((cvb v).toList ++ rest)) (kx : ∀ E μ', VX κ ρ (k + mc) (n + ms) μ' (KX E μ') pc lv rest E) : V κ ρ k n μ (bndc y K KX) pc lv st0 := by
  obtain ⟨p, l, e, R, s, m, args, below, meth, c, Q, s0, D, aC, nL⟩ := κ
  intro hx H locs ls hM hloc hl
  cases hy : y with
  | none => rw [hy] at hx; cases hx
  | some ρ' =>
    rw [hy] at hx
    intro T hT X
    obtain ⟨a, hrun⟩ := hr ρ' hy H locs ls hM hl
    rcases hrun T hT X with ⟨v, st₀, t, T', L, h0, X', hL, e1, e2, ⟨w, hw, ho, hWd⟩, go⟩ | ⟨q, st₀, t, T', L, E, ce, h0, X', hL, e1, e2, ⟨hE, hWd⟩, hce, hcv, hcl, go⟩
    · obtain ⟨r', μ'⟩ := ρ'
      dsimp only at hw hWd
      subst hw
      cases ho
      obtain ⟨t2, a1, b1⟩ := kk w μ' hx T'.heap (locs ++ L) ls (by rw [e1]; exact hWd) (fun z hz => (List.mem_append.mp hz).elim (hloc z) (hL z)) hl T' rfl X'
      exact ⟨t2, go t2 a1, b1⟩
    · obtain ⟨r', μ'⟩ := ρ'
      dsimp only at hE hWd
      subst hE
      obtain ⟨t2, a1, b1⟩ := kx E μ' hx T'.heap (locs ++ L) ls q ce (by rw [e1]; exact hWd) (fun z hz => (List.mem_append.mp hz).elim (hloc z) (hL z)) hl (by rw [e1]; exact hce) hcv hcl T' rfl X'
      exact ⟨t2, go.trans a1, b1⟩
theorem VX_none {rest : List Value} {E : String} : VX κ ρ k n μ (none : Rs α) pc lv rest E := by
  obtain ⟨p, l, e, R, s, m, args, below, meth, c, Q, s0, D, aC, nL⟩ := κ
  intro hx
  cases hx
theorem VX_if {E0 : String} {x1 x2 : Rs α} {rest : List Value} {E : String} (h1 : E = E0 → VX κ ρ k n μ x1 pc lv rest E) (h2 : VX κ ρ k n μ x2 pc lv rest E) : VX κ ρ k n μ (if E = E0 then x1 else x2) pc lv rest E := by
  split
  · rename_i h; exact h1 h
  · exact h2
/-- the row x of the table takes it, the rows ahead don't -/
theorem VX_catch {E : String} {rest : List Value} (F : Fx κ cc own) (M : Mx κ cv ρ rm ret tb nm) (pre suf : List ExceptionTableEntry) (h : ExceptionTableEntry) (hsplit : tb = pre ++ h :: suf) (hE : E ∈ excL) (hpass : ∀ z ∈ pre, z.catchType ≠ 0 ∧ ∃ E' ∈ excL, E ≠ E' ∧ Cond.classLink own z.catchType E' ∈ WA) (hcov : covers h pc = true) (h0 : h.catchType ≠ 0) (hkl : Cond.classLink own h.catchType E ∈ WA) (hca : Cond.castable E E ∈ lw_tbl) (kk : ∀ q, V κ ρ k n μ x h.handlerPc lv [.ref q]) : VX κ ρ k n μ x pc lv rest E := by
  obtain ⟨p, l, e, R, s, m, args, below, meth, c, Q, s0, D, aC, nL⟩ := κ
  intro hx H locs ls q ce hM hloc hl hce hcv hcl
  obtain ⟨hR, hQ, hr, hlk, htb, -⟩ := M
  have hts := F.2.2.2.2.1
  obtain ⟨a0, hw⟩ := F.2.2.2.2.2.1.2.2.2.2.1
  have hN := F.2.2.2.2.2.1.2.2.2.2.2.2.1
  exact vx_catch F.2.2.2.1 pre h suf (htb.trans hsplit) (fun z hz => by
    obtain ⟨g1, E', g2, g3, g4⟩ := hpass z hz
    exact Or.inr ⟨g1, E', hts _ g4, va_Nc.moved F.2.2.2.2.2.2.1.alike (hN E hE E' g2 g3)⟩) hcov h0 (hts _ hkl) (warm_at F.2.2.2.2.2.2.1 (hw _ hca) rfl) hce hcv hcl (kk q hx H locs ls hM hloc hl)
/-- calls inside a table -/
theorem V_cVc {y : MethodName} {bytes : ByteArray} {maxL idx N ci N9 : Nat} {ret2 : Option FieldType} {C : String} {T : u_T} {rmc : Room} {cvb : β → Option Value} {As rest : List Value} {a : Nat} {x : Rs β} {K : β → Me → Rs α} {KX : String → Me → Rs α} (F : Fx κ cc own) (M : Mx κ cv ρ rm ret2 tb nm) (hct : Ct κ.2.1 y (ws_ y bytes maxL ret) rmc κ.2.2.2.2.2.2.2.2.2.2.2.1 κ.2.2.2.2.2.2.2.2.2.2.2.2.1 κ.2.2.2.2.2.2.2.2.2.2.2.2.2.1 cvb (.ref a :: As) μ x) (hc : vwCl[ci]? = some (C, T, N9)) (hcode : Cond.code y bytes maxL ret ∈ WA) (hini : Cond.initialized y.cls ∈ WA) (hl : Cond.methodLink own idx y ∈ WA) (hin : Cond.instanceMethod y ∈ WA) (hsel : Cond.selects C y y ∈ WA)
    (hd : hd_ y N) (hN : As.length = N) (hR : rmIn rmc rm maxL) (hrest : (rest.map fun v => v.category).sum ≤ 8) (d : decode cc pc = .ok (.invokevirtual idx, 3)) (hk : k + rmc.cells ≤ rm.cells) (hn : n + rmc.slots ≤ rm.slots) (kk : ∀ v μ', V κ ρ (k + rmc.cells) (n + rmc.slots) μ' (K v μ') (pc + 3) lv ((cvb v).toList ++ rest)) (kx : ∀ E μ', VX κ ρ (k + rmc.cells) (n + rmc.slots) μ' (KX E μ') pc lv rest E) : V κ ρ k n μ (bndc (vc μ a ci x) K KX) pc lv (As.reverse ++ .ref a :: rest) :=
  V_bndc F (Rn_V F hct hc hcode hini hl hin hsel hd hN (by rw [Mx_R M]; exact hR) hrest d (by rw [Mx_R M]; exact ⟨hk, hn⟩)) kk kx
end VG
