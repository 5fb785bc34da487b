/-! ===== MY LAYER: Enum.ordinal, walked in its place (no word of the table says that Enum is initialized, and no step of the walk asks it) ===== -/
section VO
variable {p : Program} {l : Launch} {e : Env} {R : Room} {s : State} {m : MethodId} {args : Array Value} {below : List Frame} {meth : Method} {c : Code}
/-- as a call by a contract, but with the body walked, and nothing said of the class's initialization -/
theorem ord_call {U : State} {Ls : List Loc} {c0 n0 : Nat} {y : MethodName} {bytes : ByteArray} {maxL : Nat} {ret : Option FieldType} {g : JFrame} {ig : Instr} {len : Nat} {mk : MethodId} {a : Array Value} {Qe : State → Prop}
    (X : Stand p l e R s m args below meth c U Ls c0 n0) (hg : g.method = m) (hsize : g.locals.size = c.maxLocals) (hdg : decode c.code g.pc = .ok (ig, len))
    (hy : plainFor y = true) (hn : U.methodNamed? y = some mk) (hcode : (Cond.code y bytes maxL ret).before a U = true)
    {R' : Room} (hR : R'.frames + 1 ≤ R.frames) (hl : 2 * g.monitorRoom + (g.stack.map fun v => v.category).sum + (maxL + 11) + R'.locals ≤ R.locals) (hc : c0 + R'.cells ≤ R.cells) (hs : n0 + R'.slots ≤ R.slots)
    (body : ∀ (methY : Method) (cY : Code), cY.code = bytes → cY.maxLocals = maxL → methY.sig.returnType = ret → methY.locks = false → methY.name = y.name →
      W p l e R' (U.calling g mk a) mk a (.java g :: below) methY cY U.heap [] 0 0 Qe (entryFrame mk a maxL)) :
    ∃ t, Steps p.tables e below (doInvoke e (U.setTop g) [] mk a).1 t ∧ Qe t := by
  obtain ⟨methY, cY, hmY, hcY, hbY, hlY, hrY, hkY, -, -⟩ := Cond.code_spec hn hcode
  have hf' : (U.calling g mk a).frames = .invoking mk a :: .java g :: below := by rw [State.frames_calling X.here.top g mk a, X.tail]
  have hcur := State.cur_lt_of_frames hf'
  have hf1 : ((U.calling g mk a).setFrames (.java (entryFrame mk a maxL) :: .java g :: below)).frames = .java (entryFrame mk a maxL) :: .java g :: below := State.frames_setFrames _ hcur
  have hmY' : (U.calling g mk a).vm.method? mk = some methY := hmY
  have hn' : (U.calling g mk a).methodNamed? y = some mk := hn
  have hplain : ((U.calling g mk a).setFrames (.java (entryFrame mk a maxL) :: .java g :: below)).plainMethod mk := State.plainMethod.of_named (s := U.calling g mk a) hy hn' hmY'
  have h : At U g.method c below := by rw [hg]; exact X.here
  have hAt : At ((U.calling g mk a).setFrames (.java (entryFrame mk a maxL) :: .java g :: below)) mk cY (.java g :: below) :=
    ⟨by rw [State.topJava?_of_frames hf1]; rfl, ⟨[], by rw [hf1]; rfl⟩, h.running, by have := h.runnable; simpa [State.calling] using this, by have := h.alone; simpa [State.calling] using this,
      by rw [State.code?_eq]; simp [State.setFrames, hmY', hcY], hplain⟩
  have hcode9 : (U.calling g mk a).code? g.method = some c := by
    have := h.code
    rw [State.code?_eq] at this ⊢
    simpa [State.calling, State.pushFrame, State.setFrames] using this
  obtain ⟨t9, ht9, -⟩ := State.frames_cons hf'
  have X' : Stand p l e R' (U.calling g mk a) mk a (.java g :: below) methY cY ((U.calling g mk a).setFrames (.java (entryFrame mk a maxL) :: .java g :: below)) [] 0 0 :=
    ⟨X.admits, X.cas, X.clock, hf', X.room_calling (g := g) hsize hmY hcY hR (by rw [hlY]; exact hl) hc hs, by simp [State.hears, hcode9, hdg, Except.toOption], hmY', hcY, hAt, by rw [hf1]; rfl,
      State.WarmedH.refl (U.calling g mk a), by rw [State.stackLimits_setFrames], by rw [State.stackBytes_setFrames], (State.sameButNew.refl (U.calling g mk a) ht9).setFrames _ hcur⟩
  obtain ⟨t, hst, hq⟩ := body methY cY hbY hlY hrY hkY (name_of_methodNamed hn hmY).1 ((U.calling g mk a).setFrames (.java (entryFrame mk a maxL) :: .java g :: below)) rfl X'
  refine ⟨t, ?_, hq⟩
  have hst' : Steps p.tables e below (((U.calling g mk a).setFrames (.java (entryFrame mk a maxL) :: .java g :: below)).setTop (entryFrame mk a maxL)) t := by
    obtain ⟨n, h1, h2⟩ := hst
    exact ⟨n, h1, fun k hk => (h2 k hk).weaken (mid := [.java g])⟩
  rw [doInvoke_enter h.top [] hmY hcY hkY (X.notFull hsize (by omega) (by rw [hlY]; omega))]
  obtain ⟨g₀, hg0⟩ := Option.isSome_iff_exists.mp h.top
  obtain ⟨r, hr⟩ := State.topJava?_eq_some.mp hg0
  have htl := X.tail
  rw [hr] at htl
  have htl : r = below := htl
  subst htl
  have e1 : (U.setTop g).pushFrame (.java (entryFrame mk a cY.maxLocals)) = (U.calling g mk a).setFrames (.java (entryFrame mk a maxL) :: .java g :: r) := by
    rw [State.calling_eq h.top, State.setFrames_setFrames, State.pushFrame, State.frames_setTop' g h.top, hr, hlY, State.setTop_of_frames _ hr, State.setFrames_setFrames]
    rfl
  rw [e1, hlY]
  exact hst'
theorem ord_ret {U t : State} {Ls L : List Loc} {c0 n0 mc ms : Nat} {g : JFrame} {ig : Instr} {len : Nat} {mk : MethodId} {a : Array Value} {v : Option Value}
    (X : Stand p l e R s m args below meth c U Ls c0 n0) (hg : g.method = m) (hdg : decode c.code g.pc = .ok (ig, len)) (hend : Ended t (.java g :: below) (.returned v)) (hfe : FrameEnd (U.calling g mk a) (.returned v) t L mc ms) :
    Stand p l e R s m args below meth c (({ U with heap := t.heap, slotsUsed := t.slotsUsed } : State).setVm t.vm) (Ls ++ L) (c0 + mc) (n0 + ms) ∧
      t = (({ U with heap := t.heap, slotsUsed := t.slotsUsed } : State).setVm t.vm).setTop { g with pc := g.pc + len, stack := v.toList ++ g.stack } := by
  have h : At U g.method c below := by rw [hg]; exact X.here
  obtain ⟨g₀, hg0⟩ := Option.isSome_iff_exists.mp h.top
  obtain ⟨r, hr⟩ := State.topJava?_eq_some.mp hg0
  have hr' : (({ U with heap := t.heap, slotsUsed := t.slotsUsed } : State).setVm t.vm).frames = .java g₀ :: r := hr
  have htl := X.tail
  rw [hr] at htl
  have htl : r = below := htl
  subst htl
  obtain ⟨-, hW₂, e2, q2, q3, q4, q5, q6⟩ := id hfe
  have e3 : t = ({ (U.calling g mk a).setFrames t.frames with heap := t.heap, slotsUsed := t.slotsUsed } : State).setVm t.vm := by
    have : t = ({ t with vm := (U.calling g mk a).vm } : State).setVm t.vm := rfl
    rw [e2] at this
    exact this
  obtain ⟨c₂, i₂, len₂, hc₂, hd₂, hf₂⟩ := hend
  have hW' : U.WarmedH t.vm := hW₂
  have hcc : c₂ = c := by
    have h1 : t.code? g.method = U.code? g.method := by
      rw [State.code?_eq, State.code?_eq, hW'.alike.method?]
    exact Option.some.inj (hc₂.symm.trans (h1.trans h.code))
  subst hcc
  have hlen : len₂ = len := by rw [hdg] at hd₂; cases hd₂; rfl
  subst hlen
  have hs₂ : t = (({ U with heap := t.heap, slotsUsed := t.slotsUsed } : State).setVm t.vm).setTop { g with pc := g.pc + len₂, stack := v.toList ++ g.stack } := by
    refine e3.trans ?_
    rw [hf₂, State.calling_eq h.top, State.setFrames_setFrames, State.setTop_of_frames _ hr']
    rfl
  have hsame : U.sameButNew ({ U with heap := t.heap, slotsUsed := t.slotsUsed } : State) L mc ms := by
    refine ⟨?_, q2, q3, q4, q5, q6⟩
    obtain ⟨t9, ht9, -⟩ := State.frames_cons hr
    show ({ U with heap := t.heap, slotsUsed := t.slotsUsed } : State) = { U.setFrames U.frames with heap := t.heap, slotsUsed := t.slotsUsed }
    rw [State.setFrames_self ht9]
  exact ⟨⟨X.admits, X.cas, X.clock, X.frames, X.room, X.hears, X.method, X.code, (X.here.setHeapUsed t.heap t.slotsUsed).setVm hW'.alike, X.tail, State.WarmedH.trans X.warmed hW', X.limits, X.bytes, X.same.trans (hsame.setVm s.vm)⟩, hs₂⟩
end VO

def cEnumOrdinal : ByteArray := prog_16_method_2_code
theorem dEnumOrdinal_0 : decode cEnumOrdinal 0 = .ok (.aload_n 0, 1) := by decide +kernel
theorem dEnumOrdinal_1 : decode cEnumOrdinal 1 = .ok (.getfield 7, 3) := by decide +kernel
theorem dEnumOrdinal_4 : decode cEnumOrdinal 4 = .ok (.ireturn, 1) := by decide +kernel
section VO2
variable {α : Type} {κ : Cx} {ρ : (α ⊕ String) × Me} {k n : Nat} {μ : Me} {x : Rs α} {pc : Nat} {lv : List (Nat × Value)} {st : List Value} {cc : ByteArray} {own : String} {cv : α → Option Value} {rm : Room} {nm : String} {ret2 : Option FieldType}
theorem V_ord0 {b idx : Nat} {o : Int32} (F : Fx κ cc own) (M : Mx κ cv ρ rm ret2 [] nm) (hO : va_O "DroneLightShow$Verb" b (fun q => κ.2.2.2.2.2.2.2.2.2.2.2.1.heap.size ≤ q) κ.2.2.2.2.2.2.2.2.2.2.2.1 κ.2.2.2.2.2.2.2.2.2.2.2.1.heap) (hE : va_OF "java/lang/Enum" "ordinal" "I" (.int o) b (fun q => κ.2.2.2.2.2.2.2.2.2.2.2.1.heap.size ≤ q) κ.2.2.2.2.2.2.2.2.2.2.2.1 κ.2.2.2.2.2.2.2.2.2.2.2.1.heap)
    (hl : Cond.methodLink own idx ⟨"DroneLightShow$Verb", "ordinal", "()I"⟩ ∈ WA) (d : decode cc pc = .ok (.invokevirtual idx, 3)) (hf : 1 ≤ rm.frames) (hlo : (st.map fun v => v.category).sum + 12 ≤ rm.locals) (hkc : k ≤ rm.cells) (hns : n ≤ rm.slots) (kk : V κ ρ k n μ x (pc + 3) lv (.int o :: st)) : V κ ρ k n μ x pc lv (.ref b :: st) := by
  have hR9 := Mx_R M
  obtain ⟨p, l, e, R, s, m, args, below, meth, c, Q, s0, D, aC, nL⟩ := κ
  have hR9 : R = rm := hR9
  subst hR9
  intro hx H locs ls hM hloc hl0 T hT X
  obtain ⟨cellB, hcellB, hstatB, hclsB, -⟩ := (hO.kept (fun q h _ => hM.2.1 q h)).moved F.2.2.2.2.2.2.1.alike
  have W9 := F.2.2.2.2.1
  have hlink := W9 _ hl
  have hsame := W9 _ q1099
  have hsel := W9 _ q1101
  have hinst := W9 _ q1102
  have hcodew := W9 _ q1103
  obtain ⟨cn, ck, r1, hcn, hck, hni, hff, hn1⟩ := Cond.sameMethod_found hsame
  obtain ⟨mk, methM, hnamed, hmethM, hstM, habM⟩ := Cond.instanceMethod_spec hinst
  obtain rfl : mk = r1 := Option.some.inj (hnamed.symm.trans hn1)
  obtain ⟨methM', cM, hmethM', -, -, -, -, -, -, hsigM⟩ := Cond.code_spec hnamed hcodew
  cases hmethM.symm.trans hmethM'
  obtain ⟨c2, r2, m2, z1, z2, z3, z4, kP, hkP, hkPi⟩ := Cond.selects_spec hsel
  cases hclsB.symm.trans z1
  obtain rfl : mk = r2 := Option.some.inj (hff.symm.trans z2)
  obtain rfl : mk = m2 := Option.some.inj (hnamed.symm.trans z3)
  have hselP : selectMethod e.platform s.vm cellB.cls mk = .method mk := by rw [Launch.admits_selectMethod X.admits]; exact z4
  have hsig0 : ∀ sig, parseMethodDescriptor "()I" = some sig → ([] : List Value).length = sig.parameters.length := by
    intro sig h'
    rw [show parseMethodDescriptor "()I" = some ⟨[], some .int⟩ from by decide +kernel] at h'
    rw [← Option.some.inj h']; rfl
  obtain ⟨vm₁, X₁, hstep₁⟩ := X.invokevirtualUp F.1 F.2.2.2.1 hlink hsame (by decide) hnamed hmethM hstM (a := b) (cell := cellB) (by rw [hT]; exact hcellB)
    (fun z h => by rw [h] at hstatB; cases hstatB) hselP hmethM habM hkP hkPi (g := F0 m pc ls (.ref b :: st)) rfl (argsL := []) (rest := st) (hsig0 _ hsigM) rfl (by rw [F.2.1]; exact d)
  have hW1 : s.WarmedH vm₁ := X₁.warmed
  have hcode1 : (Cond.code ⟨"java/lang/Enum", "ordinal", "()I"⟩ cEnumOrdinal 1 (some .int)).before #[.ref b] (T.setVm vm₁) = true := word_at hW1 (good_of_word (List.mem_filter.mp q1103).2) hcodew
  have hMT : VM s0 D aC μ T.heap := by rw [hT]; exact hM
  have hS1 : s0.WarmedH vm₁ := State.WarmedH.trans F.2.2.2.2.2.2.1 hW1
  have hlc : c.maxLocals = nL := F.2.2.1
  let ρ' : (Int32 ⊕ String) × Me := (.inl o, μ)
  let cv' : Int32 → Option Value := fun r => some (.int r)
  let g : JFrame := { (F0 m pc ls (.ref b :: st)) with stack := st }
  obtain ⟨t, hsteps, oo, -, hend, hq⟩ := ord_call (U := T.setVm vm₁) (g := g) (mk := mk) (a := #[.ref b]) (R' := {}) (Qe := vx_MQ (.java g :: below) (Qr s0 D aC cv' ρ') (Xr s0 D aC ρ') #[.ref b] ((T.setVm vm₁).calling g mk #[.ref b]) 0 0 (fun q => s0.heap.size ≤ q)) X₁ rfl (by rw [hlc]; exact hl0.1) (by rw [F.2.1]; exact d) (by decide +kernel) (X₁.named hnamed) hcode1 (by exact hf) (by show 2 * 0 + (st.map fun v => v.category).sum + (1 + 11) + 0 ≤ _; omega) hkc hns
    (fun methY cY hbY hlY hrY hkY hnY => by
      have F' : Fx (p, l, e, {}, (T.setVm vm₁).calling g mk #[.ref b], mk, #[.ref b], .java g :: below, methY, cY, vx_MQ (.java g :: below) (Qr s0 D aC cv' ρ') (Xr s0 D aC ρ') #[.ref b] ((T.setVm vm₁).calling g mk #[.ref b]) 0 0 (fun q => s0.heap.size ≤ q), s0, D, aC, 1) cEnumOrdinal "java/lang/Enum" :=
        ⟨F.1, hbY, hlY, findClass_of_methodNamed (X₁.named hnamed), WA_at hS1 (F.2.2.2.2.2.1.2.2.2.2.1).choose_spec, F.2.2.2.2.2.1, hS1, hMT.1, hMT.2.1, F.2.2.2.2.2.2.2.2.2⟩
      have M' : Mx (p, l, e, {}, (T.setVm vm₁).calling g mk #[.ref b], mk, #[.ref b], .java g :: below, methY, cY, vx_MQ (.java g :: below) (Qr s0 D aC cv' ρ') (Xr s0 D aC ρ') #[.ref b] ((T.setVm vm₁).calling g mk #[.ref b]) 0 0 (fun q => s0.heap.size ≤ q), s0, D, aC, 1) cv' ρ' {} (some .int) cY.exceptionTable.toList "ordinal" := ⟨rfl, rfl, hrY, hkY, rfl, hnY⟩
      have K : V (p, l, e, {}, (T.setVm vm₁).calling g mk #[.ref b], mk, #[.ref b], .java g :: below, methY, cY, vx_MQ (.java g :: below) (Qr s0 D aC cv' ρ') (Xr s0 D aC ρ') #[.ref b] ((T.setVm vm₁).calling g mk #[.ref b]) 0 0 (fun q => s0.heap.size ≤ q), s0, D, aC, 1) ρ' 0 0 μ (rt o μ) 0 [(0, .ref b)] [] := by
        refine V_aload_n F' dEnumOrdinal_0 rfl 0 rfl ?_
        refine V_gof F' hE q1728 dEnumOrdinal_1 ?_
        exact V_iret F' M' dEnumOrdinal_4 rfl (by decide) (by decide)
      have hls := lv_entry [.ref b] (n := 1) (Nat.le_of_ble_eq_true rfl)
      show W p l e {} ((T.setVm vm₁).calling g mk #[.ref b]) mk #[.ref b] (.java g :: below) methY cY T.heap [] 0 0 (vx_MQ (.java g :: below) (Qr s0 D aC cv' ρ') (Xr s0 D aC ρ') #[.ref b] ((T.setVm vm₁).calling g mk #[.ref b]) 0 0 (fun q => s0.heap.size ≤ q)) (entryFrame mk [Value.ref b].toArray 1)
      rw [lg_entry_eq]
      exact K rfl T.heap [] _ hMT (fun z hz => by cases hz) hls)
  rcases hq with ⟨⟨vv, hv1, hv2, hVM⟩, L, hfe, hL⟩ | ⟨q, -, E, ce, L, ⟨hE, -⟩, -⟩
  · obtain rfl : o = vv := Sum.inl.inj hv1
    subst hv2
    obtain ⟨XB, ht⟩ := ord_ret (g := g) (ig := .invokevirtual idx) (len := 3) X₁ rfl (by rw [F.2.1]; exact d) hend hfe
    obtain ⟨t2, st2, hQ⟩ := kk hx t.heap (locs ++ L) ls hVM (fun z hz => (List.mem_append.mp hz).elim (hloc z) (hL z)) hl0 (({ T.setVm vm₁ with heap := t.heap, slotsUsed := t.slotsUsed } : State).setVm t.vm) rfl XB
    refine ⟨t2, hstep₁ _ (fun acts => ?_), hQ⟩
    rw [doInvoke_state]
    exact hsteps.trans (by rw [ht]; exact st2)
  · cases hE
end VO2
