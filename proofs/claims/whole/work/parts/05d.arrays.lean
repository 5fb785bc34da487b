/-! ===== MY LAYER: rows of references ===== -/
theorem over_warm {ty : FieldType} {s0 s : State} {a0 args : Array Value} (hW : s0.WarmedH s.vm) (h : (Cond.arrayOver ty).before a0 s0 = true) : (Cond.arrayOver ty).before args s = true := by
  have h2 : (Cond.arrayOver ty).before a0 (s0.setVm s.vm) = true := by rw [Cond.arrayOver_setVmC hW.alike]; exact h
  exact h2
theorem vr_outer_ (c : ClassId) (N h0 : Nat) : ∀ i : Nat, Jvm.Free.Multi.outerC c N h0 i = arrV c N (fun j => va_rf (if j < i then some (h0 + 1 + j) else none))
  | 0 => by
    show ({ cls := c, slots := Array.replicate N .null, vm := .none } : Cell) = _
    rw [arrV_new]
    refine congrArg (arrV c N) (funext fun j => ?_)
    simp [va_rf]
  | i + 1 => by
    show (Jvm.Free.Multi.outerC c N h0 i).setSlot i (.ref (h0 + 1 + i)) = _
    rw [vr_outer_ c N h0 i, arrV_store]
    refine congrArg (arrV c N) (funext fun j => ?_)
    by_cases e : j = i
    · subst e
      simp [updV, va_rf]
    · by_cases h : j < i
      · simp [updV, e, h, Nat.lt_succ_of_lt h]
      · simp [updV, e, h, show ¬ j < i + 1 by omega]
section VO
variable {α β : Type} {κ : Cx} {ρ : (α ⊕ String) × Me} {k n : Nat} {μ : Me} {x : Rs α} {pc : Nat} {lv : List (Nat × Value)} {st : List Value} {cc : ByteArray} {own : String} {rm : Room}
theorem V_anew {c9 N idx : Nat} {C : String} {v : Int32} {K : Nat → Me → Rs α} (F : Fx κ cc own) (hR : κ.2.2.2.1 = rm) (hkl : Cond.classLink own idx C ∈ WA) (hov : Cond.arrayOver (.object C) ∈ lw_tbl) (htt : ∀ aC : Nat → ClassId, (tysL aC)[c9]? = some (aC c9, .object C)) (hnn : ¬ v < 0) (hN : v.toNatClampNeg = N) (hbytes : N * 4 ≤ 536870912) (d : decode cc pc = .ok (.anewarray idx, 3)) (hk : k + 1 ≤ rm.cells) (hn : n + N ≤ rm.slots) (kk : ∀ a μ', V κ ρ (k + 1) (n + N) μ' (K a μ') (pc + 3) lv (.ref a :: st)) : V κ ρ k n μ (nw μ (.inl (c9, (N, .inr (.inr (.inr (.inr (fun _ => none))))))) K) pc lv (.int v :: st) := by
  unfold nw nx
  split
  · rename_i h h0
    split
    · exact V_none
    · rename_i hne
      have kk := kk h (mset (mset μ 0 (.inr (h + 1, []))) h (.inl (c9, (N, .inr (.inr (.inr (.inr (fun _ => none))))))))
      obtain ⟨p, l, e, R, s, m, args, below, meth, c, Q, s0, D, aC, nL⟩ := κ
      have hR : R = rm := hR
      subst hR
      subst hN
      intro hx H locs ls hM hloc hl
      have hts := F.2.2.2.2.1
      obtain ⟨a0, hw⟩ := F.2.2.2.2.2.1.2.2.2.2.1
      obtain ⟨n0, e0, hs⟩ := hM.2.2.2 _ h0
      cases e0
      obtain ⟨kA', comp', -, -, -, hRA⟩ := ((Fx_K F).2 c9 _ (htt aC)).2
      refine W.anew F.1 F.2.1 F.2.2.2.1 (hts _ hkl) (over_warm F.2.2.2.2.2.2.1 (hw _ hov)) rfl d rfl hnn hbytes hk hn (fun cA kA comp f1 f2 f3 f4 => ?_)
      have hcA : cA = aC c9 := Option.some.inj (f1.symm.trans hRA)
      subst hcA
      rw [hs]
      refine kk hx _ locs ls (VM_new (e := .inl (c9, (v.toNatClampNeg, .inr (.inr (.inr (.inr (fun _ => none))))))) hM h0 hne (by rw [Array.size_push, hs]) (fun q hq => ?_) ?_) hloc hl
      · rw [Array.getElem?_push_lt (by rw [hs]; exact hq), Array.getElem?_eq_getElem (by rw [hs]; exact hq)]
      · show (H.push _)[h]? = some (vp_cell _ _)
        rw [vp_cell_q, ← hs, Array.getElem?_push_size]
        show some ({ cls := aC c9, slots := Array.replicate v.toNatClampNeg .null, vm := .none } : Cell) = _
        rw [arrV_new]
        rfl
  · exact V_none
/-- new int[12][3] -/
def nwm {γ : Type} (μ : Me) (K : Nat → Me → Rs γ) : Rs γ := match μ 0 with
  | some (.inr (h, [])) => if h = 0 then none else K h (fun q => if q = 0 then some (.inr (h + 13, [])) else if q = h then some (.inl (7, (12, .inr (.inr (.inr (.inr (fun i => if i < 12 then some (h + 1 + i) else none))))))) else if h < q ∧ q ≤ h + 12 then some (.inl (0, (3, .inl (fun _ => 0)))) else μ q)
  | _ => none
theorem V_mna {idx : Nat} {K : Nat → Me → Rs α} (F : Fx κ cc own) (hR : κ.2.2.2.1 = rm) (hkl : Cond.classLink own idx ("[" ++ (FieldType.array .int).toString) ∈ WA) (hov : Cond.arrayOver (.array .int) ∈ lw_tbl) (harr : Cond.arrayClass .int ∈ WA) (d : decode cc pc = .ok (.multianewarray idx 2, 4)) (hk : k + 13 ≤ rm.cells) (hn : n + 48 ≤ rm.slots) (kk : ∀ a μ', V κ ρ (k + 13) (n + 48) μ' (K a μ') (pc + 4) lv (.ref a :: st)) : V κ ρ k n μ (nwm μ K) pc lv (.int 3 :: .int 12 :: st) := by
  unfold nwm
  split
  · rename_i h h0
    split
    · exact V_none
    · rename_i hne
      have kk := kk h (fun q => if q = 0 then some (.inr (h + 13, [])) else if q = h then some (.inl (7, (12, .inr (.inr (.inr (.inr (fun i => if i < 12 then some (h + 1 + i) else none))))))) else if h < q ∧ q ≤ h + 12 then some (.inl (0, (3, .inl (fun _ => 0)))) else μ q)
      obtain ⟨p, l, e, R, s, m, args, below, meth, c, Q, s0, D, aC, nL⟩ := κ
      have hR : R = rm := hR
      subst hR
      intro hx H locs ls hM hloc hl T hT X
      have hts := F.2.2.2.2.1
      obtain ⟨a0, hw⟩ := F.2.2.2.2.2.1.2.2.2.2.1
      obtain ⟨n0, e0, hs⟩ := hM.2.2.2 _ h0
      cases e0
      have t3 : (3 : Int32).toNatClampNeg = 3 := by decide
      have t12 : (12 : Int32).toNatClampNeg = 12 := by decide
      obtain ⟨vm₁, cA, comp, -, fA, fC, hO, -, X', step⟩ := X.multianewarray2F F.1 F.2.2.2.1 (hts _ hkl) (over_warm F.2.2.2.2.2.2.1 (hw _ hov)) (hts _ harr) (g := F0 m pc ls (.int 3 :: .int 12 :: st)) rfl (by rw [F.2.1]; exact d) rfl (by decide) (by decide) (by decide) (by decide) (by decide) rfl rfl (by rw [t12]; exact hk) (by rw [t12, t3]; exact hn)
      rw [t12, t3] at X' step
      have h7 := ((Fx_K F).2 7 _ rfl).2
      have h1 := ((Fx_K F).2 0 _ rfl).2
      have hcA : cA = aC 7 := Option.some.inj (fA.symm.trans h7)
      have hco : comp = aC 0 := Option.some.inj (fC.symm.trans h1)
      subst hcA
      subst hco
      generalize hF : Jvm.Free.Multi.fill (T.setVm vm₁) (aC 7) (aC 0) 12 3 (defaultValue .int) 12 = G at X' step
      have hTh : (T.setVm vm₁).heap = H := hT
      obtain ⟨f1, f2, -, -⟩ := Jvm.Free.Multi.fill_facts (T.setVm vm₁) (aC 7) (aC 0) 12 3 (defaultValue .int) 12
      rw [hF, hTh, hs] at f1 f2
      have hold : ∀ x : Nat, x < h → G.heap[x]? = H[x]? := fun x hx => by
        have := Jvm.Free.Multi.fill_old (T.setVm vm₁) (aC 7) (aC 0) 12 3 (defaultValue .int) (a := x) (by rw [hTh, hs]; exact hx) 12
        rw [hF, hTh] at this
        exact this
      have hrow : ∀ j : Nat, j < 12 → G.heap[h + 1 + j]? = some (vp_cell (aC 0) (3, .inl (fun _ => 0))) := fun j hj => by
        have := Jvm.Free.Multi.fill_inner (T.setVm vm₁) (aC 7) (aC 0) 12 3 (defaultValue .int) 12 j hj
        rw [hF, hTh, hs] at this
        rw [this, vp_cell_i]
        show some ({ cls := aC 0, slots := Array.replicate 3 (.int 0), vm := .none } : Cell) = _
        rw [arrV_new]
      have hout : Jvm.Free.Multi.outerC (aC 7) 12 h 12 = vp_cell (aC 7) (12, .inr (.inr (.inr (.inr (fun i => if i < 12 then some (h + 1 + i) else none))))) := by
        rw [vp_cell_q]
        exact vr_outer_ (aC 7) 12 h 12
      rw [hout] at f2
      have hbase := hM.1
      rw [hs] at hbase
      have hTh2 : T.heap.size = h := by rw [hT]; exact hs
      have hVM : VM s0 D aC (fun q => if q = 0 then some (.inr (h + 13, [])) else if q = h then some (.inl (7, (12, .inr (.inr (.inr (.inr (fun i => if i < 12 then some (h + 1 + i) else none))))))) else if h < q ∧ q ≤ h + 12 then some (.inl (0, (3, .inl (fun _ => 0)))) else μ q) G.heap := by
        refine ⟨by rw [f1]; omega, fun q hq => by rw [hold q (by omega)]; exact hM.2.1 q hq, fun a e' ha he' => ?_, fun z hz => ?_⟩
        · dsimp only at he'
          rw [if_neg ha] at he'
          split at he'
          · rename_i e9
            cases he'
            subst e9
            exact ⟨hbase, f2⟩
          · split at he'
            · rename_i e9
              cases he'
              have hj := hrow (a - h - 1) (by omega)
              rw [show h + 1 + (a - h - 1) = a by omega] at hj
              exact ⟨by omega, hj⟩
            · obtain ⟨g1, g2⟩ := hM.2.2.1 a e' ha he'
              have hlt := g2.lt
              rw [hs] at hlt
              exact ⟨g1, g2.kept (hold a hlt)⟩
        · dsimp only at hz
          rw [if_pos rfl] at hz
          cases hz
          exact ⟨_, rfl, by rw [f1]⟩
      obtain ⟨t, a1, b1⟩ := kk hx G.heap locs ls hVM hloc hl G rfl X'
      rw [hTh2] at step
      exact ⟨t, step t a1, b1⟩
  · exact V_none
end VO
