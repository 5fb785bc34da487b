/-! ===== MY LAYER: what lies in the heap of the start: verbs, texts ===== -/
theorem W_S {p : Program} {l : Launch} {e : Env} {R : Room} {s : State} {m : MethodId} {args : Array Value} {below : List Frame} {meth : Method} {c : Code} {Q : State → Prop} {s0 : State} {D : va_G} {aC : Nat → ClassId} {nL : Nat} {cc : ByteArray} {own : String} {μ : Me} {H : Heap} {locs : List Loc} {k n : Nat} {g : JFrame} (F : Fx (p, l, e, R, s, m, args, below, meth, c, Q, s0, D, aC, nL) cc own) (hM : VM s0 D aC μ H) (hloc : ∀ z ∈ locs, s0.heap.size ≤ z.base)
    (h : va_S (fun q => s0.heap.size ≤ q) s.heap H locs → W p l e R s m args below meth c H locs k n Q g) : W p l e R s m args below meth c H locs k n Q g := by
  intro T hT X
  have hsz : s.heap.size ≤ T.heap.size := (vx_frame (U := T) X.same).1
  rw [hT] at hsz
  obtain ⟨e1, e2, e3, e4, e5, e6, e7, e8, e9, e10⟩ := F
  exact h ⟨hsz, fun q _ h => by rw [e9 q (Nat.not_le.mp h)]; exact hM.2.1 q (Nat.not_le.mp h), hloc⟩ T hT X
theorem Fx_SG {κ : Cx} {cc : ByteArray} {own : String} (F : Fx κ cc own) : SG κ.2.2.2.2.2.2.2.2.2.2.2.1 κ.2.2.2.2.2.2.2.2.2.2.2.2.2.1 := by
  obtain ⟨p, l, e, R, s, m, args, below, meth, c, Q, s0, D, aC, nL⟩ := κ
  exact F.2.2.2.2.2.1.2.2.2.2.2.2.2
section VQ
variable {α β : Type} {κ : Cx} {ρ : (α ⊕ String) × Me} {k n : Nat} {μ : Me} {x : Rs α} {pc : Nat} {lv : List (Nat × Value)} {st : List Value} {cc : ByteArray} {own : String} {cv : α → Option Value} {rm : Room} {tb : List ExceptionTableEntry} {nm : String} {ret : Option FieldType} {aC : Nat → Nat}
/-- a static of the start -/
theorem V_gst {C nn d9 : String} {idx : Nat} {v : Value} (F : Fx κ cc own) (hZ : va_Z C nn d9 v (fun q => κ.2.2.2.2.2.2.2.2.2.2.2.1.heap.size ≤ q) κ.2.2.2.2.2.2.2.2.2.2.2.1 κ.2.2.2.2.2.2.2.2.2.2.2.1.heap) (hl : Cond.fieldLink own idx C nn d9 ∈ WA) (d : decode cc pc = .ok (.getstatic idx, 3)) (kk : V κ ρ k n μ x (pc + 3) lv (v :: st)) : V κ ρ k n μ x pc lv st := by
  obtain ⟨p, l, e, R, s, m, args, below, meth, c, Q, s0, D, aC, nL⟩ := κ
  intro hx H locs ls hM hloc hl0
  exact W_S F hM hloc (fun hS => va_gets F.1 F.2.1 ((hZ.kept (fun q h _ => F.2.2.2.2.2.2.2.2.1 q h)).moved F.2.2.2.2.2.2.1.alike) hS F.2.2.2.1 (F.2.2.2.2.1 _ hl) (fun _ h => h) d (kk hx H locs ls hM hloc hl0))
theorem V_gstN {C nn d9 host : String} {idx : Nat} {v : Value} (F : Fx κ cc own) (hZ : va_Z C nn d9 v (fun q => κ.2.2.2.2.2.2.2.2.2.2.2.1.heap.size ≤ q) κ.2.2.2.2.2.2.2.2.2.2.2.1 κ.2.2.2.2.2.2.2.2.2.2.2.1.heap) (hl : Cond.fieldLinkNest own idx C nn d9 host ∈ lw_tbl) (d : decode cc pc = .ok (.getstatic idx, 3)) (kk : V κ ρ k n μ x (pc + 3) lv (v :: st)) : V κ ρ k n μ x pc lv st := by
  obtain ⟨p, l, e, R, s, m, args, below, meth, c, Q, s0, D, aC, nL⟩ := κ
  intro hx H locs ls hM hloc hl0
  obtain ⟨a0, hw⟩ := F.2.2.2.2.2.1.2.2.2.2.1
  have hlk : (Cond.fieldLinkNest own idx C nn d9 host).before args s = true := va_Nw.use rfl (va_Nw.warmF F.2.2.2.2.2.2.1 (va_Nw.of rfl (hw _ hl)))
  exact W_S F hM hloc (fun hS => va_getsN F.1 F.2.1 ((hZ.kept (fun q h _ => F.2.2.2.2.2.2.2.2.1 q h)).moved F.2.2.2.2.2.2.1.alike) hS F.2.2.2.1 hlk (fun _ h => h) d (kk hx H locs ls hM hloc hl0))
/-- a field of an object of the start -/
theorem V_gof {o nn d9 : String} {idx q : Nat} {v : Value} (F : Fx κ cc own) (hE : va_OF o nn d9 v q (fun q => κ.2.2.2.2.2.2.2.2.2.2.2.1.heap.size ≤ q) κ.2.2.2.2.2.2.2.2.2.2.2.1 κ.2.2.2.2.2.2.2.2.2.2.2.1.heap) (hl : Cond.fieldLink own idx o nn d9 ∈ WA) (d : decode cc pc = .ok (.getfield idx, 3)) (kk : V κ ρ k n μ x (pc + 3) lv (v :: st)) : V κ ρ k n μ x pc lv (.ref q :: st) := by
  obtain ⟨p, l, e, R, s, m, args, below, meth, c, Q, s0, D, aC, nL⟩ := κ
  intro hx H locs ls hM hloc hl0
  exact W_S F hM hloc (fun hS => vk_getf F.1 F.2.1 ((hE.kept (fun q h _ => F.2.2.2.2.2.2.2.2.1 q h)).moved F.2.2.2.2.2.2.1.alike) hS F.2.2.2.1 (F.2.2.2.2.1 _ hl) (fun _ h => h) d (kk hx H locs ls hM hloc hl0))
/-- arrays of the start -/
theorem V_tlen {ty : FieldType} {t N : Nat} {f : Nat → Value} (F : Fx κ cc own) (hT : va_T ty t N f (fun q => κ.2.2.2.2.2.2.2.2.2.2.2.1.heap.size ≤ q) κ.2.2.2.2.2.2.2.2.2.2.2.1 κ.2.2.2.2.2.2.2.2.2.2.2.1.heap) (d : decode cc pc = .ok (.arraylength, 1)) (kk : V κ ρ k n μ x (pc + 1) lv (.int (nI N) :: st)) : V κ ρ k n μ x pc lv (.ref t :: st) := by
  obtain ⟨p, l, e, R, s, m, args, below, meth, c, Q, s0, D, aC, nL⟩ := κ
  intro hx H locs ls hM hloc hl0
  exact W_S F hM hloc (fun hS => va_tlen F.1 F.2.1 ((hT.kept (fun q h _ => F.2.2.2.2.2.2.2.2.1 q h)).moved F.2.2.2.2.2.2.1.alike) hS rfl d (kk hx H locs ls hM hloc hl0))
theorem V_ti {t N : Nat} {f : Nat → Value} {i : Int32} (F : Fx κ cc own) (hT : va_T .int t N f (fun q => κ.2.2.2.2.2.2.2.2.2.2.2.1.heap.size ≤ q) κ.2.2.2.2.2.2.2.2.2.2.2.1 κ.2.2.2.2.2.2.2.2.2.2.2.1.heap) (hi : inb i N = true) (d : decode cc pc = .ok (.iaload, 1)) (kk : V κ ρ k n μ x (pc + 1) lv (f i.toNatClampNeg :: st)) : V κ ρ k n μ x pc lv (.int i :: .ref t :: st) := by
  obtain ⟨p, l, e, R, s, m, args, below, meth, c, Q, s0, D, aC, nL⟩ := κ
  intro hx H locs ls hM hloc hl0
  exact W_S F hM hloc (fun hS => va_ti F.1 F.2.1 ((hT.kept (fun q h _ => F.2.2.2.2.2.2.2.2.1 q h)).moved F.2.2.2.2.2.2.1.alike) hS (inb_ok hi) rfl d (kk hx H locs ls hM hloc hl0))
theorem V_tb {t N : Nat} {f : Nat → Value} {i : Int32} (F : Fx κ cc own) (hT : va_T .byte t N f (fun q => κ.2.2.2.2.2.2.2.2.2.2.2.1.heap.size ≤ q) κ.2.2.2.2.2.2.2.2.2.2.2.1 κ.2.2.2.2.2.2.2.2.2.2.2.1.heap) (hi : inb i N = true) (d : decode cc pc = .ok (.baload, 1)) (kk : V κ ρ k n μ x (pc + 1) lv (f i.toNatClampNeg :: st)) : V κ ρ k n μ x pc lv (.int i :: .ref t :: st) := by
  obtain ⟨p, l, e, R, s, m, args, below, meth, c, Q, s0, D, aC, nL⟩ := κ
  intro hx H locs ls hM hloc hl0
  exact W_S F hM hloc (fun hS => va_tb F.1 F.2.1 ((hT.kept (fun q h _ => F.2.2.2.2.2.2.2.2.1 q h)).moved F.2.2.2.2.2.2.1.alike) hS (inb_ok hi) rfl d (kk hx H locs ls hM hloc hl0))
theorem V_ta {t N v : Nat} {C : String} {f : Nat → Value} {i : Int32} (F : Fx κ cc own) (hT : va_T (.object C) t N f (fun q => κ.2.2.2.2.2.2.2.2.2.2.2.1.heap.size ≤ q) κ.2.2.2.2.2.2.2.2.2.2.2.1 κ.2.2.2.2.2.2.2.2.2.2.2.1.heap) (hi : inb i N = true) (d : decode cc pc = .ok (.aaload, 1)) (kk : V κ ρ k n μ x (pc + 1) lv (f i.toNatClampNeg :: st)) : V κ ρ k n μ x pc lv (.int i :: .ref t :: st) := by
  obtain ⟨p, l, e, R, s, m, args, below, meth, c, Q, s0, D, aC, nL⟩ := κ
  intro hx H locs ls hM hloc hl0
  have hin := inb_ok hi
  have hlt : i.toNatClampNeg < N := Nat.not_le.mp fun q => hin (Or.inr q)
  have hT2 := (hT.kept (fun q h _ => F.2.2.2.2.2.2.2.2.1 q h)).moved F.2.2.2.2.2.2.1.alike
  refine W_S F hM hloc (fun hS => ?_)
  obtain ⟨cell, h1, h2, h3, h4, h5, h6, h7⟩ := hT2.kept hS.2.1
  exact W.aald (v := f i.toNatClampNeg) (ty := .object C) F.1 F.2.1 h1 h2 rfl h3 (fun q => by rcases q with q | q; exact hin (Or.inl q); exact absurd q (by omega)) (h6 _ hlt) rfl rfl d (kk hx H locs ls hM hloc hl0)
/-- floatToRawIntBits -/
theorem V_f2b {idx : Nat} {b : UInt32} (F : Fx κ cc own) (hR : κ.2.2.2.1 = rm) (hl : Cond.methodLink own idx ⟨"java/lang/Float", "floatToRawIntBits", "(F)I"⟩ ∈ WA) (hna : Cond.native ⟨"java/lang/Float", "floatToRawIntBits", "(F)I"⟩ ∈ WA) (hst : Cond.static ⟨"java/lang/Float", "floatToRawIntBits", "(F)I"⟩ ∈ WA) (hini : Cond.initialized "java/lang/Float" ∈ WA) (d : decode cc pc = .ok (.invokestatic idx, 3)) (hf : 1 ≤ rm.frames) (hlo : (st.map fun v => v.category).sum + 15 ≤ rm.locals) (kk : V κ ρ k n μ x (pc + 3) lv (.int b.toInt32 :: st)) : V κ ρ k n μ x pc lv (.float b :: st) := by
  obtain ⟨p, l, e, R, s, m, args, below, meth, c, Q, s0, D, aC, nL⟩ := κ
  have hR : R = rm := hR
  subst hR
  intro hx H locs ls hM hloc hl0
  have hts := F.2.2.2.2.1
  exact vn_f2i F.1 F.2.1 (F.2.2.1.trans hl0.1.symm) F.2.2.2.1 (hts _ hl) (hts _ hna) (hts _ hst) (hts _ hini) hf hlo d (kk hx H locs ls hM hloc hl0)
end VQ
