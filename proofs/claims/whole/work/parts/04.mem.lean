/-! ===== MY LAYER: reading and writing memory ===== -/
section VC
variable {α : Type} {κ : Cx} {ρ : (α ⊕ String) × Me} {k n : Nat} {μ : Me} {x : Rs α} {pc : Nat} {lv : List (Nat × Value)} {st : List Value} {cc : ByteArray} {own : String}
theorem VM_get {s0 : State} {D : va_G} {aC : Nat → ClassId} {μ : Me} {H : Heap} (hM : VM s0 D aC μ H) {a : Nat} {e : E_} (ha : a ≠ 0) (h : μ a = some e) : va_P D vwCl [(a, tr_ aC e)] H := by
  intro k q hk
  cases k with
  | zero => cases hk; exact (hM.2.2.1 a e ha h).2
  | succ k => simp at hk
/-- one cell is written: the memory is the new one -/
theorem VM_set {s0 : State} {D : va_G} {aC : Nat → ClassId} {μ : Me} {H H1 : Heap} (hM : VM s0 D aC μ H) {a : Nat} {e e0 : E_} (ha : a ≠ 0) (h0 : μ a = some e0) (hz : H1.size = H.size) (oq : ∀ q : Nat, q ≠ a → H1[q]? = H[q]?) (hat : va_at D vwCl (a, tr_ aC e) H1) : VM s0 D aC (mset μ a e) H1 := by
  have hb := (hM.2.2.1 a e0 ha h0).1
  refine ⟨by rw [hz]; exact hM.1, fun q hq => by rw [oq q (by omega)]; exact hM.2.1 q hq, fun b e' hb0 he' => ?_, fun z hz0 => ?_⟩
  · by_cases hba : b = a
    · subst hba
      rw [mset_eq] at he'
      cases he'
      exact ⟨hb, hat⟩
    · rw [mset_ne hba] at he'
      obtain ⟨h1, h2⟩ := hM.2.2.1 b e' hb0 he'
      exact ⟨h1, h2.kept (oq b hba)⟩
  · rw [mset_ne (Ne.symm ha)] at hz0
    obtain ⟨n, h1, h2⟩ := hM.2.2.2 z hz0
    exact ⟨n, h1, by rw [hz]; exact h2⟩
theorem locs_put {s0 : State} {D : va_G} {aC : Nat → ClassId} {μ : Me} {H : Heap} (hM : VM s0 D aC μ H) {a j : Nat} {e0 : E_} (ha : a ≠ 0) (h0 : μ a = some e0) {locs : List Loc} (hl : ∀ z ∈ locs, s0.heap.size ≤ z.base) : ∀ z ∈ locs ++ [⟨a, j⟩], s0.heap.size ≤ z.base := by
  intro z hz
  rcases List.mem_append.mp hz with h | h
  · exact hl z h
  · rw [List.mem_singleton.mp h]
    exact (hM.2.2.1 a e0 ha h0).1
theorem Fx_K {p : Program} {l : Launch} {e : Env} {R : Room} {s : State} {m : MethodId} {args : Array Value} {below : List Frame} {meth : Method} {c : Code} {Q : State → Prop} {s0 : State} {D : va_G} {aC : Nat → ClassId} {nL : Nat} (F : Fx (p, l, e, R, s, m, args, below, meth, c, Q, s0, D, aC, nL) cc own) : va_K D vwCl (tysL aC) s := va_K.moved F.2.2.2.2.2.2.1.alike F.2.2.2.2.2.1.1
/-- a place of an array of n -/
def inb (i : Int32) (n : Nat) : Bool := decide (¬ (i < 0 ∨ n ≤ i.toNatClampNeg))
theorem inb_ok {i : Int32} {n : Nat} (h : inb i n = true) : vp_in i n := of_decide_eq_true (p := ¬ (i < 0 ∨ n ≤ i.toNatClampNeg)) h
/-- an object's fields, if there is one of class number c at a -/
def ob (μ : Me) (a c : Nat) : Option (List Value) := if a = 0 then none else match μ a with
  | some (.inr (c', fs)) => if c' = c then some fs else none
  | _ => none
theorem ob_some {μ : Me} {a c : Nat} {fs : List Value} (h : ob μ a c = some fs) : a ≠ 0 ∧ μ a = some (.inr (c, fs)) := by
  unfold ob at h
  split at h
  · cases h
  · rename_i h0
    split at h
    · split at h
      · rename_i h2 h3
        cases h
        subst h3
        exact ⟨h0, h2⟩
      · cases h
    · cases h
/-- an array's contents, if there is one of kind c at a -/
def ar (μ : Me) (a c : Nat) : Option vp_A := if a = 0 then none else match μ a with
  | some (.inl (c', v)) => if c' = c then some v else none
  | _ => none
theorem ar_some {μ : Me} {a c : Nat} {v : vp_A} (h : ar μ a c = some v) : a ≠ 0 ∧ μ a = some (.inl (c, v)) := by
  unfold ar at h
  split at h
  · cases h
  · rename_i h0
    split at h
    · split at h
      · rename_i h2 h3
        cases h
        subst h3
        exact ⟨h0, h2⟩
      · cases h
    · cases h
/-- field k of the object at a, of class number c -/
def gf (μ : Me) (a c k : Nat) : Option Value := match ob μ a c with
  | some fs => fs[k]?
  | none => none
def gI {β : Type} (μ : Me) (a c k : Nat) (K : Int32 → Rs β) : Rs β := match gf μ a c k with
  | some (.int v) => K v
  | _ => none
def gJ {β : Type} (μ : Me) (a c k : Nat) (K : Int64 → Rs β) : Rs β := match gf μ a c k with
  | some (.long v) => K v
  | _ => none
def gR {β : Type} (μ : Me) (a c k : Nat) (K : Nat → Rs β) : Rs β := match gf μ a c k with
  | some (.ref v) => K v
  | _ => none
/-- the field is written -/
def pf {β : Type} (μ : Me) (a c k : Nat) (v : Value) (K : Me → Rs β) : Rs β := match ob μ a c with
  | some fs => if k < fs.length then K (mset μ a (.inr (c, fs.set k v))) else none
  | none => none
theorem V_get {ci k9 idx N : Nat} {C : String} {T : u_T} {v : Value} {a : Nat} (F : Fx κ cc own) (hc : vwCl[ci]? = some (C, T, N)) (hin : ∀ w ∈ u_ws C T N, w ∈ WA) (hk : k9 < N) (hlink : Cond.fieldLink own idx (T k9).1 (T k9).2.1 (T k9).2.2.1 ∈ WA) (d : decode cc pc = .ok (.getfield idx, 3)) (hv : gf μ a ci k9 = some v) (kk : V κ ρ k n μ x (pc + 3) lv (v :: st)) : V κ ρ k n μ x pc lv (.ref a :: st) := by
  obtain ⟨p, l, e, R, s, m, args, below, meth, c, Q, s0, D, aC, nL⟩ := κ
  intro hx H locs ls hM hloc hl
  unfold gf at hv
  split at hv
  · rename_i fs hfs
    obtain ⟨h0, h1⟩ := ob_some hfs
    exact va_get (D := D) (cl := vwCl) (ci := ci) (C := C) (T := T) (N := N) (q0 := 0) F.1 F.2.1 F.2.2.2.2.1 hin F.2.2.2.1 (Fx_K F) (VM_get hM h0 h1) rfl hc k9 hk (F.2.2.2.2.1 _ hlink) (fun _ h => h) hv d (kk hx H locs ls hM hloc hl)
  · cases hv
theorem V_gI {ci k9 idx N : Nat} {C : String} {T : u_T} {a : Nat} {K : Int32 → Rs α} (F : Fx κ cc own) (hc : vwCl[ci]? = some (C, T, N)) (hin : ∀ w ∈ u_ws C T N, w ∈ WA) (hk : k9 < N) (hlink : Cond.fieldLink own idx (T k9).1 (T k9).2.1 (T k9).2.2.1 ∈ WA) (d : decode cc pc = .ok (.getfield idx, 3)) (kk : ∀ v, V κ ρ k n μ (K v) (pc + 3) lv (.int v :: st)) : V κ ρ k n μ (gI μ a ci k9 K) pc lv (.ref a :: st) := by
  unfold gI
  split
  · rename_i v hv; exact V_get F hc hin hk hlink d hv (kk v)
  · exact V_none
theorem V_gJ {ci k9 idx N : Nat} {C : String} {T : u_T} {a : Nat} {K : Int64 → Rs α} (F : Fx κ cc own) (hc : vwCl[ci]? = some (C, T, N)) (hin : ∀ w ∈ u_ws C T N, w ∈ WA) (hk : k9 < N) (hlink : Cond.fieldLink own idx (T k9).1 (T k9).2.1 (T k9).2.2.1 ∈ WA) (d : decode cc pc = .ok (.getfield idx, 3)) (kk : ∀ v, V κ ρ k n μ (K v) (pc + 3) lv (.long v :: st)) : V κ ρ k n μ (gJ μ a ci k9 K) pc lv (.ref a :: st) := by
  unfold gJ
  split
  · rename_i v hv; exact V_get F hc hin hk hlink d hv (kk v)
  · exact V_none
theorem V_gR {ci k9 idx N : Nat} {C : String} {T : u_T} {a : Nat} {K : Nat → Rs α} (F : Fx κ cc own) (hc : vwCl[ci]? = some (C, T, N)) (hin : ∀ w ∈ u_ws C T N, w ∈ WA) (hk : k9 < N) (hlink : Cond.fieldLink own idx (T k9).1 (T k9).2.1 (T k9).2.2.1 ∈ WA) (d : decode cc pc = .ok (.getfield idx, 3)) (kk : ∀ v, V κ ρ k n μ (K v) (pc + 3) lv (.ref v :: st)) : V κ ρ k n μ (gR μ a ci k9 K) pc lv (.ref a :: st) := by
  unfold gR
  split
  · rename_i v hv; exact V_get F hc hin hk hlink d hv (kk v)
  · exact V_none
theorem V_pf {ci k9 idx N : Nat} {C : String} {T : u_T} {ty : Nat → FieldType} {a : Nat} {v : Value} {K : Me → Rs α} (F : Fx κ cc own) (hc : vwCl[ci]? = some (C, T, N)) (hin : ∀ w ∈ u_ws C T N, w ∈ WA) (hty : ∀ k, k < N → parseFieldDescriptor (T k).2.2.1 = some (ty k)) (hnm : ∀ a, a < N → ∀ b, b < N → a ≠ b → (T a).2.1 ≠ (T b).2.1) (hk : k9 < N) (hlink : Cond.fieldLink own idx (T k9).1 (T k9).2.1 (T k9).2.2.1 ∈ WA) (hfin : (T k9).2.2.2 = false) (hn : narrow (ty k9) v = v) (hfit : fits (ty k9) v = true) (d : decode cc pc = .ok (.putfield idx, 3)) (kk : ∀ μ', V κ ρ k n μ' (K μ') (pc + 3) lv st) : V κ ρ k n μ (pf μ a ci k9 v K) pc lv (v :: .ref a :: st) := by
  unfold pf
  split
  · rename_i fs hfs
    split
    · rename_i hlen
      obtain ⟨h0, h1⟩ := ob_some hfs
      have kk := kk (mset μ a (.inr (ci, fs.set k9 v)))
      obtain ⟨p, l, e, R, s, m, args, below, meth, c, Q, s0, D, aC, nL⟩ := κ
      intro hx H locs ls hM hloc hl
      have hK := Fx_K F
      have hts := F.2.2.2.2.1
      have hown := F.2.2.2.1
      have hap := va_apart (own := own) hts hin ty hty hnm hK hc
      obtain ⟨r, g1, cell, q1, q2, q3, q4⟩ := VM_get hM h0 h1 0 _ rfl
      have hr : r = (C, T, N) := Option.some.inj (g1.symm.trans hc)
      subst hr
      obtain ⟨hS, hfc, kC, hkC, hkind⟩ := hK.1 ci _ hc
      obtain ⟨cf, kf, fi, f, hi, hsl⟩ := hS k9 hk
      have hlay := hts _ (hin _ (u_in_lay hk))
      unfold u_lay at hlay
      rw [if_neg (by rw [hfin]; decide)] at hlay
      have hst := (u_facts hfc hkC (u_lays hts hin hk) hi).1
      have h6 := u_store hfc hkC hkind hlay hi (hty k9 hk) hn hfit
      refine W.putK F.1 F.2.1 (f := f) ⟨hown, hts _ hlink, ⟨_, _, _, hi⟩, hst⟩ (by rw [q2]; exact h6) q1 q3 (by rw [hsl]; exact k2_hasslot (q4 k9 hk)) rfl rfl d fun H' e1 e2 e3 => ?_
      rw [hsl] at e1 ⊢
      exact kk hx H' _ ls (VM_set hM h0 h1 e2 e3 ⟨_, hc, t_OB.to (V := updV (vp_V fs) k9 v) ⟨_, e1, q2, q3, t_set q4 hap hk v⟩ (fun j _ => vp_updV_set hlen v j)⟩) (locs_put hM h0 h1 hloc) hl
    · exact V_none
  · exact V_none
/-- a final field, in the object's own constructor -/
theorem V_pfF {ci k9 idx N : Nat} {C : String} {T : u_T} {ty : Nat → FieldType} {a : Nat} {v : Value} {K : Me → Rs α} (F : Fx κ cc own) (hc : vwCl[ci]? = some (C, T, N)) (hin : ∀ w ∈ u_ws C T N, w ∈ WA) (hty : ∀ k, k < N → parseFieldDescriptor (T k).2.2.1 = some (ty k)) (hnm : ∀ a, a < N → ∀ b, b < N → a ≠ b → (T a).2.1 ≠ (T b).2.1) (hk : k9 < N) (hlink : Cond.fieldLink own idx (T k9).1 (T k9).2.1 (T k9).2.2.1 ∈ WA) (hfin : (T k9).2.2.2 = true) (hin2 : κ.2.2.2.2.2.2.2.2.1.name = "<init>") (hdecl : (T k9).1 = own) (hn : narrow (ty k9) v = v) (hfit : fits (ty k9) v = true) (d : decode cc pc = .ok (.putfield idx, 3)) (kk : ∀ μ', V κ ρ k n μ' (K μ') (pc + 3) lv st) : V κ ρ k n μ (pf μ a ci k9 v K) pc lv (v :: .ref a :: st) := by
  unfold pf
  split
  · rename_i fs hfs
    split
    · rename_i hlen
      obtain ⟨h0, h1⟩ := ob_some hfs
      have kk := kk (mset μ a (.inr (ci, fs.set k9 v)))
      obtain ⟨p, l, e, R, s, m, args, below, meth, c, Q, s0, D, aC, nL⟩ := κ
      intro hx H locs ls hM hloc hl
      have hK := Fx_K F
      have hts := F.2.2.2.2.1
      have hown := F.2.2.2.1
      have hap := va_apart (own := own) hts hin ty hty hnm hK hc
      obtain ⟨r, g1, cell, q1, q2, q3, q4⟩ := VM_get hM h0 h1 0 _ rfl
      have hr : r = (C, T, N) := Option.some.inj (g1.symm.trans hc)
      subst hr
      obtain ⟨hS, hfc, kC, hkC, hkind⟩ := hK.1 ci _ hc
      obtain ⟨cf, kf, fi, f, hi, hsl⟩ := hS k9 hk
      have hlay := hts _ (hin _ (u_in_lay hk))
      unfold u_lay at hlay
      rw [if_pos hfin] at hlay
      have hst := (u_facts hfc hkC (u_lays hts hin hk) hi).1
      have hcf : m.cls = cf := by
        obtain ⟨_, _, c', _, _, _, -, -, hf', -, -, -, hown2, -⟩ := Cond.laysFinal_spec hlay
        have e1 : c' = cf := by have := hi.symm.trans hf'; simp at this; exact this.1.symm
        rw [hdecl] at hown2
        rw [← e1]; exact Option.some.inj (hown.symm.trans hown2)
      have h6 := u_fits hfc hkC hkind (Or.inr hlay) hi (hty k9 hk) hn hfit
      refine W.putFinK F.1 F.2.1 hown (hts _ hlink) hi hst hcf hin2 (by rw [q2]; exact h6) q1 q3 (by rw [hsl]; exact k2_hasslot (q4 k9 hk)) rfl rfl d fun H' e1 e2 e3 => ?_
      rw [hsl] at e1 ⊢
      exact kk hx H' _ ls (VM_set hM h0 h1 e2 e3 ⟨_, hc, t_OB.to (V := updV (vp_V fs) k9 v) ⟨_, e1, q2, q3, t_set q4 hap hk v⟩ (fun j _ => vp_updV_set hlen v j)⟩) (locs_put hM h0 h1 hloc) hl
    · exact V_none
  · exact V_none

def aI {β : Type} (μ : Me) (a : Nat) (i : Int32) (K : Int32 → Rs β) : Rs β := match ar μ a 0 with
  | some (n, .inl f) => if inb i n = true then K (f i.toNatClampNeg) else none
  | _ => none
theorem V_aI {a : Nat} {i : Int32} {K : Int32 → Rs α} (F : Fx κ cc own) (d : decode cc pc = .ok (.iaload, 1)) (kk : ∀ v, V κ ρ k n μ (K v) (pc + 1) lv (.int v :: st)) : V κ ρ k n μ (aI μ a i K) pc lv (.int i :: .ref a :: st) := by
  unfold aI
  split
  · rename_i N f hf
    split
    · rename_i hi
      have hi := inb_ok hi
      obtain ⟨h0, h1⟩ := ar_some hf
      have kk := kk (f i.toNatClampNeg)
      obtain ⟨p, l, e, R, s, m, args, below, meth, c, Q, s0, D, aC, nL⟩ := κ
      intro hx H locs ls hM hloc hl
      exact va_iald (q0 := 0) (t0 := 0) F.1 F.2.1 (Fx_K F) (VM_get hM h0 h1) rfl rfl hi d (kk hx H locs ls hM hloc hl)
    · exact V_none
  · exact V_none
def sI {β : Type} (μ : Me) (a : Nat) (i : Int32) (v : Int32) (K : Me → Rs β) : Rs β := match ar μ a 0 with
  | some (n, .inl f) => if inb i n = true then K (mset μ a (.inl (0, n, .inl (upd f i.toNatClampNeg v)))) else none
  | _ => none
theorem V_sI {a : Nat} {i : Int32} {v : Int32} {K : Me → Rs α} (F : Fx κ cc own) (d : decode cc pc = .ok (.iastore, 1)) (kk : ∀ μ', V κ ρ k n μ' (K μ') (pc + 1) lv st) : V κ ρ k n μ (sI μ a i v K) pc lv (.int v :: .int i :: .ref a :: st) := by
  unfold sI
  split
  · rename_i N f hf
    split
    · rename_i hi
      have hi := inb_ok hi
      obtain ⟨h0, h1⟩ := ar_some hf
      have kk := kk (mset μ a (.inl (0, N, .inl (upd f i.toNatClampNeg v))))
      obtain ⟨p, l, e, R, s, m, args, below, meth, c, Q, s0, D, aC, nL⟩ := κ
      intro hx H locs ls hM hloc hl
      have hP := VM_get hM h0 h1
      refine W.iast F.1 F.2.1 (hP 0 _ rfl) (((Fx_K F).2 0 _ rfl).1 N (fun j => .int (f j))) (fun q => by cases q) (by show ¬ (i < 0 ∨ (arrV _ _ _).slots.size ≤ _); rw [arrV_size]; exact hi) rfl rfl d fun H1 e z oq => ?_
      refine kk hx H1 _ ls (VM_set hM h0 h1 z oq ?_) (locs_put hM h0 h1 hloc) hl
      show H1[a]? = some (vp_cell _ _)
      rw [e]
      rw [vp_cell_i, vp_cell_i, arrV_store]
      congr 2
      funext q
      by_cases hq : q = i.toNatClampNeg
      · subst hq
        simp [updV, upd]
        try rfl
      · simp [updV, upd, hq]
    · exact V_none
  · exact V_none
def aZ {β : Type} (μ : Me) (a : Nat) (i : Int32) (K : Int32 → Rs β) : Rs β := match ar μ a 1 with
  | some (n, .inl f) => if inb i n = true then K (f i.toNatClampNeg) else none
  | _ => none
theorem V_aZ {a : Nat} {i : Int32} {K : Int32 → Rs α} (F : Fx κ cc own) (d : decode cc pc = .ok (.baload, 1)) (kk : ∀ v, V κ ρ k n μ (K v) (pc + 1) lv (.int v :: st)) : V κ ρ k n μ (aZ μ a i K) pc lv (.int i :: .ref a :: st) := by
  unfold aZ
  split
  · rename_i N f hf
    split
    · rename_i hi
      have hi := inb_ok hi
      obtain ⟨h0, h1⟩ := ar_some hf
      have kk := kk (f i.toNatClampNeg)
      obtain ⟨p, l, e, R, s, m, args, below, meth, c, Q, s0, D, aC, nL⟩ := κ
      intro hx H locs ls hM hloc hl
      exact va_zald (q0 := 0) (t0 := 1) F.1 F.2.1 (Fx_K F) (VM_get hM h0 h1) rfl rfl hi d (kk hx H locs ls hM hloc hl)
    · exact V_none
  · exact V_none
def sZ {β : Type} (μ : Me) (a : Nat) (i : Int32) (v : Int32) (K : Me → Rs β) : Rs β := match ar μ a 1 with
  | some (n, .inl f) => if inb i n = true then K (mset μ a (.inl (1, n, .inl (upd f i.toNatClampNeg (vp_nar .boolean v))))) else none
  | _ => none
theorem V_sZ {a : Nat} {i : Int32} {v : Int32} {K : Me → Rs α} (F : Fx κ cc own) (d : decode cc pc = .ok (.bastore, 1)) (kk : ∀ μ', V κ ρ k n μ' (K μ') (pc + 1) lv st) : V κ ρ k n μ (sZ μ a i v K) pc lv (.int v :: .int i :: .ref a :: st) := by
  unfold sZ
  split
  · rename_i N f hf
    split
    · rename_i hi
      have hi := inb_ok hi
      obtain ⟨h0, h1⟩ := ar_some hf
      have kk := kk (mset μ a (.inl (1, N, .inl (upd f i.toNatClampNeg (vp_nar .boolean v)))))
      obtain ⟨p, l, e, R, s, m, args, below, meth, c, Q, s0, D, aC, nL⟩ := κ
      intro hx H locs ls hM hloc hl
      have hP := VM_get hM h0 h1
      refine W.zast F.1 F.2.1 (hP 0 _ rfl) (((Fx_K F).2 1 _ rfl).1 N (fun j => .int (f j))) (fun q => by cases q) (by show ¬ (i < 0 ∨ (arrV _ _ _).slots.size ≤ _); rw [arrV_size]; exact hi) rfl rfl d fun H1 e z oq => ?_
      refine kk hx H1 _ ls (VM_set hM h0 h1 z oq ?_) (locs_put hM h0 h1 hloc) hl
      show H1[a]? = some (vp_cell _ _)
      rw [e]
      rw [vp_cell_i, vp_cell_i, arrV_store]
      congr 2
      funext q
      by_cases hq : q = i.toNatClampNeg
      · subst hq
        simp [updV, upd, vp_nar]
        try rfl
      · simp [updV, upd, hq]
    · exact V_none
  · exact V_none
def aCh {β : Type} (μ : Me) (a : Nat) (i : Int32) (K : Int32 → Rs β) : Rs β := match ar μ a 2 with
  | some (n, .inl f) => if inb i n = true then K (f i.toNatClampNeg) else none
  | _ => none
theorem V_aCh {a : Nat} {i : Int32} {K : Int32 → Rs α} (F : Fx κ cc own) (d : decode cc pc = .ok (.caload, 1)) (kk : ∀ v, V κ ρ k n μ (K v) (pc + 1) lv (.int v :: st)) : V κ ρ k n μ (aCh μ a i K) pc lv (.int i :: .ref a :: st) := by
  unfold aCh
  split
  · rename_i N f hf
    split
    · rename_i hi
      have hi := inb_ok hi
      obtain ⟨h0, h1⟩ := ar_some hf
      have kk := kk (f i.toNatClampNeg)
      obtain ⟨p, l, e, R, s, m, args, below, meth, c, Q, s0, D, aC, nL⟩ := κ
      intro hx H locs ls hM hloc hl
      exact va_cald (q0 := 0) (t0 := 2) F.1 F.2.1 (Fx_K F) (VM_get hM h0 h1) rfl rfl hi d (kk hx H locs ls hM hloc hl)
    · exact V_none
  · exact V_none
def sC {β : Type} (μ : Me) (a : Nat) (i : Int32) (v : Int32) (K : Me → Rs β) : Rs β := match ar μ a 2 with
  | some (n, .inl f) => if inb i n = true then K (mset μ a (.inl (2, n, .inl (upd f i.toNatClampNeg (vp_nar .char v))))) else none
  | _ => none
theorem V_sC {a : Nat} {i : Int32} {v : Int32} {K : Me → Rs α} (F : Fx κ cc own) (d : decode cc pc = .ok (.castore, 1)) (kk : ∀ μ', V κ ρ k n μ' (K μ') (pc + 1) lv st) : V κ ρ k n μ (sC μ a i v K) pc lv (.int v :: .int i :: .ref a :: st) := by
  unfold sC
  split
  · rename_i N f hf
    split
    · rename_i hi
      have hi := inb_ok hi
      obtain ⟨h0, h1⟩ := ar_some hf
      have kk := kk (mset μ a (.inl (2, N, .inl (upd f i.toNatClampNeg (vp_nar .char v)))))
      obtain ⟨p, l, e, R, s, m, args, below, meth, c, Q, s0, D, aC, nL⟩ := κ
      intro hx H locs ls hM hloc hl
      have hP := VM_get hM h0 h1
      refine W.cast F.1 F.2.1 (hP 0 _ rfl) (((Fx_K F).2 2 _ rfl).1 N (fun j => .int (f j))) (fun q => by cases q) (by show ¬ (i < 0 ∨ (arrV _ _ _).slots.size ≤ _); rw [arrV_size]; exact hi) rfl rfl d fun H1 e z oq => ?_
      refine kk hx H1 _ ls (VM_set hM h0 h1 z oq ?_) (locs_put hM h0 h1 hloc) hl
      show H1[a]? = some (vp_cell _ _)
      rw [e]
      rw [vp_cell_i, vp_cell_i, arrV_store]
      congr 2
      funext q
      by_cases hq : q = i.toNatClampNeg
      · subst hq
        simp [updV, upd, vp_nar]
        try rfl
      · simp [updV, upd, hq]
    · exact V_none
  · exact V_none
def aJ {β : Type} (μ : Me) (a : Nat) (i : Int32) (K : Int64 → Rs β) : Rs β := match ar μ a 3 with
  | some (n, .inr (.inl f)) => if inb i n = true then K (f i.toNatClampNeg) else none
  | _ => none
theorem V_aJ {a : Nat} {i : Int32} {K : Int64 → Rs α} (F : Fx κ cc own) (d : decode cc pc = .ok (.laload, 1)) (kk : ∀ v, V κ ρ k n μ (K v) (pc + 1) lv (.long v :: st)) : V κ ρ k n μ (aJ μ a i K) pc lv (.int i :: .ref a :: st) := by
  unfold aJ
  split
  · rename_i N f hf
    split
    · rename_i hi
      have hi := inb_ok hi
      obtain ⟨h0, h1⟩ := ar_some hf
      have kk := kk (f i.toNatClampNeg)
      obtain ⟨p, l, e, R, s, m, args, below, meth, c, Q, s0, D, aC, nL⟩ := κ
      intro hx H locs ls hM hloc hl
      exact va_lald (q0 := 0) (t0 := 3) F.1 F.2.1 (Fx_K F) (VM_get hM h0 h1) rfl rfl hi d (kk hx H locs ls hM hloc hl)
    · exact V_none
  · exact V_none
def sJ {β : Type} (μ : Me) (a : Nat) (i : Int32) (v : Int64) (K : Me → Rs β) : Rs β := match ar μ a 3 with
  | some (n, .inr (.inl f)) => if inb i n = true then K (mset μ a (.inl (3, n, .inr (.inl (vp_updL f i.toNatClampNeg v))))) else none
  | _ => none
theorem V_sJ {a : Nat} {i : Int32} {v : Int64} {K : Me → Rs α} (F : Fx κ cc own) (d : decode cc pc = .ok (.lastore, 1)) (kk : ∀ μ', V κ ρ k n μ' (K μ') (pc + 1) lv st) : V κ ρ k n μ (sJ μ a i v K) pc lv (.long v :: .int i :: .ref a :: st) := by
  unfold sJ
  split
  · rename_i N f hf
    split
    · rename_i hi
      have hi := inb_ok hi
      obtain ⟨h0, h1⟩ := ar_some hf
      have kk := kk (mset μ a (.inl (3, N, .inr (.inl (vp_updL f i.toNatClampNeg v)))))
      obtain ⟨p, l, e, R, s, m, args, below, meth, c, Q, s0, D, aC, nL⟩ := κ
      intro hx H locs ls hM hloc hl
      have hP := VM_get hM h0 h1
      refine W.last F.1 F.2.1 (hP 0 _ rfl) (((Fx_K F).2 3 _ rfl).1 N (fun j => .long (f j))) (fun q => by cases q) (by show ¬ (i < 0 ∨ (arrV _ _ _).slots.size ≤ _); rw [arrV_size]; exact hi) rfl rfl d fun H1 e z oq => ?_
      refine kk hx H1 _ ls (VM_set hM h0 h1 z oq ?_) (locs_put hM h0 h1 hloc) hl
      show H1[a]? = some (vp_cell _ _)
      rw [e]
      rw [vp_cell_l, vp_cell_l, arrV_store]
      congr 2
      funext q
      by_cases hq : q = i.toNatClampNeg
      · subst hq
        simp [updV, vp_updL]
        try rfl
      · simp [updV, vp_updL, hq]
    · exact V_none
  · exact V_none
def aD {β : Type} (μ : Me) (a : Nat) (i : Int32) (K : UInt64 → Rs β) : Rs β := match ar μ a 4 with
  | some (n, .inr (.inr (.inr (.inl f)))) => if inb i n = true then K (f i.toNatClampNeg) else none
  | _ => none
theorem V_aD {a : Nat} {i : Int32} {K : UInt64 → Rs α} (F : Fx κ cc own) (d : decode cc pc = .ok (.daload, 1)) (kk : ∀ v, V κ ρ k n μ (K v) (pc + 1) lv (.double v :: st)) : V κ ρ k n μ (aD μ a i K) pc lv (.int i :: .ref a :: st) := by
  unfold aD
  split
  · rename_i N f hf
    split
    · rename_i hi
      have hi := inb_ok hi
      obtain ⟨h0, h1⟩ := ar_some hf
      have kk := kk (f i.toNatClampNeg)
      obtain ⟨p, l, e, R, s, m, args, below, meth, c, Q, s0, D, aC, nL⟩ := κ
      intro hx H locs ls hM hloc hl
      exact va_dald (q0 := 0) (t0 := 4) F.1 F.2.1 (Fx_K F) (VM_get hM h0 h1) rfl rfl hi d (kk hx H locs ls hM hloc hl)
    · exact V_none
  · exact V_none
def sD {β : Type} (μ : Me) (a : Nat) (i : Int32) (v : UInt64) (K : Me → Rs β) : Rs β := match ar μ a 4 with
  | some (n, .inr (.inr (.inr (.inl f)))) => if inb i n = true then K (mset μ a (.inl (4, n, .inr (.inr (.inr (.inl (vf_upd f i.toNatClampNeg v))))))) else none
  | _ => none
theorem V_sD {a : Nat} {i : Int32} {v : UInt64} {K : Me → Rs α} (F : Fx κ cc own) (d : decode cc pc = .ok (.dastore, 1)) (kk : ∀ μ', V κ ρ k n μ' (K μ') (pc + 1) lv st) : V κ ρ k n μ (sD μ a i v K) pc lv (.double v :: .int i :: .ref a :: st) := by
  unfold sD
  split
  · rename_i N f hf
    split
    · rename_i hi
      have hi := inb_ok hi
      obtain ⟨h0, h1⟩ := ar_some hf
      have kk := kk (mset μ a (.inl (4, N, .inr (.inr (.inr (.inl (vf_upd f i.toNatClampNeg v)))))))
      obtain ⟨p, l, e, R, s, m, args, below, meth, c, Q, s0, D, aC, nL⟩ := κ
      intro hx H locs ls hM hloc hl
      have hP := VM_get hM h0 h1
      refine W.dast F.1 F.2.1 (hP 0 _ rfl) (((Fx_K F).2 4 _ rfl).1 N (fun j => .double (f j))) (fun q => by cases q) (by show ¬ (i < 0 ∨ (arrV _ _ _).slots.size ≤ _); rw [arrV_size]; exact hi) rfl rfl d fun H1 e z oq => ?_
      refine kk hx H1 _ ls (VM_set hM h0 h1 z oq ?_) (locs_put hM h0 h1 hloc) hl
      show H1[a]? = some (vp_cell _ _)
      rw [e]
      rw [vp_cell_d, vp_cell_d, arrV_store]
      congr 2
      funext q
      by_cases hq : q = i.toNatClampNeg
      · subst hq
        simp [updV, vf_upd]
        try rfl
      · simp [updV, vf_upd, hq]
    · exact V_none
  · exact V_none
def aR {β : Type} (μ : Me) (c : Nat) (a : Nat) (i : Int32) (K : Nat → Rs β) : Rs β := match ar μ a c with
  | some (n, .inr (.inr (.inr (.inr f)))) => if inb i n = true then (match f i.toNatClampNeg with | some v => K v | none => none) else none
  | _ => none
theorem V_aR {c9 a : Nat} {i : Int32} {K : Nat → Rs α} (F : Fx κ cc own) (hc : 4 < c9 ∧ c9 < 8) (d : decode cc pc = .ok (.aaload, 1)) (kk : ∀ v, V κ ρ k n μ (K v) (pc + 1) lv (.ref v :: st)) : V κ ρ k n μ (aR μ c9 a i K) pc lv (.int i :: .ref a :: st) := by
  unfold aR
  split
  · rename_i N f hf
    split
    · rename_i hi
      have hi := inb_ok hi
      split
      · rename_i v hv
        obtain ⟨h0, h1⟩ := ar_some hf
        have kk := kk v
        obtain ⟨p, l, e, R, s, m, args, below, meth, c, Q, s0, D, aC, nL⟩ := κ
        intro hx H locs ls hM hloc hl
        have hP := VM_get hM h0 h1
        have hlt : i.toNatClampNeg < N := Nat.not_le.mp fun q => hi (Or.inr q)
        have hex : ∃ ty, (tysL aC)[c9]? = some (aC c9, ty) ∧ ty.isReference = true := by
          match c9, hc with
          | 5, _ => exact ⟨_, rfl, rfl⟩
          | 6, _ => exact ⟨_, rfl, rfl⟩
          | 7, _ => exact ⟨_, rfl, rfl⟩
          | 0, h => exact absurd h.1 (by decide)
          | 1, h => exact absurd h.1 (by decide)
          | 2, h => exact absurd h.1 (by decide)
          | 3, h => exact absurd h.1 (by decide)
          | 4, h => exact absurd h.1 (by decide)
          | j + 8, h => exact absurd h.2 (by omega)
        obtain ⟨ty, hty, hrf⟩ := hex
        have hv2 : va_rf (f i.toNatClampNeg) = .ref v := by rw [hv]; rfl
        exact W.aald (v := .ref v) (ty := ty) F.1 F.2.1 (hP 0 _ rfl) (((Fx_K F).2 c9 _ hty).1 N (fun j => va_rf (f j))) hrf (fun q => by cases q) (by show ¬ (i < 0 ∨ (arrV _ _ _).slots.size ≤ _); rw [arrV_size]; exact hi) (by show (arrV _ _ _).slots[_]? = _; rw [arrV_read _ _ hlt, hv2]) rfl rfl d (kk hx H locs ls hM hloc hl)
      · exact V_none
    · exact V_none
  · exact V_none
def sS {β : Type} (μ : Me) (a : Nat) (i : Int32) (v : Nat) (K : Me → Rs β) : Rs β := match ar μ a 5 with
  | some (n, .inr (.inr (.inr (.inr f)))) => if inb i n = true ∧ (ob μ v 5).isSome = true then K (mset μ a (.inl (5, n, .inr (.inr (.inr (.inr (va_up f i.toNatClampNeg (some v)))))))) else none
  | _ => none
theorem V_sS {a v : Nat} {i : Int32} {K : Me → Rs α} (F : Fx κ cc own) (d : decode cc pc = .ok (.aastore, 1)) (kk : ∀ μ', V κ ρ k n μ' (K μ') (pc + 1) lv st) : V κ ρ k n μ (sS μ a i v K) pc lv (.ref v :: .int i :: .ref a :: st) := by
  unfold sS
  split
  · rename_i N f hf
    split
    · rename_i hi
      obtain ⟨hi, hv⟩ := hi
      have hi := inb_ok hi
      obtain ⟨fs, hfs⟩ := Option.isSome_iff_exists.mp hv
      obtain ⟨h0, h1⟩ := ar_some hf
      obtain ⟨v0, v1⟩ := ob_some hfs
      have kk := kk (mset μ a (.inl (5, N, .inr (.inr (.inr (.inr (va_up f i.toNatClampNeg (some v))))))))
      obtain ⟨p, l, e, R, s, m, args, below, meth, c, Q, s0, D, aC, nL⟩ := κ
      intro hx H locs ls hM hloc hl
      have hP := VM_get hM h0 h1
      have hK := Fx_K F
      have hlt : i.toNatClampNeg < N := Nat.not_le.mp fun q => hi (Or.inr q)
      have hn0 : ¬ i < 0 := fun q => hi (Or.inl q)
      have hc : vwCl[5]? = some (RX4, TX4, 10) := rfl
      obtain ⟨r', hr', cellV, g1, g2, g3, -⟩ := VM_get hM v0 v1 0 _ rfl
      have hcls := (hK.1 5 _ hc).2
      obtain ⟨kA, comp, k1, k2, k3, -⟩ := (hK.2 5 _ rfl).2
      have hcomp : comp = D.1 5 := Option.some.inj (k3.symm.trans hcls.1)
      subst hcomp
      obtain ⟨kC, hkC, -⟩ := hcls.2
      refine W.aast F.1 F.2.1 (hP 0 _ rfl) (fun q h => by cases h) (fun h => by cases h) k1 k2 rfl hkC ⟨hn0, by show _ < (arrV _ _ _).slots.size; rw [arrV_size]; exact hlt⟩ g1 (fun q h => by rw [g3] at h; cases h) (by rw [g2]; exact hkC) (by rw [g2]; exact va_assign hcls) rfl rfl d fun H1 e z oq => ?_
      refine kk hx H1 _ ls (VM_set hM h0 h1 z oq ?_) (locs_put hM h0 h1 hloc) hl
      show H1[a]? = some (vp_cell _ _)
      rw [e]
      rw [vp_cell_q, vp_cell_q, arrV_store]
      congr 2
      funext q
      by_cases hq : q = i.toNatClampNeg
      · subst hq
        simp [updV, va_up, va_rf]
      · simp [updV, va_up, hq]
    · exact V_none
  · exact V_none
/-- an array's length -/
def al {β : Type} (μ : Me) (a c : Nat) (K : Int32 → Rs β) : Rs β := match ar μ a c with
  | some v => K (Int32.ofNat v.1)
  | none => none
theorem V_al {a c9 : Nat} {K : Int32 → Rs α} (F : Fx κ cc own) (ht : c9 < 8) (d : decode cc pc = .ok (.arraylength, 1)) (kk : ∀ v, V κ ρ k n μ (K v) (pc + 1) lv (.int v :: st)) : V κ ρ k n μ (al μ a c9 K) pc lv (.ref a :: st) := by
  unfold al
  split
  · rename_i v hf
    obtain ⟨h0, h1⟩ := ar_some hf
    have kk := kk (Int32.ofNat v.1)
    obtain ⟨p, l, e, R, s, m, args, below, meth, c, Q, s0, D, aC, nL⟩ := κ
    intro hx H locs ls hM hloc hl
    have hex : ∃ ty, (tysL aC)[c9]? = some (aC c9, ty) := by
      match c9, ht with
      | 0, _ => exact ⟨_, rfl⟩
      | 1, _ => exact ⟨_, rfl⟩
      | 2, _ => exact ⟨_, rfl⟩
      | 3, _ => exact ⟨_, rfl⟩
      | 4, _ => exact ⟨_, rfl⟩
      | 5, _ => exact ⟨_, rfl⟩
      | 6, _ => exact ⟨_, rfl⟩
      | 7, _ => exact ⟨_, rfl⟩
    obtain ⟨ty, hty⟩ := hex
    exact va_alen (q0 := 0) (t0 := c9) F.1 F.2.1 (Fx_K F) (VM_get hM h0 h1) rfl hty rfl d (kk hx H locs ls hM hloc hl)
  · exact V_none
end VC
