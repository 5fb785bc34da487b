/-! ===== MY LAYER: memories as functions, and a judgement V that ties a pure computation to a place of a method ===== -/
/-- the words of a method: its code; the rest comes from the start's tables -/
def ws_ (y : MethodName) (cc : ByteArray) (n : Nat) (ret : Option FieldType) : List Cond := [.code y cc n ret]
def wsH_ (y : MethodName) (cc : ByteArray) (n : Nat) (ret : Option FieldType) (hh : List (Nat × Nat × Nat × Nat)) : List Cond := [.codeWith y cc n ret hh]
/-- a thing in memory: an array (its kind, its contents) or an object (its class's number, its fields) -/
abbrev E_ : Type := (Nat × vp_A) ⊕ (Nat × List Value)
abbrev Me : Type := Nat → Option E_
abbrev Rs (α : Type) : Type := Option ((α ⊕ String) × Me)
def mset (μ : Me) (a : Nat) (e : E_) : Me := fun b => if b = a then some e else μ b
theorem mset_eq (μ : Me) (a : Nat) (e : E_) : mset μ a e a = some e := if_pos rfl
theorem mset_ne {μ : Me} {a b : Nat} {e : E_} (h : b ≠ a) : mset μ a e b = μ b := if_neg h
def tr_ (aC : Nat → ClassId) : E_ → va_E
  | .inl (k, a) => .inl (aC k, a)
  | .inr o => .inr o
abbrev tysL (aC : Nat → ClassId) : List (ClassId × FieldType) := [(aC 0, .int), (aC 1, .boolean), (aC 2, .char), (aC 3, .long), (aC 4, .double), (aC 5, .object RX4), (aC 6, .object RX6), (aC 7, .array .int)]
/-- the texts that the start knows: class, place, text -/
def strL : List (String × Nat × String) := [("DroneLightShow", 318, "no such drone, cell or formation"), ("DroneLightShow", 320, "the argument is not allowed"), ("DroneLightShow", 322, "not possible in this state"), ("DroneLightShow", 326, "not possible in this cell or with this battery"), ("DroneLightShow", 338, "no such drone"), ("DroneLightShow", 331, "there is none"), ("DroneLightShow", 343, "no such cell"), ("DroneLightShow", 348, "no such formation"), ("DroneLightShow", 167, "the formation has no cells"), ("DroneLightShow", 193, "the number of ticks is not from 0 to 30"), ("DroneLightShow", 225, "the code of the character is not from 32 to 126"), ("DroneLightShow", 232, "the command text has 60 characters"), ("DroneLightShow", 246, "the text is not a command text"), ("DroneLightShow", 261, "a command fails"), ("DroneLightShow", 265, "no such row"), ("DroneLightShow", 275, "no such index in the line"), ("DroneLightShow", 277, "there are no drones"), ("DroneLightShow", 289, "no flying drone has a target"), ("DroneLightShow", 301, "there is no change to undo"), ("DroneLightShow", 310, "there is no snapshot"), ("DroneLightShow$Verb", 64, "add "), ("DroneLightShow$Verb", 66, "3"), ("DroneLightShow$Verb", 72, "pad "), ("DroneLightShow$Verb", 75, "off "), ("DroneLightShow$Verb", 77, "1"), ("DroneLightShow$Verb", 80, "land "), ("DroneLightShow$Verb", 83, "send "), ("DroneLightShow$Verb", 85, "13"), ("DroneLightShow$Verb", 88, "reserve "), ("DroneLightShow$Verb", 91, "form "), ("DroneLightShow$Verb", 94, "clear "), ("DroneLightShow$Verb", 97, "assign "), ("DroneLightShow$Verb", 100, "tick "), ("DroneLightShow$Verb", 103, "colour "), ("DroneLightShow$Verb", 105, "131")]
/-- the exceptions that are caught by name -/
def excL : List String := ["java/lang/IndexOutOfBoundsException", "java/lang/IllegalArgumentException", "java/lang/IllegalStateException", "java/lang/UnsupportedOperationException", "java/util/NoSuchElementException", "java/lang/ArithmeticException"]
/-- the texts of the verbs: their words, then the widths -/
def strT : List (List Int32) := [[97, 100, 100, 32], [112, 97, 100, 32], [111, 102, 102, 32], [108, 97, 110, 100, 32], [115, 101, 110, 100, 32], [114, 101, 115, 101, 114, 118, 101, 32], [102, 111, 114, 109, 32], [99, 108, 101, 97, 114, 32], [97, 115, 115, 105, 103, 110, 32], [116, 105, 99, 107, 32], [99, 111, 108, 111, 117, 114, 32], [51], [49], [49, 51], [49, 51, 49]]
/-- the widths' text of each verb -/
def wdx : Nat → Nat := fun k => [11, 11, 12, 12, 13, 11, 13, 12, 12, 11, 14].getD k 0
def swm : Nat → Int32 := fun k => [1, 2, 3, 4, 5, 6, 7, 8, 9, 10, 0].getD k 0
/-- the verbs, their table, the switch's table and the texts lie in the heap of the start; aC from 100 on: where -/
def SG (s0 : State) (aC : Nat → Nat) : Prop := ∀ A : Nat → Prop, A = (fun q => s0.heap.size ≤ q) →
  va_Z "DroneLightShow" "VERBS" "[LDroneLightShow$Verb;" (.ref (aC 100)) A s0 s0.heap ∧ va_T (.object "DroneLightShow$Verb") (aC 100) 11 (fun j => .ref (aC (110 + j))) A s0 s0.heap ∧
  va_Z "DroneLightShow$1" "$SwitchMap$DroneLightShow$Verb" "[I" (.ref (aC 101)) A s0 s0.heap ∧ va_T .int (aC 101) 11 (fun j => .int (swm j)) A s0 s0.heap ∧
  (∀ k, k < 11 → va_O "DroneLightShow$Verb" (aC (110 + k)) A s0 s0.heap ∧ va_OF "java/lang/Enum" "ordinal" "I" (.int (nI k)) (aC (110 + k)) A s0 s0.heap ∧ va_OF "DroneLightShow$Verb" "word" "Ljava/lang/String;" (.ref (aC (130 + k))) (aC (110 + k)) A s0 s0.heap ∧ va_OF "DroneLightShow$Verb" "widths" "Ljava/lang/String;" (.ref (aC (130 + wdx k))) (aC (110 + k)) A s0 s0.heap) ∧
  (∀ i j, i < 11 → j < 11 → aC (110 + i) = aC (110 + j) → i = j) ∧
  (∀ j, j < 15 → va_O "java/lang/String" (aC (130 + j)) A s0 s0.heap ∧ va_OF "java/lang/String" "coder" "B" (.int 0) (aC (130 + j)) A s0 s0.heap ∧ va_OF "java/lang/String" "value" "[B" (.ref (aC (150 + j))) (aC (130 + j)) A s0 s0.heap ∧ va_T .byte (aC (150 + j)) (strT.getD j []).length (fun i => .int ((strT.getD j []).getD i 0)) A s0 s0.heap) ∧
  va_Z "java/lang/String" "COMPACT_STRINGS" "Z" (.int 1) A s0 s0.heap ∧ va_Zq "jdk/internal/util/Preconditions" "SIOOBE_FORMATTER" "Ljava/util/function/BiFunction;" A s0 s0.heap ∧ ∃ (c : ClassId) (k : Class), s0.vm.findClass "DroneLightShow$Verb" = some c ∧ s0.vm.classes[c]? = some k ∧ s0.vm.assignable c c = true
/-- what the heap of the start gives for good: classes, the two statics of Throwable -/
def Gl (s0 : State) (D : va_G) (aC : Nat → ClassId) : Prop := va_K D vwCl (tysL aC) s0 ∧ 0 < s0.heap.size ∧ vx_Zq Bundle.tN "UNASSIGNED_STACK" Bundle.steD (fun q => s0.heap.size ≤ q) s0 s0.heap ∧ vx_Zq Bundle.tN "SUPPRESSED_SENTINEL" Bundle.listD (fun q => s0.heap.size ≤ q) s0 s0.heap ∧ (∃ a0 : Array Value, ∀ w ∈ lw_tbl, w.before a0 s0 = true) ∧ (∀ q ∈ strL, ∃ a : Nat, vk_R q.1 q.2.1 q.2.2 a s0) ∧ (∀ E ∈ excL, ∀ E' ∈ excL, E ≠ E' → va_Nc E E' s0) ∧ SG s0 aC
/-- the heap H holds the memory μ; place 0 keeps, where it is kept, the size of the heap -/
def VM (s0 : State) (D : va_G) (aC : Nat → ClassId) (μ : Me) (H : Heap) : Prop := s0.heap.size ≤ H.size ∧ (∀ q : Nat, q < s0.heap.size → H[q]? = s0.heap[q]?) ∧ (∀ (a : Nat) (e : E_), a ≠ 0 → μ a = some e → s0.heap.size ≤ a ∧ va_at D vwCl (a, tr_ aC e) H) ∧ ∀ z : E_, μ 0 = some z → ∃ n : Nat, z = .inr (n, []) ∧ H.size = n
/-- a method's surroundings, in one -/
abbrev Cx : Type := Program × Launch × Env × Room × State × MethodId × Array Value × List Frame × Method × Code × (State → Prop) × State × va_G × (Nat → ClassId) × Nat
def V {α : Type} (κ : Cx) (ρ : (α ⊕ String) × Me) (k n : Nat) (μ : Me) (x : Rs α) (pc : Nat) (lv : List (Nat × Value)) (st : List Value) : Prop := match κ with
  | (p, l, e, R, s, m, args, below, meth, c, Q, s0, D, aC, nL) => x = some ρ → ∀ (H : Heap) (locs : List Loc) (ls : Array Slot), VM s0 D aC μ H → (∀ z ∈ locs, s0.heap.size ≤ z.base) → lv_has ls nL lv → W p l e R s m args below meth c H locs k n Q (F0 m pc ls st)
def Fx (κ : Cx) (cc : ByteArray) (own : String) : Prop := match κ with
  | (p, l, e, R, s, m, args, below, meth, c, Q, s0, D, aC, nL) => p.tables.exec = Jvm.exec ∧ c.code = cc ∧ c.maxLocals = nL ∧ s.vm.findClass own = some m.cls ∧ (∀ w ∈ WA, w.before args s = true) ∧ Gl s0 D aC ∧ s0.WarmedH s.vm ∧ s0.heap.size ≤ s.heap.size ∧ (∀ q : Nat, q < s0.heap.size → s.heap[q]? = s0.heap[q]?) ∧ l.stackTraces = false
theorem V_none {α : Type} {κ : Cx} {ρ : (α ⊕ String) × Me} {k n : Nat} {μ : Me} {pc : Nat} {lv : List (Nat × Value)} {st : List Value} : V κ ρ k n μ (none : Rs α) pc lv st := by
  obtain ⟨p, l, e, R, s, m, args, below, meth, c, Q, s0, D, aC, nL⟩ := κ
  intro hx
  cases hx
theorem V_sub {α : Type} {κ : Cx} {ρ : (α ⊕ String) × Me} {k n : Nat} {μ : Me} {x : Rs α} {pc : Nat} {lv lv' : List (Nat × Value)} {st : List Value} (ks : List Nat) (hk : lv_pick lv ks = lv') (kk : V κ ρ k n μ x pc lv' st) : V κ ρ k n μ x pc lv st := by
  obtain ⟨p, l, e, R, s, m, args, below, meth, c, Q, s0, D, aC, nL⟩ := κ
  intro hx H locs ls hM hloc hl
  exact kk hx H locs ls hM hloc (lv_sub hl ks hk)
theorem V_widen {α : Type} {κ : Cx} {ρ : (α ⊕ String) × Me} {k n k' n' : Nat} {μ : Me} {x : Rs α} {pc : Nat} {lv : List (Nat × Value)} {st : List Value} (h1 : k ≤ k') (h2 : n ≤ n') (kk : V κ ρ k' n' μ x pc lv st) : V κ ρ k n μ x pc lv st := by
  obtain ⟨p, l, e, R, s, m, args, below, meth, c, Q, s0, D, aC, nL⟩ := κ
  intro hx H locs ls hM hloc hl
  exact W.widen h1 h2 (kk hx H locs ls hM hloc hl)
theorem lt_L {a b n : Nat} (h : a = n) (h2 : b < n) : b < a := by omega
def nn32 (r : UInt32) : Bool := decide (r &&& 0x7fffffff ≤ 0x7f800000)
def nn64 (r : UInt64) : Bool := decide (r &&& 0x7fffffffffffffff ≤ 0x7ff0000000000000)
theorem nn32_ok {r : UInt32} (h : nn32 r = true) : vf_n32 r := by
  unfold nn32 at h
  unfold vf_n32
  exact of_decide_eq_true h
theorem nn64_ok {r : UInt64} (h : nn64 r = true) : vf_n64 r := by
  unfold nn64 at h
  unfold vf_n64
  exact of_decide_eq_true h
theorem nar_z {x : Int32} (h : vp_nar .boolean x = x) : narrow .boolean (.int x) = .int x := by
  have h1 : narrow .boolean (.int x) = .int (vp_nar .boolean x) := by unfold vp_nar; rfl
  rw [h1, h]
theorem nar_c {x : Int32} (h : vp_nar .char x = x) : narrow .char (.int x) = .int x := by
  have h1 : narrow .char (.int x) = .int (vp_nar .char x) := by unfold vp_nar; rfl
  rw [h1, h]
theorem fit_z {x : Int32} (h : vp_nar .boolean x = x) : fits .boolean (.int x) = true := by
  have h1 : vp_nar .boolean x = x &&& 1 := rfl
  rw [h1] at h
  obtain ⟨j, hj, e⟩ := pk_andE x (m := 1) 1 (by decide)
  rw [h] at e
  subst e
  match j, hj with
  | 0, _ => rfl
  | 1, _ => rfl
  | j + 2, hj => exact absurd hj (by omega)
section VB
variable {α : Type} {κ : Cx} {ρ : (α ⊕ String) × Me} {k n : Nat} {μ : Me} {x : Rs α} {pc : Nat} {lv : List (Nat × Value)} {st : List Value} {cc : ByteArray} {own : String}
theorem V_iconst {z : Int} {v : Int32} (F : Fx κ cc own) (d : decode cc pc = .ok (.iconst z, 1)) (hv : Int32.ofInt z = v) (kk : V κ ρ k n μ x (pc + 1) lv (.int v :: st)) : V κ ρ k n μ x pc lv (st) := by
  obtain ⟨p, l, e, R, s, m, args, below, meth, c, Q, s0, D, aC, nL⟩ := κ
  intro hx H locs ls hM hloc hl
  exact lv_iconst F.1 F.2.1 d hv (kk hx H locs ls hM hloc hl)
theorem V_bipush {z : Int} {v : Int32} (F : Fx κ cc own) (d : decode cc pc = .ok (.bipush z, 2)) (hv : (Int8.ofInt z).toInt32 = v) (kk : V κ ρ k n μ x (pc + 2) lv (.int v :: st)) : V κ ρ k n μ x pc lv (st) := by
  obtain ⟨p, l, e, R, s, m, args, below, meth, c, Q, s0, D, aC, nL⟩ := κ
  intro hx H locs ls hM hloc hl
  exact lv_bipush F.1 F.2.1 d hv (kk hx H locs ls hM hloc hl)
theorem V_sipush {z : Int} {v : Int32} (F : Fx κ cc own) (d : decode cc pc = .ok (.sipush z, 3)) (hv : (Int16.ofInt z).toInt32 = v) (kk : V κ ρ k n μ x (pc + 3) lv (.int v :: st)) : V κ ρ k n μ x pc lv (st) := by
  obtain ⟨p, l, e, R, s, m, args, below, meth, c, Q, s0, D, aC, nL⟩ := κ
  intro hx H locs ls hM hloc hl
  exact lv_sipush F.1 F.2.1 d hv (kk hx H locs ls hM hloc hl)
theorem V_lconst {z : Fin 2} {v : Int64} (F : Fx κ cc own) (d : decode cc pc = .ok (.lconst z, 1)) (hv : Int64.ofNat (z : Nat) = v) (kk : V κ ρ k n μ x (pc + 1) lv (.long v :: st)) : V κ ρ k n μ x pc lv (st) := by
  obtain ⟨p, l, e, R, s, m, args, below, meth, c, Q, s0, D, aC, nL⟩ := κ
  intro hx H locs ls hM hloc hl
  exact lv_lconst F.1 F.2.1 d hv (kk hx H locs ls hM hloc hl)
theorem V_fconst0 (F : Fx κ cc own) (d : decode cc pc = .ok (.fconst 0, 1)) (kk : V κ ρ k n μ x (pc + 1) lv (.float FP.fconst0 :: st)) : V κ ρ k n μ x pc lv (st) := by
  obtain ⟨p, l, e, R, s, m, args, below, meth, c, Q, s0, D, aC, nL⟩ := κ
  intro hx H locs ls hM hloc hl
  exact lv_fconst0 F.1 F.2.1 d (kk hx H locs ls hM hloc hl)
theorem V_fconst1 (F : Fx κ cc own) (d : decode cc pc = .ok (.fconst 1, 1)) (kk : V κ ρ k n μ x (pc + 1) lv (.float FP.fconst1 :: st)) : V κ ρ k n μ x pc lv (st) := by
  obtain ⟨p, l, e, R, s, m, args, below, meth, c, Q, s0, D, aC, nL⟩ := κ
  intro hx H locs ls hM hloc hl
  exact lv_fconst1 F.1 F.2.1 d (kk hx H locs ls hM hloc hl)
theorem V_fconst2 (F : Fx κ cc own) (d : decode cc pc = .ok (.fconst 2, 1)) (kk : V κ ρ k n μ x (pc + 1) lv (.float FP.fconst2 :: st)) : V κ ρ k n μ x pc lv (st) := by
  obtain ⟨p, l, e, R, s, m, args, below, meth, c, Q, s0, D, aC, nL⟩ := κ
  intro hx H locs ls hM hloc hl
  exact lv_fconst2 F.1 F.2.1 d (kk hx H locs ls hM hloc hl)
theorem V_dconst0 (F : Fx κ cc own) (d : decode cc pc = .ok (.dconst 0, 1)) (kk : V κ ρ k n μ x (pc + 1) lv (.double FP.dconst0 :: st)) : V κ ρ k n μ x pc lv (st) := by
  obtain ⟨p, l, e, R, s, m, args, below, meth, c, Q, s0, D, aC, nL⟩ := κ
  intro hx H locs ls hM hloc hl
  exact lv_dconst0 F.1 F.2.1 d (kk hx H locs ls hM hloc hl)
theorem V_null (F : Fx κ cc own) (d : decode cc pc = .ok (.aconst_null, 1)) (kk : V κ ρ k n μ x (pc + 1) lv (.null :: st)) : V κ ρ k n μ x pc lv (st) := by
  obtain ⟨p, l, e, R, s, m, args, below, meth, c, Q, s0, D, aC, nL⟩ := κ
  intro hx H locs ls hM hloc hl
  exact lv_null F.1 F.2.1 d (kk hx H locs ls hM hloc hl)
theorem V_iload_n {q : Fin 4} {i : Nat} {v : Int32} (F : Fx κ cc own) (d : decode cc pc = .ok (.iload_n q, 1)) (hi : (q : Nat) = i) (j : Nat) (hj : lv[j]? = some (i, .int v)) (kk : V κ ρ k n μ x (pc + 1) lv (.int v :: st)) : V κ ρ k n μ x pc lv (st) := by
  obtain ⟨p, l, e, R, s, m, args, below, meth, c, Q, s0, D, aC, nL⟩ := κ
  intro hx H locs ls hM hloc hl
  exact lv_iload_n F.1 F.2.1 d hi (lv_at hl j hj) (kk hx H locs ls hM hloc hl)
theorem V_iload {i : Nat} {v : Int32} (F : Fx κ cc own) (d : decode cc pc = .ok (.iload i, 2)) (j : Nat) (hj : lv[j]? = some (i, .int v)) (kk : V κ ρ k n μ x (pc + 2) lv (.int v :: st)) : V κ ρ k n μ x pc lv (st) := by
  obtain ⟨p, l, e, R, s, m, args, below, meth, c, Q, s0, D, aC, nL⟩ := κ
  intro hx H locs ls hM hloc hl
  exact lv_iload F.1 F.2.1 d (lv_at hl j hj) (kk hx H locs ls hM hloc hl)
theorem V_lload_n {q : Fin 4} {i : Nat} {v : Int64} (F : Fx κ cc own) (d : decode cc pc = .ok (.lload_n q, 1)) (hi : (q : Nat) = i) (j : Nat) (hj : lv[j]? = some (i, .long v)) (kk : V κ ρ k n μ x (pc + 1) lv (.long v :: st)) : V κ ρ k n μ x pc lv (st) := by
  obtain ⟨p, l, e, R, s, m, args, below, meth, c, Q, s0, D, aC, nL⟩ := κ
  intro hx H locs ls hM hloc hl
  exact lv_lload_n F.1 F.2.1 d hi (lv_at hl j hj) (kk hx H locs ls hM hloc hl)
theorem V_lload {i : Nat} {v : Int64} (F : Fx κ cc own) (d : decode cc pc = .ok (.lload i, 2)) (j : Nat) (hj : lv[j]? = some (i, .long v)) (kk : V κ ρ k n μ x (pc + 2) lv (.long v :: st)) : V κ ρ k n μ x pc lv (st) := by
  obtain ⟨p, l, e, R, s, m, args, below, meth, c, Q, s0, D, aC, nL⟩ := κ
  intro hx H locs ls hM hloc hl
  exact lv_lload F.1 F.2.1 d (lv_at hl j hj) (kk hx H locs ls hM hloc hl)
theorem V_fload_n {q : Fin 4} {i : Nat} {v : UInt32} (F : Fx κ cc own) (d : decode cc pc = .ok (.fload_n q, 1)) (hi : (q : Nat) = i) (j : Nat) (hj : lv[j]? = some (i, .float v)) (kk : V κ ρ k n μ x (pc + 1) lv (.float v :: st)) : V κ ρ k n μ x pc lv (st) := by
  obtain ⟨p, l, e, R, s, m, args, below, meth, c, Q, s0, D, aC, nL⟩ := κ
  intro hx H locs ls hM hloc hl
  exact lv_fload_n F.1 F.2.1 d hi (lv_at hl j hj) (kk hx H locs ls hM hloc hl)
theorem V_fload {i : Nat} {v : UInt32} (F : Fx κ cc own) (d : decode cc pc = .ok (.fload i, 2)) (j : Nat) (hj : lv[j]? = some (i, .float v)) (kk : V κ ρ k n μ x (pc + 2) lv (.float v :: st)) : V κ ρ k n μ x pc lv (st) := by
  obtain ⟨p, l, e, R, s, m, args, below, meth, c, Q, s0, D, aC, nL⟩ := κ
  intro hx H locs ls hM hloc hl
  exact lv_fload F.1 F.2.1 d (lv_at hl j hj) (kk hx H locs ls hM hloc hl)
theorem V_dload_n {q : Fin 4} {i : Nat} {v : UInt64} (F : Fx κ cc own) (d : decode cc pc = .ok (.dload_n q, 1)) (hi : (q : Nat) = i) (j : Nat) (hj : lv[j]? = some (i, .double v)) (kk : V κ ρ k n μ x (pc + 1) lv (.double v :: st)) : V κ ρ k n μ x pc lv (st) := by
  obtain ⟨p, l, e, R, s, m, args, below, meth, c, Q, s0, D, aC, nL⟩ := κ
  intro hx H locs ls hM hloc hl
  exact lv_dload_n F.1 F.2.1 d hi (lv_at hl j hj) (kk hx H locs ls hM hloc hl)
theorem V_dload {i : Nat} {v : UInt64} (F : Fx κ cc own) (d : decode cc pc = .ok (.dload i, 2)) (j : Nat) (hj : lv[j]? = some (i, .double v)) (kk : V κ ρ k n μ x (pc + 2) lv (.double v :: st)) : V κ ρ k n μ x pc lv (st) := by
  obtain ⟨p, l, e, R, s, m, args, below, meth, c, Q, s0, D, aC, nL⟩ := κ
  intro hx H locs ls hM hloc hl
  exact lv_dload F.1 F.2.1 d (lv_at hl j hj) (kk hx H locs ls hM hloc hl)
theorem V_aload_n {q : Fin 4} {i : Nat} {v : Nat} (F : Fx κ cc own) (d : decode cc pc = .ok (.aload_n q, 1)) (hi : (q : Nat) = i) (j : Nat) (hj : lv[j]? = some (i, .ref v)) (kk : V κ ρ k n μ x (pc + 1) lv (.ref v :: st)) : V κ ρ k n μ x pc lv (st) := by
  obtain ⟨p, l, e, R, s, m, args, below, meth, c, Q, s0, D, aC, nL⟩ := κ
  intro hx H locs ls hM hloc hl
  exact lv_aload_n F.1 F.2.1 d hi (lv_at hl j hj) (kk hx H locs ls hM hloc hl)
theorem V_aload {i : Nat} {v : Nat} (F : Fx κ cc own) (d : decode cc pc = .ok (.aload i, 2)) (j : Nat) (hj : lv[j]? = some (i, .ref v)) (kk : V κ ρ k n μ x (pc + 2) lv (.ref v :: st)) : V κ ρ k n μ x pc lv (st) := by
  obtain ⟨p, l, e, R, s, m, args, below, meth, c, Q, s0, D, aC, nL⟩ := κ
  intro hx H locs ls hM hloc hl
  exact lv_aload F.1 F.2.1 d (lv_at hl j hj) (kk hx H locs ls hM hloc hl)
theorem V_aload_nN {q : Fin 4} {i : Nat} (F : Fx κ cc own) (d : decode cc pc = .ok (.aload_n q, 1)) (hi : (q : Nat) = i) (j : Nat) (hj : lv[j]? = some (i, .null)) (kk : V κ ρ k n μ x (pc + 1) lv (.null :: st)) : V κ ρ k n μ x pc lv (st) := by
  obtain ⟨p, l, e, R, s, m, args, below, meth, c, Q, s0, D, aC, nL⟩ := κ
  intro hx H locs ls hM hloc hl
  exact lv_aload_nN F.1 F.2.1 d hi (lv_at hl j hj) (kk hx H locs ls hM hloc hl)
theorem V_istore_n {q : Fin 4} {i : Nat} {v : Int32} {lv' : List (Nat × Value)} (F : Fx κ cc own) (d : decode cc pc = .ok (.istore_n q, 1)) (hi : (q : Nat) = i) (hn : i < κ.2.2.2.2.2.2.2.2.2.2.2.2.2.2) (hlv : (i, Value.int v) :: lv.filter (fun q => !(q.1 == i) && !(q.1 + 1 == i && q.2.category == 2)) = lv') (kk : V κ ρ k n μ x (pc + 1) lv' st) : V κ ρ k n μ x pc lv (.int v :: st) := by
  obtain ⟨p, l, e, R, s, m, args, below, meth, c, Q, s0, D, aC, nL⟩ := κ
  intro hx H locs ls hM hloc hl
  exact lv_istore_n F.1 F.2.1 d hi hl hn hlv (fun ls' hl' => kk hx H locs ls' hM hloc hl')
theorem V_istore {i : Nat} {v : Int32} {lv' : List (Nat × Value)} (F : Fx κ cc own) (d : decode cc pc = .ok (.istore i, 2)) (hn : i < κ.2.2.2.2.2.2.2.2.2.2.2.2.2.2) (hlv : (i, Value.int v) :: lv.filter (fun q => !(q.1 == i) && !(q.1 + 1 == i && q.2.category == 2)) = lv') (kk : V κ ρ k n μ x (pc + 2) lv' st) : V κ ρ k n μ x pc lv (.int v :: st) := by
  obtain ⟨p, l, e, R, s, m, args, below, meth, c, Q, s0, D, aC, nL⟩ := κ
  intro hx H locs ls hM hloc hl
  exact lv_istore F.1 F.2.1 d hl hn hlv (fun ls' hl' => kk hx H locs ls' hM hloc hl')
theorem V_lstore_n {q : Fin 4} {i : Nat} {v : Int64} {lv' : List (Nat × Value)} (F : Fx κ cc own) (d : decode cc pc = .ok (.lstore_n q, 1)) (hi : (q : Nat) = i) (hn : i + 1 < κ.2.2.2.2.2.2.2.2.2.2.2.2.2.2) (hlv : (i, Value.long v) :: lv.filter (fun q => !(q.1 == i) && (!(q.1 == i + 1) && !(q.1 + 1 == i && q.2.category == 2))) = lv') (kk : V κ ρ k n μ x (pc + 1) lv' st) : V κ ρ k n μ x pc lv (.long v :: st) := by
  obtain ⟨p, l, e, R, s, m, args, below, meth, c, Q, s0, D, aC, nL⟩ := κ
  intro hx H locs ls hM hloc hl
  exact lv_lstore_n F.1 F.2.1 d hi hl hn hlv (fun ls' hl' => kk hx H locs ls' hM hloc hl')
theorem V_lstore {i : Nat} {v : Int64} {lv' : List (Nat × Value)} (F : Fx κ cc own) (d : decode cc pc = .ok (.lstore i, 2)) (hn : i + 1 < κ.2.2.2.2.2.2.2.2.2.2.2.2.2.2) (hlv : (i, Value.long v) :: lv.filter (fun q => !(q.1 == i) && (!(q.1 == i + 1) && !(q.1 + 1 == i && q.2.category == 2))) = lv') (kk : V κ ρ k n μ x (pc + 2) lv' st) : V κ ρ k n μ x pc lv (.long v :: st) := by
  obtain ⟨p, l, e, R, s, m, args, below, meth, c, Q, s0, D, aC, nL⟩ := κ
  intro hx H locs ls hM hloc hl
  exact lv_lstore F.1 F.2.1 d hl hn hlv (fun ls' hl' => kk hx H locs ls' hM hloc hl')
theorem V_fstore_n {q : Fin 4} {i : Nat} {v : UInt32} {lv' : List (Nat × Value)} (F : Fx κ cc own) (d : decode cc pc = .ok (.fstore_n q, 1)) (hi : (q : Nat) = i) (hn : i < κ.2.2.2.2.2.2.2.2.2.2.2.2.2.2) (hlv : (i, Value.float v) :: lv.filter (fun q => !(q.1 == i) && !(q.1 + 1 == i && q.2.category == 2)) = lv') (kk : V κ ρ k n μ x (pc + 1) lv' st) : V κ ρ k n μ x pc lv (.float v :: st) := by
  obtain ⟨p, l, e, R, s, m, args, below, meth, c, Q, s0, D, aC, nL⟩ := κ
  intro hx H locs ls hM hloc hl
  exact lv_fstore_n F.1 F.2.1 d hi hl hn hlv (fun ls' hl' => kk hx H locs ls' hM hloc hl')
theorem V_fstore {i : Nat} {v : UInt32} {lv' : List (Nat × Value)} (F : Fx κ cc own) (d : decode cc pc = .ok (.fstore i, 2)) (hn : i < κ.2.2.2.2.2.2.2.2.2.2.2.2.2.2) (hlv : (i, Value.float v) :: lv.filter (fun q => !(q.1 == i) && !(q.1 + 1 == i && q.2.category == 2)) = lv') (kk : V κ ρ k n μ x (pc + 2) lv' st) : V κ ρ k n μ x pc lv (.float v :: st) := by
  obtain ⟨p, l, e, R, s, m, args, below, meth, c, Q, s0, D, aC, nL⟩ := κ
  intro hx H locs ls hM hloc hl
  exact lv_fstore F.1 F.2.1 d hl hn hlv (fun ls' hl' => kk hx H locs ls' hM hloc hl')
theorem V_dstore_n {q : Fin 4} {i : Nat} {v : UInt64} {lv' : List (Nat × Value)} (F : Fx κ cc own) (d : decode cc pc = .ok (.dstore_n q, 1)) (hi : (q : Nat) = i) (hn : i + 1 < κ.2.2.2.2.2.2.2.2.2.2.2.2.2.2) (hlv : (i, Value.double v) :: lv.filter (fun q => !(q.1 == i) && (!(q.1 == i + 1) && !(q.1 + 1 == i && q.2.category == 2))) = lv') (kk : V κ ρ k n μ x (pc + 1) lv' st) : V κ ρ k n μ x pc lv (.double v :: st) := by
  obtain ⟨p, l, e, R, s, m, args, below, meth, c, Q, s0, D, aC, nL⟩ := κ
  intro hx H locs ls hM hloc hl
  exact lv_dstore_n F.1 F.2.1 d hi hl hn hlv (fun ls' hl' => kk hx H locs ls' hM hloc hl')
theorem V_dstore {i : Nat} {v : UInt64} {lv' : List (Nat × Value)} (F : Fx κ cc own) (d : decode cc pc = .ok (.dstore i, 2)) (hn : i + 1 < κ.2.2.2.2.2.2.2.2.2.2.2.2.2.2) (hlv : (i, Value.double v) :: lv.filter (fun q => !(q.1 == i) && (!(q.1 == i + 1) && !(q.1 + 1 == i && q.2.category == 2))) = lv') (kk : V κ ρ k n μ x (pc + 2) lv' st) : V κ ρ k n μ x pc lv (.double v :: st) := by
  obtain ⟨p, l, e, R, s, m, args, below, meth, c, Q, s0, D, aC, nL⟩ := κ
  intro hx H locs ls hM hloc hl
  exact lv_dstore F.1 F.2.1 d hl hn hlv (fun ls' hl' => kk hx H locs ls' hM hloc hl')
theorem V_astore_n {q : Fin 4} {i : Nat} {v : Nat} {lv' : List (Nat × Value)} (F : Fx κ cc own) (d : decode cc pc = .ok (.astore_n q, 1)) (hi : (q : Nat) = i) (hn : i < κ.2.2.2.2.2.2.2.2.2.2.2.2.2.2) (hlv : (i, Value.ref v) :: lv.filter (fun q => !(q.1 == i) && !(q.1 + 1 == i && q.2.category == 2)) = lv') (kk : V κ ρ k n μ x (pc + 1) lv' st) : V κ ρ k n μ x pc lv (.ref v :: st) := by
  obtain ⟨p, l, e, R, s, m, args, below, meth, c, Q, s0, D, aC, nL⟩ := κ
  intro hx H locs ls hM hloc hl
  exact lv_astore_n F.1 F.2.1 d hi hl hn hlv (fun ls' hl' => kk hx H locs ls' hM hloc hl')
theorem V_astore {i : Nat} {v : Nat} {lv' : List (Nat × Value)} (F : Fx κ cc own) (d : decode cc pc = .ok (.astore i, 2)) (hn : i < κ.2.2.2.2.2.2.2.2.2.2.2.2.2.2) (hlv : (i, Value.ref v) :: lv.filter (fun q => !(q.1 == i) && !(q.1 + 1 == i && q.2.category == 2)) = lv') (kk : V κ ρ k n μ x (pc + 2) lv' st) : V κ ρ k n μ x pc lv (.ref v :: st) := by
  obtain ⟨p, l, e, R, s, m, args, below, meth, c, Q, s0, D, aC, nL⟩ := κ
  intro hx H locs ls hM hloc hl
  exact lv_astore F.1 F.2.1 d hl hn hlv (fun ls' hl' => kk hx H locs ls' hM hloc hl')
theorem V_astore_nN {q : Fin 4} {i : Nat} {lv' : List (Nat × Value)} (F : Fx κ cc own) (d : decode cc pc = .ok (.astore_n q, 1)) (hi : (q : Nat) = i) (hn : i < κ.2.2.2.2.2.2.2.2.2.2.2.2.2.2) (hlv : (i, Value.null) :: lv.filter (fun q => !(q.1 == i) && !(q.1 + 1 == i && q.2.category == 2)) = lv') (kk : V κ ρ k n μ x (pc + 1) lv' st) : V κ ρ k n μ x pc lv (.null :: st) := by
  obtain ⟨p, l, e, R, s, m, args, below, meth, c, Q, s0, D, aC, nL⟩ := κ
  intro hx H locs ls hM hloc hl
  exact lv_astore_nN F.1 F.2.1 d hi hl hn hlv (fun ls' hl' => kk hx H locs ls' hM hloc hl')
theorem V_iinc {i : Nat} {z : Int} {a v : Int32} {lv' : List (Nat × Value)} (F : Fx κ cc own) (d : decode cc pc = .ok (.iinc i z, 3)) (j : Nat) (hj : lv[j]? = some (i, .int a)) (hv : a + Int32.ofInt z = v) (hn : i < κ.2.2.2.2.2.2.2.2.2.2.2.2.2.2) (hlv : (i, Value.int v) :: lv.filter (fun q => !(q.1 == i) && !(q.1 + 1 == i && q.2.category == 2)) = lv') (kk : V κ ρ k n μ x (pc + 3) lv' st) : V κ ρ k n μ x pc lv st := by
  obtain ⟨p, l, e, R, s, m, args, below, meth, c, Q, s0, D, aC, nL⟩ := κ
  intro hx H locs ls hM hloc hl
  exact lv_iinc F.1 F.2.1 d hl (k := j) hj hv hn hlv (fun ls' hl' => kk hx H locs ls' hM hloc hl')
theorem V_iadd {a b : Int32} (F : Fx κ cc own) (d : decode cc pc = .ok (.iadd, 1)) (kk : V κ ρ k n μ x (pc + 1) lv (.int (a + b) :: st)) : V κ ρ k n μ x pc lv (.int b :: .int a :: st) := by
  obtain ⟨p, l, e, R, s, m, args, below, meth, c, Q, s0, D, aC, nL⟩ := κ
  intro hx H locs ls hM hloc hl
  exact lv_iadd F.1 F.2.1 d (kk hx H locs ls hM hloc hl)
theorem V_isub {a b : Int32} (F : Fx κ cc own) (d : decode cc pc = .ok (.isub, 1)) (kk : V κ ρ k n μ x (pc + 1) lv (.int (a - b) :: st)) : V κ ρ k n μ x pc lv (.int b :: .int a :: st) := by
  obtain ⟨p, l, e, R, s, m, args, below, meth, c, Q, s0, D, aC, nL⟩ := κ
  intro hx H locs ls hM hloc hl
  exact lv_isub F.1 F.2.1 d (kk hx H locs ls hM hloc hl)
theorem V_imul {a b : Int32} (F : Fx κ cc own) (d : decode cc pc = .ok (.imul, 1)) (kk : V κ ρ k n μ x (pc + 1) lv (.int (a * b) :: st)) : V κ ρ k n μ x pc lv (.int b :: .int a :: st) := by
  obtain ⟨p, l, e, R, s, m, args, below, meth, c, Q, s0, D, aC, nL⟩ := κ
  intro hx H locs ls hM hloc hl
  exact lv_imul F.1 F.2.1 d (kk hx H locs ls hM hloc hl)
theorem V_iand {a b : Int32} (F : Fx κ cc own) (d : decode cc pc = .ok (.iand, 1)) (kk : V κ ρ k n μ x (pc + 1) lv (.int (a &&& b) :: st)) : V κ ρ k n μ x pc lv (.int b :: .int a :: st) := by
  obtain ⟨p, l, e, R, s, m, args, below, meth, c, Q, s0, D, aC, nL⟩ := κ
  intro hx H locs ls hM hloc hl
  exact lv_iand F.1 F.2.1 d (kk hx H locs ls hM hloc hl)
theorem V_ior {a b : Int32} (F : Fx κ cc own) (d : decode cc pc = .ok (.ior, 1)) (kk : V κ ρ k n μ x (pc + 1) lv (.int (a ||| b) :: st)) : V κ ρ k n μ x pc lv (.int b :: .int a :: st) := by
  obtain ⟨p, l, e, R, s, m, args, below, meth, c, Q, s0, D, aC, nL⟩ := κ
  intro hx H locs ls hM hloc hl
  exact lv_ior F.1 F.2.1 d (kk hx H locs ls hM hloc hl)
theorem V_ishl {a b : Int32} (F : Fx κ cc own) (d : decode cc pc = .ok (.ishl, 1)) (kk : V κ ρ k n μ x (pc + 1) lv (.int (a <<< (b &&& 31)) :: st)) : V κ ρ k n μ x pc lv (.int b :: .int a :: st) := by
  obtain ⟨p, l, e, R, s, m, args, below, meth, c, Q, s0, D, aC, nL⟩ := κ
  intro hx H locs ls hM hloc hl
  exact lv_ishl F.1 F.2.1 d (kk hx H locs ls hM hloc hl)
theorem V_ishr {a b : Int32} (F : Fx κ cc own) (d : decode cc pc = .ok (.ishr, 1)) (kk : V κ ρ k n μ x (pc + 1) lv (.int (a >>> (b &&& 31)) :: st)) : V κ ρ k n μ x pc lv (.int b :: .int a :: st) := by
  obtain ⟨p, l, e, R, s, m, args, below, meth, c, Q, s0, D, aC, nL⟩ := κ
  intro hx H locs ls hM hloc hl
  exact lv_ishr F.1 F.2.1 d (kk hx H locs ls hM hloc hl)
theorem V_idiv {a b : Int32} (F : Fx κ cc own) (d : decode cc pc = .ok (.idiv, 1)) (hne : ¬ b = 0) (kk : V κ ρ k n μ x (pc + 1) lv (.int (a / b) :: st)) : V κ ρ k n μ x pc lv (.int b :: .int a :: st) := by
  obtain ⟨p, l, e, R, s, m, args, below, meth, c, Q, s0, D, aC, nL⟩ := κ
  intro hx H locs ls hM hloc hl
  exact lv_idiv F.1 F.2.1 d hne (kk hx H locs ls hM hloc hl)
theorem V_irem {a b : Int32} (F : Fx κ cc own) (d : decode cc pc = .ok (.irem, 1)) (hne : ¬ b = 0) (kk : V κ ρ k n μ x (pc + 1) lv (.int (a - a / b * b) :: st)) : V κ ρ k n μ x pc lv (.int b :: .int a :: st) := by
  obtain ⟨p, l, e, R, s, m, args, below, meth, c, Q, s0, D, aC, nL⟩ := κ
  intro hx H locs ls hM hloc hl
  exact lv_irem F.1 F.2.1 d hne (kk hx H locs ls hM hloc hl)
theorem V_ineg {a : Int32} (F : Fx κ cc own) (d : decode cc pc = .ok (.ineg, 1)) (kk : V κ ρ k n μ x (pc + 1) lv (.int (-a) :: st)) : V κ ρ k n μ x pc lv (.int a :: st) := by
  obtain ⟨p, l, e, R, s, m, args, below, meth, c, Q, s0, D, aC, nL⟩ := κ
  intro hx H locs ls hM hloc hl
  exact lv_ineg F.1 F.2.1 d (kk hx H locs ls hM hloc hl)
theorem V_land {a b : Int64} (F : Fx κ cc own) (d : decode cc pc = .ok (.land, 1)) (kk : V κ ρ k n μ x (pc + 1) lv (.long (a &&& b) :: st)) : V κ ρ k n μ x pc lv (.long b :: .long a :: st) := by
  obtain ⟨p, l, e, R, s, m, args, below, meth, c, Q, s0, D, aC, nL⟩ := κ
  intro hx H locs ls hM hloc hl
  exact lv_land F.1 F.2.1 d (kk hx H locs ls hM hloc hl)
theorem V_lor {a b : Int64} (F : Fx κ cc own) (d : decode cc pc = .ok (.lor, 1)) (kk : V κ ρ k n μ x (pc + 1) lv (.long (a ||| b) :: st)) : V κ ρ k n μ x pc lv (.long b :: .long a :: st) := by
  obtain ⟨p, l, e, R, s, m, args, below, meth, c, Q, s0, D, aC, nL⟩ := κ
  intro hx H locs ls hM hloc hl
  exact lv_lor F.1 F.2.1 d (kk hx H locs ls hM hloc hl)
theorem V_lshl {a : Int64} {b : Int32} (F : Fx κ cc own) (d : decode cc pc = .ok (.lshl, 1)) (kk : V κ ρ k n μ x (pc + 1) lv (.long (a <<< (b.toInt64 &&& 63)) :: st)) : V κ ρ k n μ x pc lv (.int b :: .long a :: st) := by
  obtain ⟨p, l, e, R, s, m, args, below, meth, c, Q, s0, D, aC, nL⟩ := κ
  intro hx H locs ls hM hloc hl
  exact lv_lshl F.1 F.2.1 d rfl (kk hx H locs ls hM hloc hl)
theorem V_i2l {a : Int32} (F : Fx κ cc own) (d : decode cc pc = .ok (.i2l, 1)) (kk : V κ ρ k n μ x (pc + 1) lv (.long a.toInt64 :: st)) : V κ ρ k n μ x pc lv (.int a :: st) := by
  obtain ⟨p, l, e, R, s, m, args, below, meth, c, Q, s0, D, aC, nL⟩ := κ
  intro hx H locs ls hM hloc hl
  exact lv_i2l F.1 F.2.1 d rfl (kk hx H locs ls hM hloc hl)
theorem V_i2c {a : Int32} (F : Fx κ cc own) (d : decode cc pc = .ok (.i2c, 1)) (kk : V κ ρ k n μ x (pc + 1) lv (.int (a.toUInt32 % 65536).toInt32 :: st)) : V κ ρ k n μ x pc lv (.int a :: st) := by
  obtain ⟨p, l, e, R, s, m, args, below, meth, c, Q, s0, D, aC, nL⟩ := κ
  intro hx H locs ls hM hloc hl
  exact lv_i2c F.1 F.2.1 d rfl (kk hx H locs ls hM hloc hl)
theorem V_lcmp {a b : Int64} (F : Fx κ cc own) (d : decode cc pc = .ok (.lcmp, 1)) (kk : V κ ρ k n μ x (pc + 1) lv (.int (lg_cmp a b) :: st)) : V κ ρ k n μ x pc lv (.long b :: .long a :: st) := by
  obtain ⟨p, l, e, R, s, m, args, below, meth, c, Q, s0, D, aC, nL⟩ := κ
  intro hx H locs ls hM hloc hl
  exact W.lcmp F.1 F.2.1 d (kk hx H locs ls hM hloc hl)
theorem V_fcmp {a b : UInt32} {op : CmpOp} (F : Fx κ cc own) (d : decode cc pc = .ok (.fcmp op, 1)) (kk : V κ ρ k n μ x (pc + 1) lv (.int (Op.cmpValue (FP.fcmp a b) op) :: st)) : V κ ρ k n μ x pc lv (.float b :: .float a :: st) := by
  obtain ⟨p, l, e, R, s, m, args, below, meth, c, Q, s0, D, aC, nL⟩ := κ
  intro hx H locs ls hM hloc hl
  exact lv_fcmp F.1 F.2.1 d (kk hx H locs ls hM hloc hl)
theorem V_dcmp {a b : UInt64} {op : CmpOp} (F : Fx κ cc own) (d : decode cc pc = .ok (.dcmp op, 1)) (kk : V κ ρ k n μ x (pc + 1) lv (.int (Op.cmpValue (FP.dcmp a b) op) :: st)) : V κ ρ k n μ x pc lv (.double b :: .double a :: st) := by
  obtain ⟨p, l, e, R, s, m, args, below, meth, c, Q, s0, D, aC, nL⟩ := κ
  intro hx H locs ls hM hloc hl
  exact lv_dcmp F.1 F.2.1 d (kk hx H locs ls hM hloc hl)
theorem V_i2f {a : Int32} (F : Fx κ cc own) (d : decode cc pc = .ok (.i2f, 1)) (kk : V κ ρ k n μ x (pc + 1) lv (.float (FP.i2f a) :: st)) : V κ ρ k n μ x pc lv (.int a :: st) := by
  obtain ⟨p, l, e, R, s, m, args, below, meth, c, Q, s0, D, aC, nL⟩ := κ
  intro hx H locs ls hM hloc hl
  exact lv_i2f F.1 F.2.1 d (kk hx H locs ls hM hloc hl)
theorem V_i2d {a : Int32} (F : Fx κ cc own) (d : decode cc pc = .ok (.i2d, 1)) (kk : V κ ρ k n μ x (pc + 1) lv (.double (FP.i2d a) :: st)) : V κ ρ k n μ x pc lv (.int a :: st) := by
  obtain ⟨p, l, e, R, s, m, args, below, meth, c, Q, s0, D, aC, nL⟩ := κ
  intro hx H locs ls hM hloc hl
  exact lv_i2d F.1 F.2.1 d (kk hx H locs ls hM hloc hl)
theorem V_f2i {a : UInt32} (F : Fx κ cc own) (d : decode cc pc = .ok (.f2i, 1)) (kk : V κ ρ k n μ x (pc + 1) lv (.int (FP.f2i a) :: st)) : V κ ρ k n μ x pc lv (.float a :: st) := by
  obtain ⟨p, l, e, R, s, m, args, below, meth, c, Q, s0, D, aC, nL⟩ := κ
  intro hx H locs ls hM hloc hl
  exact lv_f2i F.1 F.2.1 d (kk hx H locs ls hM hloc hl)
theorem V_dup {v : Value} (F : Fx κ cc own) (d : decode cc pc = .ok (.dup, 1)) (hv : v.category = 1) (kk : V κ ρ k n μ x (pc + 1) lv (v :: v :: st)) : V κ ρ k n μ x pc lv (v :: st) := by
  obtain ⟨p, l, e, R, s, m, args, below, meth, c, Q, s0, D, aC, nL⟩ := κ
  intro hx H locs ls hM hloc hl
  exact lv_dup F.1 F.2.1 d hv (kk hx H locs ls hM hloc hl)
theorem V_dup2 {v w : Value} (F : Fx κ cc own) (d : decode cc pc = .ok (.dup2, 1)) (hv : v.category = 1) (hw : w.category = 1) (kk : V κ ρ k n μ x (pc + 1) lv (v :: w :: v :: w :: st)) : V κ ρ k n μ x pc lv (v :: w :: st) := by
  obtain ⟨p, l, e, R, s, m, args, below, meth, c, Q, s0, D, aC, nL⟩ := κ
  intro hx H locs ls hM hloc hl
  exact lv_dup2_11 F.1 F.2.1 d hv hw (kk hx H locs ls hM hloc hl)
theorem V_pop {v : Value} (F : Fx κ cc own) (d : decode cc pc = .ok (.pop, 1)) (hv : v.category = 1) (kk : V κ ρ k n μ x (pc + 1) lv (st)) : V κ ρ k n μ x pc lv (v :: st) := by
  obtain ⟨p, l, e, R, s, m, args, below, meth, c, Q, s0, D, aC, nL⟩ := κ
  intro hx H locs ls hM hloc hl
  exact lv_pop F.1 F.2.1 d hv (kk hx H locs ls hM hloc hl)
theorem V_goto {off : Int} {tgt : Nat} (F : Fx κ cc own) (d : decode cc pc = .ok (.goto off, 3)) (ht : (pc : Int) + off = (tgt : Int)) (kk : V κ ρ k n μ x tgt lv st) : V κ ρ k n μ x pc lv st := by
  obtain ⟨p, l, e, R, s, m, args, below, meth, c, Q, s0, D, aC, nL⟩ := κ
  intro hx H locs ls hM hloc hl
  exact lv_goto F.1 F.2.1 d ht (kk hx H locs ls hM hloc hl)
theorem V_if_eq {a : Int32} {off : Int} {tgt : Nat} {x1 x2 : Rs α} (F : Fx κ cc own) (d : decode cc pc = .ok (.ifCond .eq off, 3)) (ht : (pc : Int) + off = (tgt : Int)) (kt : a = 0 → V κ ρ k n μ x1 tgt lv st) (kf : ¬ a = 0 → V κ ρ k n μ x2 (pc + 3) lv st) : V κ ρ k n μ (if a = 0 then x1 else x2) pc lv (.int a :: st) := by
  obtain ⟨p, l, e, R, s, m, args, below, meth, c, Q, s0, D, aC, nL⟩ := κ
  intro hx H locs ls hM hloc hl
  refine lv_if_eq F.1 F.2.1 d ht (fun h => ?_) (fun h => ?_)
  · exact kt h (by rw [if_pos h] at hx; exact hx) H locs ls hM hloc hl
  · exact kf h (by rw [if_neg h] at hx; exact hx) H locs ls hM hloc hl
theorem V_icmp_eq {a b : Int32} {off : Int} {tgt : Nat} {x1 x2 : Rs α} (F : Fx κ cc own) (d : decode cc pc = .ok (.if_icmp .eq off, 3)) (ht : (pc : Int) + off = (tgt : Int)) (kt : a = b → V κ ρ k n μ x1 tgt lv st) (kf : ¬ a = b → V κ ρ k n μ x2 (pc + 3) lv st) : V κ ρ k n μ (if a = b then x1 else x2) pc lv (.int b :: .int a :: st) := by
  obtain ⟨p, l, e, R, s, m, args, below, meth, c, Q, s0, D, aC, nL⟩ := κ
  intro hx H locs ls hM hloc hl
  refine lv_icmp_eq F.1 F.2.1 d ht (fun h => ?_) (fun h => ?_)
  · exact kt h (by rw [if_pos h] at hx; exact hx) H locs ls hM hloc hl
  · exact kf h (by rw [if_neg h] at hx; exact hx) H locs ls hM hloc hl
theorem V_if_ne {a : Int32} {off : Int} {tgt : Nat} {x1 x2 : Rs α} (F : Fx κ cc own) (d : decode cc pc = .ok (.ifCond .ne off, 3)) (ht : (pc : Int) + off = (tgt : Int)) (kt : ¬ a = 0 → V κ ρ k n μ x1 tgt lv st) (kf : a = 0 → V κ ρ k n μ x2 (pc + 3) lv st) : V κ ρ k n μ (if a = 0 then x2 else x1) pc lv (.int a :: st) := by
  obtain ⟨p, l, e, R, s, m, args, below, meth, c, Q, s0, D, aC, nL⟩ := κ
  intro hx H locs ls hM hloc hl
  refine lv_if_ne F.1 F.2.1 d ht (fun h => ?_) (fun h => ?_)
  · exact kt h (by rw [if_neg h] at hx; exact hx) H locs ls hM hloc hl
  · exact kf h (by rw [if_pos h] at hx; exact hx) H locs ls hM hloc hl
theorem V_icmp_ne {a b : Int32} {off : Int} {tgt : Nat} {x1 x2 : Rs α} (F : Fx κ cc own) (d : decode cc pc = .ok (.if_icmp .ne off, 3)) (ht : (pc : Int) + off = (tgt : Int)) (kt : ¬ a = b → V κ ρ k n μ x1 tgt lv st) (kf : a = b → V κ ρ k n μ x2 (pc + 3) lv st) : V κ ρ k n μ (if a = b then x2 else x1) pc lv (.int b :: .int a :: st) := by
  obtain ⟨p, l, e, R, s, m, args, below, meth, c, Q, s0, D, aC, nL⟩ := κ
  intro hx H locs ls hM hloc hl
  refine lv_icmp_ne F.1 F.2.1 d ht (fun h => ?_) (fun h => ?_)
  · exact kt h (by rw [if_neg h] at hx; exact hx) H locs ls hM hloc hl
  · exact kf h (by rw [if_pos h] at hx; exact hx) H locs ls hM hloc hl
theorem V_if_lt {a : Int32} {off : Int} {tgt : Nat} {x1 x2 : Rs α} (F : Fx κ cc own) (d : decode cc pc = .ok (.ifCond .lt off, 3)) (ht : (pc : Int) + off = (tgt : Int)) (kt : a < 0 → V κ ρ k n μ x1 tgt lv st) (kf : ¬ a < 0 → V κ ρ k n μ x2 (pc + 3) lv st) : V κ ρ k n μ (if a < 0 then x1 else x2) pc lv (.int a :: st) := by
  obtain ⟨p, l, e, R, s, m, args, below, meth, c, Q, s0, D, aC, nL⟩ := κ
  intro hx H locs ls hM hloc hl
  refine lv_if_lt F.1 F.2.1 d ht (fun h => ?_) (fun h => ?_)
  · exact kt h (by rw [if_pos h] at hx; exact hx) H locs ls hM hloc hl
  · exact kf h (by rw [if_neg h] at hx; exact hx) H locs ls hM hloc hl
theorem V_icmp_lt {a b : Int32} {off : Int} {tgt : Nat} {x1 x2 : Rs α} (F : Fx κ cc own) (d : decode cc pc = .ok (.if_icmp .lt off, 3)) (ht : (pc : Int) + off = (tgt : Int)) (kt : a < b → V κ ρ k n μ x1 tgt lv st) (kf : ¬ a < b → V κ ρ k n μ x2 (pc + 3) lv st) : V κ ρ k n μ (if a < b then x1 else x2) pc lv (.int b :: .int a :: st) := by
  obtain ⟨p, l, e, R, s, m, args, below, meth, c, Q, s0, D, aC, nL⟩ := κ
  intro hx H locs ls hM hloc hl
  refine lv_icmp_lt F.1 F.2.1 d ht (fun h => ?_) (fun h => ?_)
  · exact kt h (by rw [if_pos h] at hx; exact hx) H locs ls hM hloc hl
  · exact kf h (by rw [if_neg h] at hx; exact hx) H locs ls hM hloc hl
theorem V_if_ge {a : Int32} {off : Int} {tgt : Nat} {x1 x2 : Rs α} (F : Fx κ cc own) (d : decode cc pc = .ok (.ifCond .ge off, 3)) (ht : (pc : Int) + off = (tgt : Int)) (kt : 0 ≤ a → V κ ρ k n μ x1 tgt lv st) (kf : ¬ 0 ≤ a → V κ ρ k n μ x2 (pc + 3) lv st) : V κ ρ k n μ (if 0 ≤ a then x1 else x2) pc lv (.int a :: st) := by
  obtain ⟨p, l, e, R, s, m, args, below, meth, c, Q, s0, D, aC, nL⟩ := κ
  intro hx H locs ls hM hloc hl
  refine lv_if_ge F.1 F.2.1 d ht (fun h => ?_) (fun h => ?_)
  · exact kt h (by rw [if_pos h] at hx; exact hx) H locs ls hM hloc hl
  · exact kf h (by rw [if_neg h] at hx; exact hx) H locs ls hM hloc hl
theorem V_icmp_ge {a b : Int32} {off : Int} {tgt : Nat} {x1 x2 : Rs α} (F : Fx κ cc own) (d : decode cc pc = .ok (.if_icmp .ge off, 3)) (ht : (pc : Int) + off = (tgt : Int)) (kt : b ≤ a → V κ ρ k n μ x1 tgt lv st) (kf : ¬ b ≤ a → V κ ρ k n μ x2 (pc + 3) lv st) : V κ ρ k n μ (if b ≤ a then x1 else x2) pc lv (.int b :: .int a :: st) := by
  obtain ⟨p, l, e, R, s, m, args, below, meth, c, Q, s0, D, aC, nL⟩ := κ
  intro hx H locs ls hM hloc hl
  refine lv_icmp_ge F.1 F.2.1 d ht (fun h => ?_) (fun h => ?_)
  · exact kt h (by rw [if_pos h] at hx; exact hx) H locs ls hM hloc hl
  · exact kf h (by rw [if_neg h] at hx; exact hx) H locs ls hM hloc hl
theorem V_if_gt {a : Int32} {off : Int} {tgt : Nat} {x1 x2 : Rs α} (F : Fx κ cc own) (d : decode cc pc = .ok (.ifCond .gt off, 3)) (ht : (pc : Int) + off = (tgt : Int)) (kt : 0 < a → V κ ρ k n μ x1 tgt lv st) (kf : ¬ 0 < a → V κ ρ k n μ x2 (pc + 3) lv st) : V κ ρ k n μ (if 0 < a then x1 else x2) pc lv (.int a :: st) := by
  obtain ⟨p, l, e, R, s, m, args, below, meth, c, Q, s0, D, aC, nL⟩ := κ
  intro hx H locs ls hM hloc hl
  refine lv_if_gt F.1 F.2.1 d ht (fun h => ?_) (fun h => ?_)
  · exact kt h (by rw [if_pos h] at hx; exact hx) H locs ls hM hloc hl
  · exact kf h (by rw [if_neg h] at hx; exact hx) H locs ls hM hloc hl
theorem V_icmp_gt {a b : Int32} {off : Int} {tgt : Nat} {x1 x2 : Rs α} (F : Fx κ cc own) (d : decode cc pc = .ok (.if_icmp .gt off, 3)) (ht : (pc : Int) + off = (tgt : Int)) (kt : b < a → V κ ρ k n μ x1 tgt lv st) (kf : ¬ b < a → V κ ρ k n μ x2 (pc + 3) lv st) : V κ ρ k n μ (if b < a then x1 else x2) pc lv (.int b :: .int a :: st) := by
  obtain ⟨p, l, e, R, s, m, args, below, meth, c, Q, s0, D, aC, nL⟩ := κ
  intro hx H locs ls hM hloc hl
  refine lv_icmp_gt F.1 F.2.1 d ht (fun h => ?_) (fun h => ?_)
  · exact kt h (by rw [if_pos h] at hx; exact hx) H locs ls hM hloc hl
  · exact kf h (by rw [if_neg h] at hx; exact hx) H locs ls hM hloc hl
theorem V_if_le {a : Int32} {off : Int} {tgt : Nat} {x1 x2 : Rs α} (F : Fx κ cc own) (d : decode cc pc = .ok (.ifCond .le off, 3)) (ht : (pc : Int) + off = (tgt : Int)) (kt : a ≤ 0 → V κ ρ k n μ x1 tgt lv st) (kf : ¬ a ≤ 0 → V κ ρ k n μ x2 (pc + 3) lv st) : V κ ρ k n μ (if a ≤ 0 then x1 else x2) pc lv (.int a :: st) := by
  obtain ⟨p, l, e, R, s, m, args, below, meth, c, Q, s0, D, aC, nL⟩ := κ
  intro hx H locs ls hM hloc hl
  refine lv_if_le F.1 F.2.1 d ht (fun h => ?_) (fun h => ?_)
  · exact kt h (by rw [if_pos h] at hx; exact hx) H locs ls hM hloc hl
  · exact kf h (by rw [if_neg h] at hx; exact hx) H locs ls hM hloc hl
theorem V_icmp_le {a b : Int32} {off : Int} {tgt : Nat} {x1 x2 : Rs α} (F : Fx κ cc own) (d : decode cc pc = .ok (.if_icmp .le off, 3)) (ht : (pc : Int) + off = (tgt : Int)) (kt : a ≤ b → V κ ρ k n μ x1 tgt lv st) (kf : ¬ a ≤ b → V κ ρ k n μ x2 (pc + 3) lv st) : V κ ρ k n μ (if a ≤ b then x1 else x2) pc lv (.int b :: .int a :: st) := by
  obtain ⟨p, l, e, R, s, m, args, below, meth, c, Q, s0, D, aC, nL⟩ := κ
  intro hx H locs ls hM hloc hl
  refine lv_icmp_le F.1 F.2.1 d ht (fun h => ?_) (fun h => ?_)
  · exact kt h (by rw [if_pos h] at hx; exact hx) H locs ls hM hloc hl
  · exact kf h (by rw [if_neg h] at hx; exact hx) H locs ls hM hloc hl
/-- a guard of the pure side -/
def gd {α : Type} (c : Prop) [Decidable c] (x : Rs α) : Rs α := if c then x else none
theorem V_gd {c : Prop} [Decidable c] (kk : c → V κ ρ k n μ x pc lv st) : V κ ρ k n μ (gd c x) pc lv st := by
  unfold gd
  split
  · rename_i h; exact kk h
  · exact V_none
theorem V_fdiv {a b : UInt32} (F : Fx κ cc own) (d : decode cc pc = .ok (.fdiv, 1)) (hne : nn32 (FP.fdiv a b) = true) (kk : V κ ρ k n μ x (pc + 1) lv (.float (FP.fdiv a b) :: st)) : V κ ρ k n μ x pc lv (.float b :: .float a :: st) := by
  obtain ⟨p, l, e, R, s, m, args, below, meth, c, Q, s0, D, aC, nL⟩ := κ
  intro hx H locs ls hM hloc hl
  exact lv_fdiv F.1 F.2.1 d (nn32_ok hne) (kk hx H locs ls hM hloc hl)
theorem V_fmul {a b : UInt32} (F : Fx κ cc own) (d : decode cc pc = .ok (.fmul, 1)) (hne : nn32 (FP.fmul a b) = true) (kk : V κ ρ k n μ x (pc + 1) lv (.float (FP.fmul a b) :: st)) : V κ ρ k n μ x pc lv (.float b :: .float a :: st) := by
  obtain ⟨p, l, e, R, s, m, args, below, meth, c, Q, s0, D, aC, nL⟩ := κ
  intro hx H locs ls hM hloc hl
  exact lv_fmul F.1 F.2.1 d (nn32_ok hne) (kk hx H locs ls hM hloc hl)
theorem V_fsub {a b : UInt32} (F : Fx κ cc own) (d : decode cc pc = .ok (.fsub, 1)) (hne : nn32 (FP.fsub a b) = true) (kk : V κ ρ k n μ x (pc + 1) lv (.float (FP.fsub a b) :: st)) : V κ ρ k n μ x pc lv (.float b :: .float a :: st) := by
  obtain ⟨p, l, e, R, s, m, args, below, meth, c, Q, s0, D, aC, nL⟩ := κ
  intro hx H locs ls hM hloc hl
  exact lv_fsub F.1 F.2.1 d (nn32_ok hne) (kk hx H locs ls hM hloc hl)
theorem V_ddiv {a b : UInt64} (F : Fx κ cc own) (d : decode cc pc = .ok (.ddiv, 1)) (hne : nn64 (FP.ddiv a b) = true) (kk : V κ ρ k n μ x (pc + 1) lv (.double (FP.ddiv a b) :: st)) : V κ ρ k n μ x pc lv (.double b :: .double a :: st) := by
  obtain ⟨p, l, e, R, s, m, args, below, meth, c, Q, s0, D, aC, nL⟩ := κ
  intro hx H locs ls hM hloc hl
  exact lv_ddiv F.1 F.2.1 d (nn64_ok hne) (kk hx H locs ls hM hloc hl)
theorem V_f2d {a : UInt32} (F : Fx κ cc own) (d : decode cc pc = .ok (.f2d, 1)) (hne : nn64 (FP.f2d a) = true) (kk : V κ ρ k n μ x (pc + 1) lv (.double (FP.f2d a) :: st)) : V κ ρ k n μ x pc lv (.float a :: st) := by
  obtain ⟨p, l, e, R, s, m, args, below, meth, c, Q, s0, D, aC, nL⟩ := κ
  intro hx H locs ls hM hloc hl
  exact lv_f2d F.1 F.2.1 d (nn64_ok hne) (kk hx H locs ls hM hloc hl)
theorem V_lushr {a : Int64} {b : Int32} (F : Fx κ cc own) (d : decode cc pc = .ok (.lushr, 1)) (kk : V κ ρ k n μ x (pc + 1) lv (.long (a.toUInt64 >>> (b.toInt64.toUInt64 &&& Int64.toUInt64 63)).toInt64 :: st)) : V κ ρ k n μ x pc lv (.int b :: .long a :: st) := by
  obtain ⟨p, l, e, R, s, m, args, below, meth, c, Q, s0, D, aC, nL⟩ := κ
  intro hx H locs ls hM hloc hl
  exact lv_lushr F.1 F.2.1 d rfl (kk hx H locs ls hM hloc hl)
theorem V_ladd {a b : Int64} (F : Fx κ cc own) (d : decode cc pc = .ok (.ladd, 1)) (kk : V κ ρ k n μ x (pc + 1) lv (.long (a + b) :: st)) : V κ ρ k n μ x pc lv (.long b :: .long a :: st) := by
  obtain ⟨p, l, e, R, s, m, args, below, meth, c, Q, s0, D, aC, nL⟩ := κ
  intro hx H locs ls hM hloc hl
  exact lv_ladd F.1 F.2.1 d (kk hx H locs ls hM hloc hl)
theorem V_lsub {a b : Int64} (F : Fx κ cc own) (d : decode cc pc = .ok (.lsub, 1)) (kk : V κ ρ k n μ x (pc + 1) lv (.long (a - b) :: st)) : V κ ρ k n μ x pc lv (.long b :: .long a :: st) := by
  obtain ⟨p, l, e, R, s, m, args, below, meth, c, Q, s0, D, aC, nL⟩ := κ
  intro hx H locs ls hM hloc hl
  exact lv_lsub F.1 F.2.1 d (kk hx H locs ls hM hloc hl)
theorem V_l2i {a : Int64} (F : Fx κ cc own) (d : decode cc pc = .ok (.l2i, 1)) (kk : V κ ρ k n μ x (pc + 1) lv (.int a.toInt32 :: st)) : V κ ρ k n μ x pc lv (.long a :: st) := by
  obtain ⟨p, l, e, R, s, m, args, below, meth, c, Q, s0, D, aC, nL⟩ := κ
  intro hx H locs ls hM hloc hl
  exact lv_l2i F.1 F.2.1 d rfl (kk hx H locs ls hM hloc hl)
theorem V_ifnull {a : Nat} {off : Int} (F : Fx κ cc own) (d : decode cc pc = .ok (.ifnull off, 3)) (kk : V κ ρ k n μ x (pc + 3) lv st) : V κ ρ k n μ x pc lv (.ref a :: st) := by
  obtain ⟨p, l, e, R, s, m, args, below, meth, c, Q, s0, D, aC, nL⟩ := κ
  intro hx H locs ls hM hloc hl
  exact lv_ifnull F.1 F.2.1 d (kk hx H locs ls hM hloc hl)
theorem V_ifnullN {off : Int} {tgt : Nat} (F : Fx κ cc own) (d : decode cc pc = .ok (.ifnull off, 3)) (ht : (pc : Int) + off = (tgt : Int)) (kk : V κ ρ k n μ x tgt lv st) : V κ ρ k n μ x pc lv (.null :: st) := by
  obtain ⟨p, l, e, R, s, m, args, below, meth, c, Q, s0, D, aC, nL⟩ := κ
  intro hx H locs ls hM hloc hl
  exact lv_ifnullN F.1 F.2.1 d ht (kk hx H locs ls hM hloc hl)
theorem V_ifnonnull {a : Nat} {off : Int} {tgt : Nat} (F : Fx κ cc own) (d : decode cc pc = .ok (.ifnonnull off, 3)) (ht : (pc : Int) + off = (tgt : Int)) (kk : V κ ρ k n μ x tgt lv st) : V κ ρ k n μ x pc lv (.ref a :: st) := by
  obtain ⟨p, l, e, R, s, m, args, below, meth, c, Q, s0, D, aC, nL⟩ := κ
  intro hx H locs ls hM hloc hl
  exact lv_ifnonnull F.1 F.2.1 d ht (kk hx H locs ls hM hloc hl)
theorem V_ifnonnullN {off : Int} (F : Fx κ cc own) (d : decode cc pc = .ok (.ifnonnull off, 3)) (kk : V κ ρ k n μ x (pc + 3) lv st) : V κ ρ k n μ x pc lv (.null :: st) := by
  obtain ⟨p, l, e, R, s, m, args, below, meth, c, Q, s0, D, aC, nL⟩ := κ
  intro hx H locs ls hM hloc hl
  exact lv_ifnonnullN F.1 F.2.1 d (kk hx H locs ls hM hloc hl)
theorem Fx_G (F : Fx κ cc own) : Gl κ.2.2.2.2.2.2.2.2.2.2.2.1 κ.2.2.2.2.2.2.2.2.2.2.2.2.1 κ.2.2.2.2.2.2.2.2.2.2.2.2.2.1 := by
  obtain ⟨p, l, e, R, s, m, args, below, meth, c, Q, s0, D, aC, nL⟩ := κ
  exact F.2.2.2.2.2.1
theorem Fx_l (F : Fx κ cc own) : κ.2.1.stackTraces = false := by
  obtain ⟨p, l, e, R, s, m, args, below, meth, c, Q, s0, D, aC, nL⟩ := κ
  exact F.2.2.2.2.2.2.2.2.2
end VB
