/-! ===== searches and folds over a range ===== -/
def ffi (p : Nat → Prop) [DecidablePred p] : Nat → Nat → Int32
  | _, 0 => -1
  | i, k + 1 => if p i then nI i else ffi p (i + 1) k
def fo {α : Type} (f : Nat → α → α) : Nat → Nat → α → α
  | _, 0, a => a
  | i, k + 1, a => fo f (i + 1) k (f i a)
theorem ffi_congr {p q : Nat → Prop} [DecidablePred p] [DecidablePred q] : ∀ {k i : Nat}, (∀ d, i ≤ d → d < i + k → (p d ↔ q d)) → ffi p i k = ffi q i k := by
  intro k
  induction k with
  | zero => intros; rfl
  | succ k ih =>
    intro i h
    have h0 := h i (Nat.le_refl _) (by omega)
    have h1 := ih (i := i + 1) (fun d a b => h d (by omega) (by omega))
    by_cases hp : p i
    · simp [ffi, hp, h0.mp hp]
    · have hq : ¬ q i := fun z => hp (h0.mpr z)
      simp [ffi, hp, hq, h1]
theorem fo_congr {α : Type} {f g : Nat → α → α} : ∀ {k i : Nat} {a : α}, (∀ d a, i ≤ d → d < i + k → f d a = g d a) → fo f i k a = fo g i k a := by
  intro k
  induction k with
  | zero => intros; rfl
  | succ k ih =>
    intro i a h
    simp only [fo]
    rw [h i a (Nat.le_refl _) (by omega)]
    exact ih (fun d a b c => h d a (by omega) (by omega))
/-- two folds that keep a relation -/
theorem fo_rel {α β : Type} {R : Nat → α → β → Prop} {f : Nat → α → α} {g : Nat → β → β} : ∀ {k i : Nat} {a : α} {b : β}, R i a b → (∀ d a b, i ≤ d → d < i + k → R d a b → R (d + 1) (f d a) (g d b)) → R (i + k) (fo f i k a) (fo g i k b) := by
  intro k
  induction k with
  | zero => intro i a b h _; exact h
  | succ k ih =>
    intro i a b h hs
    simp only [fo]
    have := ih (i := i + 1) (hs i a b (Nat.le_refl _) (by omega) h) (fun d a b x y => hs d a b (by omega) (by omega))
    rwa [show i + 1 + k = i + (k + 1) by omega] at this
theorem fo_inv {α : Type} {P : Nat → α → Prop} {f : Nat → α → α} : ∀ {k i : Nat} {a : α}, P i a → (∀ d a, i ≤ d → d < i + k → P d a → P (d + 1) (f d a)) → P (i + k) (fo f i k a) := by
  intro k i a h hs
  exact fo_rel (R := fun d a _ => P d a) (g := fun _ (b : Unit) => b) (b := ()) h (fun d a _ x y z => hs d a x y z)
theorem inb_n {i n : Nat} (h : i < n) (hn : n < 2 ^ 31) : inb (nI i) n = true := by
  unfold inb
  exact decide_eq_true (nI_in h hn)
