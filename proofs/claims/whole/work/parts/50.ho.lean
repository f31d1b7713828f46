/-! The meaning: a function over the memory answers, and with what; loops. -/
def kbH {α : Type} (x : Option α) (P : α → Prop) : Prop := ∃ a, x = some a ∧ P a
theorem kbH_some {α : Type} {a : α} {P : α → Prop} : kbH (some a) P ↔ P a := ⟨fun ⟨b, h1, h2⟩ => by cases h1; exact h2, fun h => ⟨a, rfl, h⟩⟩
theorem kbH_none {α : Type} {P : α → Prop} : kbH none P ↔ False := ⟨fun ⟨_, h1, _⟩ => (by cases h1), fun h => h.elim⟩
theorem kbH_bind {α β : Type} {x : Option α} {f : α → Option β} {P : β → Prop} : kbH (Option.bind x f) P ↔ kbH x (fun a => kbH (f a) P) := by
  cases x with
  | none => exact ⟨fun ⟨b, h1, h2⟩ => (by cases h1), fun ⟨b, h1, h2⟩ => (by cases h1)⟩
  | some a => exact ⟨fun h => ⟨a, rfl, h⟩, fun ⟨b, h1, h2⟩ => by cases h1; exact h2⟩
theorem kbH_gd {α : Type} {C : Prop} [Decidable C] {x : Option α} {P : α → Prop} : kbH (knGd C x) P ↔ C ∧ kbH x P := by
  unfold knGd
  by_cases h : C
  · rw [if_pos h]; exact ⟨fun h2 => ⟨h, h2⟩, fun h2 => h2.2⟩
  · rw [if_neg h, kbH_none]; exact ⟨fun h2 => h2.elim, fun h2 => h h2.1⟩
theorem kbH_ite {α : Type} {C : Prop} [Decidable C] {x y : Option α} {P : α → Prop} : kbH (if C then x else y) P ↔ (C → kbH x P) ∧ (¬ C → kbH y P) := by
  by_cases h : C
  · rw [if_pos h]; exact ⟨fun h2 => ⟨fun _ => h2, fun h3 => absurd h h3⟩, fun h2 => h2.1 h⟩
  · rw [if_neg h]; exact ⟨fun h2 => ⟨fun h3 => absurd h3 h, fun _ => h2⟩, fun h2 => h2.2 h⟩
theorem kbH.mono {α : Type} {x : Option α} {P Q : α → Prop} (h : kbH x P) (hpq : ∀ a, P a → Q a) : kbH x Q := by
  obtain ⟨a, h1, h2⟩ := h
  exact ⟨a, h1, hpq a h2⟩
theorem kbH.of {α : Type} {x : Option α} {a : α} {P : α → Prop} (h : x = some a) (hp : P a) : kbH x P := ⟨a, h, hp⟩
theorem kbH.bind {α β : Type} {x : Option α} {f : α → Option β} {P : α → Prop} {Q : β → Prop} (h : kbH x P) (hf : ∀ a, P a → kbH (f a) Q) : kbH (Option.bind x f) Q := kbH_bind.mpr (h.mono hf)
theorem kbH.gd {α : Type} {C : Prop} [Decidable C] {x : Option α} {P : α → Prop} (h : C) (h2 : kbH x P) : kbH (knGd C x) P := kbH_gd.mpr ⟨h, h2⟩
theorem kbGd {α : Type} {C : Prop} [Decidable C] {x : Option α} (h : C) : knGd C x = x := if_pos h
theorem kbUp (μ : knMem) (o k v p i : Int) : knUp μ o k v p i = if p = o ∧ i = k then v else μ p i := by
  unfold knUp
  by_cases h : p = o <;> by_cases h2 : i = k <;> simp [h, h2]
theorem kbF : ((knF : Nat) : Int) = 4096 := rfl
/-- a loop that counts up -/
theorem kbLoop {S R : Type} (F : Nat → Int → S → Option R) (Inv : Int → S → Prop) (N : Int) (Q : R → Prop)
    (hs : ∀ (n : Nat) (i : Int) (s : S), i < N → Inv i s → (∀ s' : S, Inv (i + 1) s' → kbH (F n (i + 1) s') Q) → kbH (F (n + 1) i s) Q)
    (he : ∀ (n : Nat) (s : S), Inv N s → kbH (F (n + 1) N s) Q) :
    ∀ (n : Nat) (i : Int) (s : S), i ≤ N → N - i < (n : Int) → Inv i s → kbH (F n i s) Q := by
  intro n
  induction n with
  | zero => intro i s h1 h2 _; omega
  | succ n ih =>
    intro i s h1 h2 h3
    by_cases h : i = N
    · subst h; exact he n s h3
    · exact hs n i s (by omega) h3 (fun s' h4 => ih (i + 1) s' (by omega) (by omega) h4)
/-- a loop by a measure that falls -/
theorem kbLoopM {S R : Type} (F : Nat → S → Option R) (Inv : S → Prop) (m : S → Int) (Q : R → Prop)
    (hs : ∀ (n : Nat) (s : S), Inv s → 0 ≤ m s → (∀ s' : S, Inv s' → 0 ≤ m s' → m s' < m s → kbH (F n s') Q) → kbH (F (n + 1) s) Q) :
    ∀ (n : Nat) (s : S), Inv s → 0 ≤ m s → m s < (n : Int) → kbH (F n s) Q := by
  intro n
  induction n with
  | zero => intro s _ h1 h2; omega
  | succ n ih =>
    intro s h1 h2 h3
    exact hs n s h1 h2 (fun s' h4 h5 h6 => ih s' h4 h5 (by omega))
