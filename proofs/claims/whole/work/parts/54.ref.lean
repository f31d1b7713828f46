/-! The reference's diagram: of, over, sign; and what it says of a diagram. -/
/-- crossing by pass and pass by crossing -/
def kbR (D : kbD) (of vr sg : Int → Int) : Prop :=
  (0 ≤ D.1 ∧ D.1 ≤ 7) ∧
  (∀ c : Int, 0 ≤ c → c < D.1 → (0 ≤ D.2.1 c ∧ D.2.1 c < 2 * D.1 ∧ of (D.2.1 c) = c ∧ vr (D.2.1 c) = 1) ∧ (0 ≤ D.2.2.1 c ∧ D.2.2.1 c < 2 * D.1 ∧ of (D.2.2.1 c) = c ∧ vr (D.2.2.1 c) = 0) ∧ sg c = D.2.2.2 c ∧ (D.2.2.2 c = 0 ∨ D.2.2.2 c = 1)) ∧
  (∀ p : Int, 0 ≤ p → p < 2 * D.1 → (0 ≤ of p ∧ of p < D.1) ∧ ((vr p = 1 ∧ D.2.1 (of p) = p) ∨ (vr p = 0 ∧ D.2.2.1 (of p) = p)))
theorem kbR.B {D : kbD} {of vr sg : Int → Int} (h : kbR D of vr sg) : kbB D := ⟨h.1, fun k h0 h1 => by have := h.2.1 k h0 h1; omega⟩
theorem kbR.V {D : kbD} {of vr sg : Int → Int} (h : kbR D of vr sg) : kbV D := by
  refine ⟨h.B, fun j k j0 j1 k0 k1 => ?_⟩
  have hj := h.2.1 j j0 j1
  have hk := h.2.1 k k0 k1
  refine ⟨fun e => ?_, fun e => ?_, fun e => ?_⟩
  · rw [e] at hj; omega
  · rw [e] at hj; omega
  · rw [e] at hj; omega
/-- the reference's rows that a diagram fills -/
def kbL (μ : knMem) (D : kbD) : Prop := μ 142 8 = D.1 ∧ kbR D (μ 147) (μ 148) (μ 149)
/-- nothing of the reference has changed but the rows of its diagram -/
def kbFz (μ μ' : knMem) : Prop := (∀ o : Int, o < 147 ∨ 149 < o → o ≠ 142 → μ' o = μ o) ∧ ∀ i : Int, i ≠ 8 → μ' 142 i = μ 142 i
theorem kbFz.rf {μ : knMem} : kbFz μ μ := ⟨fun _ _ _ => rfl, fun _ _ => rfl⟩
theorem kbFz.trans {μ μ1 μ2 : knMem} (h : kbFz μ μ1) (h2 : kbFz μ1 μ2) : kbFz μ μ2 := ⟨fun o h0 h1 => (h2.1 o h0 h1).trans (h.1 o h0 h1), fun i hi => (h2.2 i hi).trans (h.2 i hi)⟩
theorem kbFz.up {o k v : Int} {μ μ' : knMem} (h : kbFz μ μ') (ho : (147 ≤ o ∧ o ≤ 149) ∨ (o = 142 ∧ k = 8)) : kbFz μ (knUp μ' o k v) := by
  refine ⟨fun p h0 h1 => by rw [knUp_ne (by omega)]; exact h.1 p h0 h1, fun i hi => ?_⟩
  rw [kbUp, if_neg (by omega)]
  exact h.2 i hi
theorem kb13_passOf {μ : knMem} {D : kbD} (hL : kbL μ D) {c : Int} (hc : 0 ≤ c ∧ c < D.1) : kfX13_passOf c 1 μ = some (D.2.1 c) ∧ kfX13_passOf c 0 μ = some (D.2.2.1 c) := by
  obtain ⟨-, hn, hA, hP⟩ := hL
  have h1 := hA c hc.1 hc.2
  have key : ∀ (v t : Int), (v = 0 ∨ v = 1) → 0 ≤ t → t < 2 * D.1 → μ 147 t = c → μ 148 t = v → (∀ p : Int, 0 ≤ p → p < t → ¬ (μ 147 p = c ∧ μ 148 p = v)) → kfX13_passOf c v μ = some t := by
    intro v t _ t0 t1 e1 e2 e3
    have : kbH (kfX13_passOf c v μ) (fun r => r = t) := by
      unfold kfX13_passOf
      refine kbLoop (fun n i (_ : Unit) => kfX13_passOf_l2 c v μ (fun w11 => some w11) n i) (fun i _ => 0 ≤ i) t _ ?_ ?_ _ _ () (by omega) (by rw [kbF]; omega) (by omega)
      · intro n i _ hi i0 kk
        have h9 := e3 i i0 hi
        simp only [kfX13_passOf_l2, kbH_ite, kbH_gd]
        rw [knW_id (by omega)]
        exact ⟨by omega, fun h => ⟨fun h2 => absurd ⟨h, h2⟩ h9, fun _ => kk () (by omega)⟩, fun _ => kk () (by omega)⟩
      · intro n _ _
        simp only [kfX13_passOf_l2, kbH_ite, kbH_gd, kbH_some]
        exact ⟨by omega, fun _ => ⟨fun _ => trivial, fun h => absurd e2 h⟩, fun h => absurd e1 h⟩
    obtain ⟨a, h2, h3⟩ := this
    rw [h2, h3]
  refine ⟨key 1 _ (Or.inr rfl) (by omega) (by omega) h1.1.2.2.1 h1.1.2.2.2 (fun p p0 p1 ⟨q1, q2⟩ => ?_), key 0 _ (Or.inl rfl) (by omega) (by omega) h1.2.1.2.2.1 h1.2.1.2.2.2 (fun p p0 p1 ⟨q1, q2⟩ => ?_)⟩
  · have := (hP p p0 (by omega)).2
    rw [q1, q2] at this
    omega
  · have := (hP p p0 (by omega)).2
    rw [q1, q2] at this
    omega
theorem kb13_areNext {μ : knMem} {p q n : Int} (hn : μ 142 8 = n) (h7 : 0 ≤ n ∧ n ≤ 7) (hp : 0 ≤ p ∧ p < 2 * n) (hq : 0 ≤ q ∧ q < 2 * n) : kfX13_areNext p q μ = some (if kbDs n p q = 1 then 1 else 0) := by
  unfold kfX13_areNext
  rw [hn, knW_id (x := 2 * n) (by omega), knW_id (x := 2 * n - 1) (by omega)]
  unfold kbDs
  by_cases h : q ≤ p
  · simp only [if_pos h]
    rw [knW_id (by omega)]
    by_cases h2 : p - q = 1
    · simp only [if_pos h2]
      rw [if_pos]
      split <;> split <;> omega
    · by_cases h3 : p - q = 2 * n - 1
      · simp only [if_neg h2, if_pos h3]
        rw [if_pos]
        split <;> split <;> omega
      · simp only [if_neg h2, if_neg h3]
        rw [if_neg]
        split <;> split <;> omega
  · simp only [if_neg h]
    rw [knW_id (by omega)]
    by_cases h2 : q - p = 1
    · simp only [if_pos h2]
      rw [if_pos]
      split <;> split <;> omega
    · by_cases h3 : q - p = 2 * n - 1
      · simp only [if_neg h2, if_pos h3]
        rw [if_pos]
        split <;> split <;> omega
      · simp only [if_neg h2, if_neg h3]
        rw [if_neg]
        split <;> split <;> omega
theorem kb13_curls {μ : knMem} {D : kbD} (hL : kbL μ D) {c : Int} (hc : 0 ≤ c ∧ c < D.1) : kfX13_curls c μ = some (if kbCu D c then 1 else 0) := by
  have hp := kb13_passOf hL hc
  have h1 := hL.2.2.1 c hc.1 hc.2
  have hn := hL.2.1
  unfold kfX13_curls
  rw [hp.1, hp.2]
  simp only [Option.bind_some]
  rw [kb13_areNext hL.1 hn (by omega) (by omega)]
  rfl
theorem kb13_pokes {μ : knMem} {D : kbD} (hL : kbL μ D) {a b : Int} (ha : 0 ≤ a ∧ a < D.1) (hb : 0 ≤ b ∧ b < D.1) : kfX13_pokes a b μ = some (if kbPk D a b then 1 else 0) := by
  have hpa := kb13_passOf hL ha
  have hpb := kb13_passOf hL hb
  have h1 := hL.2.2.1 a ha.1 ha.2
  have h2 := hL.2.2.1 b hb.1 hb.2
  have hn := hL.2.1
  have e1 := kb13_areNext hL.1 hn (p := D.2.1 a) (q := D.2.1 b) (by omega) (by omega)
  have e2 := kb13_areNext hL.1 hn (p := D.2.2.1 a) (q := D.2.2.1 b) (by omega) (by omega)
  unfold kfX13_pokes
  simp (disch := omega) only [hpa.1, hpa.2, hpb.1, hpb.2, kbGd, h1.2.2.1, h2.2.2.1, Option.bind_some, e1, e2, kbPk]
  by_cases h0 : a = b
  · subst h0; simp
  · by_cases h3 : D.2.2.2 a = D.2.2.2 b
    · simp [h0, h3]
    · by_cases h4 : kbDs D.1 (D.2.1 a) (D.2.1 b) = 1
      · by_cases h5 : kbDs D.1 (D.2.2.1 a) (D.2.2.1 b) = 1
        · simp [h0, h3, h4, h5]
        · simp [h0, h3, h4, h5]
      · simp [h0, h3, h4]
