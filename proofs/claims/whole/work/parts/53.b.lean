/-! The class's questions about passes. -/
theorem kb5_crossingOf {μ : knMem} {d p c : Int} {D : kbD} (hA : kbA μ d D) (hV : kbV D) (hc : 0 ≤ c ∧ c < D.1) (h : D.2.1 c = p ∨ D.2.2.1 c = p) : kfX5_crossingOf d p μ = some c := by
  obtain ⟨h0, h1⟩ := hA
  obtain ⟨⟨hn, hb⟩, hv⟩ := hV
  have key : kbH (kfX5_crossingOf d p μ) (fun r => r = c) := by
    unfold kfX5_crossingOf
    refine kbLoop (fun n i (_ : Unit) => kfX5_crossingOf_l2 d p μ (fun _ => some (-1)) n i) (fun i _ => 0 ≤ i ∧ i ≤ c) c _ ?_ ?_ _ _ () (by omega) (by rw [kbF]; omega) (by omega)
    · intro n i _ hi ⟨i0, i1⟩ kk
      have h2 := h1 i i0 (by omega)
      have h3 := hv i c i0 (by omega) hc.1 hc.2
      have h4 := hv c i hc.1 hc.2 i0 (by omega)
      simp only [kfX5_crossingOf_l2, kbH_ite, kbH_gd, h2.1, h2.2.1]
      rw [knW_id (by omega)]
      refine ⟨fun h => by omega, fun _ => ⟨by omega, fun h5 => ?_, fun h5 => ⟨fun h6 => ?_, fun _ => kk () (by omega)⟩⟩⟩
      · exact absurd h5 (by omega)
      · exact absurd h6 (by omega)
    · intro n _ _
      have h2 := h1 c hc.1 hc.2
      simp only [kfX5_crossingOf_l2, kbH_ite, kbH_gd, h2.1, h2.2.1, kbH_some]
      exact ⟨fun h => by omega, fun _ => ⟨by omega, fun _ => trivial, fun h5 => ⟨fun _ => trivial, fun h6 => absurd h (by omega)⟩⟩⟩
  obtain ⟨a, h2, h3⟩ := key
  rw [h2, h3]
theorem kb5_crossingNo {μ : knMem} {d p : Int} {D : kbD} (hA : kbA μ d D) (hn : 0 ≤ D.1 ∧ D.1 ≤ 7) (h : ∀ c : Int, 0 ≤ c → c < D.1 → D.2.1 c ≠ p ∧ D.2.2.1 c ≠ p) : kfX5_crossingOf d p μ = some (-1) := by
  obtain ⟨h0, h1⟩ := hA
  have key : kbH (kfX5_crossingOf d p μ) (fun r => r = -1) := by
    unfold kfX5_crossingOf
    refine kbLoop (fun n i (_ : Unit) => kfX5_crossingOf_l2 d p μ (fun _ => some (-1)) n i) (fun i _ => 0 ≤ i) D.1 _ ?_ ?_ _ _ () (by omega) (by rw [kbF]; omega) (by omega)
    · intro n i _ hi i0 kk
      have h2 := h1 i i0 (by omega)
      have h3 := h i i0 hi
      simp only [kfX5_crossingOf_l2, kbH_ite, kbH_gd, h2.1, h2.2.1]
      rw [knW_id (by omega)]
      exact ⟨fun h => by omega, fun _ => ⟨by omega, fun h5 => absurd h5 h3.1, fun _ => ⟨fun h5 => absurd h5 h3.2, fun _ => kk () (by omega)⟩⟩⟩
    · intro n _ _
      simp only [kfX5_crossingOf_l2, kbH_ite, kbH_gd, kbH_some]
      exact ⟨fun _ => trivial, fun h => by omega⟩
  obtain ⟨a, h2, h3⟩ := key
  rw [h2, h3]
theorem kb5_passesOver {μ : knMem} {d p : Int} {D : kbD} (hA : kbA μ d D) (hn : 0 ≤ D.1 ∧ D.1 ≤ 7) {v : Int} (h : (v = 0 ∧ ∀ c : Int, 0 ≤ c → c < D.1 → D.2.1 c ≠ p) ∨ (v = 1 ∧ ∃ c : Int, 0 ≤ c ∧ c < D.1 ∧ D.2.1 c = p)) : kfX5_passesOver d p μ = some v := by
  obtain ⟨h0, h1⟩ := hA
  have key : kbH (kfX5_passesOver d p μ) (fun r => r = v) := by
    unfold kfX5_passesOver
    refine kbLoop (fun n i (_ : Unit) => kfX5_passesOver_l2 d p μ (fun _ => some 0) n i) (fun i _ => 0 ≤ i ∧ ∀ k : Int, 0 ≤ k → k < i → D.2.1 k ≠ p) D.1 _ ?_ ?_ _ _ () (by omega) (by rw [kbF]; omega) ⟨by omega, fun k _ _ => by omega⟩
    · intro n i _ hi ⟨i0, i1⟩ kk
      have h2 := h1 i i0 (by omega)
      simp only [kfX5_passesOver_l2, kbH_ite, kbH_gd, h2.1, kbH_some]
      rw [knW_id (by omega)]
      refine ⟨fun h => by omega, fun _ => ⟨by omega, fun h5 => ?_, fun h5 => kk () ⟨by omega, fun k k0 k1 => ?_⟩⟩⟩
      · rcases h with ⟨_, h⟩ | ⟨h, _⟩
        · exact absurd h5 (h i i0 hi)
        · exact h.symm
      · by_cases hk : k = i
        · subst hk; exact h5
        · exact i1 k k0 (by omega)
    · intro n _ ⟨_, i1⟩
      simp only [kfX5_passesOver_l2, kbH_ite, kbH_gd, kbH_some]
      refine ⟨fun _ => ?_, fun h => by omega⟩
      rcases h with ⟨h, _⟩ | ⟨_, c, c0, c1, h⟩
      · exact h.symm
      · exact absurd h (i1 c c0 c1)
  obtain ⟨a, h2, h3⟩ := key
  rw [h2, h3]
/-- a diagram turned -/
def kbTn (p : Int) (D : kbD) : kbD := (D.1, fun k => (D.2.1 k - p) % (2 * D.1), fun k => (D.2.2.1 k - p) % (2 * D.1), D.2.2.2)
theorem kb5_turnTo {μ : knMem} {d p : Int} {D : kbD} (hA : kbA μ d D) (hB : kbB D) (hp : 0 ≤ p ∧ p < 2 * D.1) : kbH (kfX5_turnTo d p μ) (fun r => r.1 = 0 ∧ kbA r.2 d (kbTn p D) ∧ kbFr d (d + 3) μ r.2) := by
  obtain ⟨h0, h1⟩ := hA
  obtain ⟨⟨hn0, hn7⟩, hb⟩ := hB
  unfold kfX5_turnTo
  rw [kb5_hasPosition (by omega), h0, if_pos hp, Option.bind_some, if_neg (by omega)]
  refine kbLoop (fun n i s => kfX5_turnTo_l14 d p (fun w18 => some (0, w18)) n i s) (fun i s => 0 ≤ i ∧ s d 3 = D.1 ∧ (∀ k : Int, 0 ≤ k → k < i → s (d + 1) k = (kbTn p D).2.1 k ∧ s (d + 2) k = (kbTn p D).2.2.1 k) ∧ (∀ k : Int, i ≤ k → k < D.1 → s (d + 1) k = D.2.1 k ∧ s (d + 2) k = D.2.2.1 k) ∧ (∀ k : Int, 0 ≤ k → k < D.1 → s (d + 3) k = D.2.2.2 k) ∧ kbFr d (d + 3) μ s) D.1 _ ?_ ?_ _ _ _ (by omega) (by rw [kbF]; omega) ?_
  · intro n i s hi ⟨i0, hc, hr, hr2, hpp, hf⟩ kk
    have hbi := hb i i0 hi
    have hri := hr2 i (by omega) hi
    have e1 : ∀ v : Int, knUp s (d + 1) i v (d + 2) i = D.2.2.1 i := fun v => by rw [kbUp, if_neg (by omega)]; exact hri.2
    have e2 : ∀ v : Int, knUp s (d + 1) i v d 3 = D.1 := fun v => by rw [kbUp, if_neg (by omega)]; exact hc
    simp only [kfX5_turnTo_l14, kbH_ite, kbH_gd, e1, e2, hri.1, hc]
    refine ⟨fun h => by omega, fun _ => ⟨by omega, ?_⟩⟩
    rw [knW_id (x := 2 * D.1) (by omega), knW_id (x := D.2.1 i - p) (by omega), knW_id (x := D.2.2.1 i - p) (by omega), kb9_floorMod (by omega) (by omega), Option.bind_some, kb9_floorMod (by omega) (by omega), Option.bind_some, knW_id (x := i + 1) (by omega)]
    refine kk _ ⟨by omega, ?_, ?_, ?_, ?_, (hf.up (by omega)).up (by omega)⟩
    · simp (disch := omega) only [kbUp, if_pos, if_neg, and_true, true_and, if_true]
      exact hc
    · intro k k0 k1
      by_cases hki : k = i
      · subst hki
        simp (disch := omega) only [kbUp, if_pos, if_neg, and_true, true_and, if_true, kbTn, and_self]
      · simp (disch := omega) only [kbUp, if_pos, if_neg, and_true, true_and, if_true]
        exact hr k k0 (by omega)
    · intro k k0 k1
      simp (disch := omega) only [kbUp, if_pos, if_neg, and_true, true_and, if_true]
      exact hr2 k (by omega) k1
    · intro k k0 k1
      simp (disch := omega) only [kbUp, if_pos, if_neg, and_true, true_and, if_true]
      exact hpp k k0 k1
  · intro n s ⟨i0, hc, hr, _, hpp, hf⟩
    simp only [kfX5_turnTo_l14, kbH_ite, kbH_some]
    exact ⟨fun _ => ⟨trivial, ⟨hc, fun k a1 a2 => ⟨(hr k a1 a2).1, (hr k a1 a2).2, hpp k a1 a2⟩⟩, hf⟩, fun h => by omega⟩
  · exact ⟨by omega, h0, fun k _ _ => by omega, fun k k0 k1 => ⟨(h1 k k0 k1).1, (h1 k k0 k1).2.1⟩, fun k k0 k1 => (h1 k k0 k1).2.2, kbFr.rf⟩
/-- arcs begun up to a position -/
def kbAr (D : kbD) (p : Int) : Int := kbSm (fun k => if p < D.2.2.1 k then 0 else 1) D.1.toNat
def kbAc (D : kbD) (p : Int) : Int := if kbAr D p = 0 then D.1 - 1 else kbAr D p - 1
theorem kb5_arcOf {μ : knMem} {d p : Int} {D : kbD} (hA : kbA μ d D) (hn : 0 ≤ D.1 ∧ D.1 ≤ 7) : kfX5_arcOf d p μ = some (kbAc D p) := by
  obtain ⟨h0, h1⟩ := hA
  have hbd : ∀ n : Nat, n ≤ 7 → 0 ≤ kbSm (fun k => if p < D.2.2.1 k then 0 else 1) n ∧ kbSm (fun k => if p < D.2.2.1 k then 0 else 1) n ≤ n := by
    intro n
    induction n with
    | zero => intro _; simp [kbSm]
    | succ n ih =>
      intro hn
      have := ih (by omega)
      unfold kbSm
      split <;> omega
  have key : kbH (kfX5_arcOf d p μ) (fun r => r = kbAc D p) := by
    unfold kfX5_arcOf
    refine kbLoop (fun n i (x : Int) => kfX5_arcOf_l4 d p μ (fun w9 => some (if w9 = 0 then (knW ((μ d 3) - 1)) else (knW (w9 - 1)) : Int)) n x i) (fun i x => 0 ≤ i ∧ x = kbSm (fun k => if p < D.2.2.1 k then 0 else 1) i.toNat) D.1 _ ?_ ?_ _ _ _ (by omega) (by rw [kbF]; omega) ⟨by omega, rfl⟩
    · intro n i x hi ⟨i0, hx⟩ kk
      have hb := hbd i.toNat (by omega)
      simp only [kfX5_arcOf_l4, kbH_ite, kbH_gd, (h1 i i0 hi).2.1]
      refine ⟨fun h => by omega, fun _ => ⟨by omega, ?_⟩⟩
      rw [knW_id (x := i + 1) (by omega), knW_id (x := x + 1) (by omega)]
      refine kk _ ⟨by omega, ?_⟩
      have e : (i + 1).toNat = i.toNat + 1 := by omega
      have e2 : ((i.toNat : Nat) : Int) = i := by omega
      rw [e, kbSm, e2, hx]
      split <;> omega
    · intro n x ⟨i0, hx⟩
      have hb := hbd D.1.toNat (by omega)
      simp only [kfX5_arcOf_l4, kbH_ite, kbH_some]
      refine ⟨fun _ => ?_, fun h => by omega⟩
      rw [h0, knW_id (by omega), knW_id (by omega), hx]
      rfl
  obtain ⟨a, h2, h3⟩ := key
  rw [h2, h3]
