/-! The class stages, keeps; the reference copies, keeps. -/
/-- nothing that a change leaves has changed: all of kbIv but the state, the slots, the reference's histories -/
def kbKm (μ μ' : knMem) : Prop := (∀ o : Int, (o = 0) ∨ (10 ≤ o ∧ o ≤ 18) ∨ o = 138 ∨ o = 140 ∨ o = 141 ∨ o = 145 ∨ o = 156 ∨ o = 157 → μ' o = μ o) ∧
  (∀ i : Int, i ≠ 0 → i ≠ 5 → i ≠ 6 → i ≠ 8 → i ≠ 22 → i ≠ 26 → i ≠ 27 → μ' 142 i = μ 142 i) ∧ μ' 137 2 = μ 137 2
theorem kbKm.rf {μ : knMem} : kbKm μ μ := ⟨fun _ _ => rfl, fun _ _ _ _ _ _ _ _ => rfl, rfl⟩
theorem kbKm.trans {μ μ1 μ2 : knMem} (h : kbKm μ μ1) (h2 : kbKm μ1 μ2) : kbKm μ μ2 := ⟨fun o ho => (h2.1 o ho).trans (h.1 o ho), fun i a b c d e f g => (h2.2.1 i a b c d e f g).trans (h.2.1 i a b c d e f g), h2.2.2.trans h.2.2⟩
theorem kbK.m {μ μ' : knMem} (h : kbK μ μ') : kbKm μ μ' := ⟨fun o ho => h.1 o (by omega), fun i a _ _ d e f g => h.2.1 i a d e f g, h.2.2⟩
theorem kbKm.up {o k v : Int} {μ μ' : knMem} (h : kbKm μ μ') (ho : (1 ≤ o ∧ o ≤ 9) ∨ (19 ≤ o ∧ o ≤ 136) ∨ (o = 137 ∧ k ≠ 2) ∨ o = 139 ∨ (o = 142 ∧ (k = 0 ∨ k = 5 ∨ k = 6 ∨ k = 8 ∨ k = 22 ∨ k = 26 ∨ k = 27)) ∨ (143 ≤ o ∧ o ≤ 144) ∨ (146 ≤ o ∧ o ≤ 155) ∨ (158 ≤ o ∧ o ≤ 160)) : kbKm μ (knUp μ' o k v) := by
  refine ⟨fun p hp => ?_, fun i a b c d e f g => ?_, ?_⟩
  · rw [knUp_ne (by omega)]; exact h.1 p hp
  · rw [kbUp, if_neg (by omega)]; exact h.2.1 i a b c d e f g
  · rw [kbUp, if_neg (by omega)]; exact h.2.2
theorem kbFr.Km {lo hi : Int} {μ μ' : knMem} (h : kbFr lo hi μ μ') (hh : (1 ≤ lo ∧ hi ≤ 9) ∨ (19 ≤ lo ∧ hi ≤ 136) ∨ (143 ≤ lo ∧ hi ≤ 144) ∨ (146 ≤ lo ∧ hi ≤ 155)) : kbKm μ μ' := ⟨fun o ho => h o (by omega), fun i _ _ _ _ _ _ _ => by rw [h 142 (by omega)], by rw [h 137 (by omega)]⟩
theorem kbFw.Km {μ μ' : knMem} (h : kbFw μ μ') : kbKm μ μ' := ⟨fun o ho => h.1 o (by omega) (by omega) (by omega), fun i _ _ _ i8 _ _ _ => h.2 i i8, by rw [h.1 137 (by omega) (by omega) (by omega)]⟩
theorem kbIv.mk {μ μ' : knMem} (h : kbIv μ) (k : kbKm μ μ') (hs : ∃ S : kbZ, kbCs μ' 1 S ∧ kbRs (μ' 143) S) (hh : kbHi μ') : kbIv μ' := by
  obtain ⟨-, -, hn, ht, ho, he, hf⟩ := h
  obtain ⟨k1, k2, k3⟩ := k
  refine ⟨hs, hh, ?_⟩
  rw [k3, k1 0 (by omega), k1 145 (by omega), k1 157 (by omega), k1 138 (by omega), k1 140 (by omega), k1 156 (by omega), k1 141 (by omega), k2 7 (by omega) (by omega) (by omega) (by omega) (by omega) (by omega) (by omega), k2 21 (by omega) (by omega) (by omega) (by omega) (by omega) (by omega) (by omega), k2 19 (by omega) (by omega) (by omega) (by omega) (by omega) (by omega) (by omega), k2 23 (by omega) (by omega) (by omega) (by omega) (by omega) (by omega) (by omega), k2 24 (by omega) (by omega) (by omega) (by omega) (by omega) (by omega) (by omega)]
  refine ⟨?_, ht, ho, he, hf⟩
  rcases hn with hn | ⟨a, b, T, t1, t2⟩
  · exact Or.inl hn
  · exact Or.inr ⟨a, b, T, t1.sm (fun o o0 o1 => k1 o (by omega)), t2⟩
theorem kb6_stage {μ : knMem} {S : kbZ} (hC : kbCs μ 1 S) (hB : kbB S.1) (hY : 0 ≤ S.2.1 ∧ S.2.1 ≤ 4) (hn : 0 ≤ μ 23 1 ∧ μ 23 1 ≤ 8) :
    kbH (kfX6_stage 1 μ) (fun μ' => kbCs μ' (25 + 9 * μ 23 1) S ∧ kbFr (25 + 9 * μ 23 1 + 1) (25 + 9 * μ 23 1 + 8) μ μ') := by
  unfold kfX6_stage
  rw [kbGd (by omega)]
  exact (kb10_copyFrom hC hB hY (by omega)).bind (fun μ1 h => kbH_some.mpr h)
theorem kb6_keep {μ : knMem} (hn : 0 ≤ μ 23 1 ∧ μ 23 1 ≤ 8) (hk : 0 ≤ μ 23 2 ∧ μ 23 2 ≤ 8) :
    kfX6_keep μ = some (knUp (knUp μ 23 1 (if μ 23 1 = 8 then 0 else μ 23 1 + 1)) 23 2 (if μ 23 2 = 8 then 8 else μ 23 2 + 1)) := by
  unfold kfX6_keep kfJ9_min_7cf53
  have e : ∀ v : Int, knUp μ 23 1 v 23 2 = μ 23 2 := fun v => by rw [kbUp, if_neg (by omega)]
  rw [e, knW_id (x := μ 23 1 + 1) (by omega), knW_id (x := μ 23 2 + 1) (by omega), Option.bind_some]
  have e2 : (if (8 : Int) < μ 23 2 + 1 then 8 else μ 23 2 + 1) = if μ 23 2 = 8 then 8 else μ 23 2 + 1 := by split <;> split <;> omega
  rw [e2]
theorem kb13_copies {μ : knMem} : kbH (kfX13_copies μ) (fun μ' => (∀ i : Int, 0 ≤ i → i < 50 → μ' 146 i = μ 143 i) ∧ kbFr 146 146 μ μ') := by
  unfold kfX13_copies
  refine kbLoop (fun n i s => kfX13_copies_l2 (fun w4 => some w4) n i s) (fun i s => 0 ≤ i ∧ (∀ k : Int, 0 ≤ k → k < i → s 146 k = μ 143 k) ∧ kbFr 146 146 μ s) 50 _ ?_ ?_ _ _ _ (by omega) (by rw [kbF]; omega) ⟨by omega, fun k _ _ => by omega, kbFr.rf⟩
  · intro n i s hi ⟨i0, hr, hf⟩ kk
    simp only [kfX13_copies_l2, kbH_ite, kbH_gd]
    refine ⟨fun h => by omega, fun _ => ⟨by omega, ?_⟩⟩
    rw [knW_id (by omega)]
    refine kk _ ⟨by omega, fun k k0 k1 => ?_, hf.up (by omega)⟩
    by_cases hk : k = i
    · subst hk; rw [kbUp, if_pos (by omega), hf 143 (by omega)]
    · rw [kbUp, if_neg (by omega)]; exact hr k k0 (by omega)
  · intro n s ⟨i0, hr, hf⟩
    simp only [kfX13_copies_l2, kbH_ite, kbH_some]
    exact ⟨fun _ => ⟨hr, hf⟩, fun h => by omega⟩
theorem kb13_goesBack {μ : knMem} : kbH (kfX13_goesBack μ) (fun μ' => (∀ i : Int, 0 ≤ i → i < 50 → μ' 143 i = μ 146 i) ∧ kbFr 143 143 μ μ') := by
  unfold kfX13_goesBack
  refine kbLoop (fun n i s => kfX13_goesBack_l2 (fun w4 => some w4) n i s) (fun i s => 0 ≤ i ∧ (∀ k : Int, 0 ≤ k → k < i → s 143 k = μ 146 k) ∧ kbFr 143 143 μ s) 50 _ ?_ ?_ _ _ _ (by omega) (by rw [kbF]; omega) ⟨by omega, fun k _ _ => by omega, kbFr.rf⟩
  · intro n i s hi ⟨i0, hr, hf⟩ kk
    simp only [kfX13_goesBack_l2, kbH_ite, kbH_gd]
    refine ⟨fun h => by omega, fun _ => ⟨by omega, ?_⟩⟩
    rw [knW_id (by omega)]
    refine kk _ ⟨by omega, fun k k0 k1 => ?_, hf.up (by omega)⟩
    by_cases hk : k = i
    · subst hk; rw [kbUp, if_pos (by omega), hf 146 (by omega)]
    · rw [kbUp, if_neg (by omega)]; exact hr k k0 (by omega)
  · intro n s ⟨i0, hr, hf⟩
    simp only [kfX13_goesBack_l2, kbH_ite, kbH_some]
    exact ⟨fun _ => ⟨hr, hf⟩, fun h => by omega⟩
/-- what the reference's history is after one more -/
theorem kb13_keeps {μ : knMem} (hc : 0 ≤ μ 142 5 ∧ μ 142 5 ≤ 8) (hf6 : 0 ≤ μ 142 6 ∧ μ 142 6 ≤ 7) :
    kbH (kfX13_keeps μ) (fun μ' => μ' 142 5 = (if μ 142 5 = 8 then 8 else μ 142 5 + 1) ∧ μ' 142 6 = (if μ 142 5 = 8 then (μ 142 6 + 1) % 8 else μ 142 6) ∧
      (∀ k : Int, 0 ≤ k → k < 50 → μ' 144 (50 * ((μ 142 6 + μ 142 5) % 8) + k) = μ 146 k) ∧ (∀ i : Int, (i < 50 * ((μ 142 6 + μ 142 5) % 8) ∨ 50 * ((μ 142 6 + μ 142 5) % 8) + 50 ≤ i) → μ' 144 i = μ 144 i) ∧
      (∀ i : Int, i ≠ 5 → i ≠ 6 → μ' 142 i = μ 142 i) ∧ ∀ o : Int, o ≠ 142 → o ≠ 144 → μ' o = μ o) := by
  obtain ⟨t, ht⟩ : ∃ t : Int, t = (μ 142 6 + μ 142 5) % 8 := ⟨_, rfl⟩
  rw [← ht]
  have key : ∀ μ1 : knMem, (∀ o : Int, o ≠ 142 → μ1 o = μ o) → (∀ i : Int, i ≠ 5 → i ≠ 6 → μ1 142 i = μ 142 i) → μ1 142 5 = (if μ 142 5 = 8 then 7 else μ 142 5) → μ1 142 6 = (if μ 142 5 = 8 then (μ 142 6 + 1) % 8 else μ 142 6) →
      kbH (kfX13_keeps_l47 t (fun w12 => some (knUp w12 142 5 (knW ((w12 142 5) + 1)))) knF 0 μ1) (fun μ' => μ' 142 5 = (if μ 142 5 = 8 then 8 else μ 142 5 + 1) ∧ μ' 142 6 = (if μ 142 5 = 8 then (μ 142 6 + 1) % 8 else μ 142 6) ∧
      (∀ k : Int, 0 ≤ k → k < 50 → μ' 144 (50 * t + k) = μ 146 k) ∧ (∀ i : Int, (i < 50 * t ∨ 50 * t + 50 ≤ i) → μ' 144 i = μ 144 i) ∧
      (∀ i : Int, i ≠ 5 → i ≠ 6 → μ' 142 i = μ 142 i) ∧ ∀ o : Int, o ≠ 142 → o ≠ 144 → μ' o = μ o) := by
    intro μ1 q1 q2 q3 q4
    refine kbLoop (fun n i s => kfX13_keeps_l47 t (fun w12 => some (knUp w12 142 5 (knW ((w12 142 5) + 1)))) n i s) (fun i s => 0 ≤ i ∧ (∀ k : Int, 0 ≤ k → k < i → s 144 (50 * t + k) = μ 146 k) ∧ (∀ j : Int, (j < 50 * t ∨ 50 * t + 50 ≤ j) → s 144 j = μ 144 j) ∧ ∀ o : Int, o ≠ 144 → s o = μ1 o) 50 _ ?_ ?_ _ _ _ (by omega) (by rw [kbF]; omega) ⟨by omega, fun k _ _ => by omega, fun j _ => by rw [q1 144 (by omega)], fun _ _ => rfl⟩
    · intro n i s hi ⟨i0, hr, hj, hf⟩ kk
      simp only [kfX13_keeps_l47, kbH_ite, kbH_gd]
      refine ⟨fun h => by omega, fun _ => ?_⟩
      rw [knW_id (x := 50 * t) (by omega), knW_id (x := 50 * t + i) (by omega), knW_id (x := i + 1) (by omega)]
      refine ⟨by omega, by omega, kk _ ⟨by omega, fun k k0 k1 => ?_, fun j hj2 => ?_, fun o ho => ?_⟩⟩
      · by_cases hk : k = i
        · subst hk; rw [kbUp, if_pos (by omega), hf 146 (by omega), q1 146 (by omega)]
        · rw [kbUp, if_neg (by omega)]; exact hr k k0 (by omega)
      · rw [kbUp, if_neg (by omega)]; exact hj j hj2
      · rw [knUp_ne ho]; exact hf o ho
    · intro n s ⟨i0, hr, hj, hf⟩
      simp only [kfX13_keeps_l47, kbH_ite, kbH_some]
      refine ⟨fun _ => ⟨?_, ?_, fun k k0 k1 => ?_, fun i hi => ?_, fun i h5 h6 => ?_, fun o h2 h4 => ?_⟩, fun h => by omega⟩
      · rw [kbUp, if_pos (by omega), hf 142 (by omega), q3]
        split
        · decide
        · rw [knW_id (by omega)]
      · rw [kbUp, if_neg (by omega), hf 142 (by omega), q4]
      · rw [kbUp, if_neg (by omega)]; exact hr k k0 k1
      · rw [kbUp, if_neg (by omega)]; exact hj i hi
      · rw [kbUp, if_neg (by omega), hf 142 (by omega)]; exact q2 i h5 h6
      · rw [knUp_ne h2, hf o h4]; exact q1 o h2
  unfold kfX13_keeps
  by_cases h8 : μ 142 5 = 8
  · rw [if_pos h8, Option.bind_some]
    have e6 : knRem (knW (μ 142 6 + 1)) 8 = (μ 142 6 + 1) % 8 := by rw [knW_id (by omega), kbRe (by omega) (by omega)]
    have et : knRem (knW ((knUp (knUp μ 142 6 (knRem (knW (μ 142 6 + 1)) 8)) 142 5 (knW (knUp μ 142 6 (knRem (knW (μ 142 6 + 1)) 8) 142 5 - 1))) 142 6 + (knUp (knUp μ 142 6 (knRem (knW (μ 142 6 + 1)) 8)) 142 5 (knW (knUp μ 142 6 (knRem (knW (μ 142 6 + 1)) 8) 142 5 - 1))) 142 5)) 8 = t := by
      rw [e6]
      simp (disch := omega) only [kbUp, if_pos, if_neg, and_true, true_and, if_true, h8]
      rw [knW_id (x := 8 - 1) (by omega), knW_id (by omega), kbRe (by omega) (by omega)]
      omega
    rw [et]
    refine key _ (fun o ho => ?_) (fun i h5 h6 => ?_) ?_ ?_
    · rw [knUp_ne ho, knUp_ne ho]
    · rw [kbUp, if_neg (by omega), kbUp, if_neg (by omega)]
    · rw [kbUp, if_pos (by omega), kbUp, if_neg (by omega), h8]; decide
    · rw [kbUp, if_neg (by omega), kbUp, if_pos (by omega), if_pos h8, e6]
  · rw [if_neg h8, Option.bind_some]
    have et : knRem (knW (μ 142 6 + μ 142 5)) 8 = t := by rw [knW_id (by omega), kbRe (by omega) (by omega), ht]
    rw [et]
    refine key _ (fun o ho => rfl) (fun i h5 h6 => rfl) ?_ ?_
    · rw [if_neg h8]
    · rw [if_neg h8]
/-- the histories' own rows are untouched -/
theorem kb13_remembers {μ : knMem} (hc : 0 ≤ μ 142 5 ∧ μ 142 5 ≤ 8) (hf6 : 0 ≤ μ 142 6 ∧ μ 142 6 ≤ 7) :
    kbH (kfX13_remembers μ) (fun μ' => μ' 142 5 = (if μ 142 5 = 8 then 8 else μ 142 5 + 1) ∧ μ' 142 6 = (if μ 142 5 = 8 then (μ 142 6 + 1) % 8 else μ 142 6) ∧
      (∀ k : Int, 0 ≤ k → k < 50 → μ' 144 (50 * ((μ 142 6 + μ 142 5) % 8) + k) = μ 143 k) ∧ (∀ i : Int, (i < 50 * ((μ 142 6 + μ 142 5) % 8) ∨ 50 * ((μ 142 6 + μ 142 5) % 8) + 50 ≤ i) → μ' 144 i = μ 144 i) ∧
      (∀ i : Int, i ≠ 5 → i ≠ 6 → μ' 142 i = μ 142 i) ∧ ∀ o : Int, o ≠ 142 → o ≠ 144 → o ≠ 146 → μ' o = μ o) := by
  unfold kfX13_remembers
  refine kb13_copies.bind (fun μ1 ⟨a1, a2⟩ => ?_)
  have e : μ1 142 = μ 142 := a2 142 (by omega)
  have e4 : μ1 144 = μ 144 := a2 144 (by omega)
  refine (kb13_keeps (μ := μ1) (by rw [e]; exact hc) (by rw [e]; exact hf6)).bind (fun μ2 h => kbH_some.mpr ?_)
  rw [e, e4] at h
  obtain ⟨b1, b2, b3, b4, b5, b6⟩ := h
  exact ⟨b1, b2, fun k k0 k1 => (b3 k k0 k1).trans (a1 k k0 k1), b4, b5, fun o h1 h2 h3 => (b6 o h1 h2).trans (a2 o (by omega))⟩
