/-! The reference's moves. -/
/-- the reference's long row that a diagram fills -/
def kbW (w : Int → Int) (D : kbD) : Prop := w 0 = D.1 ∧ kbR D (fun k => w (22 + k)) (fun k => w (36 + k)) (fun k => w (15 + k))
theorem kbR.congr {D : kbD} {of vr sg of' vr' sg' : Int → Int} (h : kbR D of vr sg) (h1 : ∀ k : Int, 0 ≤ k → k < 2 * D.1 → of' k = of k ∧ vr' k = vr k) (h2 : ∀ k : Int, 0 ≤ k → k < D.1 → sg' k = sg k) : kbR D of' vr' sg' := by
  obtain ⟨hn, hA, hP⟩ := h
  refine ⟨hn, fun c c0 c1 => ?_, fun p p0 p1 => ?_⟩
  · have h3 := hA c c0 c1
    have h4 := h1 (D.2.1 c) h3.1.1 h3.1.2.1
    have h5 := h1 (D.2.2.1 c) h3.2.1.1 h3.2.1.2.1
    have h6 := h2 c c0 c1
    rw [h4.1, h4.2, h5.1, h5.2, h6]
    exact h3
  · have h3 := hP p p0 p1
    have h4 := h1 p p0 p1
    rw [h4.1, h4.2]
    exact h3
theorem kb13_loads {μ : knMem} {D : kbD} (hW : kbW (μ 143) D) : kbH (kfX13_loads μ) (fun μ' => kbL μ' D ∧ kbFz μ μ') := by
  obtain ⟨h0, hR⟩ := hW
  have hn := hR.1
  unfold kfX13_loads
  rw [kbGd (by omega)]
  refine kbLoop (fun n i s => kfX13_loads_l12 (fun w9 => kfX13_loads_l56 (fun w14 => some w14) knF 0 w9) n i s) (fun i s => 0 ≤ i ∧ (∀ k : Int, 0 ≤ k → k < i → s 147 k = μ 143 (22 + k) ∧ s 148 k = μ 143 (36 + k)) ∧ s 142 8 = D.1 ∧ kbFz μ s) 14 _ ?_ ?_ _ _ _ (by omega) (by rw [kbF]; omega) ⟨by omega, fun k _ _ => by omega, by rw [kbUp, if_pos (by omega)]; exact h0, kbFz.rf.up (Or.inr ⟨rfl, rfl⟩)⟩
  · intro n i s hi ⟨i0, hr, hc, hf⟩ kk
    have e1 : s 143 = μ 143 := hf.1 143 (by omega) (by omega)
    simp only [kfX13_loads_l12, kbH_ite, kbH_gd]
    rw [knW_id (x := 22 + i) (by omega), knW_id (x := 36 + i) (by omega), knW_id (x := i + 1) (by omega)]
    refine ⟨fun h => by omega, fun _ => ⟨by omega, by omega, by omega, kk _ ⟨by omega, fun k k0 k1 => ?_, ?_, (hf.up (Or.inl (by omega))).up (Or.inl (by omega))⟩⟩⟩
    · by_cases hki : k = i
      · subst hki
        simp (disch := omega) only [kbUp, if_pos, if_neg, and_true, true_and, if_true, e1, and_self]
      · simp (disch := omega) only [kbUp, if_pos, if_neg, and_true, true_and, if_true]
        exact hr k k0 (by omega)
    · simp (disch := omega) only [kbUp, if_pos, if_neg, and_true, true_and, if_true]
      exact hc
  · intro n s ⟨i0, hr, hc, hf⟩
    simp only [kfX13_loads_l12]
    rw [if_pos (by omega)]
    refine kbLoop (fun n i s => kfX13_loads_l56 (fun w14 => some w14) n i s) (fun i t => 0 ≤ i ∧ (∀ k : Int, 0 ≤ k → k < i → t 149 k = μ 143 (15 + k)) ∧ t 147 = s 147 ∧ t 148 = s 148 ∧ t 142 8 = D.1 ∧ kbFz μ t) 7 _ ?_ ?_ _ _ _ (by omega) (by rw [kbF]; omega) ⟨by omega, fun k _ _ => by omega, rfl, rfl, hc, hf⟩
    · intro n i t hi ⟨i0, ht, t1, t2, hc, hf⟩ kk
      have e1 : t 143 = μ 143 := hf.1 143 (by omega) (by omega)
      simp only [kfX13_loads_l56, kbH_ite, kbH_gd]
      rw [knW_id (x := 15 + i) (by omega), knW_id (x := i + 1) (by omega)]
      refine ⟨fun h => by omega, fun _ => ⟨by omega, by omega, kk _ ⟨by omega, fun k k0 k1 => ?_, ?_, ?_, ?_, hf.up (Or.inl (by omega))⟩⟩⟩
      · by_cases hki : k = i
        · subst hki
          simp (disch := omega) only [kbUp, if_pos, if_neg, and_true, true_and, if_true, e1]
        · simp (disch := omega) only [kbUp, if_pos, if_neg, and_true, true_and, if_true]
          exact ht k k0 (by omega)
      · rw [knUp_ne (by omega)]; exact t1
      · rw [knUp_ne (by omega)]; exact t2
      · simp (disch := omega) only [kbUp, if_pos, if_neg, and_true, true_and, if_true]
        exact hc
    · intro n t ⟨i0, ht, t1, t2, hc, hf⟩
      simp only [kfX13_loads_l56]
      rw [if_pos (by omega), kbH_some]
      refine ⟨⟨hc, hR.congr (fun k k0 k1 => ?_) (fun k k0 k1 => ht k k0 (by omega))⟩, hf⟩
      rw [t1, t2]
      exact hr k k0 (by omega)
theorem kb13_stores {μ : knMem} {D : kbD} (hL : kbL μ D) : kbH (kfX13_stores μ) (fun μ' => kbW (μ' 143) D ∧ (∀ i : Int, 1 ≤ i → i ≤ 14 → μ' 143 i = μ 143 i) ∧ ∀ o : Int, o ≠ 143 → μ' o = μ o) := by
  obtain ⟨h0, hR⟩ := hL
  have hn := hR.1
  unfold kfX13_stores
  rw [kbGd (by omega)]
  refine kbLoop (fun n i s => kfX13_stores_l12 (fun w37 => kfX13_stores_l84 (fun w50 => some w50) knF 0 w37) n i s) (fun i s => 0 ≤ i ∧ (∀ k : Int, 0 ≤ k → k < i → k < 2 * D.1 → s 143 (22 + k) = μ 147 k ∧ s 143 (36 + k) = μ 148 k) ∧ s 143 0 = D.1 ∧ (∀ j : Int, 1 ≤ j → j ≤ 21 → s 143 j = μ 143 j) ∧ ∀ o : Int, o ≠ 143 → s o = μ o) 14 _ ?_ ?_ _ _ _ (by omega) (by rw [kbF]; omega) ⟨by omega, fun k _ _ => by omega, by rw [kbUp, if_pos (by omega)]; exact h0, fun j j0 j1 => by rw [kbUp, if_neg (by omega)], fun o ho => knUp_ne ho⟩
  · intro n i s hi ⟨i0, hr, hc, hj, hf⟩ kk
    have e1 : s 142 8 = D.1 := by rw [hf 142 (by omega)]; exact h0
    have e2 : ∀ v w : Int, knUp s 143 v w 142 8 = D.1 := fun v w => by rw [kbUp, if_neg (by omega)]; exact e1
    have e3 : ∀ v w : Int, knUp s 143 v w 148 i = μ 148 i := fun v w => by rw [kbUp, if_neg (by omega), hf 148 (by omega)]
    have e4 : s 147 i = μ 147 i := by rw [hf 147 (by omega)]
    simp only [kfX13_stores_l12, e1, e2, e3, e4]
    rw [if_neg (by omega), knW_id (x := 22 + i) (by omega), knW_id (x := 36 + i) (by omega), knW_id (x := i + 1) (by omega), knW_id (x := 2 * D.1) (by omega)]
    by_cases hk : 2 * D.1 ≤ i
    · simp (disch := omega) only [if_pos hk, Option.bind_some, kbGd]
      refine kk _ ⟨by omega, fun k k0 k1 k2 => ?_, ?_, fun j j0 j1 => ?_, fun o ho => ?_⟩
      · simp (disch := omega) only [kbUp, if_pos, if_neg, and_true, true_and, if_true]
        exact hr k k0 (by omega) k2
      · simp (disch := omega) only [kbUp, if_pos, if_neg, and_true, true_and, if_true]
        exact hc
      · simp (disch := omega) only [kbUp, if_pos, if_neg, and_true, true_and, if_true]
        exact hj j j0 j1
      · rw [knUp_ne ho, knUp_ne ho]; exact hf o ho
    · simp (disch := omega) only [if_neg hk, Option.bind_some, kbGd]
      refine kk _ ⟨by omega, fun k k0 k1 k2 => ?_, ?_, fun j j0 j1 => ?_, fun o ho => ?_⟩
      · by_cases hki : k = i
        · subst hki
          simp (disch := omega) only [kbUp, if_pos, if_neg, and_true, true_and, if_true, and_self]
        · simp (disch := omega) only [kbUp, if_pos, if_neg, and_true, true_and, if_true]
          exact hr k k0 (by omega) k2
      · simp (disch := omega) only [kbUp, if_pos, if_neg, and_true, true_and, if_true]
        exact hc
      · simp (disch := omega) only [kbUp, if_pos, if_neg, and_true, true_and, if_true]
        exact hj j j0 j1
      · rw [knUp_ne ho, knUp_ne ho]; exact hf o ho
  · intro n s ⟨i0, hr, hc, hj, hf⟩
    simp only [kfX13_stores_l12]
    rw [if_pos (by omega)]
    refine kbLoop (fun n i s => kfX13_stores_l84 (fun w50 => some w50) n i s) (fun i t => 0 ≤ i ∧ (∀ k : Int, 0 ≤ k → k < i → k < D.1 → t 143 (15 + k) = μ 149 k) ∧ (∀ j : Int, 22 ≤ j → t 143 j = s 143 j) ∧ t 143 0 = D.1 ∧ (∀ j : Int, 1 ≤ j → j ≤ 14 → t 143 j = μ 143 j) ∧ ∀ o : Int, o ≠ 143 → t o = μ o) 7 _ ?_ ?_ _ _ _ (by omega) (by rw [kbF]; omega) ⟨by omega, fun k _ _ => by omega, fun j _ => rfl, hc, fun j j0 j1 => hj j j0 (by omega), hf⟩
    · intro n i t hi ⟨i0, ht, h22, hc, hj, hf⟩ kk
      have e1 : t 142 8 = D.1 := by rw [hf 142 (by omega)]; exact h0
      have e4 : t 149 i = μ 149 i := by rw [hf 149 (by omega)]
      simp only [kfX13_stores_l84, e1, e4]
      rw [if_neg (by omega), knW_id (x := 15 + i) (by omega), knW_id (x := i + 1) (by omega)]
      by_cases hk : D.1 ≤ i
      · simp (disch := omega) only [if_pos hk, Option.bind_some, kbGd]
        refine kk _ ⟨by omega, fun k k0 k1 k2 => ?_, fun j j0 => ?_, ?_, fun j j0 j1 => ?_, fun o ho => ?_⟩
        · simp (disch := omega) only [kbUp, if_pos, if_neg, and_true, true_and, if_true]
          exact ht k k0 (by omega) k2
        · simp (disch := omega) only [kbUp, if_pos, if_neg, and_true, true_and, if_true]
          exact h22 j j0
        · simp (disch := omega) only [kbUp, if_pos, if_neg, and_true, true_and, if_true]
          exact hc
        · simp (disch := omega) only [kbUp, if_pos, if_neg, and_true, true_and, if_true]
          exact hj j j0 j1
        · rw [knUp_ne ho]; exact hf o ho
      · simp (disch := omega) only [if_neg hk, Option.bind_some, kbGd]
        refine kk _ ⟨by omega, fun k k0 k1 k2 => ?_, fun j j0 => ?_, ?_, fun j j0 j1 => ?_, fun o ho => ?_⟩
        · by_cases hki : k = i
          · subst hki
            simp (disch := omega) only [kbUp, if_pos, if_neg, and_true, true_and, if_true]
          · simp (disch := omega) only [kbUp, if_pos, if_neg, and_true, true_and, if_true]
            exact ht k k0 (by omega) k2
        · simp (disch := omega) only [kbUp, if_pos, if_neg, and_true, true_and, if_true]
          exact h22 j j0
        · simp (disch := omega) only [kbUp, if_pos, if_neg, and_true, true_and, if_true]
          exact hc
        · simp (disch := omega) only [kbUp, if_pos, if_neg, and_true, true_and, if_true]
          exact hj j j0 j1
        · rw [knUp_ne ho]; exact hf o ho
    · intro n t ⟨i0, ht, h22, hc, hj, hf⟩
      simp only [kfX13_stores_l84]
      rw [if_pos (by omega), kbH_some]
      refine ⟨⟨hc, hR.congr (fun k k0 k1 => ?_) (fun k k0 k1 => ht k k0 (by omega) k1)⟩, hj, hf⟩
      have := hr k k0 (by omega) k1
      exact ⟨(h22 (22 + k) (by omega)).trans this.1, (h22 (36 + k) (by omega)).trans this.2⟩
theorem kb13_flips {μ : knMem} {D : kbD} (hL : kbL μ D) {c : Int} (hc : 0 ≤ c ∧ c < D.1) : kbH (kfX13_flips c μ) (fun μ' => kbL μ' (kbSw c D) ∧ kbFz μ μ') := by
  obtain ⟨h0, hR⟩ := hL
  have hn := hR.1
  unfold kfX13_flips
  refine kbLoop (fun n i s => kfX13_flips_l2 c (fun w11 => knGd (0 ≤ c ∧ c < 7) (some (knUp w11 149 c (knW (1 - (w11 149 c)))))) n i s) (fun i s => 0 ≤ i ∧ (∀ k : Int, 0 ≤ k → k < i → s 148 k = if μ 147 k = c then 1 - μ 148 k else μ 148 k) ∧ (∀ k : Int, i ≤ k → s 148 k = μ 148 k) ∧ s 142 8 = D.1 ∧ s 147 = μ 147 ∧ s 149 = μ 149 ∧ kbFz μ s) (2 * D.1) _ ?_ ?_ _ _ _ (by omega) (by rw [kbF]; omega) ⟨by omega, fun k _ _ => by omega, fun k _ => rfl, h0, rfl, rfl, kbFz.rf⟩
  · intro n i s hi ⟨i0, hr, hr2, h8, s1, s2, hf⟩ kk
    have hv := (hR.2.2 i i0 hi).2
    have e1 := hr2 i (by omega)
    simp only [kfX13_flips_l2, h8, s1, e1]
    rw [knW_id (x := 2 * D.1) (by omega), if_neg (by omega), kbGd (by omega), knW_id (x := i + 1) (by omega), knW_id (x := 1 - μ 148 i) (by omega)]
    by_cases hk : μ 147 i = c
    · rw [if_pos hk, Option.bind_some]
      refine kk _ ⟨by omega, fun k k0 k1 => ?_, fun k k0 => ?_, ?_, ?_, ?_, hf.up (Or.inl (by omega))⟩
      · by_cases hki : k = i
        · subst hki
          simp (disch := omega) only [kbUp, if_pos, if_neg, and_true, true_and, if_true]
        · simp (disch := omega) only [kbUp, if_pos, if_neg, and_true, true_and, if_true]
          exact hr k k0 (by omega)
      · simp (disch := omega) only [kbUp, if_pos, if_neg, and_true, true_and, if_true]
        exact hr2 k (by omega)
      · simp (disch := omega) only [kbUp, if_pos, if_neg, and_true, true_and, if_true]
        exact h8
      · rw [knUp_ne (by omega)]; exact s1
      · rw [knUp_ne (by omega)]; exact s2
    · rw [if_neg hk, Option.bind_some]
      refine kk _ ⟨by omega, fun k k0 k1 => ?_, fun k k0 => hr2 k (by omega), h8, s1, s2, hf⟩
      by_cases hki : k = i
      · subst hki
        rw [if_neg hk]; exact e1
      · exact hr k k0 (by omega)
  · intro n s ⟨i0, hr, hr2, h8, s1, s2, hf⟩
    have hv := hR.2.1 c hc.1 hc.2
    simp only [kfX13_flips_l2, h8, s2]
    rw [knW_id (x := 2 * D.1) (by omega), if_pos (by omega), kbGd (by omega), kbH_some, knW_id (by omega)]
    refine ⟨⟨by rw [kbUp, if_neg (by omega)]; exact h8, hn, fun k k0 k1 => ?_, fun p p0 p1 => ?_⟩, hf.up (Or.inl (by omega))⟩
    · have k1 : k < D.1 := k1
      have hk := hR.2.1 k k0 k1
      have r1 := hr (D.2.1 k) hk.1.1 (by omega)
      have r2 := hr (D.2.2.1 k) hk.2.1.1 (by omega)
      rw [knUp_ne (by omega), knUp_ne (by omega), s1]
      by_cases hkc : k = c
      · subst hkc
        simp (disch := omega) only [kbSw, kbUp, if_pos, if_neg, and_true, true_and, if_true]
        rw [r1, r2, if_pos hk.1.2.2.1, if_pos hk.2.1.2.2.1]
        omega
      · simp (disch := omega) only [kbSw, kbUp, if_pos, if_neg, and_true, true_and, if_true, s2]
        rw [r1, r2, if_neg (by omega), if_neg (by omega)]
        exact hk
    · have p1 : p < 2 * D.1 := p1
      have hp := hR.2.2 p p0 p1
      have r1 := hr p p0 p1
      rw [knUp_ne (by omega), knUp_ne (by omega), s1, r1]
      refine ⟨hp.1, ?_⟩
      by_cases hpc : μ 147 p = c
      · simp only [kbSw, hpc, if_true]
        rw [hpc] at hp
        omega
      · simp only [kbSw, if_neg hpc]
        exact hp.2
