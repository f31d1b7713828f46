/-! The reference: one crossing switched, all; turned round, turned; taken away; reduced; its writhe. -/
theorem kbMdS {x p m : Int} (hx : 0 ≤ x ∧ x < m) (hp : 0 ≤ p ∧ p < m) : (x - p) % m = if p ≤ x then x - p else x - p + m := by
  by_cases h : p ≤ x
  · rw [if_pos h, kbMd0 (by omega)]
  · rw [if_neg h, kbMdN (by omega)]
theorem kbMdA {x p m : Int} (hx : 0 ≤ x ∧ x < m) (hp : 0 ≤ p ∧ p < m) : (x + p) % m = if x + p < m then x + p else x + p - m := by
  by_cases h : x + p < m
  · rw [if_pos h, kbMd0 (by omega)]
  · rw [if_neg h, kbMd1 (by omega)]
theorem kb13_turns {μ : knMem} {D : kbD} (hL : kbL μ D) : kfX13_turns μ = some (kbWr D) := by
  obtain ⟨h0, hn, hA, hP⟩ := hL
  have key : kbH (kfX13_turns μ) (fun r => r = kbWr D) := by
    unfold kfX13_turns
    refine kbLoop (fun n i (x : Int) => kfX13_turns_l4 μ (fun w5 => some w5) n x i) (fun i x => 0 ≤ i ∧ x = kbSm (fun k => if D.2.2.2 k = 0 then -1 else 1) i.toNat) D.1 _ ?_ ?_ _ _ _ (by omega) (by rw [kbF]; omega) ⟨by omega, rfl⟩
    · intro n i x hi ⟨i0, hx⟩ kk
      simp only [kfX13_turns_l4, kbH_ite, kbH_gd]
      refine ⟨fun h => by omega, fun _ => ⟨by omega, ?_⟩⟩
      have hb := kbSm_le (f := fun k => if D.2.2.2 k = 0 then -1 else 1) (b := 1) i.toNat (fun k _ _ => by split <;> omega)
      have hs := hA i i0 hi
      have e1 : knW (knW (2 * μ 149 i) - 1) = if D.2.2.2 i = 0 then -1 else 1 := by
        rw [hs.2.2.1]
        rcases hs.2.2.2 with h | h <;> rw [h] <;> decide
      rw [e1, knW_id (x := i + 1) (by omega), knW_id (by split <;> omega)]
      refine kk _ ⟨by omega, ?_⟩
      have e : (i + 1).toNat = i.toNat + 1 := by omega
      rw [e, kbSm, hx]
      have e2 : ((i.toNat : Nat) : Int) = i := by omega
      simp only [e2]
    · intro n x ⟨i0, hx⟩
      simp only [kfX13_turns_l4, kbH_ite, kbH_some]
      exact ⟨fun _ => hx, fun h => by omega⟩
  obtain ⟨a, h2, h3⟩ := key
  rw [h2, h3]
theorem kbWr_in {D : kbD} (hn : 0 ≤ D.1 ∧ D.1 ≤ 7) : -D.1 ≤ kbWr D ∧ kbWr D ≤ D.1 := by
  have hb := kbSm_le (f := fun k => if D.2.2.2 k = 0 then -1 else 1) (b := 1) D.1.toNat (fun k _ _ => by split <;> omega)
  unfold kbWr
  omega
/-- stored: what is then in the long row -/
theorem kb13_st {μ μ1 : knMem} {E : kbD} (h : kbL μ1 E) (f : kbFz μ μ1) : kbH (kfX13_stores μ1) (fun μ2 => kbW (μ2 143) E ∧ (∀ i : Int, 1 ≤ i → i ≤ 14 → μ2 143 i = μ 143 i) ∧ kbFw μ μ2 ∧ kbL μ2 E) :=
  (kb13_stores h).mono (fun μ2 ⟨d1, d2, d3⟩ => ⟨d1, fun i i0 i1 => (d2 i i0 i1).trans (congrFun (f.1 143 (by omega) (by omega)) i), f.st d3, by
    refine ⟨by rw [d3 142 (by omega)]; exact h.1, ?_⟩
    rw [d3 147 (by omega), d3 148 (by omega), d3 149 (by omega)]
    exact h.2⟩)
theorem kbR.eq {D E : kbD} {of vr sg : Int → Int} (h : kbR D of vr sg) (he : kbE D E) : kbR E of vr sg := by
  obtain ⟨hn, hA, hP⟩ := h
  obtain ⟨e0, e1⟩ := he
  refine ⟨by omega, fun c c0 c1 => ?_, fun p p0 p1 => ?_⟩
  · have h1 := hA c c0 (by omega)
    have h2 := e1 c c0 (by omega)
    rw [← h2.1, ← h2.2.1, ← h2.2.2, ← e0]
    exact h1
  · have h1 := hP p p0 (by omega)
    have h2 := e1 (of p) h1.1.1 h1.1.2
    rw [← h2.1, ← h2.2.1, ← e0]
    exact h1
theorem kbL.eq {μ : knMem} {D E : kbD} (h : kbL μ D) (he : kbE D E) : kbL μ E := ⟨h.1.trans he.1, h.2.eq he⟩
theorem kb13_switchesOne {μ : knMem} {D : kbD} (hW : kbW (μ 143) D) {c : Int} (hc : 0 ≤ c ∧ c < D.1) :
    kbH (kfX13_switchesOne c μ) (fun r => r.1 = (kbSw c D).2.2.2 c ∧ kbW (r.2 143) (kbSw c D) ∧ (∀ i : Int, 1 ≤ i → i ≤ 14 → r.2 143 i = μ 143 i) ∧ kbFw μ r.2) := by
  unfold kfX13_switchesOne
  refine (kb13_loads hW).bind (fun μ1 ⟨a1, f1⟩ => ?_)
  have hn := a1.2.1
  refine (kb13_flips a1 hc).bind (fun μ2 ⟨b1, g1⟩ => ?_)
  refine (kb13_st b1 (f1.trans g1)).bind (fun μ3 ⟨c1, c2, c3, c4⟩ => ?_)
  rw [kbH_gd, kbH_some]
  exact ⟨by omega, (c4.2.2.1 c hc.1 hc.2).2.2.1, c1, c2, c3⟩
theorem kb13_mirrors {μ : knMem} {D : kbD} (hW : kbW (μ 143) D) :
    kbH (kfX13_mirrors μ) (fun r => r.1 = kbWr (kbSb D.1 D) ∧ kbW (r.2 143) (kbSb D.1 D) ∧ (∀ i : Int, 1 ≤ i → i ≤ 14 → r.2 143 i = μ 143 i) ∧ kbFw μ r.2) := by
  unfold kfX13_mirrors
  refine (kb13_loads hW).bind (fun μ1 ⟨a1, f1⟩ => ?_)
  have hn := a1.2.1
  refine kbLoop (fun n i s => kfX13_mirrors_l6 (fun w9 => Option.bind (kfX13_stores w9) (fun q10 => Option.bind (kfX13_turns q10) (fun q13 => some (q13, q10)))) n i s) (fun i s => 0 ≤ i ∧ kbL s (kbSb i D) ∧ kbFz μ s) D.1 _ ?_ ?_ _ _ _ (by omega) (by rw [kbF]; omega) ?_
  · intro n i s hi ⟨i0, hc, hf⟩ kk
    have hc0 : s 142 8 = D.1 := hc.1
    simp only [kfX13_mirrors_l6, kbH_ite]
    refine ⟨fun h => by omega, fun _ => ?_⟩
    rw [knW_id (by omega)]
    refine (kb13_flips hc ⟨i0, hi⟩).bind (fun s' ⟨h2, h3⟩ => kk s' ⟨by omega, h2.eq ⟨rfl, fun k k0 k1 => ?_⟩, hf.trans h3⟩)
    simp only [kbSw, kbSb]
    by_cases hk : k = i
    · subst hk
      have : k < k + 1 := by omega
      simp [this]
    · by_cases hk2 : k < i
      · have : k < i + 1 := by omega
        simp [hk, hk2, this]
      · have : ¬ k < i + 1 := by omega
        simp [hk, hk2, this]
  · intro n s ⟨i0, hc, hf⟩
    have hc0 : s 142 8 = D.1 := hc.1
    simp only [kfX13_mirrors_l6, kbH_ite]
    refine ⟨fun _ => ?_, fun h => by omega⟩
    refine (kb13_st hc hf).bind (fun μ3 ⟨c1, c2, c3, c4⟩ => ?_)
    rw [kb13_turns c4]
    exact kbH_some.mpr ⟨rfl, c1, c2, c3⟩
  · refine ⟨by omega, a1.eq ⟨rfl, fun k k0 k1 => ?_⟩, f1⟩
    have : ¬ k < 0 := by omega
    simp [kbSb, this]
theorem kbR_bk {D : kbD} {of vr sg of' vr' : Int → Int} (h : kbR D of vr sg) (h1 : ∀ k : Int, 0 ≤ k → k < 2 * D.1 → of' k = of (2 * D.1 - 1 - k) ∧ vr' k = vr (2 * D.1 - 1 - k)) : kbR (kbBk D) of' vr' sg := by
  obtain ⟨hn, hA, hP⟩ := h
  refine ⟨hn, fun c c0 c1 => ?_, fun p p0 p1 => ?_⟩
  · have c1 : c < D.1 := c1
    have h2 := hA c c0 c1
    have h3 := h1 (2 * D.1 - 1 - D.2.1 c) (by omega) (by omega)
    have h4 := h1 (2 * D.1 - 1 - D.2.2.1 c) (by omega) (by omega)
    rw [show 2 * D.1 - 1 - (2 * D.1 - 1 - D.2.1 c) = D.2.1 c by omega] at h3
    rw [show 2 * D.1 - 1 - (2 * D.1 - 1 - D.2.2.1 c) = D.2.2.1 c by omega] at h4
    simp only [kbBk]
    rw [h3.1, h3.2, h4.1, h4.2]
    omega
  · have p1 : p < 2 * D.1 := p1
    have h2 := hP (2 * D.1 - 1 - p) (by omega) (by omega)
    have h3 := h1 p p0 p1
    simp only [kbBk]
    rw [h3.1, h3.2]
    omega
theorem kb13_reverses {μ : knMem} {D : kbD} (hW : kbW (μ 143) D) :
    kbH (kfX13_reverses μ) (fun r => ((D.1 = 0 ∧ r.1 = -1) ∨ (0 < D.1 ∧ (0 ≤ r.1 ∧ r.1 < D.1) ∧ ((kbBk D).2.1 r.1 = 0 ∨ (kbBk D).2.2.1 r.1 = 0))) ∧ kbW (r.2 143) (kbBk D) ∧ (∀ i : Int, 1 ≤ i → i ≤ 14 → r.2 143 i = μ 143 i) ∧ kbFw μ r.2) := by
  unfold kfX13_reverses
  refine (kb13_loads hW).bind (fun μ1 ⟨a1, f1⟩ => ?_)
  have hn := a1.2.1
  refine kbLoop (fun n i s => kfX13_reverses_l6 (fun w13 => Option.bind (kfX13_stores w13) (fun q14 => Option.bind (α := Int) (if (q14 142 8) = 0 then some (-1) else knGd ((0 : Int) ≤ 0 ∧ (0 : Int) < 14) (some (q14 147 0))) (fun q21 => some (q21, q14)))) n i s) (fun i s => 0 ≤ i ∧ s 142 8 = D.1 ∧ (∀ k : Int, 0 ≤ k → k < 2 * D.1 → s 147 k = (if k < i ∨ 2 * D.1 - 1 - i < k then μ1 147 (2 * D.1 - 1 - k) else μ1 147 k) ∧ s 148 k = (if k < i ∨ 2 * D.1 - 1 - i < k then μ1 148 (2 * D.1 - 1 - k) else μ1 148 k)) ∧ s 149 = μ1 149 ∧ kbFz μ s) D.1 _ ?_ ?_ _ _ _ (by omega) (by rw [kbF]; omega) ?_
  · intro n i s hi ⟨i0, hc, hr, hs, hf⟩ kk
    simp only [kfX13_reverses_l6, kbH_ite, hc]
    refine ⟨fun h => by omega, fun _ => ?_⟩
    rw [knW_id (x := 2 * D.1) (by omega), knW_id (x := 2 * D.1 - 1) (by omega), knW_id (x := 2 * D.1 - 1 - i) (by omega), knW_id (x := i + 1) (by omega), kbH_gd, kbH_gd]
    refine ⟨by omega, by omega, kk _ ⟨by omega, ?_, fun k k0 k1 => ?_, ?_, (((hf.up (Or.inl (by omega))).up (Or.inl (by omega))).up (Or.inl (by omega))).up (Or.inl (by omega))⟩⟩
    · simp (disch := omega) only [kbUp, if_pos, if_neg, and_true, true_and, if_true]
      exact hc
    · have r1 := hr i i0 (by omega)
      have r2 := hr (2 * D.1 - 1 - i) (by omega) (by omega)
      have r3 := hr k k0 k1
      rw [if_neg (by omega), if_neg (by omega)] at r1
      rw [if_neg (by omega), if_neg (by omega)] at r2
      by_cases g1 : k = i
      · subst g1
        simp (disch := omega) only [kbUp, if_pos, if_neg, and_true, true_and, if_true]
        exact r2
      · by_cases g2 : k = 2 * D.1 - 1 - i
        · simp (disch := omega) only [kbUp, if_pos, if_neg, and_true, true_and, if_true]
          rw [show 2 * D.1 - 1 - k = i by omega]
          exact r1
        · simp (disch := omega) only [kbUp, if_neg]
          by_cases g3 : k < i ∨ 2 * D.1 - 1 - i < k
          · rw [if_pos g3, if_pos g3] at r3
            rw [if_pos (by omega), if_pos (by omega)]
            exact r3
          · rw [if_neg g3, if_neg g3] at r3
            rw [if_neg (by omega), if_neg (by omega)]
            exact r3
    · rw [knUp_ne (by omega), knUp_ne (by omega), knUp_ne (by omega), knUp_ne (by omega)]
      exact hs
  · intro n s ⟨i0, hc, hr, hs, hf⟩
    simp only [kfX13_reverses_l6, kbH_ite, hc]
    refine ⟨fun _ => ?_, fun h => by omega⟩
    have hL : kbL s (kbBk D) := by
      refine ⟨hc, ?_⟩
      rw [hs]
      refine kbR_bk a1.2 (fun k k0 k1 => ?_)
      have r3 := hr k k0 k1
      rw [if_pos (by omega), if_pos (by omega)] at r3
      exact r3
    refine (kb13_st hL hf).bind (fun μ3 ⟨c1, c2, c3, c4⟩ => ?_)
    have e8 : μ3 142 8 = D.1 := c4.1
    have h9 : ∀ r : Int, (if D.1 = 0 then r = -1 else r = μ3 147 0) → ((D.1 = 0 ∧ r = -1) ∨ (0 < D.1 ∧ (0 ≤ r ∧ r < D.1) ∧ ((kbBk D).2.1 r = 0 ∨ (kbBk D).2.2.1 r = 0))) := by
      intro r hr
      by_cases hz : D.1 = 0
      · rw [if_pos hz] at hr
        exact Or.inl ⟨hz, hr⟩
      · rw [if_neg hz] at hr
        have h8 := c4.2.2.2 0 (by omega) (by show (0 : Int) < 2 * D.1; omega)
        rw [hr]
        refine Or.inr ⟨by omega, h8.1, ?_⟩
        rcases h8.2 with h8 | h8
        · exact Or.inl h8.2
        · exact Or.inr h8.2
    rw [e8]
    by_cases hz : D.1 = 0
    · rw [if_pos hz]
      exact kbH_some.mpr ⟨h9 _ (by rw [if_pos hz]), c1, c2, c3⟩
    · rw [if_neg hz, kbGd (by omega)]
      exact kbH_some.mpr ⟨h9 _ (by rw [if_neg hz]), c1, c2, c3⟩
  · refine ⟨by omega, a1.1, fun k k0 k1 => ?_, rfl, f1⟩
    rw [if_neg (by omega), if_neg (by omega)]
    exact ⟨rfl, rfl⟩
theorem kbR_tn {D : kbD} {of vr sg of' vr' : Int → Int} (h : kbR D of vr sg) {p : Int} (hp : 0 ≤ p ∧ p < 2 * D.1) (h1 : ∀ k : Int, 0 ≤ k → k < 2 * D.1 → of' k = of ((k + p) % (2 * D.1)) ∧ vr' k = vr ((k + p) % (2 * D.1))) : kbR (kbTn p D) of' vr' sg := by
  obtain ⟨hn, hA, hP⟩ := h
  have key : ∀ x : Int, 0 ≤ x → x < 2 * D.1 → (0 ≤ (x - p) % (2 * D.1) ∧ (x - p) % (2 * D.1) < 2 * D.1) ∧ ((x - p) % (2 * D.1) + p) % (2 * D.1) = x := by
    intro x x0 x1
    rw [kbMdS ⟨x0, x1⟩ hp]
    by_cases g : p ≤ x
    · rw [if_pos g, kbMdA (by omega) hp, if_pos (by omega)]; omega
    · rw [if_neg g, kbMdA (by omega) hp, if_neg (by omega)]; omega
  refine ⟨hn, fun c c0 c1 => ?_, fun k k0 k1 => ?_⟩
  · have c1 : c < D.1 := c1
    have h2 := hA c c0 c1
    have g3 := key (D.2.1 c) (by omega) (by omega)
    have g4 := key (D.2.2.1 c) (by omega) (by omega)
    have h3 := h1 _ g3.1.1 g3.1.2
    have h4 := h1 _ g4.1.1 g4.1.2
    rw [g3.2] at h3
    rw [g4.2] at h4
    simp only [kbTn]
    rw [h3.1, h3.2, h4.1, h4.2]
    omega
  · have k1 : k < 2 * D.1 := k1
    have h3 := h1 k k0 k1
    rw [kbMdA ⟨k0, k1⟩ hp] at h3
    have h2 := hP (if k + p < 2 * D.1 then k + p else k + p - 2 * D.1) (by split <;> omega) (by split <;> omega)
    have h5 : ((if k + p < 2 * D.1 then k + p else k + p - 2 * D.1) - p) % (2 * D.1) = k := by
      rw [kbMdS (by split <;> omega) hp]
      split <;> split <;> omega
    simp only [kbTn]
    rw [h3.1, h3.2]
    refine ⟨h2.1, ?_⟩
    rcases h2.2 with h2 | h2
    · left; rw [h2.2]; exact ⟨h2.1, h5⟩
    · right; rw [h2.2]; exact ⟨h2.1, h5⟩
theorem kb13_turnsTo {μ : knMem} {D : kbD} (hW : kbW (μ 143) D) {p : Int} (hp : 0 ≤ p ∧ p < 2 * D.1) :
    kbH (kfX13_turnsTo p μ) (fun r => ((0 ≤ r.1 ∧ r.1 < D.1) ∧ ((kbTn p D).2.1 r.1 = 0 ∨ (kbTn p D).2.2.1 r.1 = 0)) ∧ kbW (r.2 143) (kbTn p D) ∧ (∀ i : Int, 1 ≤ i → i ≤ 14 → r.2 143 i = μ 143 i) ∧ kbFw μ r.2) := by
  unfold kfX13_turnsTo
  refine (kb13_loads hW).bind (fun μ1 ⟨a1, f1⟩ => ?_)
  have hn := a1.2.1
  rw [a1.1, knW_id (by omega)]
  have hw : μ1 143 = μ 143 := f1.1 143 (by omega) (by omega)
  refine kbLoop (fun n i s => kfX13_turnsTo_l13 p (2 * D.1) (fun w12 => Option.bind (kfX13_stores w12) (fun q13 => knGd ((0 : Int) ≤ 0 ∧ (0 : Int) < 14) (some ((q13 147 0), q13)))) n i s) (fun i s => 0 ≤ i ∧ s 142 8 = D.1 ∧ (∀ k : Int, 0 ≤ k → k < i → s 147 k = μ 143 (22 + (k + p) % (2 * D.1)) ∧ s 148 k = μ 143 (36 + (k + p) % (2 * D.1))) ∧ s 149 = μ1 149 ∧ kbFz μ s) (2 * D.1) _ ?_ ?_ _ _ _ (by omega) (by rw [kbF]; omega) ?_
  · intro n i s hi ⟨i0, hc, hr, hs, hf⟩ kk
    have hm1 := Int.emod_nonneg (i + p) (show 2 * D.1 ≠ 0 by omega)
    have hm2 := Int.emod_lt_of_pos (i + p) (show 0 < 2 * D.1 by omega)
    simp only [kfX13_turnsTo_l13, kbH_ite]
    refine ⟨fun h => by omega, fun _ => ?_⟩
    rw [knW_id (x := i + p) (by omega), kbRe (by omega) (by omega), knW_id (x := 22 + _) (by omega), knW_id (x := 36 + _) (by omega), knW_id (x := i + 1) (by omega), kbH_gd, kbH_gd, kbH_gd, kbH_gd]
    refine ⟨by omega, by omega, by omega, by omega, kk _ ⟨by omega, ?_, fun k k0 k1 => ?_, ?_, (hf.up (Or.inl (by omega))).up (Or.inl (by omega))⟩⟩
    · simp (disch := omega) only [kbUp, if_neg]
      exact hc
    · have e1 : s 143 = μ 143 := hf.1 143 (by omega) (by omega)
      by_cases hk : k = i
      · subst hk
        simp (disch := omega) only [kbUp, if_pos, if_neg, and_true, true_and, if_true, e1, and_self]
      · simp (disch := omega) only [kbUp, if_neg]
        exact hr k k0 (by omega)
    · rw [knUp_ne (by omega), knUp_ne (by omega)]
      exact hs
  · intro n s ⟨i0, hc, hr, hs, hf⟩
    simp only [kfX13_turnsTo_l13, kbH_ite]
    refine ⟨fun _ => ?_, fun h => by omega⟩
    have hL : kbL s (kbTn p D) := by
      refine ⟨hc, ?_⟩
      rw [hs]
      refine (kbR_tn (of' := s 147) (vr' := s 148) (hW.2.congr (of' := fun k => μ 143 (22 + k)) (vr' := fun k => μ 143 (36 + k)) (sg' := μ1 149) (fun k _ _ => ⟨rfl, rfl⟩) (fun k k0 k1 => ?_)) hp (fun k k0 k1 => hr k k0 k1))
      exact ((a1.2.2.1 k k0 k1).2.2.1).trans (hW.2.2.1 k k0 k1).2.2.1.symm
    refine (kb13_st hL hf).bind (fun μ3 ⟨c1, c2, c3, c4⟩ => ?_)
    rw [kbGd (by omega)]
    have h8 := c4.2.2.2 0 (by omega) (by show (0 : Int) < 2 * D.1; omega)
    refine kbH_some.mpr ⟨⟨h8.1, ?_⟩, c1, c2, c3⟩
    rcases h8.2 with h8 | h8
    · exact Or.inl h8.2
    · exact Or.inr h8.2
  · exact ⟨by omega, a1.1, fun k _ _ => by omega, rfl, f1⟩
theorem kb13_uncurls {μ : knMem} {D : kbD} (hW : kbW (μ 143) D) {c : Int} (hc : 0 ≤ c ∧ c < D.1) :
    kbH (kfX13_uncurls c μ) (fun r => r.1 = D.1 - 1 ∧ kbW (r.2 143) (kbRm c D) ∧ (∀ i : Int, 1 ≤ i → i ≤ 14 → r.2 143 i = μ 143 i) ∧ kbFw μ r.2) := by
  unfold kfX13_uncurls
  refine (kb13_loads hW).bind (fun μ1 ⟨a1, f1⟩ => ?_)
  refine (kb13_removes a1 hc).bind (fun μ2 ⟨b1, g1⟩ => ?_)
  refine (kb13_st b1 (f1.trans g1)).bind (fun μ3 ⟨c1, c2, c3, c4⟩ => kbH_some.mpr ⟨c4.1, c1, c2, c3⟩)
theorem kb13_unpokes {μ : knMem} {D : kbD} (hW : kbW (μ 143) D) {a b : Int} (ha : 0 ≤ a ∧ a < D.1) (hb : 0 ≤ b ∧ b < D.1) (hab : a ≠ b) :
    kbH (kfX13_unpokes a b μ) (fun r => r.1 = D.1 - 2 ∧ kbW (r.2 143) (kbRm (if b < a then b else a) (kbRm (if a < b then b else a) D)) ∧ (∀ i : Int, 1 ≤ i → i ≤ 14 → r.2 143 i = μ 143 i) ∧ kbFw μ r.2) := by
  unfold kfX13_unpokes
  refine (kb13_loads hW).bind (fun μ1 ⟨a1, f1⟩ => ?_)
  have e1 : (if a ≤ b then b else a : Int) = if a < b then b else a := by split <;> split <;> omega
  have e2 : (if a ≤ b then a else b : Int) = if b < a then b else a := by split <;> split <;> omega
  rw [e1, e2]
  refine (kb13_removes a1 (by split <;> omega)).bind (fun μ2 ⟨b1, g1⟩ => ?_)
  refine (kb13_removes b1 (by show _ ∧ _ < D.1 - 1; split <;> omega)).bind (fun μ3 ⟨b2, g2⟩ => ?_)
  refine (kb13_st b2 ((f1.trans g1).trans g2)).bind (fun μ4 ⟨c1, c2, c3, c4⟩ => kbH_some.mpr ⟨?_, c1, c2, c3⟩)
  have e := c4.1
  simp only [kbRm] at e
  omega
theorem kb13_reducesAll {μ : knMem} {D : kbD} (hW : kbW (μ 143) D) :
    kbH (kfX13_reducesAll μ) (fun r => ∃ E : kbD, kbRx D E ∧ r.1 = D.1 - E.1 ∧ kbW (r.2 143) E ∧ (∀ i : Int, 1 ≤ i → i ≤ 14 → r.2 143 i = μ 143 i) ∧ kbFw μ r.2) := by
  unfold kfX13_reducesAll
  refine (kb13_loads hW).bind (fun μ1 ⟨a1, f1⟩ => ?_)
  refine (kb13_reduces a1).bind (fun μ2 ⟨E, x1, b1, l1, g1⟩ => ?_)
  refine (kb13_st b1 (f1.trans g1)).bind (fun μ3 ⟨c1, c2, c3, c4⟩ => kbH_some.mpr ⟨E, x1, ?_, c1, c2, c3⟩)
  have h1 := a1.2.1
  have h2 := c4.2.1
  rw [a1.1, c4.1]
  show knW (D.1 - E.1) = D.1 - E.1
  rw [knW_id (by omega)]
