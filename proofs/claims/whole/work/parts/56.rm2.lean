/-! The reference removes, inserts, turns. -/
theorem kbCg_le {p o u : Int} : kbCg p o u ≤ p ∧ p - 2 ≤ kbCg p o u := by
  unfold kbCg
  split <;> split <;> omega
theorem kb13_removes {μ : knMem} {D : kbD} (hL : kbL μ D) {c : Int} (hc : 0 ≤ c ∧ c < D.1) : kbH (kfX13_removes c μ) (fun μ' => kbL μ' (kbRm c D) ∧ kbFz μ μ') := by
  have hV := hL.2.V
  obtain ⟨h0, hR⟩ := hL
  have hn := hR.1
  have hcc := hR.2.1 c hc.1 hc.2
  have hou : D.2.1 c ≠ D.2.2.1 c := (hV.2 c c hc.1 hc.2 hc.1 hc.2).1
  have hof : ∀ p : Int, 0 ≤ p → p < 2 * D.1 → (μ 147 p = c ↔ (p = D.2.1 c ∨ p = D.2.2.1 c)) := fun p p0 p1 => by
    have := (hR.2.2 p p0 p1).2
    refine ⟨fun h => by rw [h] at this; omega, fun h => ?_⟩
    rcases h with h | h <;> rw [h]
    · exact hcc.1.2.2.1
    · exact hcc.2.1.2.2.1
  unfold kfX13_removes
  refine kbLoop (fun n i (q : Int × knMem) => kfX13_removes_l4 c (fun w35 => kfX13_removes_l93 (fun w42 => some w42) knF c (knUp w35 142 8 (knW ((w35 142 8) - 1)))) n q.1 i q.2) (fun i q => 0 ≤ i ∧ q.1 = kbCg i (D.2.1 c) (D.2.2.1 c) ∧ (∀ p : Int, 0 ≤ p → p < i → p ≠ D.2.1 c → p ≠ D.2.2.1 c → q.2 147 (kbCg p (D.2.1 c) (D.2.2.1 c)) = (if μ 147 p ≤ c then μ 147 p else μ 147 p - 1) ∧ q.2 148 (kbCg p (D.2.1 c) (D.2.2.1 c)) = μ 148 p) ∧ (∀ p : Int, i ≤ p → q.2 147 p = μ 147 p ∧ q.2 148 p = μ 148 p) ∧ q.2 142 8 = D.1 ∧ q.2 149 = μ 149 ∧ kbFz μ q.2) (2 * D.1) _ ?_ ?_ _ _ (0, μ) (by omega) (by rw [kbF]; omega) ⟨by omega, ?_, fun k _ _ => by omega, fun k _ => ⟨rfl, rfl⟩, h0, rfl, kbFz.rf⟩
  · intro n i q hi ⟨i0, hq, hr, hr2, h8, s2, hf⟩ kk
    obtain ⟨to, s⟩ := q
    dsimp only at hq hr hr2 h8 s2 hf ⊢
    have e1 := hr2 i (by omega)
    have hcg := @kbCg_le i (D.2.1 c) (D.2.2.1 c)
    have hv := (hR.2.2 i i0 hi).1
    have hnx : kbCg (i + 1) (D.2.1 c) (D.2.2.1 c) = kbCg i (D.2.1 c) (D.2.2.1 c) + (if i = D.2.1 c ∨ i = D.2.2.1 c then 0 else 1) := by
      unfold kbCg
      split <;> split <;> split <;> split <;> split <;> omega
    have hto : 0 ≤ kbCg i (D.2.1 c) (D.2.2.1 c) := by
      unfold kbCg
      split <;> split <;> omega
    simp only [kfX13_removes_l4, h8, e1.1]
    rw [knW_id (x := 2 * D.1) (by omega), if_neg (by omega), kbGd (by omega), knW_id (x := i + 1) (by omega)]
    by_cases hk : μ 147 i = c
    · rw [if_pos hk, Option.bind_some]
      have hk2 := (hof i i0 hi).mp hk
      refine kk (to, s) ⟨by omega, by rw [hnx, if_pos hk2]; omega, fun p p0 p1 p2 p3 => ?_, fun k k0 => hr2 k (by omega), h8, s2, hf⟩
      exact hr p p0 (by omega) p2 p3
    · rw [if_neg hk, hq, kbGd (by omega), Option.bind_some]
      have hk2 : ¬ (i = D.2.1 c ∨ i = D.2.2.1 c) := fun h => hk ((hof i i0 hi).mpr h)
      rw [knW_id (x := kbCg i (D.2.1 c) (D.2.2.1 c) + 1) (by omega), knW_id (x := μ 147 i - 1) (by omega)]
      have e2 : ∀ v : Int, knUp s 147 (kbCg i (D.2.1 c) (D.2.2.1 c)) v 148 i = μ 148 i := fun v => by rw [knUp_ne (by omega)]; exact e1.2
      rw [e2]
      refine kk (_, _) ⟨by omega, by rw [hnx, if_neg hk2], fun p p0 p1 p2 p3 => ?_, fun k k0 => ?_, ?_, ?_, (hf.up (Or.inl (by omega))).up (Or.inl (by omega))⟩
      · dsimp only
        by_cases hpi : p = i
        · subst hpi
          simp (disch := omega) only [kbUp, if_pos, if_neg, and_true, true_and, if_true]
        · have hne : kbCg p (D.2.1 c) (D.2.2.1 c) ≠ kbCg i (D.2.1 c) (D.2.2.1 c) := fun e => hpi (kbCg_apart p2 p3 (fun h => hk2 (Or.inl h)) (fun h => hk2 (Or.inr h)) hou e)
          simp (disch := omega) only [kbUp, if_pos, if_neg, and_true, true_and, if_true]
          exact hr p p0 (by omega) p2 p3
      · dsimp only
        simp (disch := omega) only [kbUp, if_pos, if_neg, and_true, true_and, if_true]
        exact hr2 k (by omega)
      · dsimp only
        simp (disch := omega) only [kbUp, if_pos, if_neg, and_true, true_and, if_true]
        exact h8
      · dsimp only
        rw [knUp_ne (by omega), knUp_ne (by omega)]; exact s2
  · intro n q ⟨i0, hq, hr, hr2, h8, s2, hf⟩
    obtain ⟨to, s⟩ := q
    dsimp only at hq hr hr2 h8 s2 hf ⊢
    simp only [kfX13_removes_l4, h8]
    rw [knW_id (x := 2 * D.1) (by omega), if_pos (by omega), knW_id (x := D.1 - 1) (by omega)]
    refine kbLoop (fun n i s => kfX13_removes_l93 (fun w42 => some w42) n i s) (fun i t => c ≤ i ∧ (∀ k : Int, 0 ≤ k → k < i → t 149 k = μ 149 (if c ≤ k then k + 1 else k)) ∧ (∀ k : Int, i ≤ k → t 149 k = μ 149 k) ∧ t 142 8 = D.1 - 1 ∧ t 147 = s 147 ∧ t 148 = s 148 ∧ kbFz μ t) (D.1 - 1) _ ?_ ?_ _ _ _ (by omega) (by rw [kbF]; omega) ⟨by omega, fun k k0 k1 => ?_, fun k _ => by rw [knUp_ne (by omega), s2], by rw [kbUp, if_pos (by omega)], by rw [knUp_ne (by omega)], by rw [knUp_ne (by omega)], hf.up (Or.inr ⟨rfl, rfl⟩)⟩
    · intro n i t hi ⟨i0, ht, ht2, t8, t1, t2, ft⟩ kk
      have e1 := ht2 (i + 1) (by omega)
      simp only [kfX13_removes_l93, t8]
      rw [knW_id (x := i + 1) (by omega), if_neg (by omega), kbGd (by omega), kbGd (by omega), e1]
      refine kk _ ⟨by omega, fun k k0 k1 => ?_, fun k k0 => ?_, ?_, ?_, ?_, ft.up (Or.inl (by omega))⟩
      · by_cases hki : k = i
        · subst hki
          simp (disch := omega) only [kbUp, if_pos, if_neg, and_true, true_and, if_true]
        · rw [kbUp, if_neg (by omega)]
          exact ht k k0 (by omega)
      · rw [kbUp, if_neg (by omega)]
        exact ht2 k (by omega)
      · rw [kbUp, if_neg (by omega)]; exact t8
      · rw [knUp_ne (by omega)]; exact t1
      · rw [knUp_ne (by omega)]; exact t2
    · intro n t ⟨i0, ht, ht2, t8, t1, t2, ft⟩
      simp only [kfX13_removes_l93, t8]
      rw [if_pos (by omega), kbH_some]
      refine ⟨⟨t8, ⟨by show 0 ≤ D.1 - 1; omega, by show D.1 - 1 ≤ 7; omega⟩, fun k k0 k1 => ?_, fun p p0 p1 => ?_⟩, ft⟩
      · have k1 : k < D.1 - 1 := k1
        obtain ⟨j, hj⟩ : ∃ j : Int, j = if c ≤ k then k + 1 else k := ⟨_, rfl⟩
        have hj0 : 0 ≤ j ∧ j < D.1 ∧ j ≠ c ∧ (if j ≤ c then j else j - 1) = k := by rw [hj]; split <;> (split <;> omega)
        have hRj := hR.2.1 j hj0.1 hj0.2.1
        have a1 := hV.2 j c hj0.1 hj0.2.1 hc.1 hc.2
        have a2 := hV.2 c j hc.1 hc.2 hj0.1 hj0.2.1
        have r1 := hr (D.2.1 j) hRj.1.1 (by omega) (by omega) (by omega)
        have r2 := hr (D.2.2.1 j) hRj.2.1.1 (by omega) (by omega) (by omega)
        have b1 := kbCg_in (m := 2 * D.1) ⟨hcc.1.1, hcc.1.2.1⟩ ⟨hcc.2.1.1, hcc.2.1.2.1⟩ ⟨hRj.1.1, hRj.1.2.1⟩ (by omega) (by omega) hou
        have b2 := kbCg_in (m := 2 * D.1) ⟨hcc.1.1, hcc.1.2.1⟩ ⟨hcc.2.1.1, hcc.2.1.2.1⟩ ⟨hRj.2.1.1, hRj.2.1.2.1⟩ (by omega) (by omega) hou
        rw [hRj.1.2.2.1, hj0.2.2.2] at r1
        rw [hRj.2.1.2.2.1, hj0.2.2.2] at r2
        have r3 := ht k k0 k1
        rw [← hj, hRj.2.2.1] at r3
        rw [t1, t2]
        simp only [kbRm, ← hj]
        rw [r1.1, r1.2, r2.1, r2.2, r3, hRj.1.2.2.2, hRj.2.1.2.2.2]
        exact ⟨⟨b1.1, by omega, rfl, rfl⟩, ⟨b2.1, by omega, rfl, rfl⟩, rfl, hRj.2.2.2⟩
      · have p1 : p < 2 * (D.1 - 1) := p1
        obtain ⟨r, r0, r1, r2, r3, r4⟩ : ∃ r : Int, 0 ≤ r ∧ r < 2 * D.1 ∧ r ≠ D.2.1 c ∧ r ≠ D.2.2.1 c ∧ kbCg r (D.2.1 c) (D.2.2.1 c) = p := by
          by_cases hlt : D.2.1 c < D.2.2.1 c
          · by_cases h1 : p < D.2.1 c
            · exact ⟨p, by omega, by omega, by omega, by omega, by unfold kbCg; split <;> split <;> omega⟩
            · by_cases h2 : p + 1 < D.2.2.1 c
              · exact ⟨p + 1, by omega, by omega, by omega, by omega, by unfold kbCg; split <;> split <;> omega⟩
              · exact ⟨p + 2, by omega, by omega, by omega, by omega, by unfold kbCg; split <;> split <;> omega⟩
          · by_cases h1 : p < D.2.2.1 c
            · exact ⟨p, by omega, by omega, by omega, by omega, by unfold kbCg; split <;> split <;> omega⟩
            · by_cases h2 : p + 1 < D.2.1 c
              · exact ⟨p + 1, by omega, by omega, by omega, by omega, by unfold kbCg; split <;> split <;> omega⟩
              · exact ⟨p + 2, by omega, by omega, by omega, by omega, by unfold kbCg; split <;> split <;> omega⟩
        have hRr := hR.2.2 r r0 r1
        have q1 := hr r r0 (by omega) r2 r3
        rw [r4] at q1
        have hne : μ 147 r ≠ c := fun h => by have := (hof r r0 r1).mp h; omega
        obtain ⟨v, hv⟩ : ∃ v : Int, v = if μ 147 r ≤ c then μ 147 r else μ 147 r - 1 := ⟨_, rfl⟩
        have hv2 : 0 ≤ v ∧ v < D.1 - 1 ∧ (if c ≤ v then v + 1 else v) = μ 147 r := by rw [hv]; split <;> (split <;> omega)
        rw [t1, t2, q1.1, q1.2, ← hv]
        simp only [kbRm, hv2.2.2]
        refine ⟨⟨hv2.1, hv2.2.1⟩, ?_⟩
        rcases hRr.2 with ⟨z1, z2⟩ | ⟨z1, z2⟩
        · exact Or.inl ⟨z1, by rw [z2]; exact r4⟩
        · exact Or.inr ⟨z1, by rw [z2]; exact r4⟩
    · rw [knUp_ne (by omega), s2, if_neg (by omega)]
  · show (0 : Int) = _
    unfold kbCg
    rw [if_pos hcc.1.1, if_pos hcc.2.1.1]
    rfl
theorem kb13_once {μ : knMem} {D : kbD} (hL : kbL μ D) : kbH (kfX13_reducesOnce μ) (fun r => (r.1 = 1 ∧ ∃ E : kbD, kbS1 D E ∧ kbL r.2 E ∧ kbFz μ r.2) ∨ (r.1 = 0 ∧ kbS0 D ∧ r.2 = μ)) := by
  have h0 := hL.1
  have hn := hL.2.1
  unfold kfX13_reducesOnce
  refine kbLoop (fun n i (_ : Unit) => kfX13_reducesOnce_l2 μ (fun _ => kfX13_reducesOnce_l33 μ (fun _ => some (0, μ)) knF 0) n i) (fun i _ => 0 ≤ i ∧ ∀ j : Int, 0 ≤ j → j < i → ¬ kbCu D j) D.1 _ ?_ ?_ _ _ () (by omega) (by rw [kbF]; omega) ⟨by omega, fun j _ _ => by omega⟩
  · intro n i _ hi ⟨i0, i1⟩ kk
    simp only [kfX13_reducesOnce_l2]
    rw [if_neg (by omega), kb13_curls hL ⟨i0, hi⟩, Option.bind_some, knW_id (by omega)]
    by_cases h : kbCu D i
    · rw [if_pos h, if_neg (by omega)]
      exact (kb13_removes hL ⟨i0, hi⟩).bind (fun μ1 ⟨a1, f1⟩ => kbH_some.mpr (Or.inl ⟨rfl, _, Or.inl ⟨i, ⟨⟨i0, hi⟩, h, i1⟩, rfl⟩, a1, f1⟩))
    · rw [if_neg h, if_pos rfl]
      refine kk () ⟨by omega, fun j j0 j1 => ?_⟩
      by_cases hj : j = i
      · rw [hj]; exact h
      · exact i1 j j0 (by omega)
  · intro n _ ⟨_, hN⟩
    simp only [kfX13_reducesOnce_l2]
    rw [if_pos (by omega)]
    refine kbLoop (fun n i (_ : Unit) => kfX13_reducesOnce_l33 μ (fun _ => some (0, μ)) n i) (fun i _ => 0 ≤ i ∧ ∀ a b : Int, 0 ≤ a → a < i → a < b → b < D.1 → ¬ kbPk D a b) D.1 _ ?_ ?_ _ _ () (by omega) (by rw [kbF]; omega) ⟨by omega, fun a b _ _ => by omega⟩
    · intro n i _ hi ⟨i0, i1⟩ kk
      simp only [kfX13_reducesOnce_l33]
      rw [if_neg (by omega), knW_id (x := i + 1) (by omega)]
      refine kbLoop (fun n2 j (_ : Unit) => kfX13_reducesOnce_l45 i μ (fun _ => kfX13_reducesOnce_l33 μ (fun _ => some (0, μ)) n (i + 1)) n2 j) (fun j _ => i < j ∧ ∀ b : Int, i < b → b < j → ¬ kbPk D i b) D.1 _ ?_ ?_ _ _ () (by omega) (by rw [kbF]; omega) ⟨by omega, fun b _ _ => by omega⟩
      · intro n2 j _ hj ⟨j0, j1⟩ kk2
        simp only [kfX13_reducesOnce_l45]
        rw [if_neg (by omega), kb13_pokes hL ⟨i0, hi⟩ ⟨by omega, hj⟩, Option.bind_some, knW_id (by omega)]
        by_cases h : kbPk D i j
        · rw [if_pos h, if_neg (by omega)]
          refine (kb13_removes hL ⟨by omega, hj⟩).bind (fun μ1 ⟨a1, f1⟩ => ?_)
          refine (kb13_removes a1 ⟨i0, by show i < D.1 - 1; omega⟩).bind (fun μ2 ⟨a2, f2⟩ => kbH_some.mpr (Or.inl ⟨rfl, _, Or.inr ⟨hN, i, j, ⟨⟨i0, j0, hj⟩, h, fun a b a0 ab b1 hab => ?_⟩, rfl⟩, a2, f1.trans f2⟩))
          rcases hab with hab | ⟨e, hab⟩
          · exact i1 a b a0 hab ab b1
          · subst e; exact j1 b ab hab
        · rw [if_neg h, if_pos rfl]
          refine kk2 () ⟨by omega, fun b b0 b1 => ?_⟩
          by_cases hb : b = j
          · rw [hb]; exact h
          · exact j1 b b0 (by omega)
      · intro n2 _ ⟨j0, j1⟩
        simp only [kfX13_reducesOnce_l45]
        rw [if_pos (by omega)]
        refine kk () ⟨by omega, fun a b a0 a1 ab b1 => ?_⟩
        by_cases ha : a = i
        · subst ha; exact j1 b ab b1
        · exact i1 a b a0 (by omega) ab b1
    · intro n _ ⟨i0, i1⟩
      simp only [kfX13_reducesOnce_l33]
      rw [if_pos (by omega), kbH_some]
      exact Or.inr ⟨rfl, ⟨hN, fun a b a0 ab b1 => i1 a b a0 (by omega) ab b1⟩, rfl⟩
theorem kb13_reduces {μ : knMem} {D : kbD} (hL : kbL μ D) : kbH (kfX13_reduces μ) (fun μ' => ∃ E : kbD, kbRx D E ∧ kbL μ' E ∧ E.1 ≤ D.1 ∧ kbFz μ μ') := by
  have hn := hL.2.1
  unfold kfX13_reduces
  refine kbLoopM (fun n (q : Int × knMem) => kfX13_reduces_l2 (fun w5 => some w5) n q.1 q.2) (fun q => ∃ F : kbD, kbL q.2 F ∧ F.1 ≤ D.1 ∧ (∀ E : kbD, kbRx F E → kbRx D E) ∧ kbFz μ q.2 ∧ (q.1 = 0 ∨ q.1 = 1) ∧ (q.1 = 0 → kbS0 F)) (fun q => 2 * q.2 142 8 + q.1) _ ?_ _ (1, μ) ⟨D, hL, Int.le_refl _, fun E h => h, kbFz.rf, Or.inr rfl, fun h => absurd h (show ¬ ((1 : Int) = 0) by decide)⟩ (by dsimp only; have := hL.1; omega) (by dsimp only; rw [kbF]; have := hL.1; omega)
  intro n q ⟨F, a0, l0, r0, f0, q1, q2⟩ m0 kk
  obtain ⟨x, s⟩ := q
  dsimp only at a0 f0 q1 q2 m0 kk ⊢
  simp only [kfX13_reduces_l2]
  by_cases hx : x = 0
  · rw [if_pos hx, kbH_some]
    exact ⟨F, r0 F (kbRx.stop (q2 hx)), a0, l0, f0⟩
  · rw [if_neg hx]
    refine (kb13_once a0).bind (fun r hr => ?_)
    obtain ⟨y, t⟩ := r
    have g8 := a0.1
    rcases hr with ⟨e, E, hs, aE, fE⟩ | ⟨e, hs, e2⟩
    · dsimp only at e aE fE ⊢
      subst e
      have hv := hs.V a0.2.V
      have hE := aE.1
      have hEn := aE.2.1
      exact kk (1, t) ⟨E, aE, by omega, fun E' h => r0 E' (kbRx.step hs h), f0.trans fE, Or.inr rfl, fun h => absurd h (show ¬ ((1 : Int) = 0) by decide)⟩ (by dsimp only; omega) (by dsimp only; omega)
    · dsimp only at e e2 ⊢
      subst e
      subst e2
      have hFn := a0.2.1
      exact kk (0, t) ⟨F, a0, l0, r0, f0, Or.inl rfl, fun _ => hs⟩ (by dsimp only; omega) (by dsimp only; omega)
