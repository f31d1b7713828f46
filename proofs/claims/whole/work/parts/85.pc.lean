/-! The cases of polynomials. -/
theorem kbN.K {μ μ' : knMem} (h : ∀ o : Int, (o < 120 ∨ 131 < o) → μ' o = μ o) : kbK μ μ' := ⟨fun o ho => h o (by omega), fun i _ _ _ _ _ => by rw [h 142 (by omega)], by rw [h 137 (by omega)]⟩
theorem kb12_reqExp {e : Int} {μ : knMem} : kfX12_requireExponent e μ = some (if -50 ≤ e ∧ e ≤ 50 then 0 else 2) := by
  unfold kfX12_requireExponent
  simp only
  by_cases g1 : e < -50
  · rw [if_pos g1, if_neg (by omega)]
  · by_cases g2 : e ≤ 50
    · rw [if_neg g1, if_pos g2, if_pos (by omega)]
    · rw [if_neg g1, if_neg g2, if_neg (by omega)]
theorem kb13_isExp {e : Int} {μ : knMem} : kfX13_isExponent e μ = some (if -50 ≤ e ∧ e ≤ 50 then 1 else 0) := by
  unfold kfX13_isExponent
  rw [kb13_between, Option.bind_some]
/-- the class's half of an exponent's question -/
theorem kbExpC {μ : knMem} {e v : Int} {r : Int} (hl : knLn r = 101) {A : knMem → Option knMem} (hA : (-50 ≤ e ∧ e ≤ 50) → kbH (A μ) (fun q => q r (e + 50) = v ∧ kbK μ q)) :
    kbH (Option.bind (Option.bind (kfX12_requireExponent e μ) (fun q1 => if q1 = 0 then Option.bind (A μ) (fun q7 => Option.bind (kfX12_valueAt r e q7) (fun q10 => some ((0 : Int), q10, q7))) else some (q1, 0, μ))) (fun q1 => if q1.1 = 0 then some ((0 : Int), (knUp q1.2.2 159 0 q1.2.1)) else if q1.1 = 2 then some (1, q1.2.2) else none))
      (fun r => r.1 = kbC1 (if -50 ≤ e ∧ e ≤ 50 then 0 else 2) ∧ (kbC1 (if -50 ≤ e ∧ e ≤ 50 then 0 else 2) = 0 → r.2 159 0 = v) ∧ kbK μ r.2) := by
  rw [kb12_reqExp, Option.bind_some]
  by_cases g : -50 ≤ e ∧ e ≤ 50
  · rw [if_pos g, if_pos rfl]
    refine kbH.bind (P := fun q => q.1 = 0 ∧ q.2.1 = v ∧ kbK μ q.2.2) ?_ (fun q ⟨q1, q2, q3⟩ => ?_)
    · refine (hA g).bind (fun q7 ⟨a1, a2⟩ => ?_)
      rw [kb12_valueAt hl (by omega), if_pos (by omega), Option.bind_some]
      exact kbH_some.mpr ⟨rfl, a1, a2⟩
    · rw [if_pos q1]
      exact kbH_some.mpr ⟨rfl, fun _ => (kbUpS q.2.2 159 0 _).trans q2, q3.up (by omega)⟩
  · rw [if_neg g, if_neg (show ¬ (2 : Int) = 0 by omega), Option.bind_some, if_neg (show ¬ (2 : Int) = 0 by omega), if_pos rfl]
    exact kbH_some.mpr ⟨rfl, fun h => absurd (kbC1_0 h) (by omega), kbK.rf⟩
/-- the reference's -/
theorem kbExpR {μ1 : knMem} {e v : Int} {r : Int} (hI1 : kbIv μ1) {A : knMem → Option knMem} (hA : (-50 ≤ e ∧ e ≤ 50) → kbH (A (knUp μ1 142 0 0)) (fun q => q r (e + 50) = v ∧ kbFb (knUp μ1 142 0 0) q)) :
    kbH (Option.bind (kfX13_isExponent e (knUp μ1 142 0 0)) (fun q1 => if q1 = 0 then Option.bind (kfX13_fails 1 (knUp μ1 142 0 0)) (fun q10 => some (q10.1, q10.2)) else Option.bind (A (knUp μ1 142 0 0)) (fun q5 => knGd (0 ≤ (knW (50 + e)) ∧ (knW (50 + e)) < 101) (some ((q5 r (knW (50 + e))), q5)))))
      (fun r => r.2 142 0 = kbC1 (if -50 ≤ e ∧ e ≤ 50 then 0 else 2) ∧ (kbC1 (if -50 ≤ e ∧ e ≤ 50 then 0 else 2) = 0 → r.1 = v) ∧ r.2 159 = μ1 159 ∧ kbIv r.2) := by
  rw [kb13_isExp, Option.bind_some]
  by_cases g : -50 ≤ e ∧ e ≤ 50
  · rw [if_pos g, if_neg (show ¬ (1 : Int) = 0 by omega), if_pos g]
    refine (hA g).bind (fun q5 ⟨a1, a2⟩ => ?_)
    rw [knW_id (by omega), kbGd (by omega), show 50 + e = e + 50 by omega, a1]
    exact kbH_some.mpr ⟨(a2.2 0 (by omega)).trans (kbUp0 μ1), fun _ => rfl, (a2.1 159 (by omega) (by omega)).trans (kbUp9 μ1), hI1.K ((kbK0 kbK.rf).trans a2.K)⟩
  · rw [if_neg g, if_pos rfl, if_neg g]
    exact (kbQf (c := 1) (fun x => x) hI1 (kbK0 kbK.rf) (kbUp9 _)).mono (fun r ⟨r1, r2, r3⟩ => ⟨r1, fun h => absurd (kbC1_0 h) (by omega), r2, r3⟩)
theorem kb2_sumK {μ : knMem} {S : kbZ} (hC : kbCs μ 1 S) (hR : kbRs (μ 143) S) : kbH (kfX2_sumStates 2 μ) (fun μ' => (∀ i : Int, 0 ≤ i → i ≤ 100 → μ' 120 i = kbBk2 S.1 i (kbP2 S.1.1).toNat) ∧ kbK μ μ') :=
  (kb2_sumStates hC.1 hR.1.2).mono (fun q ⟨a1, a2⟩ => ⟨a1, kbN.K (fun o ho => a2 o (by omega) (by omega))⟩)
theorem kb2_resK {μ : knMem} {S : kbZ} (hC : kbCs μ 1 S) (hR : kbRs (μ 143) S) : kbH (kfX2_resolveAll 2 μ) (fun μ' => (∀ i : Int, 0 ≤ i → i ≤ 100 → μ' 121 i = kbBk2 S.1 i (kbP2 S.1.1).toNat) ∧ kbK μ μ') :=
  (kb2_resolveAll hC.1 hR.1.2).mono (fun q ⟨a1, a2⟩ => ⟨a1, kbN.K (fun o ho => a2 o (by omega) (by omega))⟩)
theorem kb2_norK {μ : knMem} {S : kbZ} (hC : kbCs μ 1 S) (hR : kbRs (μ 143) S) : kbH (kfX2_normalize 2 μ) (fun μ' => (∀ i : Int, 0 ≤ i → i ≤ 100 → μ' 122 i = kbNo S.1 i) ∧ kbK μ μ') :=
  (kb2_normalize hC.1 hR.1.2).mono (fun q ⟨a1, a2⟩ => ⟨a1, kbN.K (fun o ho => a2 o (by omega) (by omega) (by omega))⟩)
theorem kbLk_26 {μ : knMem} (hI : kbIv μ) (x1 x2 x3 x4 : Int) : kbH (kfLc_26 x1 x2 x3 x4 μ) kbIv := by
  obtain ⟨⟨S, hC, hR⟩, -⟩ := id hI
  unfold kfLc_26
  refine kbTry (P := kbK μ) (lc := kbC1 (if -50 ≤ x1 ∧ x1 ≤ 50 then 0 else 2)) (v := kbBk2 S.1 (x1 + 50) (kbP2 S.1.1).toNat) (fun x => x) ?_ (fun μ1 h1 => ?_)
  · unfold kfL_bracketCoefficient kfX12_bracketCoefficient
    exact kbExpC (A := fun m => kfX2_sumStates 2 m) kbLn101.1 (fun g => (kb2_sumK hC hR).mono (fun q ⟨a1, a2⟩ => ⟨a1 _ (by omega) (by omega), a2⟩))
  · have hI1 := hI.K h1
    have hW : kbW (knUp μ1 142 0 0 143) S.1 := by rw [kbUp3, h1.1 143 (by omega)]; exact hR.1
    unfold kfX13_bracketCoefficient
    exact kbExpR (A := fun m => kfX13_findsBracket m) hI1 (fun g => (kb13_findsBracket hW).mono (fun q ⟨a1, _, a2⟩ => ⟨a1 _ (by omega) (by omega), a2⟩))
theorem kbLk_27 {μ : knMem} (hI : kbIv μ) (x1 x2 x3 x4 : Int) : kbH (kfLc_27 x1 x2 x3 x4 μ) kbIv := by
  obtain ⟨⟨S, hC, hR⟩, -⟩ := id hI
  unfold kfLc_27
  refine kbTry (P := kbK μ) (lc := kbC1 (if -50 ≤ x1 ∧ x1 ≤ 50 then 0 else 2)) (v := kbBk2 S.1 (x1 + 50) (kbP2 S.1.1).toNat) (fun x => x) ?_ (fun μ1 h1 => ?_)
  · unfold kfL_bracketCoefficientByResolving kfX12_bracketCoefficientByResolving
    exact kbExpC (A := fun m => kfX2_resolveAll 2 m) kbLn101.2.1 (fun g => (kb2_resK hC hR).mono (fun q ⟨a1, a2⟩ => ⟨a1 _ (by omega) (by omega), a2⟩))
  · have hI1 := hI.K h1
    have hW : kbW (knUp μ1 142 0 0 143) S.1 := by rw [kbUp3, h1.1 143 (by omega)]; exact hR.1
    unfold kfX13_bracketCoefficientByResolving kfX13_bracketCoefficient
    refine kbH.bind (kbExpR (A := fun m => kfX13_findsBracket m) hI1 (fun g => (kb13_findsBracket hW).mono (fun q ⟨a1, _, a2⟩ => ⟨a1 _ (by omega) (by omega), a2⟩))) (fun r h => kbH_some.mpr h)
theorem kbLk_28 {μ : knMem} (hI : kbIv μ) (x1 x2 x3 x4 : Int) : kbH (kfLc_28 x1 x2 x3 x4 μ) kbIv := by
  obtain ⟨⟨S, hC, hR⟩, -⟩ := id hI
  unfold kfLc_28
  refine kbTry (P := kbK μ) (lc := kbC1 (if -50 ≤ x1 ∧ x1 ≤ 50 then 0 else 2)) (v := kbNo S.1 (x1 + 50)) (fun x => x) ?_ (fun μ1 h1 => ?_)
  · unfold kfL_coefficient kfX12_coefficient
    exact kbExpC (A := fun m => kfX2_normalize 2 m) kbLn101.2.2 (fun g => (kb2_norK hC hR).mono (fun q ⟨a1, a2⟩ => ⟨a1 _ (by omega) (by omega), a2⟩))
  · have hI1 := hI.K h1
    have hW : kbW (knUp μ1 142 0 0 143) S.1 := by rw [kbUp3, h1.1 143 (by omega)]; exact hR.1
    unfold kfX13_coefficient
    exact kbExpR (A := fun m => kfX13_findsNormal m) hI1 (fun g => (kb13_findsNormal hW).mono (fun q ⟨a1, a2⟩ => ⟨a1 _ (by omega) (by omega), a2⟩))
theorem kbLeast {P : Int → Prop} : ∀ n : Nat, (∃ i : Int, 0 ≤ i ∧ i < n ∧ P i) → ∃ i : Int, (0 ≤ i ∧ i < n) ∧ P i ∧ ∀ j : Int, 0 ≤ j → j < i → ¬ P j
  | 0, ⟨i, i0, i1, _⟩ => by omega
  | n + 1, ⟨i, i0, i1, h⟩ => by
    by_cases g : ∃ i : Int, 0 ≤ i ∧ i < n ∧ P i
    · obtain ⟨k, k0, k1, k2⟩ := kbLeast n g
      exact ⟨k, by omega, k1, k2⟩
    · have hin : i = n := by
        by_cases h9 : i < n
        · exact absurd ⟨i, i0, h9, h⟩ g
        · omega
      subst hin
      exact ⟨n, by omega, h, fun j j0 j1 hj => g ⟨j, j0, j1, hj⟩⟩
theorem kbLk_29 {μ : knMem} (hI : kbIv μ) (x1 x2 x3 x4 : Int) : kbH (kfLc_29 x1 x2 x3 x4 μ) kbIv := by
  obtain ⟨⟨S, hC, hR⟩, -⟩ := id hI
  obtain ⟨w, hw, hw1, hw2⟩ := kbLeast (P := fun i => kbNo S.1 i ≠ 0) 101 (by obtain ⟨i, i0, i1, h⟩ := kbNo_ne hR.1.2; exact ⟨i, i0, by omega, h⟩)
  unfold kfLc_29
  refine kbPl3 (P := kbK μ) (v := w - 50) ?_ (fun μ1 h1 => ?_)
  · unfold kfX12_lowestExponent
    refine (kb2_norK hC hR).bind (fun q1 ⟨a1, a2⟩ => ?_)
    by_cases h100 : w = 100
    · refine kbLoop (fun n i (_ : Unit) => kfX12_lowestExponent_l14 q1 (fun _ => some (50, q1)) n i) (fun i _ => -50 ≤ i) 50 _ ?_ ?_ _ (-50) () (by omega) (by rw [kbF]; omega) (by omega)
      · intro n i _ hi i0 kk
        simp only [kfX12_lowestExponent_l14, kbH_ite]
        rw [kb12_valueAt kbLn101.2.2 (by omega), if_pos (by omega), Option.bind_some, a1 _ (by omega) (by omega), knW_id (by omega)]
        refine ⟨fun h => by omega, fun _ => ?_⟩
        have h9 := hw2 (i + 50) (by omega) (by omega)
        rw [if_pos (Classical.not_not.mp h9)]
        exact kk () (by omega)
      · intro n _ _
        simp only [kfX12_lowestExponent_l14, kbH_ite]
        exact ⟨fun _ => kbH_some.mpr ⟨by omega, a2⟩, fun h => absurd (Int.le_refl 50) h⟩
    · refine kbLoop (fun n i (_ : Unit) => kfX12_lowestExponent_l14 q1 (fun _ => some (50, q1)) n i) (fun i _ => -50 ≤ i) (w - 50) _ ?_ ?_ _ (-50) () (by omega) (by rw [kbF]; omega) (by omega)
      · intro n i _ hi i0 kk
        simp only [kfX12_lowestExponent_l14, kbH_ite]
        rw [kb12_valueAt kbLn101.2.2 (by omega), if_pos (by omega), Option.bind_some, a1 _ (by omega) (by omega), knW_id (by omega)]
        refine ⟨fun h => by omega, fun _ => ?_⟩
        have h9 := hw2 (i + 50) (by omega) (by omega)
        rw [if_pos (Classical.not_not.mp h9)]
        exact kk () (by omega)
      · intro n _ _
        simp only [kfX12_lowestExponent_l14, kbH_ite]
        rw [kb12_valueAt kbLn101.2.2 (by omega), if_pos (by omega), Option.bind_some, a1 _ (by omega) (by omega), show w - 50 + 50 = w by omega]
        refine ⟨fun h => by omega, fun _ => ?_⟩
        rw [if_neg hw1]
        exact kbH_some.mpr ⟨rfl, a2⟩
  · have hI1 := hI.K h1
    have hW : kbW (knUp μ1 142 0 0 143) S.1 := by rw [kbUp3, h1.1 143 (by omega)]; exact hR.1
    unfold kfX13_lowestExponent
    refine (kb13_findsNormal hW).bind (fun q1 ⟨a1, a2⟩ => ?_)
    refine kbLoop (fun n i (_ : Unit) => kfX13_lowestExponent_l11 q1 (fun w7 => some ((knW (w7 - 50)), q1)) n i) (fun i _ => 0 ≤ i) w _ ?_ ?_ _ _ () (by omega) (by rw [kbF]; omega) (by omega)
    · intro n i _ hi i0 kk
      simp only [kfX13_lowestExponent_l11, kbH_ite, kbH_gd]
      rw [a1 i i0 (by omega), knW_id (by omega)]
      exact ⟨by omega, fun _ => kk () (by omega), fun h => absurd h (hw2 i i0 hi)⟩
    · intro n _ _
      simp only [kfX13_lowestExponent_l11, kbH_ite, kbH_gd]
      rw [a1 w (by omega) (by omega), knW_id (by omega)]
      exact ⟨by omega, fun h => absurd h hw1, fun _ => kbH_some.mpr ⟨by show knW (w - 50) = w - 50; rw [knW_id (by omega)], hI1.K ((kbK0 kbK.rf).trans a2.K)⟩⟩
theorem kbLk_30 {μ : knMem} (hI : kbIv μ) (x1 x2 x3 x4 : Int) : kbH (kfLc_30 x1 x2 x3 x4 μ) kbIv := by
  obtain ⟨⟨S, hC, hR⟩, -⟩ := id hI
  obtain ⟨w, hw, hw1, hw2⟩ := kbLeast (P := fun i => kbNo S.1 (100 - i) ≠ 0) 101 (by obtain ⟨i, i0, i1, h⟩ := kbNo_ne hR.1.2; exact ⟨100 - i, by omega, by omega, by rw [show 100 - (100 - i) = i by omega]; exact h⟩)
  unfold kfLc_30
  refine kbPl3 (P := kbK μ) (v := 50 - w) ?_ (fun μ1 h1 => ?_)
  · unfold kfX12_highestExponent
    refine (kb2_norK hC hR).bind (fun q1 ⟨a1, a2⟩ => ?_)
    by_cases h100 : w = 100
    · refine kbLoop (fun n i (_ : Unit) => kfX12_highestExponent_l14 q1 (fun _ => some (-50, q1)) n (-i)) (fun i _ => -50 ≤ i) 50 _ ?_ ?_ _ (-50) () (by omega) (by rw [kbF]; omega) (by omega)
      · intro n i _ hi i0 kk
        simp only [kfX12_highestExponent_l14, kbH_ite]
        rw [kb12_valueAt kbLn101.2.2 (by omega), if_pos (by omega), Option.bind_some, a1 _ (by omega) (by omega), knW_id (by omega)]
        refine ⟨fun h => by omega, fun _ => ?_⟩
        have h9 := hw2 (i + 50) (by omega) (by omega)
        rw [show 100 - (i + 50) = -i + 50 by omega] at h9
        rw [if_pos (Classical.not_not.mp h9), show -i + -1 = -(i + 1) by omega]
        exact kk () (by omega)
      · intro n _ _
        simp only [kfX12_highestExponent_l14, kbH_ite]
        exact ⟨fun _ => kbH_some.mpr ⟨by omega, a2⟩, fun h => absurd (show (-50 : Int) ≤ -50 by omega) h⟩
    · refine kbLoop (fun n i (_ : Unit) => kfX12_highestExponent_l14 q1 (fun _ => some (-50, q1)) n (-i)) (fun i _ => -50 ≤ i) (w - 50) _ ?_ ?_ _ (-50) () (by omega) (by rw [kbF]; omega) (by omega)
      · intro n i _ hi i0 kk
        simp only [kfX12_highestExponent_l14, kbH_ite]
        rw [kb12_valueAt kbLn101.2.2 (by omega), if_pos (by omega), Option.bind_some, a1 _ (by omega) (by omega), knW_id (by omega)]
        refine ⟨fun h => by omega, fun _ => ?_⟩
        have h9 := hw2 (i + 50) (by omega) (by omega)
        rw [show 100 - (i + 50) = -i + 50 by omega] at h9
        rw [if_pos (Classical.not_not.mp h9), show -i + -1 = -(i + 1) by omega]
        exact kk () (by omega)
      · intro n _ _
        simp only [kfX12_highestExponent_l14, kbH_ite]
        rw [kb12_valueAt kbLn101.2.2 (by omega), if_pos (by omega), Option.bind_some, a1 _ (by omega) (by omega), show -(w - 50) + 50 = 100 - w by omega]
        refine ⟨fun h => by omega, fun _ => ?_⟩
        rw [if_neg hw1]
        exact kbH_some.mpr ⟨by show -(w - 50) = 50 - w; omega, a2⟩
  · have hI1 := hI.K h1
    have hW : kbW (knUp μ1 142 0 0 143) S.1 := by rw [kbUp3, h1.1 143 (by omega)]; exact hR.1
    unfold kfX13_highestExponent
    refine (kb13_findsNormal hW).bind (fun q1 ⟨a1, a2⟩ => ?_)
    refine kbLoop (fun n i (_ : Unit) => kfX13_highestExponent_l12 q1 (fun w7 => some ((knW (w7 - 50)), q1)) n (100 - i)) (fun i _ => 0 ≤ i) w _ ?_ ?_ _ 0 () (by omega) (by rw [kbF]; omega) (by omega)
    · intro n i _ hi i0 kk
      simp only [kfX13_highestExponent_l12, kbH_ite, kbH_gd]
      rw [a1 (100 - i) (by omega) (by omega), knW_id (by omega), show 100 - i + -1 = 100 - (i + 1) by omega]
      exact ⟨by omega, fun _ => kk () (by omega), fun h => absurd h (hw2 i i0 hi)⟩
    · intro n _ _
      simp only [kfX13_highestExponent_l12, kbH_ite, kbH_gd]
      rw [a1 (100 - w) (by omega) (by omega), knW_id (by omega)]
      exact ⟨by omega, fun h => absurd h hw1, fun _ => kbH_some.mpr ⟨by show knW (100 - w - 50) = 50 - w; rw [knW_id (by omega)]; omega, hI1.K ((kbK0 kbK.rf).trans a2.K)⟩⟩
theorem kbLk_31 {μ : knMem} (hI : kbIv μ) (x1 x2 x3 x4 : Int) : kbH (kfLc_31 x1 x2 x3 x4 μ) kbIv := by
  obtain ⟨⟨S, hC, hR⟩, -⟩ := id hI
  obtain ⟨v, hv⟩ : ∃ v : Int, (v = 1 ∧ ∀ i : Int, 0 ≤ i → i < 101 → kbNo S.1 i = (if i = 50 then 1 else 0)) ∨ (v = 0 ∧ ¬ ∀ i : Int, 0 ≤ i → i < 101 → kbNo S.1 i = (if i = 50 then 1 else 0)) := by
    by_cases h : ∀ i : Int, 0 ≤ i → i < 101 → kbNo S.1 i = (if i = 50 then 1 else 0)
    · exact ⟨1, Or.inl ⟨rfl, h⟩⟩
    · exact ⟨0, Or.inr ⟨rfl, h⟩⟩
  have h1v : (∀ i : Int, 0 ≤ i → i < 101 → kbNo S.1 i = (if i = 50 then 1 else 0)) → 1 = v := fun h => by
    rcases hv with ⟨a, _⟩ | ⟨_, b⟩
    · exact a.symm
    · exact absurd h b
  have h0v : (¬ ∀ i : Int, 0 ≤ i → i < 101 → kbNo S.1 i = (if i = 50 then 1 else 0)) → 0 = v := fun h => by
    rcases hv with ⟨_, b⟩ | ⟨a, _⟩
    · exact absurd b h
    · exact a.symm
  unfold kfLc_31
  refine kbPl3 (P := kbK μ) (v := v) ?_ (fun μ1 h1 => ?_)
  · unfold kfX12_isPolynomialTrivial
    refine (kb2_norK hC hR).bind (fun q1 ⟨a1, a2⟩ => ?_)
    refine kbLoop (fun n i (_ : Unit) => kfX12_isPolynomialTrivial_l14 q1 (fun _ => some (1, q1)) n i) (fun i _ => -50 ≤ i ∧ ∀ j : Int, 0 ≤ j → j < i + 50 → kbNo S.1 j = (if j = 50 then 1 else 0)) 51 _ ?_ ?_ _ (-50) () (by omega) (by rw [kbF]; omega) ⟨by omega, fun j _ _ => by omega⟩
    · intro n i _ hi ⟨i0, hr⟩ kk
      simp only [kfX12_isPolynomialTrivial_l14, kbH_ite]
      have ei : (if i = 0 then 1 else 0 : Int) = (if i + 50 = 50 then 1 else 0) := by split <;> split <;> omega
      rw [kb12_valueAt kbLn101.2.2 (by omega), if_pos (by omega), Option.bind_some, a1 _ (by omega) (by omega), knW_id (by omega), ei]
      refine ⟨fun h => by omega, fun _ => ?_⟩
      by_cases g : kbNo S.1 (i + 50) = (if i + 50 = 50 then 1 else 0)
      · rw [if_pos g]
        refine kk () ⟨by omega, fun j j0 j1 => ?_⟩
        by_cases h : j = i + 50
        · rw [h]; exact g
        · exact hr j j0 (by omega)
      · rw [if_neg g]
        exact kbH_some.mpr ⟨h0v (fun h => g (h _ (by omega) (by omega))), a2⟩
    · intro n _ ⟨_, hr⟩
      simp only [kfX12_isPolynomialTrivial_l14, kbH_ite]
      exact ⟨fun _ => kbH_some.mpr ⟨h1v (fun i i0 i1 => hr i i0 (by omega)), a2⟩, fun h => absurd (show (50 : Int) < 51 by omega) h⟩
  · have hI1 := hI.K h1
    have hW : kbW (knUp μ1 142 0 0 143) S.1 := by rw [kbUp3, h1.1 143 (by omega)]; exact hR.1
    unfold kfX13_isPolynomialTrivial
    refine (kb13_findsNormal hW).bind (fun q1 ⟨a1, a2⟩ => ?_)
    refine kbLoop (fun n i (_ : Unit) => kfX13_isPolynomialTrivial_l11 q1 (fun _ => some (1, q1)) n i) (fun i _ => 0 ≤ i ∧ ∀ j : Int, 0 ≤ j → j < i → kbNo S.1 j = (if j = 50 then 1 else 0)) 101 _ ?_ ?_ _ 0 () (by omega) (by rw [kbF]; omega) ⟨by omega, fun j _ _ => by omega⟩
    · intro n i _ hi ⟨i0, hr⟩ kk
      simp only [kfX13_isPolynomialTrivial_l11, kbH_ite, kbH_gd]
      rw [a1 _ (by omega) (by omega), knW_id (by omega)]
      refine ⟨fun h => by omega, fun _ => ⟨by omega, fun g => ?_, fun g => ?_⟩⟩
      · refine kk () ⟨by omega, fun j j0 j1 => ?_⟩
        by_cases h : j = i
        · rw [h]; exact g
        · exact hr j j0 (by omega)
      · exact kbH_some.mpr ⟨h0v (fun h => g (h _ (by omega) (by omega))), hI1.K ((kbK0 kbK.rf).trans a2.K)⟩
    · intro n _ ⟨_, hr⟩
      simp only [kfX13_isPolynomialTrivial_l11, kbH_ite]
      exact ⟨fun _ => kbH_some.mpr ⟨h1v (fun i i0 i1 => hr i i0 (by omega)), hI1.K ((kbK0 kbK.rf).trans a2.K)⟩, fun h => absurd (Int.le_refl 101) h⟩
/-! The rendered polynomial. -/
def kbPl (D : kbD) : Nat → List Int
  | 0 => []
  | k + 1 => kbPl D k ++ (if kbNo D k = 0 then [] else (if (kbPl D k).length = 0 then [] else [32]) ++ kbNu (kbNo D k) ++ [97] ++ kbNu ((k : Int) - 50))
theorem kbDg_2 {x : Int} (h : x ≤ 99) : (kbDg x).length ≤ 2 := by
  unfold kbDg
  rw [if_neg (by omega), if_neg (by omega)]
  split <;> simp
theorem kbNu_2 {v : Int} (h : -99 ≤ v ∧ v ≤ 99) : (kbNu v).length ≤ 3 := by
  unfold kbNu
  split
  · have := kbDg_2 (x := v) (by omega); omega
  · have := kbDg_2 (x := -v) (by omega)
    show (kbDg (-v)).length + 1 ≤ 3
    omega
theorem kbPl_le {D : kbD} {of vr sg : Int → Int} (hR : kbR D of vr sg) : ∀ k : Nat, ((kbPl D k).length : Int) ≤ (if (k : Int) ≤ 50 - 3 * D.1 - 3 * kbWr D then 0 else if (k : Int) ≤ 50 + 3 * D.1 - 3 * kbWr D then 10 * (((k : Int) - (50 - 3 * D.1 - 3 * kbWr D) + 1) / 2) else 10 * (3 * D.1 + 1))
  | 0 => by
    have hn := hR.1
    have hw := kbWr_in (D := D) hn
    simp only [kbPl, List.length_nil]
    rw [if_pos (by omega)]
    omega
  | k + 1 => by
    have hn := hR.1
    have hw := kbWr_in (D := D) hn
    have ih := kbPl_le hR k
    obtain ⟨L, hL⟩ : ∃ L : Nat, L = (kbPl D (k + 1)).length := ⟨_, rfl⟩
    have hL2 : L = (kbPl D k).length + (if kbNo D k = 0 then [] else (if (kbPl D k).length = 0 then [] else [32]) ++ kbNu (kbNo D k) ++ [97] ++ kbNu ((k : Int) - 50)).length := by
      rw [hL]
      exact List.length_append
    rw [← hL]
    by_cases g : kbNo D k = 0
    · rw [if_pos g] at hL2
      simp only [List.length_nil, Nat.add_zero] at hL2
      split at ih <;> (try split at ih) <;> split <;> (try split) <;> omega
    · rw [if_neg g] at hL2
      have h1 := kbNo_at hR g
      have h2 := kbNu_le (kbNo D k)
      have h3 := kbNu_2 (v := (k : Int) - 50) (by omega)
      have h4 : (if (kbPl D k).length = 0 then [] else [32] : List Int).length ≤ 1 := by split <;> simp
      rw [List.length_append, List.length_append, List.length_append] at hL2
      simp only [List.length_cons, List.length_nil] at hL2
      have h5 : L ≤ (kbPl D k).length + 10 := by omega
      clear hL2 h4 h3 h2
      split at ih <;> (try split at ih) <;> split <;> (try split) <;> omega
theorem kbPl_220 {D : kbD} {of vr sg : Int → Int} (hR : kbR D of vr sg) (k : Nat) : (kbPl D k).length ≤ 220 := by
  have hn := hR.1
  have h := kbPl_le hR k
  split at h <;> (try split at h) <;> omega
theorem kb12_renderPolynomial {μ : knMem} {D : kbD} {of vr sg : Int → Int} (hR : kbR D of vr sg) (h122 : ∀ i : Int, 0 ≤ i → i ≤ 100 → μ 122 i = kbNo D i) (h0 : μ 140 1 = 0) : kbH (kfX12_renderPolynomial_l21 (fun w73 => some ((w73 140 1), w73)) knF (-50) μ) (fun r => r.1 = (kbPl D 101).length ∧ kbX7 r.2 (kbPl D 101) ∧ kbT7 μ r.2) := by
  refine kbLoop (fun n i s => kfX12_renderPolynomial_l21 (fun w73 => some ((w73 140 1), w73)) n i s) (fun i s => -50 ≤ i ∧ kbX7 s (kbPl D (i + 50).toNat) ∧ kbT7 μ s) 51 _ ?_ ?_ _ (-50) _ (by omega) (by rw [kbF]; omega) ⟨by omega, ⟨h0, fun k hk => absurd hk (by simp [kbPl])⟩, kbT7.rf⟩
  · intro n i s hi ⟨i0, hx, hf⟩ kk
    have hl := kbPl_220 hR (i + 50).toNat
    have hl2 := kbPl_220 hR ((i + 50).toNat + 1)
    have hno := kbNo_in hR (i + 50)
    have e : (i + 1 + 50).toNat = (i + 50).toNat + 1 := by omega
    have e9 : (((i + 50).toNat : Nat) : Int) = i + 50 := by omega
    have hst : kbPl D ((i + 50).toNat + 1) = kbPl D (i + 50).toNat ++ (if kbNo D (i + 50) = 0 then [] else (if (kbPl D (i + 50).toNat).length = 0 then [] else [32]) ++ kbNu (kbNo D (i + 50)) ++ [97] ++ kbNu i) := by
      show _ ++ (if kbNo D (((i + 50).toNat : Nat) : Int) = 0 then [] else _ ++ kbNu (kbNo D (((i + 50).toNat : Nat) : Int)) ++ [97] ++ kbNu ((((i + 50).toNat : Nat) : Int) - 50)) = _
      rw [e9, show i + 50 - 50 = i by omega]
    simp only [kfX12_renderPolynomial_l21, kbH_ite]
    rw [kb12_valueAt kbLn101.2.2 (by omega), if_pos (by omega), Option.bind_some, knW_id (by omega), hf 122 (by omega) (by omega), h122 _ (by omega) (by omega)]
    refine ⟨fun h => by omega, fun _ => ?_⟩
    by_cases g : kbNo D (i + 50) = 0
    · rw [if_pos g]
      rw [if_pos g, List.append_nil] at hst
      exact kk s ⟨by omega, by rw [e, hst]; exact hx, hf⟩
    · rw [if_neg g]
      rw [if_neg g] at hst
      have hlen := congrArg List.length hst
      simp only [List.length_append, List.length_cons, List.length_nil] at hlen
      refine kbH.bind (P := fun s1 => kbX7 s1 (kbPl D (i + 50).toNat ++ (if (kbPl D (i + 50).toNat).length = 0 then [] else [32])) ∧ kbT7 s s1) ?_ (fun s1 ⟨x1, f1⟩ => ?_)
      · have hx1 := hx.1
        by_cases hz : s 140 1 ≤ 0
        · rw [if_pos hz, if_pos (by omega), List.append_nil]
          exact kbH_some.mpr ⟨hx, kbT7.rf⟩
        · rw [if_neg hz, if_neg (by omega)]
          refine (kb7_put hx (by omega)).bind (fun s' ⟨a1, a2⟩ => kbH_some.mpr ⟨by rw [(kbCh (x := 32) (by omega)).1] at a1; exact a1, a2⟩)
      · refine (kb7_putNumber (v := kbNo D (i + 50)) (by omega) x1 (by rw [List.length_append]; omega)).bind (fun s2 ⟨x2, f2⟩ => ?_)
        refine (kb7_put x2 (by rw [List.length_append, List.length_append]; omega)).bind (fun s3 ⟨x3, f3⟩ => ?_)
        rw [(kbCh (x := 97) (by omega)).1] at x3
        refine (kb7_putNumber (v := i) (by omega) x3 (by rw [List.length_append, List.length_append, List.length_append]; simp only [List.length_cons, List.length_nil]; omega)).bind (fun s4 ⟨x4, f4⟩ => ?_)
        refine kk s4 ⟨by omega, ?_, (((hf.trans f1).trans f2).trans f3).trans f4⟩
        rw [e, hst]
        simp only [List.append_assoc] at x4 ⊢
        exact x4
  · intro n s ⟨i0, hx, hf⟩
    simp only [kfX12_renderPolynomial_l21, kbH_ite]
    exact ⟨fun _ => kbH_some.mpr ⟨hx.1, hx, hf⟩, fun h => absurd (show (50 : Int) < 51 by omega) h⟩
theorem kb13_renderPolynomial {μ : knMem} {D : kbD} {of vr sg : Int → Int} (hR : kbR D of vr sg) (h153 : ∀ i : Int, 0 ≤ i → i ≤ 100 → μ 153 i = kbNo D i) (h0 : μ 142 19 = 0) : kbH (kfX13_renderPolynomial_l16 (fun w73 => some ((w73 142 19), w73)) knF 0 μ) (fun r => r.1 = (kbPl D 101).length ∧ kbX13 r.2 (kbPl D 101) ∧ kbT13 μ r.2) := by
  refine kbLoop (fun n i s => kfX13_renderPolynomial_l16 (fun w73 => some ((w73 142 19), w73)) n i s) (fun i s => 0 ≤ i ∧ kbX13 s (kbPl D i.toNat) ∧ kbT13 μ s) 101 _ ?_ ?_ _ _ _ (by omega) (by rw [kbF]; omega) ⟨by omega, ⟨h0, fun k hk => absurd hk (by simp [kbPl])⟩, kbT13.rf⟩
  · intro n i s hi ⟨i0, hx, hf⟩ kk
    have hl := kbPl_220 hR i.toNat
    have hl2 := kbPl_220 hR (i.toNat + 1)
    have hno := kbNo_in hR i
    have e : (i + 1).toNat = i.toNat + 1 := by omega
    have e9 : ((i.toNat : Nat) : Int) = i := by omega
    have hst : kbPl D (i.toNat + 1) = kbPl D i.toNat ++ (if kbNo D i = 0 then [] else (if (kbPl D i.toNat).length = 0 then [] else [32]) ++ kbNu (kbNo D i) ++ [97] ++ kbNu (i - 50)) := by
      show _ ++ (if kbNo D ((i.toNat : Nat) : Int) = 0 then [] else _ ++ kbNu (kbNo D ((i.toNat : Nat) : Int)) ++ [97] ++ kbNu (((i.toNat : Nat) : Int) - 50)) = _
      rw [e9]
    simp only [kfX13_renderPolynomial_l16, kbH_ite, kbH_gd]
    rw [knW_id (x := i + 1) (by omega), knW_id (x := i - 50) (by omega), hf.1 153 (by omega) (by omega), h153 _ (by omega) (by omega)]
    refine ⟨fun h => by omega, fun _ => ⟨by omega, fun g => ?_, fun g => ?_⟩⟩
    · rw [if_pos g, List.append_nil] at hst
      exact kk s ⟨by omega, by rw [e, hst]; exact hx, hf⟩
    · rw [if_neg g] at hst
      have hlen := congrArg List.length hst
      simp only [List.length_append, List.length_cons, List.length_nil] at hlen
      refine kbH.bind (P := fun s1 => kbX13 s1 (kbPl D i.toNat ++ (if (kbPl D i.toNat).length = 0 then [] else [32])) ∧ kbT13 s s1) ?_ (fun s1 ⟨x1, f1⟩ => ?_)
      · have hx1 := hx.1
        by_cases hz : s 142 19 ≤ 0
        · rw [if_pos hz, if_pos (by omega), List.append_nil]
          exact kbH_some.mpr ⟨hx, kbT13.rf⟩
        · rw [if_neg hz, if_neg (by omega)]
          refine (kb13_writes hx (by omega)).bind (fun s' ⟨a1, a2⟩ => kbH_some.mpr ⟨by rw [(kbCh (x := 32) (by omega)).2, (kbCh (x := 32) (by omega)).1] at a1; exact a1, a2⟩)
      · have r1 := hf.trans f1
        rw [r1.1 153 (by omega) (by omega), h153 _ (by omega) (by omega)]
        refine (kb13_writesNumber (v := kbNo D i) (by omega) x1 (by rw [List.length_append]; omega)).bind (fun s2 ⟨x2, f2⟩ => ?_)
        refine (kb13_writes x2 (by rw [List.length_append, List.length_append]; omega)).bind (fun s3 ⟨x3, f3⟩ => ?_)
        rw [(kbCh (x := 97) (by omega)).2, (kbCh (x := 97) (by omega)).1] at x3
        refine (kb13_writesNumber (v := i - 50) (by omega) x3 (by rw [List.length_append, List.length_append, List.length_append]; simp only [List.length_cons, List.length_nil]; omega)).bind (fun s4 ⟨x4, f4⟩ => ?_)
        refine kk s4 ⟨by omega, ?_, ((r1.trans f2).trans f3).trans f4⟩
        rw [e, hst]
        simp only [List.append_assoc] at x4 ⊢
        exact x4
  · intro n s ⟨i0, hx, hf⟩
    simp only [kfX13_renderPolynomial_l16, kbH_ite]
    exact ⟨fun _ => kbH_some.mpr ⟨hx.1, hx, hf⟩, fun h => absurd (Int.le_refl 101) h⟩
theorem kbLk_49 {μ : knMem} (hI : kbIv μ) (x1 x2 x3 x4 : Int) : kbH (kfLc_49 x1 x2 x3 x4 μ) kbIv := by
  obtain ⟨⟨S, hC, hR⟩, -⟩ := id hI
  have hl := kbPl_220 hR.1.2 101
  unfold kfLc_49
  refine kbPl3 (P := fun m => kbX7 m (kbPl S.1 101) ∧ kbKt μ m) (v := (kbPl S.1 101).length) ?_ (fun μ1 ⟨h1, h2⟩ => ?_)
  · unfold kfX12_renderPolynomial kfX7_clear
    refine (kb2_norK hC hR).bind (fun q1 ⟨a1, a2⟩ => ?_)
    rw [Option.bind_some]
    refine (kb12_renderPolynomial hR.1.2 (fun i i0 i1 => by rw [knUp_ne (by omega)]; exact a1 i i0 i1) (kbUpS _ _ _ _)).mono (fun r ⟨r1, r2, r3⟩ => ⟨r1, r2, ?_⟩)
    refine (a2.t.trans ?_).trans r3.t
    exact ⟨fun o ho => knUp_ne (by omega), fun i _ _ _ _ _ _ => by rw [knUp_ne (by omega)], by rw [knUp_ne (by omega)]⟩
  · have hW : kbW (knUp μ1 142 0 0 143) S.1 := by rw [kbUp3, h2.1 143 (by omega)]; exact hR.1
    unfold kfX13_renderPolynomial
    refine (kb13_findsNormal hW).bind (fun q1 ⟨a1, a2⟩ => ?_)
    refine (kb13_renderPolynomial hR.1.2 (fun i i0 i1 => by rw [knUp_ne (by omega)]; exact a1 i i0 i1) (kbUpS _ _ _ _)).mono (fun r ⟨r1, r2, r3⟩ => ⟨r1, hI.text ?_ ?_ r2 (by omega)⟩)
    · have k1 : kbKt q1 (knUp q1 142 19 0) := ⟨fun o ho => knUp_ne (by omega), fun i _ _ _ _ _ _ => by rw [kbUp, if_neg (by omega)], by rw [knUp_ne (by omega)]⟩
      exact ((h2.trans ((kbK0 kbK.rf).trans a2.K).t).trans k1).trans r3.t
    · have ex : ∀ o : Int, o = 140 ∨ o = 141 → r.2 o = μ1 o := fun o ho => by
        rw [r3.1 o (by omega) (by omega), knUp_ne (by omega), a2.1 o (by omega) (by omega), knUp_ne (by omega)]
      unfold kbX7
      rw [ex 140 (by omega), ex 141 (by omega)]
      exact h1
