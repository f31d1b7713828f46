/-! The cases of the questions, on. -/
theorem kbLk_10 {μ : knMem} (hI : kbIv μ) (x1 x2 x3 x4 : Int) : kbH (kfLc_10 x1 x2 x3 x4 μ) kbIv := by
  obtain ⟨⟨S, hC, hR⟩, -⟩ := id hI
  have hn := hR.1.2.1
  have e3 : μ 2 3 = S.1.1 := hC.1.1
  unfold kfLc_10
  by_cases hx : 0 ≤ x1 ∧ x1 < 2 * S.1.1
  · have hp := hR.1.2.2.2 x1 hx.1 hx.2
    refine kbTry (P := kbK μ) (lc := kbC1 0) (v := μ 143 (22 + x1)) (fun x => x) ?_ (fun μ1 h1 => ?_)
    · unfold kfL_crossingAt kfX12_crossingAt
      refine kbQ1 (a := 1) (fun x => x) (c := 0) (v := μ 143 (22 + x1)) ?_ (Or.inl rfl) (by omega) (fun _ => ?_)
      · rw [kb12_reqPos e3 hn, if_pos hx, Option.bind_some, if_pos rfl, kb5_crossingOf (d := 2) hC.1 hR.V hp.1 (by rcases hp.2 with h | h; exact Or.inl h.2; exact Or.inr h.2)]
        rfl
      · rfl
    · have hI1 := hI.K h1
      have e143 : μ1 143 = μ 143 := h1.1 143 (by omega)
      have hW : kbW (knUp μ1 142 0 0 143) S.1 := by rw [kbUp3, e143]; exact hR.1
      unfold kfX13_crossingAt
      rw [kb13_isPass (n := S.1.1) hW.1 hn, Option.bind_some]
      rw [if_pos hx, if_neg (by omega), knW_id (by omega), kbGd (by omega), Option.bind_some]
      exact kbH_some.mpr ⟨kbUp0 μ1, fun _ => by show knUp μ1 142 0 0 143 (22 + x1) = _; rw [kbUp3, e143], kbUp9 μ1, hI1.K (kbK0 kbK.rf)⟩
  · refine kbTry (P := kbK μ) (lc := kbC1 1) (v := 0) (fun x => x) ?_ (fun μ1 h1 => ?_)
    · unfold kfL_crossingAt kfX12_crossingAt
      refine kbQ1 (a := 1) (fun x => x) (c := 1) (v := 0) ?_ (Or.inr rfl) (by omega) (fun h => by omega)
      rw [kb12_reqPos e3 hn, if_neg hx, Option.bind_some, if_neg (by omega)]
    · have hI1 := hI.K h1
      have e143 : μ1 143 = μ 143 := h1.1 143 (by omega)
      have hW : kbW (knUp μ1 142 0 0 143) S.1 := by rw [kbUp3, e143]; exact hR.1
      unfold kfX13_crossingAt
      rw [kb13_isPass (n := S.1.1) hW.1 hn, Option.bind_some]
      rw [if_neg hx, if_pos rfl]
      refine kbH.bind (kbQf (fun x => x) hI1 (kbK0 kbK.rf) (kbUp9 _)) (fun r ⟨r1, r2, r3⟩ => kbH_some.mpr ⟨r1, fun h => absurd (kbC1_0 h) (by omega), r2, r3⟩)
theorem kbLk_11 {μ : knMem} (hI : kbIv μ) (x1 x2 x3 x4 : Int) : kbH (kfLc_11 x1 x2 x3 x4 μ) kbIv := by
  obtain ⟨⟨S, hC, hR⟩, -⟩ := id hI
  have hn := hR.1.2.1
  have e3 : μ 2 3 = S.1.1 := hC.1.1
  unfold kfLc_11
  by_cases hx : 0 ≤ x1 ∧ x1 < 2 * S.1.1
  · have hp := hR.1.2.2.2 x1 hx.1 hx.2
    dsimp only at hp
    refine kbTry (P := kbK μ) (lc := kbC1 0) (v := μ 143 (36 + x1)) (fun x => if x = 0 then 0 else 1) ?_ (fun μ1 h1 => ?_)
    · unfold kfL_isOver kfX12_isOver
      refine kbQ1 (a := 1) (fun x => if x = 0 then 0 else 1) (c := 0) (v := μ 143 (36 + x1)) ?_ (Or.inl rfl) (by omega) (fun _ => ?_)
      · rw [kb12_reqPos e3 hn, if_pos hx, Option.bind_some, if_pos rfl, kb5_passesOver (d := 2) (v := μ 143 (36 + x1)) hC.1 hn ?_]
        · rfl
        · rcases hp.2 with h | h
          · exact Or.inr ⟨h.1, _, hp.1.1, hp.1.2, h.2⟩
          · exact Or.inl ⟨h.1, fun c c0 c1 h9 => (hR.V.2 c _ c0 c1 hp.1.1 hp.1.2).1 (h9.trans h.2.symm)⟩
      · rcases hp.2 with h | h <;> rw [h.1] <;> rfl
    · have hI1 := hI.K h1
      have e143 : μ1 143 = μ 143 := h1.1 143 (by omega)
      have hW : kbW (knUp μ1 142 0 0 143) S.1 := by rw [kbUp3, e143]; exact hR.1
      unfold kfX13_isOver
      rw [kb13_isPass (n := S.1.1) hW.1 hn, Option.bind_some]
      rw [if_pos hx, if_neg (by omega), knW_id (by omega), kbGd (by omega)]
      refine kbH_some.mpr ⟨kbUp0 μ1, fun _ => ?_, kbUp9 μ1, hI1.K (kbK0 kbK.rf)⟩
      show (if (if knUp μ1 142 0 0 143 (36 + x1) = 1 then 1 else 0 : Int) = 0 then 0 else 1 : Int) = _
      rw [kbUp3, e143]
      rcases hp.2 with h | h <;> rw [h.1] <;> rfl
  · refine kbTry (P := kbK μ) (lc := kbC1 1) (v := 0) (fun x => if x = 0 then 0 else 1) ?_ (fun μ1 h1 => ?_)
    · unfold kfL_isOver kfX12_isOver
      refine kbQ1 (a := 1) (fun x => if x = 0 then 0 else 1) (c := 1) (v := 0) ?_ (Or.inr rfl) (by omega) (fun h => by omega)
      rw [kb12_reqPos e3 hn, if_neg hx, Option.bind_some, if_neg (by omega)]
    · have hI1 := hI.K h1
      have e143 : μ1 143 = μ 143 := h1.1 143 (by omega)
      have hW : kbW (knUp μ1 142 0 0 143) S.1 := by rw [kbUp3, e143]; exact hR.1
      unfold kfX13_isOver
      rw [kb13_isPass (n := S.1.1) hW.1 hn, Option.bind_some]
      rw [if_neg hx, if_pos rfl]
      exact (kbQf (fun x => if x ≤ 0 then 0 else 1) hI1 (kbK0 kbK.rf) (kbUp9 _)).mono (fun r ⟨r1, r2, r3⟩ => ⟨r1, fun h => absurd (kbC1_0 h) (by omega), r2, r3⟩)
theorem kbLk_12 {μ : knMem} (hI : kbIv μ) (x1 x2 x3 x4 : Int) : kbH (kfLc_12 x1 x2 x3 x4 μ) kbIv := by
  obtain ⟨⟨S, hC, hR⟩, -⟩ := id hI
  have hn := hR.1.2.1
  have e3 : μ 2 3 = S.1.1 := hC.1.1
  unfold kfLc_12
  by_cases hx : 0 ≤ x1 ∧ x1 < S.1.1
  · have hp := hR.1.2.2.1 x1 hx.1 hx.2
    dsimp only at hp
    refine kbTry (P := kbK μ) (lc := kbC1 0) (v := μ 143 (15 + x1)) (fun x => if x = 0 then 0 else 1) ?_ (fun μ1 h1 => ?_)
    · unfold kfL_isPositive kfX12_isPositive
      refine kbQ1 (a := 1) (fun x => if x = 0 then 0 else 1) (c := 0) (v := μ 143 (15 + x1)) ?_ (Or.inl rfl) (by omega) (fun _ => ?_)
      · rw [kb12_reqCr e3 hn, if_pos hx, Option.bind_some, if_pos rfl, kbGd (by omega)]
        have e5 : μ 5 x1 = S.1.2.2.2 x1 := (hC.1.2 x1 hx.1 hx.2).2.2
        rw [e5, hp.2.2.1]
      · rw [hp.2.2.1]
        rcases hp.2.2.2 with h | h <;> rw [h] <;> rfl
    · have hI1 := hI.K h1
      have e143 : μ1 143 = μ 143 := h1.1 143 (by omega)
      have hW : kbW (knUp μ1 142 0 0 143) S.1 := by rw [kbUp3, e143]; exact hR.1
      unfold kfX13_isPositive
      rw [kb13_isCrossing (n := S.1.1) hW.1 hn, Option.bind_some]
      rw [if_pos hx, if_neg (by omega), knW_id (by omega), kbGd (by omega)]
      refine kbH_some.mpr ⟨kbUp0 μ1, fun _ => ?_, kbUp9 μ1, hI1.K (kbK0 kbK.rf)⟩
      show (if (if knUp μ1 142 0 0 143 (15 + x1) = 1 then 1 else 0 : Int) = 0 then 0 else 1 : Int) = _
      rw [kbUp3, e143, hp.2.2.1]
      rcases hp.2.2.2 with h | h <;> rw [h] <;> rfl
  · refine kbTry (P := kbK μ) (lc := kbC1 1) (v := 0) (fun x => if x = 0 then 0 else 1) ?_ (fun μ1 h1 => ?_)
    · unfold kfL_isPositive kfX12_isPositive
      refine kbQ1 (a := 1) (fun x => if x = 0 then 0 else 1) (c := 1) (v := 0) ?_ (Or.inr rfl) (by omega) (fun h => by omega)
      rw [kb12_reqCr e3 hn, if_neg hx, Option.bind_some, if_neg (by omega)]
    · have hI1 := hI.K h1
      have e143 : μ1 143 = μ 143 := h1.1 143 (by omega)
      have hW : kbW (knUp μ1 142 0 0 143) S.1 := by rw [kbUp3, e143]; exact hR.1
      unfold kfX13_isPositive
      rw [kb13_isCrossing (n := S.1.1) hW.1 hn, Option.bind_some]
      rw [if_neg hx, if_pos rfl]
      exact (kbQf (fun x => if x ≤ 0 then 0 else 1) hI1 (kbK0 kbK.rf) (kbUp9 _)).mono (fun r ⟨r1, r2, r3⟩ => ⟨r1, fun h => absurd (kbC1_0 h) (by omega), r2, r3⟩)
theorem kbLk_13 {μ : knMem} (hI : kbIv μ) (x1 x2 x3 x4 : Int) : kbH (kfLc_13 x1 x2 x3 x4 μ) kbIv := by
  obtain ⟨⟨S, hC, hR⟩, -⟩ := id hI
  have hn := hR.1.2.1
  have e3 : μ 2 3 = S.1.1 := hC.1.1
  unfold kfLc_13
  by_cases hx : 0 ≤ x1 ∧ x1 < S.1.1
  · refine kbTry (P := kbK μ) (lc := kbC1 0) (v := S.1.2.1 x1) (fun x => x) ?_ (fun μ1 h1 => ?_)
    · unfold kfL_overPosition kfX12_overPosition
      refine kbQ1 (a := 1) (fun x => x) (c := 0) (v := S.1.2.1 x1) ?_ (Or.inl rfl) (by omega) (fun _ => ?_)
      · rw [kb12_reqCr e3 hn, if_pos hx, Option.bind_some, if_pos rfl, kbGd (by omega)]
        have e5 : μ 3 x1 = S.1.2.1 x1 := (hC.1.2 x1 hx.1 hx.2).1
        rw [e5]
      · rfl
    · have hI1 := hI.K h1
      have e143 : μ1 143 = μ 143 := h1.1 143 (by omega)
      have hW : kbW (knUp μ1 142 0 0 143) S.1 := by rw [kbUp3, e143]; exact hR.1
      unfold kfX13_overPosition
      unfold kfX13_asksPass
      rw [kb13_isCrossing (n := S.1.1) hW.1 hn, Option.bind_some]
      rw [if_pos hx, if_neg (by omega)]
      refine kbH.bind (P := fun r => r.2 142 0 = 0 ∧ r.1 = S.1.2.1 x1 ∧ r.2 159 = μ1 159 ∧ kbIv r.2) ?_ (fun r ⟨r1, r2, r3, r4⟩ => kbH_some.mpr ⟨r1, fun _ => r2, r3, r4⟩)
      refine (kb13_loads hW).bind (fun q5 ⟨a1, f1⟩ => ?_)
      rw [(kb13_passOf a1 hx).1, Option.bind_some]
      exact kbH_some.mpr ⟨(kbK.l f1).2.1, rfl, (kbK.l f1).2.2, hI1.K (kbK.l f1).1⟩
  · refine kbTry (P := kbK μ) (lc := kbC1 1) (v := 0) (fun x => x) ?_ (fun μ1 h1 => ?_)
    · unfold kfL_overPosition kfX12_overPosition
      refine kbQ1 (a := 1) (fun x => x) (c := 1) (v := 0) ?_ (Or.inr rfl) (by omega) (fun h => by omega)
      rw [kb12_reqCr e3 hn, if_neg hx, Option.bind_some, if_neg (by omega)]
    · have hI1 := hI.K h1
      have e143 : μ1 143 = μ 143 := h1.1 143 (by omega)
      have hW : kbW (knUp μ1 142 0 0 143) S.1 := by rw [kbUp3, e143]; exact hR.1
      unfold kfX13_overPosition
      unfold kfX13_asksPass
      rw [kb13_isCrossing (n := S.1.1) hW.1 hn, Option.bind_some]
      rw [if_neg hx, if_pos rfl]
      refine kbH.bind (kbQf (c := 1) (fun x => x) hI1 (kbK0 kbK.rf) (kbUp9 _)) (fun r ⟨r1, r2, r3⟩ => kbH_some.mpr ⟨r1, fun h => absurd (kbC1_0 h) (by omega), r2, r3⟩)
theorem kbLk_14 {μ : knMem} (hI : kbIv μ) (x1 x2 x3 x4 : Int) : kbH (kfLc_14 x1 x2 x3 x4 μ) kbIv := by
  obtain ⟨⟨S, hC, hR⟩, -⟩ := id hI
  have hn := hR.1.2.1
  have e3 : μ 2 3 = S.1.1 := hC.1.1
  unfold kfLc_14
  by_cases hx : 0 ≤ x1 ∧ x1 < S.1.1
  · refine kbTry (P := kbK μ) (lc := kbC1 0) (v := S.1.2.2.1 x1) (fun x => x) ?_ (fun μ1 h1 => ?_)
    · unfold kfL_underPosition kfX12_underPosition
      refine kbQ1 (a := 1) (fun x => x) (c := 0) (v := S.1.2.2.1 x1) ?_ (Or.inl rfl) (by omega) (fun _ => ?_)
      · rw [kb12_reqCr e3 hn, if_pos hx, Option.bind_some, if_pos rfl, kbGd (by omega)]
        have e5 : μ 4 x1 = S.1.2.2.1 x1 := (hC.1.2 x1 hx.1 hx.2).2.1
        rw [e5]
      · rfl
    · have hI1 := hI.K h1
      have e143 : μ1 143 = μ 143 := h1.1 143 (by omega)
      have hW : kbW (knUp μ1 142 0 0 143) S.1 := by rw [kbUp3, e143]; exact hR.1
      unfold kfX13_underPosition
      unfold kfX13_asksPass
      rw [kb13_isCrossing (n := S.1.1) hW.1 hn, Option.bind_some]
      rw [if_pos hx, if_neg (by omega)]
      refine kbH.bind (P := fun r => r.2 142 0 = 0 ∧ r.1 = S.1.2.2.1 x1 ∧ r.2 159 = μ1 159 ∧ kbIv r.2) ?_ (fun r ⟨r1, r2, r3, r4⟩ => kbH_some.mpr ⟨r1, fun _ => r2, r3, r4⟩)
      refine (kb13_loads hW).bind (fun q5 ⟨a1, f1⟩ => ?_)
      rw [(kb13_passOf a1 hx).2, Option.bind_some]
      exact kbH_some.mpr ⟨(kbK.l f1).2.1, rfl, (kbK.l f1).2.2, hI1.K (kbK.l f1).1⟩
  · refine kbTry (P := kbK μ) (lc := kbC1 1) (v := 0) (fun x => x) ?_ (fun μ1 h1 => ?_)
    · unfold kfL_underPosition kfX12_underPosition
      refine kbQ1 (a := 1) (fun x => x) (c := 1) (v := 0) ?_ (Or.inr rfl) (by omega) (fun h => by omega)
      rw [kb12_reqCr e3 hn, if_neg hx, Option.bind_some, if_neg (by omega)]
    · have hI1 := hI.K h1
      have e143 : μ1 143 = μ 143 := h1.1 143 (by omega)
      have hW : kbW (knUp μ1 142 0 0 143) S.1 := by rw [kbUp3, e143]; exact hR.1
      unfold kfX13_underPosition
      unfold kfX13_asksPass
      rw [kb13_isCrossing (n := S.1.1) hW.1 hn, Option.bind_some]
      rw [if_neg hx, if_pos rfl]
      refine kbH.bind (kbQf (c := 1) (fun x => x) hI1 (kbK0 kbK.rf) (kbUp9 _)) (fun r ⟨r1, r2, r3⟩ => kbH_some.mpr ⟨r1, fun h => absurd (kbC1_0 h) (by omega), r2, r3⟩)
theorem kbLk_16 {μ : knMem} (hI : kbIv μ) (x1 x2 x3 x4 : Int) : kbH (kfLc_16 x1 x2 x3 x4 μ) kbIv := by
  obtain ⟨⟨S, hC, hR⟩, -⟩ := id hI
  have hn := hR.1.2.1
  have e3 : μ 2 3 = S.1.1 := hC.1.1
  unfold kfLc_16
  by_cases hx : 0 ≤ x1 ∧ x1 < S.1.1
  · refine kbTry (P := kbK μ) (lc := kbC1 0) (v := (if kbCu S.1 x1 then 1 else 0)) (fun x => if x = 0 then 0 else 1) ?_ (fun μ1 h1 => ?_)
    · unfold kfL_isCurl kfX12_isCurl
      refine kbQ1 (a := 1) (fun x => if x = 0 then 0 else 1) (c := 0) (v := (if kbCu S.1 x1 then 1 else 0)) ?_ (Or.inl rfl) (by omega) (fun _ => ?_)
      · rw [kb12_reqCr e3 hn, if_pos hx, Option.bind_some, if_pos rfl, kb5_curls (d := 2) hC.1 hR.B hx]
        rfl
      · split <;> rfl
    · have hI1 := hI.K h1
      have e143 : μ1 143 = μ 143 := h1.1 143 (by omega)
      have hW : kbW (knUp μ1 142 0 0 143) S.1 := by rw [kbUp3, e143]; exact hR.1
      unfold kfX13_isCurl
      rw [kb13_isCrossing (n := S.1.1) hW.1 hn, Option.bind_some]
      rw [if_pos hx, if_neg (by omega)]
      refine (kb13_loads hW).bind (fun q5 ⟨a1, f1⟩ => ?_)
      rw [kb13_curls a1 hx, Option.bind_some]
      refine kbH_some.mpr ⟨(kbK.l f1).2.1, fun _ => ?_, (kbK.l f1).2.2, hI1.K (kbK.l f1).1⟩
      dsimp only
      split <;> rfl
  · refine kbTry (P := kbK μ) (lc := kbC1 1) (v := 0) (fun x => if x = 0 then 0 else 1) ?_ (fun μ1 h1 => ?_)
    · unfold kfL_isCurl kfX12_isCurl
      refine kbQ1 (a := 1) (fun x => if x = 0 then 0 else 1) (c := 1) (v := 0) ?_ (Or.inr rfl) (by omega) (fun h => by omega)
      rw [kb12_reqCr e3 hn, if_neg hx, Option.bind_some, if_neg (by omega)]
    · have hI1 := hI.K h1
      have e143 : μ1 143 = μ 143 := h1.1 143 (by omega)
      have hW : kbW (knUp μ1 142 0 0 143) S.1 := by rw [kbUp3, e143]; exact hR.1
      unfold kfX13_isCurl
      rw [kb13_isCrossing (n := S.1.1) hW.1 hn, Option.bind_some]
      rw [if_neg hx, if_pos rfl]
      exact (kbQf (fun x => if x ≤ 0 then 0 else 1) hI1 (kbK0 kbK.rf) (kbUp9 _)).mono (fun r ⟨r1, r2, r3⟩ => ⟨r1, fun h => absurd (kbC1_0 h) (by omega), r2, r3⟩)
theorem kbLk_17 {μ : knMem} (hI : kbIv μ) (x1 x2 x3 x4 : Int) : kbH (kfLc_17 x1 x2 x3 x4 μ) kbIv := by
  obtain ⟨⟨S, hC, hR⟩, -⟩ := id hI
  have hn := hR.1.2.1
  have e3 : μ 2 3 = S.1.1 := hC.1.1
  unfold kfLc_17
  by_cases hx : (0 ≤ x1 ∧ x1 < S.1.1) ∧ (0 ≤ x2 ∧ x2 < S.1.1)
  · refine kbTry (P := kbK μ) (lc := kbC1 0) (v := (if kbPk S.1 x1 x2 then 1 else 0)) (fun x => if x = 0 then 0 else 1) ?_ (fun μ1 h1 => ?_)
    · unfold kfL_isPoke kfX12_isPoke
      refine kbQ1 (a := 1) (fun x => if x = 0 then 0 else 1) (c := 0) (v := (if kbPk S.1 x1 x2 then 1 else 0)) ?_ (Or.inl rfl) (by omega) (fun _ => ?_)
      · rw [kb12_reqCr e3 hn, if_pos hx.1, Option.bind_some, if_pos rfl, kb12_reqCr e3 hn, if_pos hx.2, Option.bind_some, if_pos rfl, kb5_pokes (d := 2) hC.1 hR.B hx.1 hx.2]
        rfl
      · split <;> rfl
    · have hI1 := hI.K h1
      have e143 : μ1 143 = μ 143 := h1.1 143 (by omega)
      have hW : kbW (knUp μ1 142 0 0 143) S.1 := by rw [kbUp3, e143]; exact hR.1
      unfold kfX13_isPoke
      simp only [kb13_isCrossing (n := S.1.1) hW.1 hn, Option.bind_some]
      rw [if_pos hx.1, if_neg (by omega), if_pos hx.2, if_neg (by omega)]
      refine (kb13_loads hW).bind (fun q5 ⟨a1, f1⟩ => ?_)
      rw [kb13_pokes a1 hx.1 hx.2, Option.bind_some]
      refine kbH_some.mpr ⟨(kbK.l f1).2.1, fun _ => ?_, (kbK.l f1).2.2, hI1.K (kbK.l f1).1⟩
      dsimp only
      split <;> rfl
  · refine kbTry (P := kbK μ) (lc := kbC1 1) (v := 0) (fun x => if x = 0 then 0 else 1) ?_ (fun μ1 h1 => ?_)
    · unfold kfL_isPoke kfX12_isPoke
      refine kbQ1 (a := 1) (fun x => if x = 0 then 0 else 1) (c := 1) (v := 0) ?_ (Or.inr rfl) (by omega) (fun h => by omega)
      rw [kb12_reqCr e3 hn, Option.bind_some]
      by_cases g1 : 0 ≤ x1 ∧ x1 < S.1.1
      · rw [if_pos g1, if_pos rfl, kb12_reqCr e3 hn, if_neg (fun g2 => hx ⟨g1, g2⟩), Option.bind_some, if_neg (by omega)]
      · rw [if_neg g1, if_neg (by omega)]
    · have hI1 := hI.K h1
      have e143 : μ1 143 = μ 143 := h1.1 143 (by omega)
      have hW : kbW (knUp μ1 142 0 0 143) S.1 := by rw [kbUp3, e143]; exact hR.1
      unfold kfX13_isPoke
      simp only [kb13_isCrossing (n := S.1.1) hW.1 hn, Option.bind_some]
      have hno := (kbQf (c := 1) (fun x => if x ≤ 0 then 0 else 1) hI1 (kbK0 kbK.rf) (kbUp9 _)).mono (Q := fun (r : Int × knMem) => r.2 142 0 = kbC1 1 ∧ (kbC1 1 = 0 → (if r.1 = 0 then 0 else 1 : Int) = 0) ∧ r.2 159 = μ1 159 ∧ kbIv r.2) (fun r ⟨r1, r2, r3⟩ => ⟨r1, fun h => absurd (kbC1_0 h) (by omega), r2, r3⟩)
      by_cases g1 : 0 ≤ x1 ∧ x1 < S.1.1
      · rw [if_pos g1, if_neg (by omega), if_neg (fun g2 => hx ⟨g1, g2⟩), if_pos rfl]
        exact hno
      · rw [if_neg g1, if_pos rfl]
        exact hno
theorem kbLk_20 {μ : knMem} (hI : kbIv μ) (x1 x2 x3 x4 : Int) : kbH (kfLc_20 x1 x2 x3 x4 μ) kbIv := by
  obtain ⟨⟨S, hC, hR⟩, -⟩ := id hI
  have hn := hR.1.2.1
  have e3 : μ 2 3 = S.1.1 := hC.1.1
  unfold kfLc_20
  by_cases hx : 0 ≤ x1 ∧ x1 < S.1.1
  · obtain ⟨a, a0, a1, a2⟩ := kbRk_ex (key := kbKy S.1) (n := S.1.1.toNat) (r := x1) (by omega)
    have a1 : a < S.1.1 := by omega
    refine kbTry (P := kbK μ) (lc := kbC1 0) (v := a) (fun x => x) ?_ (fun μ1 h1 => ?_)
    · unfold kfL_crossingByChord kfX12_crossingByChord
      refine kbQ1 (a := 5) (fun x => x) (c := 0) (v := a) ?_ (Or.inl rfl) (by omega) (fun _ => ?_)
      · rw [kb5_hasCrossing, e3, if_pos hx, Option.bind_some, if_neg (by omega), kb5_ofRank (d := 2) hC.1 hR.B ⟨a0, a1⟩ a2]
        rfl
      · rfl
    · have hI1 := hI.K h1
      have e143 : μ1 143 = μ 143 := h1.1 143 (by omega)
      have hW : kbW (knUp μ1 142 0 0 143) S.1 := by rw [kbUp3, e143]; exact hR.1
      unfold kfX13_crossingByChord
      refine (kb13_loads hW).bind (fun q5 ⟨c1, f1⟩ => ?_)
      exact kb13_ofRank c1 ⟨a0, a1⟩ a2 ⟨(kbK.l f1).2.1, fun _ => rfl, (kbK.l f1).2.2, hI1.K (kbK.l f1).1⟩
  · refine kbTry (P := kbK μ) (lc := kbC1 1) (v := 0) (fun x => x) ?_ (fun μ1 h1 => ?_)
    · unfold kfL_crossingByChord kfX12_crossingByChord
      refine kbQ1 (a := 5) (fun x => x) (c := 5) (v := 0) ?_ (Or.inr rfl) (by omega) (fun h => by omega)
      rw [kb5_hasCrossing, e3, if_neg hx, Option.bind_some, if_pos rfl]
    · have hI1 := hI.K h1
      have e143 : μ1 143 = μ 143 := h1.1 143 (by omega)
      have hW : kbW (knUp μ1 142 0 0 143) S.1 := by rw [kbUp3, e143]; exact hR.1
      unfold kfX13_crossingByChord
      refine (kb13_loads hW).bind (fun q5 ⟨c1, f1⟩ => ?_)
      refine kb13_noRank c1 hx ?_
      exact (kbQf (fun x => x) hI1 (kbK.l f1).1 (kbK.l f1).2.2).mono (fun r ⟨r1, r2, r3⟩ => ⟨r1, fun h => absurd (kbC1_0 h) (by omega), r2, r3⟩)
theorem kbLk_22 {μ : knMem} (hI : kbIv μ) (x1 x2 x3 x4 : Int) : kbH (kfLc_22 x1 x2 x3 x4 μ) kbIv := by
  obtain ⟨⟨S, hC, hR⟩, -⟩ := id hI
  have hn := hR.1.2.1
  have e3 : μ 2 3 = S.1.1 := hC.1.1
  unfold kfLc_22
  by_cases hx : 0 ≤ x1 ∧ x1 < 2 * S.1.1
  · refine kbTry (P := kbK μ) (lc := kbC1 0) (v := kbAc S.1 x1) (fun x => x) ?_ (fun μ1 h1 => ?_)
    · unfold kfL_arcAt kfX12_arcAt
      refine kbQ1 (a := 1) (fun x => x) (c := 0) (v := kbAc S.1 x1) ?_ (Or.inl rfl) (by omega) (fun _ => ?_)
      · rw [kb12_reqPos e3 hn, if_pos hx, Option.bind_some, if_pos rfl, kb5_arcOf (d := 2) hC.1 hn]
        rfl
      · rfl
    · have hI1 := hI.K h1
      have e143 : μ1 143 = μ 143 := h1.1 143 (by omega)
      have hW : kbW (knUp μ1 142 0 0 143) S.1 := by rw [kbUp3, e143]; exact hR.1
      unfold kfX13_arcAt
      rw [kb13_isPass (n := S.1.1) hW.1 hn, Option.bind_some]
      rw [if_pos hx, if_neg (by omega)]
      refine (kb13_loads hW).bind (fun q5 ⟨c1, f1⟩ => ?_)
      rw [kb13_arcOf c1 (by omega), Option.bind_some]
      exact kbH_some.mpr ⟨(kbK.l f1).2.1, fun _ => rfl, (kbK.l f1).2.2, hI1.K (kbK.l f1).1⟩
  · refine kbTry (P := kbK μ) (lc := kbC1 1) (v := 0) (fun x => x) ?_ (fun μ1 h1 => ?_)
    · unfold kfL_arcAt kfX12_arcAt
      refine kbQ1 (a := 1) (fun x => x) (c := 1) (v := 0) ?_ (Or.inr rfl) (by omega) (fun h => by omega)
      rw [kb12_reqPos e3 hn, if_neg hx, Option.bind_some, if_neg (by omega)]
    · have hI1 := hI.K h1
      have e143 : μ1 143 = μ 143 := h1.1 143 (by omega)
      have hW : kbW (knUp μ1 142 0 0 143) S.1 := by rw [kbUp3, e143]; exact hR.1
      unfold kfX13_arcAt
      rw [kb13_isPass (n := S.1.1) hW.1 hn, Option.bind_some]
      rw [if_neg hx, if_pos rfl]
      exact (kbQf (fun x => x) hI1 (kbK0 kbK.rf) (kbUp9 _)).mono (fun r ⟨r1, r2, r3⟩ => ⟨r1, fun h => absurd (kbC1_0 h) (by omega), r2, r3⟩)
theorem kbLk_15 {μ : knMem} (hI : kbIv μ) (x1 x2 x3 x4 : Int) : kbH (kfLc_15 x1 x2 x3 x4 μ) kbIv := by
  obtain ⟨⟨S, hC, hR⟩, -⟩ := id hI
  have hW : kbW (knUp μ 142 0 0 143) S.1 := by rw [kbUp3]; exact hR.1
  unfold kfLc_15 kfX12_writhe kfX13_writhe
  refine kbPl2 (v := kbWr S.1) (by rw [kb5_signSum (d := 2) hC.1 hR.B]; rfl) ?_
  refine (kb13_loads hW).bind (fun q5 ⟨a1, f1⟩ => ?_)
  rw [kb13_turns a1, Option.bind_some]
  exact kbH_some.mpr ⟨rfl, hI.K (kbK.l f1).1⟩
theorem kbLk_18 {μ : knMem} (hI : kbIv μ) (x1 x2 x3 x4 : Int) : kbH (kfLc_18 x1 x2 x3 x4 μ) kbIv := by
  obtain ⟨⟨S, hC, hR⟩, -⟩ := id hI
  have hW : kbW (knUp μ 142 0 0 143) S.1 := by rw [kbUp3]; exact hR.1
  unfold kfLc_18 kfX12_isAlternating kfX13_isAlternating
  obtain ⟨v, h1, h2⟩ := kb5_alternates (d := 2) hC.1 hR.B
  refine kbPl2 (v := v) (by rw [h1]; rfl) ?_
  refine (kb13_loads hW).bind (fun q5 ⟨a1, f1⟩ => ?_)
  refine (kb13_isAlternating a1).mono (fun r ⟨r1, r2⟩ => ⟨?_, by rw [r2]; exact hI.K (kbK.l f1).1⟩)
  rcases h2 with ⟨a, b⟩ | ⟨a, b⟩ <;> rcases r1 with ⟨c, d⟩ | ⟨c, d⟩
  · rw [a, c]
  · exact absurd b d
  · exact absurd d b
  · rw [a, c]
theorem kbLk_19 {μ : knMem} (hI : kbIv μ) (x1 x2 x3 x4 : Int) : kbH (kfLc_19 x1 x2 x3 x4 μ) kbIv := by
  obtain ⟨⟨S, hC, hR⟩, -⟩ := id hI
  unfold kfLc_19
  obtain ⟨E, hE⟩ : ∃ E : kbD, kbRx S.1 E := by
    obtain ⟨r, _, _, E, e1, _⟩ := kb5_simplify (d := 2) hC.1 hR.V
    exact ⟨E, e1⟩
  refine kbPl3 (P := kbK μ) (v := E.1) ?_ (fun μ1 h1 => ?_)
  · unfold kfX12_reducedCrossings
    refine (kb5_copyFrom (a := 19) (b := 2) hC.1 hR.B (by omega)).bind (fun q1 ⟨a1, f1⟩ => ?_)
    refine (kb5_simplify (d := 19) a1 hR.V).bind (fun q4 ⟨b1, E2, e1, _, _, a2, f2⟩ => ?_)
    rw [e1.det hE] at a2
    exact kbH_some.mpr ⟨a2.1, ((f1.trans f2).wd (by omega) (by omega)).K (Or.inl ⟨Int.le_refl 19, Int.le_refl 22⟩)⟩
  · have hI1 := hI.K h1
    have hW : kbW (knUp μ1 142 0 0 143) S.1 := by rw [kbUp3, h1.1 143 (by omega)]; exact hR.1
    unfold kfX13_reducedCrossings
    refine (kb13_loads hW).bind (fun q1 ⟨a1, f1⟩ => ?_)
    refine (kb13_reduces a1).bind (fun q4 ⟨E2, e1, a2, _, f2⟩ => ?_)
    rw [e1.det hE] at a2
    exact kbH_some.mpr ⟨a2.1, hI1.K (kbK.l (f1.trans f2)).1⟩
theorem kbLk_21 {μ : knMem} (hI : kbIv μ) (x1 x2 x3 x4 : Int) : kbH (kfLc_21 x1 x2 x3 x4 μ) kbIv := by
  obtain ⟨⟨S, hC, hR⟩, -⟩ := id hI
  have hW : kbW (knUp μ 142 0 0 143) S.1 := by rw [kbUp3]; exact hR.1
  unfold kfLc_21 kfX12_arcCount kfX13_arcCount kfX5_arcs kfX13_arcs
  rw [show μ 2 3 = S.1.1 from hC.1.1]
  refine kbPl2 (v := if S.1.1 = 0 then 1 else S.1.1) rfl ?_
  refine (kb13_loads hW).bind (fun q5 ⟨a1, f1⟩ => ?_)
  rw [a1.1]
  exact kbH_some.mpr ⟨rfl, hI.K (kbK.l f1).1⟩
