/-! A player's share of the stakes. -/
theorem kbN32_of {u : UInt32} (h : Jvm.FP.Core.fIsNaN u = false) : knN32 (knBf u) := by
  show knFb (knBf u) &&& 0x7fffffff ≤ 0x7f800000
  rw [knFb_bf, UInt32.le_iff_toNat_le, Jvm.FP.Core.mask_toNat32]
  have h2 := mt (Jvm.FP.Core.isNaN_bits32 u).mpr (by rw [h]; exact Bool.false_ne_true)
  have e : (0x7f800000 : UInt32).toNat = 2139095040 := rfl
  omega
theorem kbN64_of {u : UInt64} (h : Jvm.FP.Core.dIsNaN u = false) : knN64 (knBd u) := by
  show knDb (knBd u) &&& 0x7fffffffffffffff ≤ 0x7ff0000000000000
  rw [knDb_bd, UInt64.le_iff_toNat_le, Jvm.FP.Core.mask_toNat]
  have h2 := mt (Jvm.FP.Core.isNaN_bits u).mpr (by rw [h]; exact Bool.false_ne_true)
  have e : (0x7ff0000000000000 : UInt64).toNat = 9218868437227405312 := rfl
  omega
theorem kbDcmp_s {u : UInt64} (h : Jvm.FP.Core.dIsNaN u = false) : knDcmp .l (knBd u) (knBd u) = 0 := by
  unfold knDcmp
  rw [knDb_bd, show FP.dcmp u u = some .eq from Jvm.FP.Core.dcmp_refl h]
  rfl
theorem kbI32n {t : Int} (ht : 1 ≤ t ∧ t ≤ 2147483647) : Int32.ofInt t ≠ 0 := by
  intro h
  have h2 := knW_id (x := t) (by omega)
  unfold knW at h2
  rw [h] at h2
  have h3 : (0 : Int32).toInt = 0 := rfl
  omega
theorem kbQuot (s : Int) {t : Int} (ht : 1 ≤ t ∧ t ≤ 400) : Jvm.FP.Core.fIsNaN (FP.fdiv (knFb (knI2f s)) (knFb (knI2f t))) = false := by
  unfold knI2f
  rw [knFb_bf, knFb_bf]
  refine Jvm.FP.Core.fdiv_out (Jvm.FP.Core.i2f_fin _).notNaN (Jvm.FP.Core.i2f_fin _) (fun h => ?_)
  rw [Jvm.FP.Core.zero_bits232] at h
  exact Jvm.FP.Core.i2f_ne_zero (kbI32n (by omega)) h
theorem kbQ32 (s : Int) {t : Int} (ht : 1 ≤ t ∧ t ≤ 400) : knN32 (knFdiv (knI2f s) (knI2f t)) := kbN32_of (kbQuot s ht)
theorem kbQ64 (s : Int) {t : Int} (ht : 1 ≤ t ∧ t ≤ 400) : knN64 (knF2d (knFdiv (knI2f s) (knI2f t))) ∧ knDcmp .l (knF2d (knFdiv (knI2f s) (knI2f t))) (knF2d (knFdiv (knI2f s) (knI2f t))) = 0 := by
  have h : Jvm.FP.Core.dIsNaN (FP.f2d (knFb (knFdiv (knI2f s) (knI2f t)))) = false := by
    unfold knFdiv
    rw [knFb_bf]
    rw [Jvm.FP.f2d_core (kbQuot s ht)]
    exact Jvm.FP.Core.f2d_out (kbQuot s ht)
  exact ⟨kbN64_of h, kbDcmp_s h⟩
theorem kbLk_46 {μ : knMem} (hI : kbIv μ) (x1 x2 x3 x4 : Int) : kbH (kfLc_46 x1 x2 x3 x4 μ) kbIv := by
  obtain ⟨⟨S, hC, hR⟩, -⟩ := id hI
  have hm := hR.2.2.1
  have hl := hR.2.2.le
  obtain ⟨T, hT⟩ : ∃ T : Int, T = kbSm S.2.2.2.2.2 S.2.1.toNat := ⟨_, rfl⟩
  have e3 : μ 6 3 = S.2.1 := hC.2.1
  have eS : kfX1_allStakes 6 μ = some T := by rw [kb1_allStakes (b := 6) hC.2 hR.2.2, hT]
  obtain ⟨s, hs⟩ : ∃ s : Int, s = S.2.2.2.2.2 x1 := ⟨_, rfl⟩
  have hA : kbH (kfL_stakeShare x1 μ) (fun r => r.1 = (if 0 ≤ x1 ∧ x1 < S.2.1 then (if T = 0 then 2 else 0) else 1) ∧ (r.1 = 0 → r.2 160 0 = knF2d (knFdiv (knI2f s) (knI2f T))) ∧ kbK μ r.2) := by
    unfold kfL_stakeShare kfX12_stakeShare
    rw [kb12_reqPl e3, Option.bind_some]
    by_cases g : 0 ≤ x1 ∧ x1 < S.2.1
    · rw [if_pos g, if_pos rfl, if_pos g, eS, Option.bind_some]
      by_cases g0 : T = 0
      · rw [if_pos g0, if_pos g0, Option.bind_some]
        dsimp only
        rw [if_neg (show ¬ (6 : Int) = 0 by omega), if_neg (show ¬ (6 : Int) = 1 by omega), if_pos rfl]
        exact kbH_some.mpr ⟨rfl, fun h => absurd h (show ¬ (2 : Int) = 0 by omega), kbK.rf⟩
      · have hq := kbQ64 s (t := T) (by omega)
        rw [if_neg g0, if_neg g0, kbGd (by omega), show μ 9 x1 = s from ((hC.2.2.2 x1 g.1 g.2).2.1).trans hs.symm, kbGd (kbQ32 s (by omega)), Option.bind_some]
        dsimp only
        rw [if_pos rfl, kbGd hq.1]
        exact kbH_some.mpr ⟨rfl, fun _ => kbUpS μ 160 0 _, kbK.rf.up (by omega)⟩
    · rw [if_neg g, if_neg g, if_neg (show ¬ (1 : Int) = 0 by omega), Option.bind_some]
      dsimp only
      rw [if_neg (show ¬ (1 : Int) = 0 by omega), if_pos rfl]
      exact kbH_some.mpr ⟨rfl, fun h => absurd h (show ¬ (1 : Int) = 0 by omega), kbK.rf⟩
  have hB : ∀ μ1 : knMem, kbK μ μ1 → kbH (kfX13_stakeShare x1 μ1) (fun r => r.2 142 0 = (if 0 ≤ x1 ∧ x1 < S.2.1 then (if T = 0 then 2 else 0) else 1) ∧ ((0 ≤ x1 ∧ x1 < S.2.1) → T ≠ 0 → r.1 = knFdiv (knI2f s) (knI2f T)) ∧ r.2 160 = μ1 160 ∧ kbIv r.2) := by
    intro μ1 h1
    have hI1 := hI.K h1
    have hR1 : kbRs (knUp μ1 142 0 0 143) S := by rw [kbUp3, h1.1 143 (by omega)]; exact hR
    have e160 : ∀ v : Int, knUp μ1 142 0 v 160 = μ1 160 := fun v => knUp_ne (by omega)
    have eT : kfX13_stakes (knUp μ1 142 0 0) = some T := by rw [kb13_stakes hR1.2.1 hR.2.2, hT]
    unfold kfX13_stakeShare
    rw [kb13_isPlayer (m := S.2.1) hR1.2.1.1 hm, Option.bind_some]
    by_cases g : 0 ≤ x1 ∧ x1 < S.2.1
    · rw [if_pos g, if_neg (show ¬ (1 : Int) = 0 by omega), if_pos g, eT, Option.bind_some]
      by_cases g0 : T = 0
      · rw [if_pos g0, if_pos g0]
        unfold kfX13_fails
        rw [Option.bind_some, Option.bind_some]
        refine kbH_some.mpr ⟨kbUpS (knUp μ1 142 0 0) 142 0 _, fun _ h => absurd g0 h, ?_, hI1.K ((kbK0 kbK.rf).up (by omega))⟩
        show knUp (knUp μ1 142 0 0) 142 0 2 160 = μ1 160
        rw [knUp_ne (by omega), e160]
      · rw [if_neg g0, if_neg g0, knW_id (by omega), kbGd (by omega), Option.bind_some, show (knUp μ1 142 0 0) 143 (11 + x1) = s from ((hR1.2.1.2.2.1 x1 g.1 g.2).2.1).trans hs.symm, kbGd (kbQ32 s (by omega)), Option.bind_some]
        exact kbH_some.mpr ⟨kbUp0 μ1, fun _ _ => rfl, e160 0, hI1.K (kbK0 kbK.rf)⟩
    · rw [if_neg g, if_pos rfl, if_neg g]
      unfold kfX13_fails
      rw [Option.bind_some]
      refine kbH_some.mpr ⟨kbUpS (knUp μ1 142 0 0) 142 0 _, fun h => absurd h g, ?_, hI1.K ((kbK0 kbK.rf).up (by omega))⟩
      show knUp (knUp μ1 142 0 0) 142 0 1 160 = μ1 160
      rw [knUp_ne (by omega), e160]
  unfold kfLc_46
  refine hA.bind (fun q1 ⟨a1, a2, a3⟩ => (hB q1.2 a3).bind (fun q4 ⟨b1, b2, b3, b4⟩ => ?_))
  unfold kfX13_thrown
  rw [Option.bind_some]
  dsimp only
  rw [if_pos (show q4.2 142 0 = q1.1 by rw [b1, a1])]
  by_cases g : 0 ≤ x1 ∧ x1 < S.2.1
  · by_cases g0 : T = 0
    · rw [if_neg (show ¬ q1.1 = 0 by rw [a1, if_pos g, if_pos g0]; omega)]
      exact kbH_some.mpr b4
    · have hz : q1.1 = 0 := by rw [a1, if_pos g, if_neg g0]
      have hq := kbQ64 s (t := T) (by omega)
      rw [if_pos hz, b2 g g0, kbGd hq.1, b3, a2 hz, if_pos hq.2]
      exact kbH_some.mpr b4
  · rw [if_neg (show ¬ q1.1 = 0 by rw [a1, if_neg g]; omega)]
    exact kbH_some.mpr b4
