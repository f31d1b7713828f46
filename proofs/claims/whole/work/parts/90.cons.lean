/-! Whether all agrees. -/
theorem kb2_waysAgree {μ : knMem} (h : ∀ i : Int, 0 ≤ i → i ≤ 100 → μ 120 i = μ 121 i) : kfX2_waysAgree μ = some 1 := by
  have key : kbH (kfX2_waysAgree μ) (fun r => r = 1) := by
    unfold kfX2_waysAgree
    refine kbLoop (fun n i (_ : Unit) => kfX2_waysAgree_l2 μ (fun _ => some 1) n i) (fun i _ => 0 ≤ i) 101 _ ?_ ?_ _ _ () (by omega) (by rw [kbF]; omega) (by omega)
    · intro n i _ hi i0 kk
      simp only [kfX2_waysAgree_l2, kbH_ite, kbH_gd]
      refine ⟨fun h => by omega, fun _ => ⟨by omega, fun _ => ?_, fun h9 => absurd (h i i0 (by omega)) h9⟩⟩
      rw [knW_id (by omega)]
      exact kk () (by omega)
    · intro n _ i0
      simp only [kfX2_waysAgree_l2, kbH_ite, kbH_some]
      exact ⟨fun _ => trivial, fun h => by omega⟩
  obtain ⟨r, h3, h4⟩ := key
  rw [h3, h4]
theorem kb1_allCoins {μ : knMem} {b : Int} {B : kbY} (hC : kbCb μ b B) (hB : kbBv B) : kfX1_allCoins b μ = some (100 * B.1) := by
  obtain ⟨h0, h1, h2⟩ := id hC
  have hm := hB.1
  have hh := hB.2.1
  have hs := hB.2.2.2
  have hl := hB.le
  have key : kbH (kfX1_allCoins b μ) (fun r => r = 100 * B.1) := by
    unfold kfX1_allCoins
    rw [kb1_allStakes hC hB, Option.bind_some, h1, knW_id (by omega)]
    refine kbLoop (fun n i (x : Int) => kfX1_allCoins_l12 b μ (fun w9 => some w9) n x i) (fun i x => 0 ≤ i ∧ x = kbSm B.2.2.2.2 B.1.toNat + B.2.1 + kbSm B.2.2.1 i.toNat) B.1 _ ?_ ?_ _ _ _ (by omega) (by rw [kbF]; omega) ⟨by omega, by show _ = _ + (0 : Int); omega⟩
    · intro n i x hi ⟨i0, hx⟩ kk
      simp only [kfX1_allCoins_l12, kbH_ite, kbH_gd]
      refine ⟨fun h => by omega, fun _ => ⟨by omega, ?_⟩⟩
      have hv := hB.2.2.1 i i0 hi
      have hb := kbSm_le (f := B.2.2.1) (b := 400) i.toNat (fun k k0 k1 => by have := hl.2.2.2 k k0 (by omega); have := (hB.2.2.1 k k0 (by omega)).1; omega)
      have hb0 := kbSm_nn (f := B.2.2.1) i.toNat (fun k k0 k1 => (hB.2.2.1 k k0 (by omega)).1)
      have h4 := hl.2.2.2 i i0 hi
      rw [(h2 i i0 hi).1, knW_id (x := i + 1) (by omega), knW_id (by omega)]
      refine kk _ ⟨by omega, ?_⟩
      have e : (i + 1).toNat = i.toNat + 1 := by omega
      have e2 : ((i.toNat : Nat) : Int) = i := by omega
      rw [e, kbSm, hx, e2]
      omega
    · intro n x ⟨i0, hx⟩
      simp only [kfX1_allCoins_l12, kbH_ite, kbH_some]
      refine ⟨fun _ => ?_, fun h => by omega⟩
      omega
  obtain ⟨r, h3, h4⟩ := key
  rw [h3, h4]
theorem kb13_cons {μ : knMem} {B : kbY} {kc : Int → Option (Int × knMem)} {P : Int × knMem → Prop} (h : kbRb (μ 143) B) (hB : kbBv B) (hk : kbH (kc (100 * B.1)) P) : kbH (kfX13_isConsistent_l19 μ kc knF (kbSm B.2.2.2.2 B.1.toNat + B.2.1) 0) P := by
  obtain ⟨h0, h1, h2, h3⟩ := id h
  have hm := hB.1
  have hh := hB.2.1
  have hs := hB.2.2.2
  have hl := hB.le
  refine kbLoop (fun n i (x : Int) => kfX13_isConsistent_l19 μ kc n x i) (fun i x => 0 ≤ i ∧ x = kbSm B.2.2.2.2 B.1.toNat + B.2.1 + kbSm B.2.2.1 i.toNat) B.1 _ ?_ ?_ _ _ _ (by omega) (by rw [kbF]; omega) ⟨by omega, by show _ = _ + (0 : Int); omega⟩
  · intro n i x hi ⟨i0, hx⟩ kk
    simp only [kfX13_isConsistent_l19, kbH_ite, kbH_gd]
    rw [knW_id (x := 3 + i) (by omega)]
    refine ⟨by omega, fun h => by omega, fun _ => ⟨by omega, ?_⟩⟩
    have hb := kbSm_le (f := B.2.2.1) (b := 400) i.toNat (fun k k0 k1 => by have := hl.2.2.2 k k0 (by omega); have := (hB.2.2.1 k k0 (by omega)).1; omega)
    have hb0 := kbSm_nn (f := B.2.2.1) i.toNat (fun k k0 k1 => (hB.2.2.1 k k0 (by omega)).1)
    have hv := hB.2.2.1 i i0 hi
    have h4 := hl.2.2.2 i i0 hi
    rw [(h2 i i0 hi).1, knW_id (x := i + 1) (by omega), knW_id (by omega)]
    refine kk _ ⟨by omega, ?_⟩
    have e : (i + 1).toNat = i.toNat + 1 := by omega
    have e2 : ((i.toNat : Nat) : Int) = i := by omega
    rw [e, kbSm, hx, e2]
    omega
  · intro n x ⟨i0, hx⟩
    simp only [kfX13_isConsistent_l19, kbH_ite, kbH_gd]
    refine ⟨by omega, fun _ => ?_, fun h => by omega⟩
    rw [show x = 100 * B.1 by omega]
    exact hk
theorem kb12_cons {μ : knMem} {S : kbZ} (hC : kbCs μ 1 S) (hR : kbRs (μ 143) S) : kbH (kfX12_isConsistent μ) (fun r => r.1 = (if knRem (kbCv S.1 3) 3 = 0 then 1 else 0) ∧ kbK μ r.2) := by
  have hn := hR.1.2.1
  unfold kfX12_isConsistent
  refine (kb2_sumStates hC.1 hR.1.2).bind (fun q1 ⟨a1, a2⟩ => ?_)
  have k1 : kbK μ q1 := kbN.K (fun o ho => a2 o (by omega) (by omega))
  have C1 : kbCs q1 1 S := hC.sm (fun o _ _ => k1.1 o (by omega))
  refine (kb2_resolveAll C1.1 hR.1.2).bind (fun q4 ⟨b1, b2⟩ => ?_)
  have k4 : kbK μ q4 := k1.trans (kbN.K (fun o ho => b2 o (by omega) (by omega)))
  have C4 : kbCs q4 1 S := hC.sm (fun o _ _ => k4.1 o (by omega))
  refine (kb3_count (p := 3) (by omega) C4.1 hR.B).bind (fun q7 ⟨c1, c2⟩ => ?_)
  have k7 : kbK μ q7.2 := k4.trans (c2.K (Or.inr (Or.inl ⟨by omega, by omega⟩)))
  have C7 : kbCs q7.2 1 S := hC.sm (fun o _ _ => k7.1 o (by omega))
  rw [kb2_waysAgree (fun i i0 i1 => by rw [c2 120 (by omega), c2 121 (by omega), b1 i i0 i1, b2 120 (by omega) (by omega), a1 i i0 i1]), Option.bind_some]
  dsimp only
  rw [if_neg (show ¬ (1 : Int) = 0 by omega)]
  refine (kb3_countByTrying C7.1 hR.B).bind (fun q34 ⟨d1, d2⟩ => ?_)
  have k34 : kbK μ q34.2 := k7.trans (d2.K (Or.inr (Or.inl ⟨by omega, by omega⟩)))
  have C34 : kbCs q34.2 1 S := hC.sm (fun o _ _ => k34.1 o (by omega))
  rw [if_pos (by rw [c1, d1]), c1]
  by_cases g : knRem (kbCv S.1 3) 3 = 0
  · rw [if_pos g, if_pos g]
    refine (kb11_fewest C34.1 hR.V).bind (fun q39 ⟨b, e1, e2, e3, e4⟩ => ?_)
    have k39 : kbK μ q39.2 := k34.trans (e4.K (Or.inr (Or.inl ⟨by omega, by omega⟩)))
    have C39 : kbCs q39.2 1 S := hC.sm (fun o _ _ => k39.1 o (by omega))
    refine (kb11_byDepth C39.1 hR.V e1).bind (fun q42 ⟨f1, f2⟩ => ?_)
    have k42 : kbK μ q42.2 := k39.trans (f2.K (Or.inr (Or.inl ⟨by omega, by omega⟩)))
    have C42 : kbCs q42.2 1 S := hC.sm (fun o _ _ => k42.1 o (by omega))
    rw [if_pos (by rw [e2, f1]), kb1_allCoins (b := 6) C42.2 hR.2.2, Option.bind_some, show q42.2 6 3 = S.2.1 from C42.2.1, knW_id (by have := hR.2.2.1; omega), if_pos rfl]
    exact kbH_some.mpr ⟨rfl, k42⟩
  · rw [if_neg g, if_neg g]
    exact kbH_some.mpr ⟨rfl, k34⟩
theorem kbLk_47 {μ : knMem} (hI : kbIv μ) (x1 x2 x3 x4 : Int) : kbH (kfLc_47 x1 x2 x3 x4 μ) kbIv := by
  obtain ⟨⟨S, hC, hR⟩, -⟩ := id hI
  unfold kfLc_47
  refine kbPl3 (P := kbK μ) (v := if knRem (kbCv S.1 3) 3 = 0 then 1 else 0) (kb12_cons hC hR) (fun μ1 h1 => ?_)
  have hI1 := hI.K h1
  have hR1 : kbRs (knUp μ1 142 0 0 143) S := by rw [kbUp3, h1.1 143 (by omega)]; exact hR
  have hm := hR.2.2.1
  unfold kfX13_isConsistent
  rw [kb13_stakes hR1.2.1 hR.2.2, Option.bind_some, kbGd (by omega), hR1.2.1.2.1, knW_id (x := kbSm S.2.2.2.2.2 S.2.1.toNat + S.2.2.1) (by have := hR.2.2.le; have := hR.2.2.2.1; omega)]
  refine kb13_cons hR1.2.1 hR.2.2 ?_
  rw [kbGd (by omega), hR1.2.1.1, knW_id (by omega)]
  dsimp only
  rw [if_pos rfl]
  refine (kb13_coloured (p := 3) (by omega) hR1.1).bind (fun q22 ⟨a1, a2⟩ => ?_)
  have hI2 : kbIv q22.2 := hI1.K ((kbK0 kbK.rf).trans a2.K)
  rw [a1]
  by_cases g : knRem (kbCv S.1 3) 3 = 0
  · rw [if_pos g, if_pos g]
    exact kbH_some.mpr ⟨rfl, hI2⟩
  · rw [if_neg g, if_neg g]
    exact kbH_some.mpr ⟨rfl, hI2⟩
