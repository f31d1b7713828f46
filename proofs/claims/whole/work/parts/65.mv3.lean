/-! The cases: switch, mirror, reverse, turn, reduce. -/
theorem kb13_notSwitch {μ : knMem} {x n : Int} (h : μ 143 0 = n) (hn : 0 ≤ n ∧ n ≤ 7) : kfX13_notSwitch x μ = some (if 0 ≤ x ∧ x < n then 0 else 1) := by
  unfold kfX13_notSwitch
  rw [kb13_isCrossing h hn, Option.bind_some]
  congr 1
  split <;> rfl
theorem kb13_notTurn {μ : knMem} {x n : Int} (h : μ 143 0 = n) (hn : 0 ≤ n ∧ n ≤ 7) : kfX13_notTurn x μ = some (if 0 ≤ x ∧ x < 2 * n then 0 else 1) := by
  unfold kfX13_notTurn
  rw [kb13_isPass h hn, Option.bind_some]
  congr 1
  split <;> rfl
theorem kbMs_c {x : Int} {D : kbD} : (kbMs x D).1 = (if 0 ≤ x ∧ x < D.1 then 0 else 1) := by unfold kbMs; split <;> rfl
theorem kbMs_n {x : Int} {D : kbD} (h : (kbMs x D).1 ≠ 0) : (kbMs x D).2 = D := by
  unfold kbMs at h ⊢
  split
  · rename_i h1; rw [if_pos h1] at h; exact absurd rfl h
  · rfl
theorem kbLk_4 {μ : knMem} (hI : kbIv μ) (x1 x2 x3 x4 : Int) : kbH (kfLc_4 x1 x2 x3 x4 μ) kbIv := by
  obtain ⟨⟨S, hC, hR⟩, hH, -⟩ := id hI
  have hn := hR.1.2.1
  have ec := kbMs_c (x := x1) (D := S.1)
  obtain ⟨c, hc⟩ : ∃ c : Int, c = (kbMs x1 S.1).1 := ⟨_, rfl⟩
  rw [← hc] at ec
  have hc3 : c = 0 ∨ c = 1 := by rw [ec]; split <;> omega
  have hd : c = 0 → (0 ≤ x1 ∧ x1 < S.1.1) := by
    intro h0
    rw [ec] at h0
    split at h0
    · assumption
    · omega
  have hz : c = 0 → ((kbSw x1 S.1).2.2.2 x1 = 0 ∨ (kbSw x1 S.1).2.2.2 x1 = 1) := fun h0 => ((kbB_sw (c := x1) hR.B).2 x1 (hd h0).1 (hd h0).2).2.2
  unfold kfLc_4
  refine kbTry (P := fun m => kbPost μ m S ((kbMs x1 S.1).2, S.2) c) (lc := kbC1 c) (v := (kbSw x1 S.1).2.2.2 x1) (fun x => if x = 0 then 0 else 1) ?_ (fun μ1 h1 => ?_)
  · unfold kfL_switchCrossing kfX12_switchCrossing
    refine kbH.bind (P := fun r => r.1 = c ∧ (c = 0 → r.2.1 = (kbSw x1 S.1).2.2.2 x1) ∧ kbPost μ r.2.2 S ((kbMs x1 S.1).2, S.2) c) ?_ (fun q ⟨a1, a2, a3⟩ => (kbT1 (g := fun x => if x = 0 then 0 else 1) (v := (kbSw x1 S.1).2.2.2 x1) a1 hc3 (by omega) (fun h0 => ?_) a3).mono (fun r ⟨r1, r2, r3⟩ => ⟨r1, fun h => r2 (kbC1_0 h), r3⟩))
    · refine kb12_chg (c := c) (S' := ((kbMs x1 S.1).2, S.2)) (M := fun q1 => kfX5_switchOne 2 x1 q1) hC hR.B hR.2.2.1 hH (fun q1 h => (kb5_switchOne (d := 2) h.1 hR.B).mono (fun r ⟨r1, r2, r3⟩ => ⟨by rw [r1, hc], ⟨r2, h.2.fr r3 (by omega)⟩, r3.wd (by omega) (by omega)⟩)) (by omega) (fun q7 a1 a2 => ?_)
      rw [a1]
      by_cases h0 : c = 0
      · have g1 := hd h0
        rw [if_pos h0, kbGd (by omega)]
        have e : (kbMs x1 S.1).2 = kbSw x1 S.1 := by unfold kbMs; rw [if_pos g1]
        have a3 := a2.2.1.1.2 x1 g1.1 (by show x1 < (kbMs x1 S.1).2.1; rw [e]; exact g1.2)
        have a4 : q7.2 5 x1 = (kbMs x1 S.1).2.2.2.2 x1 := a3.2.2
        rw [e] at a4
        exact kbH_some.mpr ⟨h0.symm, fun _ => a4, a2⟩
      · rw [if_neg h0]
        exact kbH_some.mpr ⟨rfl, fun h => absurd h h0, a2⟩
    · show (if q.2.1 = 0 then 0 else 1 : Int) = _
      rw [a2 h0]
      rcases hz h0 with h | h <;> rw [h] <;> rfl
  · unfold kfX13_switchCrossing
    rw [kb13_notSwitch (n := S.1.1) (by rw [kbUp3, h1.w]; exact hR.1.1) hn, Option.bind_some]
    by_cases h0 : c = 0
    · have hp := hd h0
      rw [if_pos hp, if_pos rfl]
      rw [h0] at h1
      have e : (kbMs x1 S.1).2 = kbSw x1 S.1 := by unfold kbMs; rw [if_pos hp]
      rw [e] at h1
      refine (kbPost.does (S := S) (S' := (kbSw x1 S.1, S.2)) (v := (kbSw x1 S.1).2.2.2 x1) (A := fun q5 => kfX13_switchesOne x1 q5) (fun x => if x = 1 then 1 else 0) hI hR h1 (kbK0 kbK.rf) (kbUp0 _) (kbUp9 _) (fun q5 h5 => ?_)).mono (fun r ⟨r1, r2, r3, r4⟩ => ⟨by rw [r1, h0]; rfl, fun _ => ?_, r3, r4⟩)
      · refine (kb13_switchesOne h5.1 hp).mono (fun r ⟨b1, b2, b3, b4⟩ => ⟨?_, h5.d b2 b3, b4⟩)
        show (if r.1 = 1 then 1 else 0 : Int) = _
        rw [b1]
        rcases hz h0 with h | h <;> rw [h] <;> rfl
      · rw [r2]
        rcases hz h0 with h | h <;> rw [h] <;> rfl
    · have hc1 : c = 1 := by omega
      have hnp : ¬ (0 ≤ x1 ∧ x1 < S.1.1) := fun h => by rw [if_pos h] at ec; omega
      rw [if_neg hnp, if_neg (show ¬ (1 : Int) = 0 by omega)]
      rw [show ((kbMs x1 S.1).2, S.2) = S from by rw [kbMs_n (by rw [← hc]; exact h0)]] at h1
      refine (kbPost.fails (c := 1) (fun x => if x ≤ 0 then 0 else 1) hI hR h1 h0 (kbK0 kbK.rf) (kbUp9 _)).mono (fun r ⟨r1, r3, r4⟩ => ⟨by rw [r1, hc1]; rfl, fun h => absurd (kbC1_0 h) h0, r3, r4⟩)
/-- neither throws -/
theorem kbPlain {P : knMem → Prop} {v : Int} {X : Option (Int × Int × knMem)} {Y : knMem → Option (Int × knMem)} (hA : kbH X (fun r => r.1 = 0 ∧ r.2.1 = v ∧ P r.2.2)) (hB : ∀ μ1 : knMem, P μ1 → kbH (Y μ1) (fun r => r.1 = v ∧ kbIv r.2)) :
    kbH (Option.bind X (fun q1 => if q1.1 = 0 then Option.bind (Y q1.2.2) (fun q7 => if q1.2.1 = q7.1 then some q7.2 else none) else none)) kbIv := by
  refine hA.bind (fun q7 ⟨a1, a2, a3⟩ => ?_)
  rw [if_pos a1]
  refine (hB _ a3).bind (fun r ⟨r1, r2⟩ => ?_)
  rw [if_pos (by rw [a2, r1])]
  exact kbH_some.mpr r2
theorem kbLk_5 {μ : knMem} (hI : kbIv μ) (x1 x2 x3 x4 : Int) : kbH (kfLc_5 x1 x2 x3 x4 μ) kbIv := by
  obtain ⟨⟨S, hC, hR⟩, hH, -⟩ := id hI
  have hn := hR.1.2.1
  unfold kfLc_5
  refine kbPlain (P := fun m => kbPost μ m S (kbSb S.1.1 S.1, S.2) 0) (v := kbWr (kbSb S.1.1 S.1)) ?_ (fun μ1 h1 => ?_)
  · unfold kfX12_mirror
    refine (kb12_chg (c := 0) (S' := (kbSb S.1.1 S.1, S.2)) (M := fun q1 => kfX5_switchAll 2 q1) (Q := fun (r : Int × Int × knMem) => r.1 = 0 ∧ ((0 : Int) = 0 → r.2.1 = kbWr (kbSb S.1.1 S.1)) ∧ kbPost μ r.2.2 S (kbSb S.1.1 S.1, S.2) 0) hC hR.B hR.2.2.1 hH (fun q1 h => (kb5_switchAll (d := 2) h.1 hR.B).mono (fun r ⟨r1, r2, r3⟩ => ⟨r1, ⟨r2, h.2.fr r3 (by omega)⟩, r3.wd (by omega) (by omega)⟩)) (by omega) (fun q7 a1 a2 => kbT0 a1 a2 (fun h0 => ?_))).mono (fun r ⟨r1, r2, r3⟩ => ⟨r1, r2 rfl, r3⟩)
    exact kb5_signSum (d := 2) a2.2.1.1 (kbB_sb hR.B)
  · unfold kfX13_mirror
    refine (kbPost.does (S := S) (S' := (kbSb S.1.1 S.1, S.2)) (v := kbWr (kbSb S.1.1 S.1)) (A := fun q5 => kfX13_mirrors q5) (fun x => x) hI hR h1 (kbK0 kbK.rf) (kbUp0 _) (kbUp9 _) (fun q5 h5 => ?_)).mono (fun r ⟨r1, r2, r3, r4⟩ => ⟨r2, r4⟩)
    exact (kb13_mirrors h5.1).mono (fun r ⟨b1, b2, b3, b4⟩ => ⟨b1, h5.d b2 b3, b4⟩)
/-- whose pass it is -/
theorem kbV.at {D : kbD} (h : kbV D) {p c e : Int} (hc : 0 ≤ c ∧ c < D.1) (he : 0 ≤ e ∧ e < D.1) (h1 : D.2.1 c = p ∨ D.2.2.1 c = p) (h2 : D.2.1 e = p ∨ D.2.2.1 e = p) : c = e := by
  have a := h.2 c e hc.1 hc.2 he.1 he.2
  have b := h.2 e c he.1 he.2 hc.1 hc.2
  rcases h1 with h1 | h1 <;> rcases h2 with h2 | h2
  · exact a.2.1 (h1.trans h2.symm)
  · exact absurd (h1.trans h2.symm) a.1
  · exact absurd (h2.trans h1.symm) b.1
  · exact a.2.2 (h1.trans h2.symm)
theorem kbLk_6 {μ : knMem} (hI : kbIv μ) (x1 x2 x3 x4 : Int) : kbH (kfLc_6 x1 x2 x3 x4 μ) kbIv := by
  obtain ⟨⟨S, hC, hR⟩, hH, -⟩ := id hI
  have hn := hR.1.2.1
  have hBk : kbR (kbBk S.1) (fun k => μ 143 (22 + (2 * S.1.1 - 1 - k))) (fun k => μ 143 (36 + (2 * S.1.1 - 1 - k))) (fun k => μ 143 (15 + k)) := kbR_bk hR.1.2 (fun k _ _ => ⟨rfl, rfl⟩)
  obtain ⟨v, hv⟩ : ∃ v : Int, v = (if S.1.1 = 0 then -1 else μ 143 (22 + (2 * S.1.1 - 1))) := ⟨_, rfl⟩
  have h8 : 0 < S.1.1 → (0 ≤ v ∧ v < S.1.1) ∧ ((kbBk S.1).2.1 v = 0 ∨ (kbBk S.1).2.2.1 v = 0) := by
    intro h0
    have h9 := hBk.2.2 0 (by omega) (by show (0 : Int) < 2 * S.1.1; omega)
    have e : v = μ 143 (22 + (2 * S.1.1 - 1 - 0)) := by rw [hv, if_neg (by omega), Int.sub_zero]
    dsimp only at h9
    rw [← e] at h9
    refine ⟨h9.1, ?_⟩
    rcases h9.2 with h | h
    · exact Or.inl h.2
    · exact Or.inr h.2
  unfold kfLc_6
  refine kbPlain (P := fun m => kbPost μ m S (kbBk S.1, S.2) 0) (v := v) ?_ (fun μ1 h1 => ?_)
  · unfold kfX12_reverse
    refine (kb12_chg (c := 0) (S' := (kbBk S.1, S.2)) (M := fun q1 => kfX5_turnBack 2 q1) (Q := fun (r : Int × Int × knMem) => r.1 = 0 ∧ ((0 : Int) = 0 → r.2.1 = v) ∧ kbPost μ r.2.2 S (kbBk S.1, S.2) 0) hC hR.B hR.2.2.1 hH (fun q1 h => (kb5_turnBack (d := 2) h.1 hR.B).mono (fun r ⟨r1, r2, r3⟩ => ⟨r1, ⟨r2, h.2.fr r3 (by omega)⟩, r3.wd (by omega) (by omega)⟩)) (by omega) (fun q7 a1 a2 => kbT0 a1 a2 (fun h0 => ?_))).mono (fun r ⟨r1, r2, r3⟩ => ⟨r1, r2 rfl, r3⟩)
    by_cases hz : S.1.1 = 0
    · rw [hv, if_pos hz]
      exact kb5_crossingNo (d := 2) a2.2.1.1 hn (fun c c0 c1 => by have : c < S.1.1 := c1; omega)
    · have h9 := h8 (by omega)
      exact kb5_crossingOf (d := 2) a2.2.1.1 hBk.V h9.1 h9.2
  · unfold kfX13_reverse
    refine (kbPost.does (S := S) (S' := (kbBk S.1, S.2)) (v := v) (A := fun q5 => kfX13_reverses q5) (fun x => x) hI hR h1 (kbK0 kbK.rf) (kbUp0 _) (kbUp9 _) (fun q5 h5 => ?_)).mono (fun r ⟨r1, r2, r3, r4⟩ => ⟨r2, r4⟩)
    refine (kb13_reverses h5.1).mono (fun r ⟨b1, b2, b3, b4⟩ => ⟨?_, h5.d b2 b3, b4⟩)
    rcases b1 with ⟨z, b1⟩ | ⟨z, b1, b5⟩
    · show r.1 = v
      rw [b1, hv, if_pos z]
    · have h9 := h8 z
      exact hBk.V.at b1 h9.1 b5 h9.2
theorem kbMt_c {x : Int} {D : kbD} : (kbMt x D).1 = (if 0 ≤ x ∧ x < 2 * D.1 then 0 else 1) := by unfold kbMt; split <;> rfl
theorem kbMt_n {x : Int} {D : kbD} (h : (kbMt x D).1 ≠ 0) : (kbMt x D).2 = D := by
  unfold kbMt at h ⊢
  split
  · rename_i h1; rw [if_pos h1] at h; exact absurd rfl h
  · rfl
theorem kbLk_7 {μ : knMem} (hI : kbIv μ) (x1 x2 x3 x4 : Int) : kbH (kfLc_7 x1 x2 x3 x4 μ) kbIv := by
  obtain ⟨⟨S, hC, hR⟩, hH, -⟩ := id hI
  have hn := hR.1.2.1
  have ec := kbMt_c (x := x1) (D := S.1)
  obtain ⟨c, hc⟩ : ∃ c : Int, c = (kbMt x1 S.1).1 := ⟨_, rfl⟩
  rw [← hc] at ec
  have hc3 : c = 0 ∨ c = 1 := by rw [ec]; split <;> omega
  have hd : c = 0 → (0 ≤ x1 ∧ x1 < 2 * S.1.1) := by
    intro h0
    rw [ec] at h0
    split at h0
    · assumption
    · omega
  have hTn : c = 0 → kbR (kbTn x1 S.1) (fun k => μ 143 (22 + (k + x1) % (2 * S.1.1))) (fun k => μ 143 (36 + (k + x1) % (2 * S.1.1))) (fun k => μ 143 (15 + k)) := fun h0 => kbR_tn hR.1.2 (hd h0) (fun k _ _ => ⟨rfl, rfl⟩)
  obtain ⟨v, hv⟩ : ∃ v : Int, v = μ 143 (22 + (0 + x1) % (2 * S.1.1)) := ⟨_, rfl⟩
  have h8 : c = 0 → (0 ≤ v ∧ v < S.1.1) ∧ ((kbTn x1 S.1).2.1 v = 0 ∨ (kbTn x1 S.1).2.2.1 v = 0) := by
    intro h0
    have hx := hd h0
    have h9 := (hTn h0).2.2 0 (by omega) (by show (0 : Int) < 2 * S.1.1; omega)
    dsimp only at h9
    rw [← hv] at h9
    refine ⟨h9.1, ?_⟩
    rcases h9.2 with h | h
    · exact Or.inl h.2
    · exact Or.inr h.2
  unfold kfLc_7
  refine kbTry (P := fun m => kbPost μ m S ((kbMt x1 S.1).2, S.2) c) (lc := kbC1 c) (v := v) (fun x => x) ?_ (fun μ1 h1 => ?_)
  · unfold kfL_turn kfX12_turn
    refine kbH.bind (P := fun r => r.1 = c ∧ (c = 0 → r.2.1 = v) ∧ kbPost μ r.2.2 S ((kbMt x1 S.1).2, S.2) c) ?_ (fun q ⟨a1, a2, a3⟩ => (kbT1 (g := fun x => x) (v := v) a1 hc3 (by omega) a2 a3).mono (fun r ⟨r1, r2, r3⟩ => ⟨r1, fun h => r2 (kbC1_0 h), r3⟩))
    refine kb12_chg (S' := ((kbMt x1 S.1).2, S.2)) (M := fun q1 => kfX5_turnTo 2 x1 q1) hC hR.B hR.2.2.1 hH (fun q1 h => (kb5_turn (d := 2) h.1 hR.B).mono (fun r ⟨r1, r2, r3⟩ => ⟨by rw [r1, hc], ⟨r2, h.2.fr r3 (by omega)⟩, r3.wd (by omega) (by omega)⟩)) (by omega) (fun q7 a1 a2 => kbT0 a1 a2 (fun h0 => ?_))
    have e : (kbMt x1 S.1).2 = kbTn x1 S.1 := by unfold kbMt; rw [if_pos (hd h0)]
    rw [e] at a2
    exact kb5_crossingOf (d := 2) a2.2.1.1 (hTn h0).V (h8 h0).1 (h8 h0).2
  · unfold kfX13_turn
    rw [kb13_notTurn (n := S.1.1) (by rw [kbUp3, h1.w]; exact hR.1.1) hn, Option.bind_some]
    by_cases h0 : c = 0
    · have hp := hd h0
      rw [if_pos hp, if_pos rfl]
      rw [h0] at h1
      have e : (kbMt x1 S.1).2 = kbTn x1 S.1 := by unfold kbMt; rw [if_pos hp]
      rw [e] at h1
      refine (kbPost.does (S := S) (S' := (kbTn x1 S.1, S.2)) (v := v) (A := fun q5 => kfX13_turnsTo x1 q5) (fun x => x) hI hR h1 (kbK0 kbK.rf) (kbUp0 _) (kbUp9 _) (fun q5 h5 => ?_)).mono (fun r ⟨r1, r2, r3, r4⟩ => ⟨by rw [r1, h0]; rfl, fun _ => r2, r3, r4⟩)
      refine (kb13_turnsTo h5.1 hp).mono (fun r ⟨b1, b2, b3, b4⟩ => ⟨?_, h5.d b2 b3, b4⟩)
      exact (hTn h0).V.at b1.1 (h8 h0).1 b1.2 (h8 h0).2
    · have hc1 : c = 1 := by omega
      have hnp : ¬ (0 ≤ x1 ∧ x1 < 2 * S.1.1) := fun h => by rw [if_pos h] at ec; omega
      rw [if_neg hnp, if_neg (show ¬ (1 : Int) = 0 by omega)]
      rw [show ((kbMt x1 S.1).2, S.2) = S from by rw [kbMt_n (by rw [← hc]; exact h0)]] at h1
      refine (kbPost.fails (c := 1) (fun x => x) hI hR h1 h0 (kbK0 kbK.rf) (kbUp9 _)).mono (fun r ⟨r1, r3, r4⟩ => ⟨by rw [r1, hc1]; rfl, fun h => absurd (kbC1_0 h) h0, r3, r4⟩)
theorem kbLk_8 {μ : knMem} (hI : kbIv μ) (x1 x2 x3 x4 : Int) : kbH (kfLc_8 x1 x2 x3 x4 μ) kbIv := by
  obtain ⟨⟨S, hC, hR⟩, hH, -⟩ := id hI
  have hn := hR.1.2.1
  obtain ⟨E, hE, hV, hle⟩ : ∃ E : kbD, kbRx S.1 E ∧ kbV E ∧ E.1 ≤ S.1.1 := by
    obtain ⟨r, _, _, E, e1, e2, e3, _⟩ := kb5_simplify (d := 2) hC.1 hR.V
    exact ⟨E, e1, e2, e3⟩
  unfold kfLc_8
  refine kbPlain (P := fun m => kbPost μ m S (E, S.2) 0) (v := S.1.1 - E.1) ?_ (fun μ1 h1 => ?_)
  · unfold kfX12_reduce
    refine (kb12_chg (c := 0) (S' := (E, S.2)) (M := fun q1 => kfX5_simplify 2 q1) (Q := fun (r : Int × Int × knMem) => r.1 = 0 ∧ ((0 : Int) = 0 → r.2.1 = S.1.1 - E.1) ∧ kbPost μ r.2.2 S (E, S.2) 0) hC hR.B hR.2.2.1 hH (fun q1 h => (kb5_simplify (d := 2) h.1 hR.V).mono (fun r ⟨r1, E2, e1, _, _, r2, r3⟩ => ⟨r1, ⟨by rw [e1.det hE] at r2; exact r2, h.2.fr r3 (by omega)⟩, r3.wd (by omega) (by omega)⟩)) (by omega) (fun q7 a1 a2 => kbT00 a1 a2 (fun h0 => ?_))).mono (fun r ⟨r1, r2, r3⟩ => ⟨r1, r2 rfl, r3⟩)
    have e3 : q7.2 2 3 = E.1 := a2.2.1.1.1
    have e4 : μ 2 3 = S.1.1 := hC.1.1
    have e5 := hV.1.1
    rw [e3, e4, knW_id (by omega)]
  · unfold kfX13_reduce
    refine (kbPost.does (S := S) (S' := (E, S.2)) (v := S.1.1 - E.1) (A := fun q5 => kfX13_reducesAll q5) (fun x => x) hI hR h1 (kbK0 kbK.rf) (kbUp0 _) (kbUp9 _) (fun q5 h5 => ?_)).mono (fun r ⟨r1, r2, r3, r4⟩ => ⟨r2, r4⟩)
    refine (kb13_reducesAll h5.1).mono (fun r ⟨E2, e1, b1, b2, b3, b4⟩ => ?_)
    rw [e1.det hE] at b1 b2
    exact ⟨b1, h5.d b2 b3, b4⟩
