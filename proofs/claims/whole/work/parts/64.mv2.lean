/-! The cases of the other moves. -/
theorem kb13_notUncurl {μ : knMem} {D : kbD} (hW : kbW (μ 143) D) {x : Int} : kbH (kfX13_notUncurl x μ) (fun r => r.1 = (if 0 ≤ x ∧ x < D.1 then (if kbCu D x then 0 else 2) else 1) ∧ kbFz μ r.2) := by
  have hn := hW.2.1
  unfold kfX13_notUncurl
  rw [kb13_isCrossing hW.1 hn, Option.bind_some]
  by_cases h : 0 ≤ x ∧ x < D.1
  · rw [if_pos h, if_neg (by omega), if_pos h]
    refine (kb13_loads hW).bind (fun μ1 ⟨a1, f1⟩ => ?_)
    rw [kb13_curls a1 h, Option.bind_some]
    refine kbH_some.mpr ⟨?_, f1⟩
    by_cases h2 : kbCu D x
    · rw [if_pos h2, if_pos h2]; rfl
    · rw [if_neg h2, if_neg h2]; rfl
  · rw [if_neg h, if_pos rfl, if_neg h]
    exact kbH_some.mpr ⟨rfl, kbFz.rf⟩
theorem kb13_notUnpoke {μ : knMem} {D : kbD} (hW : kbW (μ 143) D) {x y : Int} : kbH (kfX13_notUnpoke x y μ) (fun r => r.1 = (if (0 ≤ x ∧ x < D.1) ∧ (0 ≤ y ∧ y < D.1) then (if kbPk D x y then 0 else 2) else 1) ∧ kbFz μ r.2) := by
  have hn := hW.2.1
  unfold kfX13_notUnpoke
  simp only [kb13_isCrossing hW.1 hn, Option.bind_some]
  by_cases h : 0 ≤ x ∧ x < D.1
  · rw [if_pos h, if_neg (by omega)]
    by_cases h2 : 0 ≤ y ∧ y < D.1
    · rw [if_pos h2, if_neg (by omega), if_pos ⟨h, h2⟩]
      refine (kb13_loads hW).bind (fun μ1 ⟨a1, f1⟩ => ?_)
      rw [kb13_pokes a1 h h2, Option.bind_some]
      refine kbH_some.mpr ⟨?_, f1⟩
      by_cases h3 : kbPk D x y
      · rw [if_pos h3, if_pos h3]; rfl
      · rw [if_neg h3, if_neg h3]; rfl
    · rw [if_neg h2, if_pos rfl, if_neg (fun h9 => h2 h9.2)]
      exact kbH_some.mpr ⟨rfl, kbFz.rf⟩
  · rw [if_neg h, if_pos rfl, if_neg (fun h9 => h h9.1)]
    exact kbH_some.mpr ⟨rfl, kbFz.rf⟩
theorem kbMu_c {x : Int} {D : kbD} : (kbMu x D).1 = (if 0 ≤ x ∧ x < D.1 then (if kbCu D x then 0 else 4) else 1) := by
  unfold kbMu
  split
  · split <;> rfl
  · rfl
theorem kbMu_n {x : Int} {D : kbD} (h : (kbMu x D).1 ≠ 0) : (kbMu x D).2 = D := by
  unfold kbMu at h ⊢
  split
  · split
    · rename_i h1 h2; rw [if_pos h1, if_pos h2] at h; exact absurd rfl h
    · rfl
  · rfl
theorem kbLk_1 {μ : knMem} (hI : kbIv μ) (x1 x2 x3 x4 : Int) : kbH (kfLc_1 x1 x2 x3 x4 μ) kbIv := by
  obtain ⟨⟨S, hC, hR⟩, hH, -⟩ := id hI
  have hn := hR.1.2.1
  have ec := kbMu_c (x := x1) (D := S.1)
  obtain ⟨c, hc⟩ : ∃ c : Int, c = (kbMu x1 S.1).1 := ⟨_, rfl⟩
  rw [← hc] at ec
  have hc3 : c = 0 ∨ c = 1 ∨ c = 4 := by rw [ec]; split <;> (try split) <;> omega
  have hd : c = 0 → (0 ≤ x1 ∧ x1 < S.1.1) ∧ kbCu S.1 x1 := by
    intro h0
    rw [ec] at h0
    split at h0
    · rename_i g1
      split at h0
      · rename_i g2; exact ⟨g1, g2⟩
      · omega
    · omega
  unfold kfLc_1
  refine kbTry (P := fun m => kbPost μ m S ((kbMu x1 S.1).2, S.2) c) (lc := kbC2 1 c) (v := S.1.1 - 1) (fun x => x) ?_ (fun μ1 h1 => ?_)
  · unfold kfL_removeCurl kfX12_removeCurl
    refine kbH.bind (P := fun r => r.1 = c ∧ (c = 0 → r.2.1 = S.1.1 - 1) ∧ kbPost μ r.2.2 S ((kbMu x1 S.1).2, S.2) c) ?_ (fun q ⟨a1, a2, a3⟩ => (kbT2 a1 hc3 (by omega) (by omega) (by omega) a2 a3).mono (fun r ⟨r1, r2, r3⟩ => ⟨r1, fun h => r2 (kbC2_0 h), r3⟩))
    refine kb12_chg (S' := ((kbMu x1 S.1).2, S.2)) (M := fun q1 => kfX5_takeCurl 2 x1 q1) hC hR.B hR.2.2.1 hH (fun q1 h => (kb5_takeCurl (d := 2) h.1 hR.B).mono (fun r ⟨r1, r2, r3⟩ => ⟨by rw [r1, hc], ⟨r2, h.2.fr r3 (by omega)⟩, r3.wd (by omega) (by omega)⟩)) (by omega) (fun q7 a1 a2 => kbT00 a1 a2 (fun h0 => ?_))
    obtain ⟨g1, g2⟩ := hd h0
    exact a2.2.1.1.1.trans (by unfold kbMu; rw [if_pos g1, if_pos g2]; rfl)
  · unfold kfX13_removeCurl
    have hW : kbW (knUp μ1 142 0 0 143) S.1 := by rw [kbUp3, h1.w]; exact hR.1
    refine (kb13_notUncurl hW).bind (fun q1 ⟨r1, r2⟩ => ?_)
    have hk : kbK μ1 q1.2 := (kbK0 kbK.rf).trans r2.K
    have e9 : q1.2 159 = μ1 159 := (r2.1 159 (by omega) (by omega)).trans (kbUp9 _)
    by_cases h0 : c = 0
    · obtain ⟨hp, hn6⟩ := hd h0
      rw [if_pos hp, if_pos hn6] at r1
      rw [if_pos r1]
      rw [h0] at h1
      refine (kbPost.does (S := S) (S' := ((kbMu x1 S.1).2, S.2)) (v := S.1.1 - 1) (A := fun q5 => kfX13_uncurls x1 q5) (fun x => x) hI hR h1 hk ((r2.2 0 (by omega)).trans (kbUp0 _)) e9 (fun q5 h5 => ?_)).mono (fun r ⟨r1, r2, r3, r4⟩ => ⟨by rw [r1, h0]; rfl, fun _ => r2, r3, r4⟩)
      refine (kb13_uncurls h5.1 hp).mono (fun r ⟨b1, b2, b3, b4⟩ => ⟨b1, ?_, b4⟩)
      have e : (kbMu x1 S.1).2 = kbRm x1 S.1 := by unfold kbMu; rw [if_pos hp, if_pos hn6]
      rw [e]
      exact h5.d b2 b3
    · have hx : q1.1 = kbC2 1 c := by
        rw [r1]
        unfold kbC2
        rw [if_neg h0, ec]
        rw [ec] at h0
        split
        · split
          · rename_i g1 g2; rw [if_pos g1, if_pos g2] at h0; omega
          · rfl
        · rfl
      have hz : kbC2 1 c ≠ 0 := fun h => h0 (kbC2_0 h)
      rw [hx, if_neg hz]
      rw [show ((kbMu x1 S.1).2, S.2) = S from by rw [kbMu_n (by rw [← hc]; exact h0)]] at h1
      exact (kbPost.fails (fun x => x) hI hR h1 h0 hk e9).mono (fun r ⟨r1, r3, r4⟩ => ⟨r1, fun h => absurd h hz, r3, r4⟩)
theorem kbMp_c {a b q s : Int} {D : kbD} : (kbMp a b q s D).1 = (if (0 ≤ a ∧ a ≤ 2 * D.1) ∧ (0 ≤ b ∧ b ≤ 2 * D.1) then (if D.1 ≤ 5 then 0 else 3) else 1) := by
  unfold kbMp
  split
  · split <;> rfl
  · rfl
theorem kbMp_n {a b q s : Int} {D : kbD} (h : (kbMp a b q s D).1 ≠ 0) : (kbMp a b q s D).2 = D := by
  unfold kbMp at h ⊢
  split
  · split
    · rename_i h1 h2; rw [if_pos h1, if_pos h2] at h; exact absurd rfl h
    · rfl
  · rfl
theorem kbLk_2 {μ : knMem} (hI : kbIv μ) (x1 x2 x3 x4 : Int) : kbH (kfLc_2 x1 x2 x3 x4 μ) kbIv := by
  obtain ⟨⟨S, hC, hR⟩, hH, -⟩ := id hI
  obtain ⟨s, hs⟩ : ∃ s : Int, s = (if x4 = 0 then 0 else 1 : Int) := ⟨_, rfl⟩
  obtain ⟨f, hf⟩ : ∃ f : Int, f = (if x3 = 0 then 0 else 1 : Int) := ⟨_, rfl⟩
  have hs2 : s = 0 ∨ s = 1 := by rw [hs]; split <;> omega
  have hf2 : f = 0 ∨ f = 1 := by rw [hf]; split <;> omega
  have hn := hR.1.2.1
  have ec := kbMp_c (a := x1) (b := x2) (q := f) (s := s) (D := S.1)
  obtain ⟨c, hc⟩ : ∃ c : Int, c = (kbMp x1 x2 f s S.1).1 := ⟨_, rfl⟩
  rw [← hc] at ec
  have hc3 : c = 0 ∨ c = 1 ∨ c = 3 := by rw [ec]; split <;> (try split) <;> omega
  have hd : c = 0 → ((0 ≤ x1 ∧ x1 ≤ 2 * S.1.1) ∧ (0 ≤ x2 ∧ x2 ≤ 2 * S.1.1)) ∧ S.1.1 ≤ 5 := by
    intro h0
    rw [ec] at h0
    split at h0
    · rename_i g1
      split at h0
      · rename_i g2; exact ⟨g1, g2⟩
      · omega
    · omega
  unfold kfLc_2
  rw [← hs, ← hf]
  refine kbTry (P := fun m => kbPost μ m S ((kbMp x1 x2 f s S.1).2, S.2) c) (lc := kbC2 1 c) (v := S.1.1) (fun x => x) ?_ (fun μ1 h1 => ?_)
  · unfold kfL_addPoke kfX12_addPoke
    refine kbH.bind (P := fun r => r.1 = c ∧ (c = 0 → r.2.1 = S.1.1) ∧ kbPost μ r.2.2 S ((kbMp x1 x2 f s S.1).2, S.2) c) ?_ (fun q ⟨a1, a2, a3⟩ => (kbT2 a1 hc3 (by omega) (by omega) (by omega) a2 a3).mono (fun r ⟨r1, r2, r3⟩ => ⟨r1, fun h => r2 (kbC2_0 h), r3⟩))
    refine kb12_chg (S' := ((kbMp x1 x2 f s S.1).2, S.2)) (M := fun q1 => kfX5_putPoke 2 x1 x2 f s q1) hC hR.B hR.2.2.1 hH (fun q1 h => (kb5_putPoke (d := 2) h.1 hR.B hs2).mono (fun r ⟨r1, r2, r3⟩ => ⟨by rw [r1, hc], ⟨r2, h.2.fr r3 (by omega)⟩, r3.wd (by omega) (by omega)⟩)) (by omega) (fun q7 a1 a2 => kbT00 a1 a2 (fun h0 => ?_))
    obtain ⟨g1, g2⟩ := hd h0
    have e3 : q7.2 2 3 = S.1.1 + 1 + 1 := a2.2.1.1.1.trans (by unfold kbMp; rw [if_pos g1, if_pos g2]; rfl)
    rw [e3, knW_id (by omega)]
    omega
  · unfold kfX13_addPoke
    rw [kb13_notPoke (n := S.1.1) (by rw [kbUp3, h1.w]; exact hR.1.1) hn, Option.bind_some]
    rw [show (if s = 0 then 0 else 1 : Int) = s by split <;> omega, show (if f = 0 then 0 else 1 : Int) = f by split <;> omega]
    by_cases h0 : c = 0
    · obtain ⟨hp, hn6⟩ := hd h0
      rw [if_pos hp, if_pos hn6, if_pos rfl]
      rw [h0] at h1
      refine (kbPost.does (S := S) (S' := ((kbMp x1 x2 f s S.1).2, S.2)) (v := S.1.1) (A := fun q5 => kfX13_addsPoke x1 x2 f s q5) (fun x => x) hI hR h1 (kbK0 kbK.rf) (kbUp0 _) (kbUp9 _) (fun q5 h5 => ?_)).mono (fun r ⟨r1, r2, r3, r4⟩ => ⟨by rw [r1, h0]; rfl, fun _ => r2, r3, r4⟩)
      exact (kb13_addsPoke h5.1 hp.1 hp.2 hn6 hs2 hf2).mono (fun r ⟨b1, b2, b3, b4⟩ => ⟨b1, h5.d b2 b3, b4⟩)
    · have hx : (if (0 ≤ x1 ∧ x1 ≤ 2 * S.1.1) ∧ (0 ≤ x2 ∧ x2 ≤ 2 * S.1.1) then (if S.1.1 ≤ 5 then 0 else 2) else 1 : Int) = kbC2 1 c := by
        unfold kbC2
        rw [if_neg h0, ec]
        rw [ec] at h0
        split
        · split
          · rename_i g1 g2; rw [if_pos g1, if_pos g2] at h0; omega
          · rfl
        · rfl
      have hz : kbC2 1 c ≠ 0 := fun h => h0 (kbC2_0 h)
      rw [hx, if_neg hz]
      rw [show ((kbMp x1 x2 f s S.1).2, S.2) = S from by rw [kbMp_n (by rw [← hc]; exact h0)]] at h1
      exact (kbPost.fails (fun x => x) hI hR h1 h0 (kbK0 kbK.rf) (kbUp9 _)).mono (fun r ⟨r1, r3, r4⟩ => ⟨r1, fun h => absurd h hz, r3, r4⟩)
theorem kbMq_c {a b : Int} {D : kbD} : (kbMq a b D).1 = (if (0 ≤ a ∧ a < D.1) ∧ (0 ≤ b ∧ b < D.1) then (if kbPk D a b then 0 else 4) else 1) := by
  unfold kbMq
  split
  · split <;> rfl
  · rfl
theorem kbMq_n {a b : Int} {D : kbD} (h : (kbMq a b D).1 ≠ 0) : (kbMq a b D).2 = D := by
  unfold kbMq at h ⊢
  split
  · split
    · rename_i h1 h2; rw [if_pos h1, if_pos h2] at h; exact absurd rfl h
    · rfl
  · rfl
theorem kbLk_3 {μ : knMem} (hI : kbIv μ) (x1 x2 x3 x4 : Int) : kbH (kfLc_3 x1 x2 x3 x4 μ) kbIv := by
  obtain ⟨⟨S, hC, hR⟩, hH, -⟩ := id hI
  have hn := hR.1.2.1
  have ec := kbMq_c (a := x1) (b := x2) (D := S.1)
  obtain ⟨c, hc⟩ : ∃ c : Int, c = (kbMq x1 x2 S.1).1 := ⟨_, rfl⟩
  rw [← hc] at ec
  have hc3 : c = 0 ∨ c = 1 ∨ c = 4 := by rw [ec]; split <;> (try split) <;> omega
  have hd : c = 0 → ((0 ≤ x1 ∧ x1 < S.1.1) ∧ (0 ≤ x2 ∧ x2 < S.1.1)) ∧ kbPk S.1 x1 x2 := by
    intro h0
    rw [ec] at h0
    split at h0
    · rename_i g1
      split at h0
      · rename_i g2; exact ⟨g1, g2⟩
      · omega
    · omega
  unfold kfLc_3
  refine kbTry (P := fun m => kbPost μ m S ((kbMq x1 x2 S.1).2, S.2) c) (lc := kbC2 1 c) (v := S.1.1 - 2) (fun x => x) ?_ (fun μ1 h1 => ?_)
  · unfold kfL_removePoke kfX12_removePoke
    refine kbH.bind (P := fun r => r.1 = c ∧ (c = 0 → r.2.1 = S.1.1 - 2) ∧ kbPost μ r.2.2 S ((kbMq x1 x2 S.1).2, S.2) c) ?_ (fun q ⟨a1, a2, a3⟩ => (kbT2 a1 hc3 (by omega) (by omega) (by omega) a2 a3).mono (fun r ⟨r1, r2, r3⟩ => ⟨r1, fun h => r2 (kbC2_0 h), r3⟩))
    refine kb12_chg (S' := ((kbMq x1 x2 S.1).2, S.2)) (M := fun q1 => kfX5_takePoke 2 x1 x2 q1) hC hR.B hR.2.2.1 hH (fun q1 h => (kb5_takePoke (d := 2) h.1 hR.V).mono (fun r ⟨r1, r2, r3⟩ => ⟨by rw [r1, hc], ⟨r2, h.2.fr r3 (by omega)⟩, r3.wd (by omega) (by omega)⟩)) (by omega) (fun q7 a1 a2 => kbT00 a1 a2 (fun h0 => ?_))
    obtain ⟨g1, g2⟩ := hd h0
    have e3 : q7.2 2 3 = S.1.1 - 1 - 1 := a2.2.1.1.1.trans (by unfold kbMq; rw [if_pos g1, if_pos g2]; rfl)
    omega
  · unfold kfX13_removePoke
    have hW : kbW (knUp μ1 142 0 0 143) S.1 := by rw [kbUp3, h1.w]; exact hR.1
    refine (kb13_notUnpoke hW).bind (fun q1 ⟨r1, r2⟩ => ?_)
    have hk : kbK μ1 q1.2 := (kbK0 kbK.rf).trans r2.K
    have e9 : q1.2 159 = μ1 159 := (r2.1 159 (by omega) (by omega)).trans (kbUp9 _)
    by_cases h0 : c = 0
    · obtain ⟨hp, hn6⟩ := hd h0
      rw [if_pos hp, if_pos hn6] at r1
      rw [if_pos r1]
      rw [h0] at h1
      refine (kbPost.does (S := S) (S' := ((kbMq x1 x2 S.1).2, S.2)) (v := S.1.1 - 2) (A := fun q5 => kfX13_unpokes x1 x2 q5) (fun x => x) hI hR h1 hk ((r2.2 0 (by omega)).trans (kbUp0 _)) e9 (fun q5 h5 => ?_)).mono (fun r ⟨r1, r2, r3, r4⟩ => ⟨by rw [r1, h0]; rfl, fun _ => r2, r3, r4⟩)
      refine (kb13_unpokes h5.1 hp.1 hp.2 (kbPk_ne hn6)).mono (fun r ⟨b1, b2, b3, b4⟩ => ⟨b1, ?_, b4⟩)
      have e : (kbMq x1 x2 S.1).2 = kbRm (if x2 < x1 then x2 else x1) (kbRm (if x1 < x2 then x2 else x1) S.1) := by unfold kbMq; rw [if_pos hp, if_pos hn6]
      rw [e]
      exact h5.d b2 b3
    · have hx : q1.1 = kbC2 1 c := by
        rw [r1]
        unfold kbC2
        rw [if_neg h0, ec]
        rw [ec] at h0
        split
        · split
          · rename_i g1 g2; rw [if_pos g1, if_pos g2] at h0; omega
          · rfl
        · rfl
      have hz : kbC2 1 c ≠ 0 := fun h => h0 (kbC2_0 h)
      rw [hx, if_neg hz]
      rw [show ((kbMq x1 x2 S.1).2, S.2) = S from by rw [kbMq_n (by rw [← hc]; exact h0)]] at h1
      exact (kbPost.fails (fun x => x) hI hR h1 h0 hk e9).mono (fun r ⟨r1, r3, r4⟩ => ⟨r1, fun h => absurd h hz, r3, r4⟩)
