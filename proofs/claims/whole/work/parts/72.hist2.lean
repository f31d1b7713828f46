/-! The cases: undo, save, restore; errors; output; typing. -/
theorem kbLk_55 {μ : knMem} (hI : kbIv μ) (x1 x2 x3 x4 : Int) : kbH (kfLc_55 x1 x2 x3 x4 μ) kbIv := by
  obtain ⟨-, ⟨n0, k0, c0, f0, hj⟩, -⟩ := id hI
  unfold kfLc_55
  by_cases hz : μ 23 2 = 0
  · refine kbTry (P := kbK μ) (lc := 1) (v := 0) (fun x => x) ?_ (fun μ1 h1 => ?_)
    · unfold kfL_undo kfX12_undo
      rw [if_pos hz, Option.bind_some, if_neg (show ¬ (5 : Int) = 0 by omega), if_pos rfl]
      exact kbH_some.mpr ⟨rfl, fun h => absurd h (by decide), kbK.rf⟩
    · have hI1 := hI.K h1
      have e5 : knUp μ1 142 0 0 142 5 = 0 := by
        rw [kbUp, if_neg (by omega), h1.2.1 5 (by omega) (by omega) (by omega) (by omega) (by omega), c0, hz]
      unfold kfX13_undo
      rw [if_pos e5]
      exact (kbQf (c := 1) (fun x => x) hI1 (kbK0 kbK.rf) (kbUp9 _)).mono (fun r ⟨r1, r2, r3⟩ => ⟨r1, fun h => absurd h (by decide), r2, r3⟩)
  · obtain ⟨S, s1, s2⟩ := hj 1 (by omega) (by omega)
    obtain ⟨nx, hnx⟩ : ∃ nx : Int, nx = (μ 23 1 - 1) % 9 := ⟨_, rfl⟩
    have enx : (if μ 23 1 = 0 then 8 else knW (μ 23 1 - 1) : Int) = nx := by
      rw [hnx]
      split
      · rename_i h; rw [h]; rfl
      · rw [knW_id (by omega)]; omega
    rw [← hnx] at s1
    have hn9 : 0 ≤ nx ∧ nx < 9 := by omega
    refine kbTry (P := fun m => kbCs m 1 S ∧ m 23 1 = nx ∧ m 23 2 = μ 23 2 - 1 ∧ ∀ o : Int, (o < 1 ∨ 9 < o) → o ≠ 23 → o ≠ 159 → m o = μ o) (lc := 0) (v := μ 23 2 - 1) (fun x => x) ?_ (fun μ1 ⟨h1, h2, h3, h4⟩ => ?_)
    · unfold kfL_undo kfX12_undo kfX6_takeBack kfJ9_max_7cf53
      rw [if_neg hz, enx]
      have e1 : ∀ v : Int, knUp μ 23 1 v 23 2 = μ 23 2 := fun v => by rw [kbUp, if_neg (by omega)]
      have e2 : ∀ v w : Int, knUp (knUp μ 23 1 v) 23 2 w 23 1 = v := fun v w => by rw [kbUp, if_neg (by omega), kbUpS]
      simp only [e1, Option.bind_some, e2]
      rw [knW_id (by omega), if_neg (by omega), kbGd hn9, Option.bind_some]
      have hx : ∀ (o v w : Int), o ≠ 23 → knUp (knUp μ 23 1 v) 23 2 w o = μ o := fun o v w ho => by rw [knUp_ne ho, knUp_ne ho]
      have s3 : kbCs (knUp (knUp μ 23 1 nx) 23 2 (μ 23 2 - 1)) (25 + 9 * nx) S := s1.sm (fun o o0 o1 => hx o _ _ (by omega))
      dsimp only
      refine kbH.bind (P := fun q1 => q1.1 = 0 ∧ q1.2.1 = μ 23 2 - 1 ∧ kbCs q1.2.2 1 S ∧ q1.2.2 23 1 = nx ∧ q1.2.2 23 2 = μ 23 2 - 1 ∧ ∀ o : Int, (o < 1 ∨ 9 < o) → o ≠ 23 → q1.2.2 o = μ o) ?_ (fun q1 ⟨q0, q2, q3, q4, q5, q6⟩ => ?_)
      · refine (kb10_copyFrom (a := 1) s3 s2.B s2.2.2.1 (by omega)).bind (fun q6 ⟨a1, a2⟩ => kbH_some.mpr ?_)
        have e23 : q6 23 = knUp (knUp μ 23 1 nx) 23 2 (μ 23 2 - 1) 23 := a2 23 (by omega)
        dsimp only
        exact ⟨rfl, by rw [e23, kbUpS], a1, by rw [e23, e2], by rw [e23, kbUpS], fun o o1 o2 => (a2 o (by omega)).trans (hx o _ _ o2)⟩
      · rw [if_pos q0]
        rw [kbH_some]
        dsimp only
        refine ⟨rfl, fun _ => (kbUpS q1.2.2 159 0 _).trans q2, ⟨q3.sm (fun o _ _ => knUp_ne (by omega)), by rw [knUp_ne (by omega)]; exact q4, by rw [knUp_ne (by omega)]; exact q5, fun o o1 o2 o3 => by rw [knUp_ne o3]; exact q6 o o1 o2⟩⟩
    · have e142 : μ1 142 = μ 142 := h4 142 (by omega) (by omega) (by omega)
      have e144 : μ1 144 = μ 144 := h4 144 (by omega) (by omega) (by omega)
      have e5 : knUp μ1 142 0 0 142 5 = μ 23 2 := by rw [kbUp, if_neg (by omega), e142, c0]
      unfold kfX13_undo
      rw [if_neg (by rw [e5]; exact hz), e5, knW_id (x := μ 23 2 - 1) (by omega)]
      have e6 : knUp (knUp μ1 142 0 0) 142 5 (μ 23 2 - 1) 142 6 = μ 142 6 := by rw [kbUp, if_neg (by omega), kbUp, if_neg (by omega), e142]
      rw [e6, kbUpS, knW_id (x := μ 142 6 + (μ 23 2 - 1)) (by omega), kbRe (by omega) (by omega)]
      obtain ⟨t, ht⟩ : ∃ t : Int, t = (μ 142 6 + (μ 23 2 - 1)) % 8 := ⟨_, rfl⟩
      rw [← ht]
      refine kbH.mono (P := fun r => r.2 142 0 = 0 ∧ r.1 = μ 23 2 - 1 ∧ r.2 159 = μ1 159 ∧ kbIv r.2) ?_ (fun r ⟨a, b, c, d⟩ => ⟨a, fun _ => b, c, d⟩)
      refine kbLoop (fun n i s => kfX13_undo_l43 t (fun w10 => some ((w10 142 5), w10)) n i s) (fun i s => 0 ≤ i ∧ (∀ k : Int, 0 ≤ k → k < i → s 143 k = μ 144 (50 * t + k)) ∧ ∀ o : Int, o ≠ 143 → s o = knUp (knUp μ1 142 0 0) 142 5 (μ 23 2 - 1) o) 50 _ ?_ ?_ _ _ _ (by omega) (by rw [kbF]; omega) ⟨by omega, fun k _ _ => by omega, fun _ _ => rfl⟩
      · intro n i s hi ⟨i0, hr, hf⟩ kk
        simp only [kfX13_undo_l43, kbH_ite, kbH_gd]
        refine ⟨fun h => by omega, fun _ => ?_⟩
        rw [knW_id (x := 50 * t) (by omega), knW_id (x := 50 * t + i) (by omega), knW_id (x := i + 1) (by omega)]
        refine ⟨by omega, by omega, kk _ ⟨by omega, fun k k0 k1 => ?_, fun o ho => ?_⟩⟩
        · by_cases hk : k = i
          · subst hk
            rw [kbUpS, hf 144 (by omega), knUp_ne (by omega), knUp_ne (by omega), e144]
          · rw [kbUp, if_neg (by omega)]; exact hr k k0 (by omega)
        · rw [knUp_ne ho]; exact hf o ho
      · intro n s ⟨i0, hr, hf⟩
        simp only [kfX13_undo_l43, kbH_ite, kbH_some]
        refine ⟨fun _ => ?_, fun h => by omega⟩
        have g142 : ∀ i : Int, i ≠ 0 → i ≠ 5 → s 142 i = μ 142 i := fun i h0 h5 => by rw [hf 142 (by omega), kbUp, if_neg (by omega), kbUp, if_neg (by omega), e142]
        have g5 : s 142 5 = μ 23 2 - 1 := by rw [hf 142 (by omega), kbUpS]
        have gx : ∀ o : Int, o ≠ 142 → o ≠ 143 → s o = μ1 o := fun o h1 h2 => by rw [hf o h2, knUp_ne h1, knUp_ne h1]
        refine ⟨by rw [hf 142 (by omega), kbUp, if_neg (by omega), kbUp0], g5, gx 159 (by omega) (by omega), ?_⟩
        refine hI.mk ⟨fun o ho => (gx o (by omega) (by omega)).trans (h4 o (by omega) (by omega) (by omega)), fun i a b _ _ _ _ _ => g142 i a b, by rw [gx 137 (by omega) (by omega), h4 137 (by omega) (by omega) (by omega)]⟩ ⟨S, h1.sm (fun o _ _ => gx o (by omega) (by omega)), ?_⟩ ?_
        · refine s2.congr (fun i i0 i1 => ?_)
          rw [hr i i0 i1, ht]
          congr 2
          omega
        · have e23 : s 23 = μ1 23 := gx 23 (by omega) (by omega)
          unfold kbHi
          rw [e23, h2, h3, g5, g142 6 (by omega) (by omega), gx 144 (by omega) (by omega), e144]
          refine ⟨by omega, by omega, rfl, f0, fun j j1 j2 => ?_⟩
          obtain ⟨T, t1, t2⟩ := hj (j + 1) (by omega) (by omega)
          refine ⟨T, ?_, ?_⟩
          · have e : (nx - j) % 9 = (μ 23 1 - (j + 1)) % 9 := by omega
            rw [e]
            exact t1.sm (fun o o0 o1 => (gx o (by omega) (by omega)).trans (h4 o (by omega) (by omega) (by omega)))
          · have e : (μ 142 6 + (μ 23 2 - 1) - j) % 8 = (μ 142 6 + μ 23 2 - (j + 1)) % 8 := by omega
            rw [e]
            exact t2
theorem kbLk_56 {μ : knMem} (hI : kbIv μ) (x1 x2 x3 x4 : Int) : kbH (kfLc_56 x1 x2 x3 x4 μ) kbIv := by
  obtain ⟨⟨S, hC, hR⟩, hH, hs, ht, ho, he, hf⟩ := id hI
  unfold kfLc_56
  refine kbPl3 (P := fun m => kbCs m 10 S ∧ m 0 11 = 1 ∧ (∀ i : Int, i ≠ 11 → m 0 i = μ 0 i) ∧ ∀ o : Int, (o < 10 ∨ 18 < o) → o ≠ 0 → m o = μ o) (v := S.1.1) ?_ (fun μ1 ⟨h1, h2, h3, h4⟩ => ?_)
  · unfold kfX12_save
    refine (kb10_copyFrom (a := 10) (b := 1) hC hR.B hR.2.2.1 (by omega)).bind (fun q1 ⟨a1, a2⟩ => kbH_some.mpr ?_)
    refine ⟨?_, a1.sm (fun o _ _ => knUp_ne (by omega)), kbUpS q1 0 11 1, fun i hi => ?_, fun o o1 o2 => ?_⟩
    · show knUp q1 0 11 1 2 3 = S.1.1
      rw [knUp_ne (by omega), a2 2 (by omega)]
      exact hC.1.1
    · show knUp q1 0 11 1 0 i = μ 0 i
      rw [kbUp, if_neg (by omega), a2 0 (by omega)]
    · show knUp q1 0 11 1 o = μ o
      rw [knUp_ne o2, a2 o (by omega)]
  · unfold kfX13_save
    have hRs : kbRs (knUp μ1 142 0 0 143) S := by rw [kbUp3, h4 143 (by omega) (by omega)]; exact hR
    refine kbLoop (fun n i s => kfX13_save_l7 (fun w4 => knGd ((0 : Int) ≤ 0 ∧ (0 : Int) < 50) (some (((knUp w4 142 7 1) 143 0), (knUp w4 142 7 1)))) n i s) (fun i s => 0 ≤ i ∧ (∀ k : Int, 0 ≤ k → k < i → s 145 k = knUp μ1 142 0 0 143 k) ∧ ∀ o : Int, o ≠ 145 → s o = knUp μ1 142 0 0 o) 50 _ ?_ ?_ _ _ _ (by omega) (by rw [kbF]; omega) ⟨by omega, fun k _ _ => by omega, fun _ _ => rfl⟩
    · intro n i s hi ⟨i0, hr, hf⟩ kk
      simp only [kfX13_save_l7, kbH_ite, kbH_gd]
      refine ⟨fun h => by omega, fun _ => ⟨by omega, ?_⟩⟩
      rw [knW_id (x := i + 1) (by omega)]
      refine kk _ ⟨by omega, fun k k0 k1 => ?_, fun o ho => ?_⟩
      · by_cases hk : k = i
        · subst hk
          rw [kbUpS, hf 143 (by omega)]
        · rw [kbUp, if_neg (by omega)]; exact hr k k0 (by omega)
      · rw [knUp_ne ho]; exact hf o ho
    · intro n s ⟨i0, hr, hfx⟩
      simp only [kfX13_save_l7, kbH_ite, kbH_gd, kbH_some]
      refine ⟨fun _ => ⟨by omega, ?_⟩, fun h => by omega⟩
      have g142 : ∀ i : Int, i ≠ 0 → i ≠ 7 → knUp s 142 7 1 142 i = μ 142 i := fun i h0 h7 => by rw [kbUp, if_neg (by omega), hfx 142 (by omega), kbUp, if_neg (by omega), h4 142 (by omega) (by omega)]
      have gx : ∀ o : Int, o ≠ 142 → o ≠ 145 → knUp s 142 7 1 o = μ1 o := fun o h1 h2 => by rw [knUp_ne h1, hfx o h2, knUp_ne h1]
      have gy : ∀ o : Int, o ≠ 142 → o ≠ 145 → (o < 10 ∨ 18 < o) → o ≠ 0 → knUp s 142 7 1 o = μ o := fun o h1 h2 h3 h5 => (gx o h1 h2).trans (h4 o h3 h5)
      refine ⟨?_, ?_⟩
      · rw [knUp_ne (by omega), hfx 143 (by omega)]
        exact hRs.1.1
      · refine ⟨⟨S, hC.sm (fun o _ _ => gy o (by omega) (by omega) (by omega) (by omega)), by rw [gy 143 (by omega) (by omega) (by omega) (by omega)]; exact hR⟩, hH.sm (fun o _ _ => gy o (by omega) (by omega) (by omega) (by omega)) (by rw [gy 23 (by omega) (by omega) (by omega) (by omega)]) (by rw [gy 23 (by omega) (by omega) (by omega) (by omega)]) (g142 5 (by omega) (by omega)) (g142 6 (by omega) (by omega)) (gy 144 (by omega) (by omega) (by omega) (by omega)), Or.inr ⟨?_, kbUpS s 142 7 1, S, h1.sm (fun o _ _ => gx o (by omega) (by omega)), ?_⟩, ?_, ?_, ?_, ?_⟩
        · rw [gx 0 (by omega) (by omega)]; exact h2
        · refine hRs.congr (fun i i0 i1 => ?_)
          rw [knUp_ne (by omega)]
          exact hr i i0 i1
        · rw [gy 137 (by omega) (by omega) (by omega) (by omega), gy 157 (by omega) (by omega) (by omega) (by omega), gy 138 (by omega) (by omega) (by omega) (by omega), g142 21 (by omega) (by omega)]; exact ht
        · rw [gy 140 (by omega) (by omega) (by omega) (by omega), gy 156 (by omega) (by omega) (by omega) (by omega), gy 141 (by omega) (by omega) (by omega) (by omega), g142 19 (by omega) (by omega)]; exact ho
        · rw [gx 0 (by omega) (by omega), h3 12 (by omega), g142 23 (by omega) (by omega)]; exact he
        · rw [gx 0 (by omega) (by omega), h3 13 (by omega), g142 24 (by omega) (by omega)]; exact hf
theorem kbLk_57 {μ : knMem} (hI : kbIv μ) (x1 x2 x3 x4 : Int) : kbH (kfLc_57 x1 x2 x3 x4 μ) kbIv := by
  obtain ⟨-, ⟨n0, k0, c0, f0, hj⟩, hs, -⟩ := id hI
  unfold kfLc_57
  rcases hs with ⟨z1, z2⟩ | ⟨z1, z2, S, s1, s2⟩
  · refine kbTry (P := kbK μ) (lc := 1) (v := 0) (fun x => x) ?_ (fun μ1 h1 => ?_)
    · unfold kfL_restore kfX12_restore
      rw [if_pos z1, Option.bind_some, if_neg (show ¬ (3 : Int) = 0 by omega), if_pos rfl]
      exact kbH_some.mpr ⟨rfl, fun h => absurd h (by decide), kbK.rf⟩
    · have hI1 := hI.K h1
      have e7 : knUp μ1 142 0 0 142 7 = 0 := by
        rw [kbUp, if_neg (by omega), h1.2.1 7 (by omega) (by omega) (by omega) (by omega) (by omega), z2]
      unfold kfX13_restore
      rw [if_pos e7]
      exact (kbQf (c := 1) (fun x => x) hI1 (kbK0 kbK.rf) (kbUp9 _)).mono (fun r ⟨r1, r2, r3⟩ => ⟨r1, fun h => absurd h (by decide), r2, r3⟩)
  · refine kbTry (P := fun m => kbCs m 1 S ∧ m 23 1 = μ 23 1 ∧ m 23 2 = 0 ∧ ∀ o : Int, (o < 1 ∨ 9 < o) → o ≠ 23 → o ≠ 159 → m o = μ o) (lc := 0) (v := S.1.1) (fun x => x) ?_ (fun μ1 ⟨h1, h2, h3, h4⟩ => ?_)
    · unfold kfL_restore kfX12_restore kfX6_forget
      rw [if_neg (by omega)]
      refine kbH.bind (P := fun q1 => q1.1 = 0 ∧ q1.2.1 = S.1.1 ∧ kbCs q1.2.2 1 S ∧ q1.2.2 23 1 = μ 23 1 ∧ q1.2.2 23 2 = 0 ∧ ∀ o : Int, (o < 1 ∨ 9 < o) → o ≠ 23 → q1.2.2 o = μ o) ?_ (fun q1 ⟨q0, q2, q3, q4, q5, q6⟩ => ?_)
      · refine (kb10_copyFrom (a := 1) s1 s2.B s2.2.2.1 (by omega)).bind (fun q6 ⟨a1, a2⟩ => ?_)
        rw [Option.bind_some]
        refine kbH_some.mpr ⟨rfl, ?_, a1.sm (fun o _ _ => knUp_ne (by omega)), ?_, kbUpS q6 23 2 0, fun o o1 o2 => ?_⟩
        · show knUp q6 23 2 0 2 3 = S.1.1
          rw [knUp_ne (by omega)]; exact a1.1.1
        · show knUp q6 23 2 0 23 1 = μ 23 1
          rw [kbUp, if_neg (by omega), a2 23 (by omega)]
        · show knUp q6 23 2 0 o = μ o
          rw [knUp_ne o2, a2 o (by omega)]
      · rw [if_pos q0]
        rw [kbH_some]
        dsimp only
        refine ⟨rfl, fun _ => (kbUpS q1.2.2 159 0 _).trans q2, ⟨q3.sm (fun o _ _ => knUp_ne (by omega)), by rw [knUp_ne (by omega)]; exact q4, by rw [knUp_ne (by omega)]; exact q5, fun o o1 o2 o3 => by rw [knUp_ne o3]; exact q6 o o1 o2⟩⟩
    · have e142 : μ1 142 = μ 142 := h4 142 (by omega) (by omega) (by omega)
      unfold kfX13_restore
      have e7 : knUp μ1 142 0 0 142 7 = 1 := by rw [kbUp, if_neg (by omega), e142, z2]
      rw [if_neg (by rw [e7]; omega)]
      refine kbH.mono (P := fun r => r.2 142 0 = 0 ∧ r.1 = S.1.1 ∧ r.2 159 = μ1 159 ∧ kbIv r.2) ?_ (fun r ⟨a, b, c, d⟩ => ⟨a, fun _ => b, c, d⟩)
      refine kbLoop (fun n i s => kfX13_restore_l20 (fun w6 => knGd ((0 : Int) ≤ 0 ∧ (0 : Int) < 50) (some (((knUp (knUp w6 142 5 0) 142 6 0) 143 0), (knUp (knUp w6 142 5 0) 142 6 0)))) n i s) (fun i s => 0 ≤ i ∧ (∀ k : Int, 0 ≤ k → k < i → s 143 k = μ 145 k) ∧ ∀ o : Int, o ≠ 143 → s o = knUp μ1 142 0 0 o) 50 _ ?_ ?_ _ _ _ (by omega) (by rw [kbF]; omega) ⟨by omega, fun k _ _ => by omega, fun _ _ => rfl⟩
      · intro n i s hi ⟨i0, hr, hf⟩ kk
        simp only [kfX13_restore_l20, kbH_ite, kbH_gd]
        refine ⟨fun h => by omega, fun _ => ⟨by omega, ?_⟩⟩
        rw [knW_id (x := i + 1) (by omega)]
        refine kk _ ⟨by omega, fun k k0 k1 => ?_, fun o ho => ?_⟩
        · by_cases hk : k = i
          · subst hk
            rw [kbUpS, hf 145 (by omega), knUp_ne (by omega), h4 145 (by omega) (by omega) (by omega)]
          · rw [kbUp, if_neg (by omega)]; exact hr k k0 (by omega)
        · rw [knUp_ne ho]; exact hf o ho
      · intro n s ⟨i0, hr, hf⟩
        simp only [kfX13_restore_l20, kbH_ite, kbH_gd, kbH_some]
        refine ⟨fun _ => ⟨by omega, ?_⟩, fun h => by omega⟩
        have g142 : ∀ i : Int, i ≠ 0 → i ≠ 5 → i ≠ 6 → knUp (knUp s 142 5 0) 142 6 0 142 i = μ 142 i := fun i h0 h5 h6 => by rw [kbUp, if_neg (by omega), kbUp, if_neg (by omega), hf 142 (by omega), kbUp, if_neg (by omega), e142]
        have gx : ∀ o : Int, o ≠ 142 → knUp (knUp s 142 5 0) 142 6 0 o = s o := fun o h1 => by rw [knUp_ne h1, knUp_ne h1]
        have gy : ∀ o : Int, o ≠ 142 → o ≠ 143 → knUp (knUp s 142 5 0) 142 6 0 o = μ1 o := fun o h1 h2 => by rw [gx o h1, hf o h2, knUp_ne h1]
        have hS : kbRs (knUp (knUp s 142 5 0) 142 6 0 143) S := by rw [gx 143 (by omega)]; exact s2.congr (fun i i0 i1 => hr i i0 i1)
        refine ⟨?_, hS.1.1, gy 159 (by omega) (by omega), ?_⟩
        · rw [kbUp, if_neg (by omega), kbUp, if_neg (by omega), hf 142 (by omega), kbUp0]
        · refine hI.mk ⟨fun o ho => (gy o (by omega) (by omega)).trans (h4 o (by omega) (by omega) (by omega)), fun i a b c _ _ _ _ => g142 i a b c, by rw [gy 137 (by omega) (by omega), h4 137 (by omega) (by omega) (by omega)]⟩ ⟨S, h1.sm (fun o _ _ => gy o (by omega) (by omega)), hS⟩ ?_
          unfold kbHi
          rw [gy 23 (by omega) (by omega), h2, h3, kbUpS, show knUp (knUp s 142 5 0) 142 6 0 142 5 = 0 by rw [kbUp, if_neg (by omega), kbUpS]]
          exact ⟨n0, by omega, rfl, by omega, fun j j1 j2 => by omega⟩
