/-! The cases of bets. -/
theorem kbEn_c {B : kbY} : (kbEn B).1 = (if B.1 < 4 then 0 else 3) := by unfold kbEn; split <;> rfl
theorem kbEn_n {B : kbY} (h : (kbEn B).1 ≠ 0) : (kbEn B).2 = B := by
  unfold kbEn at h ⊢
  split
  · rename_i h1; rw [if_pos h1] at h; exact absurd rfl h
  · rfl
theorem kbLk_37 {μ : knMem} (hI : kbIv μ) (x1 x2 x3 x4 : Int) : kbH (kfLc_37 x1 x2 x3 x4 μ) kbIv := by
  obtain ⟨⟨S, hC, hR⟩, hH, -⟩ := id hI
  have hm := hR.2.2.1
  have ec := kbEn_c (B := S.2)
  obtain ⟨c, hc⟩ : ∃ c : Int, c = (kbEn S.2).1 := ⟨_, rfl⟩
  rw [← hc] at ec
  have hc3 : c = 0 ∨ c = 3 := by rw [ec]; split <;> omega
  have hd : c = 0 → S.2.1 < 4 := by
    intro h0
    rw [ec] at h0
    split at h0
    · assumption
    · omega
  unfold kfLc_37
  refine kbTry (P := fun m => kbPost μ m S (S.1, (kbEn S.2).2) c) (lc := kbC1 c) (v := S.2.1) (fun x => x) ?_ (fun μ1 h1 => ?_)
  · unfold kfL_addPlayer kfX12_addPlayer
    refine kbH.bind (P := fun r => r.1 = c ∧ (c = 0 → r.2.1 = S.2.1) ∧ kbPost μ r.2.2 S (S.1, (kbEn S.2).2) c) ?_ (fun q ⟨a1, a2, a3⟩ => (kbT1 (g := fun x => x) (v := S.2.1) a1 hc3 (by omega) a2 a3).mono (fun r ⟨r1, r2, r3⟩ => ⟨r1, fun h => r2 (kbC1_0 h), r3⟩))
    refine kb12_chg (c := c) (S' := (S.1, (kbEn S.2).2)) (M := fun q1 => kfX1_enter 6 q1) hC hR.B hm hH (fun q1 h => (kb1_enter (b := 6) h.2 hR.2.2).mono (fun r ⟨r1, r2, r3⟩ => ⟨by rw [r1, hc], ⟨h.1.fr r3 (by omega), r2⟩, r3.wd (by omega) (by omega)⟩)) (by omega) (fun q7 a1 a2 => kbT00 a1 a2 (fun h0 => ?_))
    have g1 := hd h0
    have e3 : q7.2 6 3 = S.2.1 + 1 := a2.2.1.2.1.trans (by unfold kbEn; rw [if_pos g1])
    rw [e3, knW_id (by omega)]
    omega
  · unfold kfX13_addPlayer kfX13_notPlayer
    have hW : kbRs (knUp μ1 142 0 0 143) S := by rw [kbUp3, h1.w]; exact hR
    rw [kbGd (by omega), Option.bind_some, hW.2.1.1]
    by_cases h0 : c = 0
    · have g1 := hd h0
      rw [if_neg (show ¬ S.2.1 = 4 by omega), if_pos rfl]
      rw [h0] at h1
      exact (kbPost.does (S := S) (S' := (S.1, (kbEn S.2).2)) (v := S.2.1) (A := fun q5 => kfX13_addsPlayer q5) (fun x => x) hI hR h1 (kbK0 kbK.rf) (kbUp0 _) (kbUp9 _) (fun q5 h5 => kb13_addsPlayer h5 g1)).mono (fun r ⟨r1, r2, r3, r4⟩ => ⟨by rw [r1, h0]; rfl, fun _ => r2, r3, r4⟩)
    · have h4 : S.2.1 = 4 := by rw [ec] at h0; split at h0 <;> omega
      rw [if_pos h4, if_neg (by omega)]
      rw [show (S.1, (kbEn S.2).2) = S from by rw [kbEn_n (by rw [← hc]; exact h0)]] at h1
      refine (kbPost.fails (c := 1) (fun x => x) hI hR h1 h0 (kbK0 kbK.rf) (kbUp9 _)).mono (fun r ⟨r1, r3, r4⟩ => ⟨by rw [r1]; exact (if_neg h0).symm, fun h => absurd (kbC1_0 h) h0, r3, r4⟩)
theorem kbWg_c {p g s : Int} {B : kbY} : 0 ≤ (kbWg p g s B).1 ∧ (kbWg p g s B).1 ≤ 4 := by
  unfold kbWg
  split
  · split
    · split
      · split <;> (dsimp only; omega)
      · dsimp only; omega
    · dsimp only; omega
  · dsimp only; omega
theorem kbLk_38 {μ : knMem} (hI : kbIv μ) (x1 x2 x3 x4 : Int) : kbH (kfLc_38 x1 x2 x3 x4 μ) kbIv := by
  obtain ⟨⟨S, hC, hR⟩, hH, -⟩ := id hI
  have hm := hR.2.2.1
  have ec := kbWg_c (p := x1) (g := x2) (s := x3) (B := S.2)
  obtain ⟨c, hc⟩ : ∃ c : Int, c = (kbWg x1 x2 x3 S.2).1 := ⟨_, rfl⟩
  rw [← hc] at ec
  unfold kfLc_38
  refine kbTry (P := fun m => kbPost μ m S (S.1, (kbWg x1 x2 x3 S.2).2) c) (lc := c) (v := S.2.2.2.1 x1 - x3) (fun x => x) ?_ (fun μ1 h1 => ?_)
  · unfold kfL_bet kfX12_bet
    refine kbH.bind (P := fun r => r.1 = c ∧ (c = 0 → r.2.1 = S.2.2.2.1 x1 - x3) ∧ kbPost μ r.2.2 S (S.1, (kbWg x1 x2 x3 S.2).2) c) ?_ (fun q ⟨a1, a2, a3⟩ => ?_)
    · refine kb12_chg (c := c) (S' := (S.1, (kbWg x1 x2 x3 S.2).2)) (M := fun q1 => kfX1_wager 6 x1 x2 x3 q1) hC hR.B hm hH (fun q1 h => (kb1_wager (b := 6) h.2 hR.2.2).mono (fun r ⟨r1, r2, r3⟩ => ⟨by rw [r1, hc], ⟨h.1.fr r3 (by omega), r2⟩, r3.wd (by omega) (by omega)⟩)) (by omega) (fun q7 a1 a2 => ?_)
      rw [a1]
      by_cases h0 : c = 0
      · obtain ⟨g1, g2, g3, g4⟩ := kbWg_0 (by rw [← hc]; exact h0)
        have e : (kbWg x1 x2 x3 S.2).2 = (S.2.1, S.2.2.1, fun k => if k = x1 then S.2.2.2.1 x1 - x3 else S.2.2.2.1 k, fun k => if k = x1 then x2 else S.2.2.2.2.1 k, fun k => if k = x1 then x3 else S.2.2.2.2.2 k) := by unfold kbWg; rw [if_pos g1, if_pos g2, if_pos g3, if_pos g4]
        have e3 := a2.2.1.2
        simp only [e] at e3
        have e4 : q7.2 7 x1 = if x1 = x1 then S.2.2.2.1 x1 - x3 else S.2.2.2.1 x1 := (e3.2.2 x1 g1.1 g1.2).1
        rw [if_pos h0, kbGd (by omega), e4, if_pos rfl]
        exact kbH_some.mpr ⟨h0.symm, fun _ => rfl, a2⟩
      · rw [if_neg h0]
        exact kbH_some.mpr ⟨rfl, fun h => absurd h h0, a2⟩
    · rw [a1]
      have h5 : c = 0 ∨ c = 1 ∨ c = 2 ∨ c = 3 ∨ c = 4 := by omega
      by_cases h0 : c = 0
      · rw [if_pos h0]
        exact kbH_some.mpr ⟨h0.symm, fun _ => (kbUpS q.2.2 159 0 _).trans (a2 h0), a3.out⟩
      · rw [if_neg h0]
        rcases h5 with h5 | h5 | h5 | h5 | h5
        · exact absurd h5 h0
        · rw [if_pos h5]; exact kbH_some.mpr ⟨h5.symm, fun h => absurd h h0, a3⟩
        · rw [if_neg (by omega), if_pos h5]; exact kbH_some.mpr ⟨h5.symm, fun h => absurd h h0, a3⟩
        · rw [if_neg (by omega), if_neg (by omega), if_pos h5]; exact kbH_some.mpr ⟨h5.symm, fun h => absurd h h0, a3⟩
        · rw [if_neg (by omega), if_neg (by omega), if_neg (by omega), if_pos h5]; exact kbH_some.mpr ⟨h5.symm, fun h => absurd h h0, a3⟩
  · unfold kfX13_bet
    have hW : kbRs (knUp μ1 142 0 0 143) S := by rw [kbUp3, h1.w]; exact hR
    rw [kb13_notBet hW.2.1 hW.2.2, Option.bind_some, ← hc]
    by_cases h0 : c = 0
    · rw [if_pos h0]
      rw [h0] at h1
      exact (kbPost.does (S := S) (S' := (S.1, (kbWg x1 x2 x3 S.2).2)) (v := S.2.2.2.1 x1 - x3) (A := fun q5 => kfX13_bets x1 x2 x3 q5) (fun x => x) hI hR h1 (kbK0 kbK.rf) (kbUp0 _) (kbUp9 _) (fun q5 h5 => kb13_bets h5 (by rw [← hc]; exact h0))).mono (fun r ⟨r1, r2, r3, r4⟩ => ⟨by rw [r1, h0], fun _ => r2, r3, r4⟩)
    · rw [if_neg h0]
      rw [show (S.1, (kbWg x1 x2 x3 S.2).2) = S from by rw [kbWg_n (by rw [← hc]; exact h0)]] at h1
      exact (kbPost.fails (fun x => x) hI hR h1 h0 (kbK0 kbK.rf) (kbUp9 _)).mono (fun r ⟨r1, r3, r4⟩ => ⟨r1, fun h => absurd h h0, r3, r4⟩)
theorem kbLk_40 {μ : knMem} (hI : kbIv μ) (x1 x2 x3 x4 : Int) : kbH (kfLc_40 x1 x2 x3 x4 μ) kbIv := by
  obtain ⟨⟨S, hC, hR⟩, -⟩ := id hI
  unfold kfLc_40 kfX12_playerCount kfX13_playerCount kfX13_asks
  refine kbPl2 (v := S.2.1) (by rw [show μ 6 3 = S.2.1 from hC.2.1]) ?_
  rw [kbGd (by omega), Option.bind_some]
  exact kbH_some.mpr ⟨by show knUp μ 142 0 0 143 1 = S.2.1; rw [kbUp3]; exact hR.2.1.1, hI.K (kbK0 kbK.rf)⟩
theorem kbLk_44 {μ : knMem} (hI : kbIv μ) (x1 x2 x3 x4 : Int) : kbH (kfLc_44 x1 x2 x3 x4 μ) kbIv := by
  obtain ⟨⟨S, hC, hR⟩, -⟩ := id hI
  unfold kfLc_44 kfX12_house kfX13_house kfX13_asks
  refine kbPl2 (v := S.2.2.1) (by rw [show μ 6 4 = S.2.2.1 from hC.2.2.1]) ?_
  rw [kbGd (by omega), Option.bind_some]
  exact kbH_some.mpr ⟨by show knUp μ 142 0 0 143 2 = S.2.2.1; rw [kbUp3]; exact hR.2.1.2.1, hI.K (kbK0 kbK.rf)⟩
theorem kbLk_43 {μ : knMem} (hI : kbIv μ) (x1 x2 x3 x4 : Int) : kbH (kfLc_43 x1 x2 x3 x4 μ) kbIv := by
  obtain ⟨⟨S, hC, hR⟩, -⟩ := id hI
  have hW : kbRs (knUp μ 142 0 0 143) S := by rw [kbUp3]; exact hR
  unfold kfLc_43 kfX12_pot kfX13_pot
  refine kbPl2 (v := kbSm S.2.2.2.2.2 S.2.1.toNat) (by rw [kb1_allStakes (b := 6) hC.2 hR.2.2]; rfl) ?_
  rw [kb13_stakes hW.2.1 hW.2.2, Option.bind_some]
  exact kbH_some.mpr ⟨rfl, hI.K (kbK0 kbK.rf)⟩
theorem kb12_reqPl {μ : knMem} {x m : Int} (h : μ 6 3 = m) : kfX12_requirePlayer x μ = some (if 0 ≤ x ∧ x < m then 0 else 1) := by
  unfold kfX12_requirePlayer
  rw [kb1_hasPlayer, h, Option.bind_some]
  split <;> rfl
theorem kbLk_41 {μ : knMem} (hI : kbIv μ) (x1 x2 x3 x4 : Int) : kbH (kfLc_41 x1 x2 x3 x4 μ) kbIv := by
  obtain ⟨⟨S, hC, hR⟩, -⟩ := id hI
  have hm := hR.2.2.1
  have e3 : μ 6 3 = S.2.1 := hC.2.1
  unfold kfLc_41
  by_cases hx : 0 ≤ x1 ∧ x1 < S.2.1
  · refine kbTry (P := kbK μ) (lc := kbC1 0) (v := S.2.2.2.1 x1) (fun x => x) ?_ (fun μ1 h1 => ?_)
    · unfold kfL_coins kfX12_coins
      refine kbQ1 (a := 1) (fun x => x) (c := 0) (v := S.2.2.2.1 x1) ?_ (Or.inl rfl) (by omega) (fun _ => rfl)
      rw [kb12_reqPl e3, if_pos hx, Option.bind_some, if_pos rfl, kbGd (by omega), show μ 7 x1 = S.2.2.2.1 x1 from (hC.2.2.2 x1 hx.1 hx.2).1]
    · have hI1 := hI.K h1
      have hW : kbRs (knUp μ1 142 0 0 143) S := by rw [kbUp3, h1.1 143 (by omega)]; exact hR
      unfold kfX13_coins
      rw [kb13_isPlayer hW.2.1.1 hm, Option.bind_some, if_pos hx, if_neg (by omega), knW_id (by omega), kbGd (by omega), Option.bind_some]
      exact kbH_some.mpr ⟨kbUp0 μ1, fun _ => (hW.2.1.2.2.1 x1 hx.1 hx.2).1, kbUp9 μ1, hI1.K (kbK0 kbK.rf)⟩
  · refine kbTry (P := kbK μ) (lc := kbC1 1) (v := 0) (fun x => x) ?_ (fun μ1 h1 => ?_)
    · unfold kfL_coins kfX12_coins
      refine kbQ1 (a := 1) (fun x => x) (c := 1) (v := 0) ?_ (Or.inr rfl) (by omega) (fun h => by omega)
      rw [kb12_reqPl e3, if_neg hx, Option.bind_some, if_neg (by omega)]
    · have hI1 := hI.K h1
      have hW : kbRs (knUp μ1 142 0 0 143) S := by rw [kbUp3, h1.1 143 (by omega)]; exact hR
      unfold kfX13_coins
      rw [kb13_isPlayer hW.2.1.1 hm, Option.bind_some, if_neg hx, if_pos rfl]
      refine kbH.bind (kbQf (c := 1) (fun x => x) hI1 (kbK0 kbK.rf) (kbUp9 _)) (fun r ⟨r1, r2, r3⟩ => kbH_some.mpr ⟨r1, fun h => absurd (kbC1_0 h) (by omega), r2, r3⟩)
theorem kbLk_42 {μ : knMem} (hI : kbIv μ) (x1 x2 x3 x4 : Int) : kbH (kfLc_42 x1 x2 x3 x4 μ) kbIv := by
  obtain ⟨⟨S, hC, hR⟩, -⟩ := id hI
  have hm := hR.2.2.1
  have e3 : μ 6 3 = S.2.1 := hC.2.1
  obtain ⟨c, hc⟩ : ∃ c : Int, c = (if 0 ≤ x1 ∧ x1 < S.2.1 then (if S.2.2.2.2.2 x1 = 0 then 5 else 0) else 1) := ⟨_, rfl⟩
  unfold kfLc_42
  refine kbTry (P := kbK μ) (lc := if c = 0 then 0 else if c = 1 then 1 else 2) (v := S.2.2.2.2.1 x1) (fun x => x) ?_ (fun μ1 h1 => ?_)
  · unfold kfL_guess kfX12_guess
    rw [kb12_reqPl e3, Option.bind_some]
    by_cases hx : 0 ≤ x1 ∧ x1 < S.2.1
    · have h9 : μ 9 x1 = S.2.2.2.2.2 x1 := (hC.2.2.2 x1 hx.1 hx.2).2.1
      rw [if_pos hx, if_pos rfl, kbGd (by omega), h9]
      rw [if_pos hx] at hc
      by_cases hz : S.2.2.2.2.2 x1 = 0
      · rw [if_pos hz] at hc
        rw [if_pos hz, Option.bind_some, if_neg (by omega), if_neg (by omega), if_pos rfl, hc]
        exact kbH_some.mpr ⟨rfl, fun h => absurd h (by decide), kbK.rf⟩
      · rw [if_neg hz] at hc
        have h8 : μ 8 x1 = S.2.2.2.2.1 x1 := (hC.2.2.2 x1 hx.1 hx.2).2.2 hz
        rw [if_neg hz, Option.bind_some, if_pos rfl, hc, h8]
        exact kbH_some.mpr ⟨rfl, fun _ => kbUpS μ 159 0 _, kbK.rf.up (by omega)⟩
    · rw [if_neg hx] at hc
      rw [if_neg hx, if_neg (by omega), Option.bind_some, if_neg (by omega), if_pos rfl, hc]
      exact kbH_some.mpr ⟨rfl, fun h => absurd h (by decide), kbK.rf⟩
  · have hI1 := hI.K h1
    have hW : kbRs (knUp μ1 142 0 0 143) S := by rw [kbUp3, h1.1 143 (by omega)]; exact hR
    unfold kfX13_guess
    rw [kb13_isPlayer hW.2.1.1 hm, Option.bind_some]
    by_cases hx : 0 ≤ x1 ∧ x1 < S.2.1
    · have h9 := hW.2.1.2.2.1 x1 hx.1 hx.2
      have hv := (hR.2.2.2.2.1 x1 hx.1 hx.2).2.1
      rw [if_pos hx, if_neg (by omega), knW_id (x := 11 + x1) (by omega), knW_id (x := 7 + x1) (by omega), kbGd (by omega), h9.2.1]
      rw [if_pos hx] at hc
      by_cases hz : S.2.2.2.2.2 x1 = 0
      · rw [if_pos hz] at hc
        rw [if_pos (by omega), hc]
        refine kbH.bind (kbQf (c := 2) (fun x => x) hI1 (kbK0 kbK.rf) (kbUp9 _)) (fun r ⟨r1, r2, r3⟩ => kbH_some.mpr ⟨r1, fun h => absurd h (by decide), r2, r3⟩)
      · rw [if_neg hz] at hc
        rw [if_neg (by omega), kbGd (by omega), Option.bind_some, hc]
        exact kbH_some.mpr ⟨kbUp0 μ1, fun _ => h9.2.2 hz, kbUp9 μ1, hI1.K (kbK0 kbK.rf)⟩
    · rw [if_neg hx] at hc
      rw [if_neg hx, if_pos rfl, hc]
      exact (kbQf (c := 1) (fun x => x) hI1 (kbK0 kbK.rf) (kbUp9 _)).mono (fun r ⟨r1, r2, r3⟩ => ⟨r1, fun h => absurd h (by decide), r2, r3⟩)
/-! The players by their coins. -/
abbrev kbCk (B : kbY) (k : Int) : Int := -B.2.2.1 k
theorem kb1_rankOf {μ : knMem} {b a : Int} {B : kbY} (hC : kbCb μ b B) (hB : kbBv B) (ha : 0 ≤ a ∧ a < B.1) : kfX1_rankOf b a μ = some (kbRk (kbCk B) B.1.toNat a) := by
  obtain ⟨h0, -, h1⟩ := hC
  have hm := hB.1
  have ka := h1 a ha.1 ha.2
  have key : kbH (kfX1_rankOf b a μ) (fun r => r = kbRk (kbCk B) B.1.toNat a) := by
    unfold kfX1_rankOf
    refine kbLoop (fun n i (x : Int) => kfX1_rankOf_l4 b a μ (fun w25 => some w25) n x i) (fun i x => 0 ≤ i ∧ x = kbSm (fun b => if kbLt (kbCk B) b a then 1 else 0) i.toNat) B.1 _ ?_ ?_ _ _ _ (by omega) (by rw [kbF]; omega) ⟨by omega, rfl⟩
    · intro n i x hi ⟨i0, hx⟩ kk
      have ki := h1 i i0 hi
      simp only [kfX1_rankOf_l4, kbH_ite, kbH_gd]
      refine ⟨fun h => by omega, fun _ => ⟨by omega, by omega, ?_⟩⟩
      have hx1 := kbSm_nn (f := fun b => if kbLt (kbCk B) b a then 1 else 0) i.toNat (fun k _ _ => by split <;> omega)
      have hx2 := kbSm_mono (f := fun b => if kbLt (kbCk B) b a then 1 else 0) (g := fun _ => 1) i.toNat (fun k _ _ => by split <;> omega)
      rw [kbSm_c] at hx2
      rw [ki.1, ka.1, knW_id (x := i + 1) (by omega), knW_id (x := x + 1) (by omega)]
      refine kk _ ⟨by omega, ?_⟩
      have e : (i + 1).toNat = i.toNat + 1 := by omega
      have e2 : ((i.toNat : Nat) : Int) = i := by omega
      rw [e, kbSm, ← hx]
      simp only [e2]
      unfold kbLt
      show _ = x + (if -B.2.2.1 i < -B.2.2.1 a ∨ (-B.2.2.1 i = -B.2.2.1 a ∧ i < a) then 1 else 0)
      split
      · rw [if_pos (by omega)]
      · split
        · split
          · rw [if_neg (by omega)]; omega
          · rw [if_pos (by omega)]
        · rw [if_neg (by omega)]; omega
    · intro n x ⟨i0, hx⟩
      simp only [kfX1_rankOf_l4, kbH_ite, kbH_some]
      exact ⟨fun _ => hx, fun h => by omega⟩
  obtain ⟨r, h2, h3⟩ := key
  rw [h2, h3]
theorem kb1_ofRank {μ : knMem} {b r a : Int} {B : kbY} (hC : kbCb μ b B) (hB : kbBv B) (ha : 0 ≤ a ∧ a < B.1) (hr : kbRk (kbCk B) B.1.toNat a = r) : kfX1_playerOfRank b r μ = some a := by
  have h0 := hC.1
  have hm := hB.1
  have key : kbH (kfX1_playerOfRank b r μ) (fun x => x = a) := by
    unfold kfX1_playerOfRank
    refine kbLoop (fun n i (_ : Unit) => kfX1_playerOfRank_l2 b r μ (fun _ => some (-1)) n i) (fun i _ => 0 ≤ i ∧ i ≤ a) a _ ?_ ?_ _ _ () (by omega) (by rw [kbF]; omega) (by omega)
    · intro n i _ hi ⟨i0, i1⟩ kk
      simp only [kfX1_playerOfRank_l2, kbH_ite]
      refine ⟨fun h => by omega, fun _ => ?_⟩
      rw [kb1_rankOf hC hB (by omega), Option.bind_some, knW_id (by omega), if_neg (fun h => ?_)]
      · exact kk () (by omega)
      · have := kbRk_inj (n := B.1.toNat) (by omega) (by omega) (h.trans hr.symm); omega
    · intro n _ _
      simp only [kfX1_playerOfRank_l2, kbH_ite]
      refine ⟨fun h => by omega, fun _ => ?_⟩
      rw [kb1_rankOf hC hB ha, Option.bind_some, if_pos hr]
      exact kbH_some.mpr rfl
  obtain ⟨x, h2, h3⟩ := key
  rw [h2, h3]
theorem kb13_rankC {μ : knMem} {B : kbY} (h : kbRb (μ 143) B) (hB : kbBv B) {r a : Int} (ha : 0 ≤ a ∧ a < B.1) {kc : Int → Option (Int × knMem)} {Q : Int × knMem → Prop} (hk : kbH (kc (kbRk (kbCk B) B.1.toNat a)) Q) : kbH (kfX13_playerByCoins_l22 r a μ kc knF 0 0) Q := by
  obtain ⟨h0, -, h2, -⟩ := h
  have hm := hB.1
  have ka := h2 a ha.1 ha.2
  refine kbLoop (fun n i (x : Int) => kfX13_playerByCoins_l22 r a μ kc n x i) (fun i x => 0 ≤ i ∧ x = kbSm (fun b => if kbLt (kbCk B) b a then 1 else 0) i.toNat) B.1 _ ?_ ?_ _ _ _ (by omega) (by rw [kbF]; omega) ⟨by omega, rfl⟩
  · intro n i x hi ⟨i0, hx⟩ kk
    have ki := h2 i i0 hi
    have l1 := hB.le.2.2.2 i i0 hi
    have l2 := hB.le.2.2.2 a ha.1 ha.2
    have l3 := (hB.2.2.1 i i0 hi).1
    have l4 := (hB.2.2.1 a ha.1 ha.2).1
    simp only [kfX13_playerByCoins_l22, kbH_ite, kbH_gd]
    rw [knW_id (x := 3 + i) (by omega), knW_id (x := 3 + a) (by omega), ki.1, ka.1, knW_id (x := B.2.2.1 i - B.2.2.1 a) (by omega)]
    refine ⟨by omega, fun h => by omega, fun _ => ⟨by omega, by omega, ?_⟩⟩
    have hx1 := kbSm_nn (f := fun b => if kbLt (kbCk B) b a then 1 else 0) i.toNat (fun k _ _ => by split <;> omega)
    have hx2 := kbSm_mono (f := fun b => if kbLt (kbCk B) b a then 1 else 0) (g := fun _ => 1) i.toNat (fun k _ _ => by split <;> omega)
    rw [kbSm_c] at hx2
    have e : (i + 1).toNat = i.toNat + 1 := by omega
    have e2 : ((i.toNat : Nat) : Int) = i := by omega
    have hk2 : ∀ v : Int, v = (if kbLt (kbCk B) i a then 1 else 0) → kbH (kfX13_playerByCoins_l22 r a μ kc n (knW (x + v)) (knW (i + 1))) Q := by
      intro v hv
      have hv2 : 0 ≤ v ∧ v ≤ 1 := by rw [hv]; split <;> omega
      rw [knW_id (x := i + 1) (by omega), knW_id (x := x + v) (by omega)]
      refine kk _ ⟨by omega, ?_⟩
      rw [e, kbSm, ← hx, hv]
      simp only [e2]
    unfold kbLt at hk2
    have hk3 : ∀ v : Int, v = (if -B.2.2.1 i < -B.2.2.1 a ∨ (-B.2.2.1 i = -B.2.2.1 a ∧ i < a) then 1 else 0) → kbH (kfX13_playerByCoins_l22 r a μ kc n (knW (x + v)) (knW (i + 1))) Q := hk2
    by_cases g1 : 0 < B.2.2.1 i - B.2.2.1 a
    · rw [if_pos g1, Option.bind_some]
      exact hk3 1 (by rw [if_pos (by omega)])
    · rw [if_neg g1]
      by_cases g2 : B.2.2.1 i - B.2.2.1 a = 0
      · by_cases g3 : a ≤ i
        · simp only [if_pos g2, if_pos g3, Option.bind_some]
          exact hk3 0 (by rw [if_neg (by omega)])
        · simp only [if_pos g2, if_neg g3, Option.bind_some]
          exact hk3 1 (by rw [if_pos (by omega)])
      · simp only [if_neg g2, Option.bind_some]
        exact hk3 0 (by rw [if_neg (by omega)])
  · intro n x ⟨i0, hx⟩
    simp only [kfX13_playerByCoins_l22, kbH_ite, kbH_gd]
    exact ⟨by omega, fun _ => by rw [hx]; exact hk, fun h => by omega⟩
theorem kbLk_45 {μ : knMem} (hI : kbIv μ) (x1 x2 x3 x4 : Int) : kbH (kfLc_45 x1 x2 x3 x4 μ) kbIv := by
  obtain ⟨⟨S, hC, hR⟩, -⟩ := id hI
  have hm := hR.2.2.1
  have e3 : μ 6 3 = S.2.1 := hC.2.1
  unfold kfLc_45
  by_cases hx : 0 ≤ x1 ∧ x1 < S.2.1
  · obtain ⟨a, a0, a1, a2⟩ := kbRk_ex (key := kbCk S.2) (n := S.2.1.toNat) (r := x1) (by omega)
    have a1 : a < S.2.1 := by omega
    refine kbTry (P := kbK μ) (lc := kbC1 0) (v := a) (fun x => x) ?_ (fun μ1 h1 => ?_)
    · unfold kfL_playerByCoins kfX12_playerByCoins
      refine kbQ1 (a := 5) (fun x => x) (c := 0) (v := a) ?_ (Or.inl rfl) (by omega) (fun _ => rfl)
      rw [kb1_hasPlayer, e3, if_pos hx, Option.bind_some, if_neg (by omega), kb1_ofRank (b := 6) hC.2 hR.2.2 ⟨a0, a1⟩ a2]
      rfl
    · have hI1 := hI.K h1
      have hW : kbRs (knUp μ1 142 0 0 143) S := by rw [kbUp3, h1.1 143 (by omega)]; exact hR
      have h0 := hW.2.1.1
      unfold kfX13_playerByCoins
      refine kbLoop (fun n i (_ : Unit) => kfX13_playerByCoins_l7 x1 (knUp μ1 142 0 0) (fun _ => Option.bind (kfX13_fails 1 (knUp μ1 142 0 0)) (fun q31 => some (q31.1, q31.2))) n i) (fun i _ => 0 ≤ i ∧ i ≤ a) a _ ?_ ?_ _ _ () (by omega) (by rw [kbF]; omega) (by omega)
      · intro n i _ hi ⟨i0, i1⟩ kk
        simp only [kfX13_playerByCoins_l7, kbH_ite, kbH_gd]
        refine ⟨by omega, fun h => by omega, fun _ => ?_⟩
        refine kb13_rankC hW.2.1 hW.2.2 (by omega) ?_
        rw [knW_id (by omega), if_neg (fun h => ?_)]
        · exact kk () (by omega)
        · have := kbRk_inj (n := S.2.1.toNat) (by omega) (by omega) (h.trans a2.symm); omega
      · intro n _ _
        simp only [kfX13_playerByCoins_l7, kbH_ite, kbH_gd]
        refine ⟨by omega, fun h => by omega, fun _ => ?_⟩
        refine kb13_rankC hW.2.1 hW.2.2 ⟨a0, a1⟩ ?_
        rw [if_pos a2]
        exact kbH_some.mpr ⟨kbUp0 μ1, fun _ => rfl, kbUp9 μ1, hI1.K (kbK0 kbK.rf)⟩
  · refine kbTry (P := kbK μ) (lc := kbC1 5) (v := 0) (fun x => x) ?_ (fun μ1 h1 => ?_)
    · unfold kfL_playerByCoins kfX12_playerByCoins
      refine kbQ1 (a := 5) (fun x => x) (c := 5) (v := 0) ?_ (Or.inr rfl) (by omega) (fun h => by omega)
      rw [kb1_hasPlayer, e3, if_neg hx, Option.bind_some, if_pos rfl]
    · have hI1 := hI.K h1
      have hW : kbRs (knUp μ1 142 0 0 143) S := by rw [kbUp3, h1.1 143 (by omega)]; exact hR
      have h0 := hW.2.1.1
      unfold kfX13_playerByCoins
      refine kbLoop (fun n i (_ : Unit) => kfX13_playerByCoins_l7 x1 (knUp μ1 142 0 0) (fun _ => Option.bind (kfX13_fails 1 (knUp μ1 142 0 0)) (fun q31 => some (q31.1, q31.2))) n i) (fun i _ => 0 ≤ i) S.2.1 _ ?_ ?_ _ _ () (by omega) (by rw [kbF]; omega) (by omega)
      · intro n i _ hi i0 kk
        simp only [kfX13_playerByCoins_l7, kbH_ite, kbH_gd]
        refine ⟨by omega, fun h => by omega, fun _ => ?_⟩
        refine kb13_rankC hW.2.1 hW.2.2 (by omega) ?_
        rw [knW_id (by omega), if_neg (fun h => ?_)]
        · exact kk () (by omega)
        · have := kbRk_in (key := kbCk S.2) (n := S.2.1.toNat) (a := i) (by omega); omega
      · intro n _ _
        simp only [kfX13_playerByCoins_l7, kbH_ite, kbH_gd]
        refine ⟨by omega, fun _ => ?_, fun h => by omega⟩
        exact (kbQf (c := 1) (fun x => x) hI1 (kbK0 kbK.rf) (kbUp9 _)).mono (fun r ⟨r1, r2, r3⟩ => ⟨r1, fun h => absurd (kbC1_0 h) (by omega), r2, r3⟩)
