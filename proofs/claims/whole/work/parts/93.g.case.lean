/-! The case of a script. -/
theorem kpIv {μ μ' : knMem} (hI : kbIv μ) (h1 : ∃ S' : kbZ, kbCs μ' 1 S' ∧ kbRs (μ' 143) S') (hH : kbHi μ') (h11 : μ' 0 11 = μ 0 11) (hr : ∀ o : Int, (10 ≤ o ∧ o ≤ 18) ∨ o = 140 ∨ o = 141 ∨ o = 145 ∨ o = 156 → μ' o = μ o)
    (h7 : μ' 142 7 = μ 142 7) (h19 : μ' 142 19 = μ 142 19) (ht : μ' 137 2 = 0) (h21 : μ' 142 21 = 0) (he : μ' 142 23 = μ' 0 12 ∧ -1 ≤ μ' 0 12) (hf : μ' 142 24 = μ' 0 13 ∧ -1 ≤ μ' 0 13) : kbIv μ' := by
  obtain ⟨-, -, hs, -, ho, -, -⟩ := hI
  refine ⟨h1, hH, ?_, ⟨by rw [ht]; omega, by rw [ht, h21], fun k k0 k1 => by rw [ht] at k1; omega⟩, ?_, he, hf⟩
  · rw [h11, h7, hr 145 (by omega)]
    rcases hs with hs | ⟨a, b, T, t1, t2⟩
    · exact Or.inl hs
    · exact Or.inr ⟨a, b, T, t1.sm (fun o o0 o1 => hr o (by omega)), t2⟩
  · rw [hr 140 (by omega), hr 141 (by omega), hr 156 (by omega), h19]
    exact ho
/-- the histories, where one slot is scratch -/
theorem kpHi {μ μ' : knMem} (h : kbHi μ) (h1 : μ' 23 = μ 23) (h4 : ∀ o : Int, 25 ≤ o → o ≤ 105 → (o < 25 + 9 * μ 23 1 ∨ 25 + 9 * μ 23 1 + 8 < o) → μ' o = μ o) (h5 : μ' 142 5 = μ 142 5) (h6 : μ' 142 6 = μ 142 6) (h44 : μ' 144 = μ 144) : kbHi μ' := by
  obtain ⟨n0, k0, c0, f0, hj⟩ := h
  unfold kbHi
  rw [h1, h5, h6, h44]
  refine ⟨n0, k0, c0, f0, fun j j1 j2 => ?_⟩
  obtain ⟨T, t1, t2⟩ := hj j j1 j2
  exact ⟨T, t1.sm (fun o o0 o1 => h4 o (by omega) (by omega) (by omega)), t2⟩
/-- the class's memory behind a run -/
def kpPq (μ m : knMem) (S S1 : kbZ) : Prop := kbCs m 1 S1 ∧ (∀ o : Int, (10 ≤ o ∧ o ≤ 18) ∨ o = 138 ∨ o = 140 ∨ o = 141 ∨ (142 ≤ o ∧ o ≤ 158) → m o = μ o) ∧ m 137 2 = 0 ∧ kbCs m (25 + 9 * μ 23 1) S ∧
  (∀ o : Int, 25 ≤ o → o ≤ 105 → (o < 25 + 9 * μ 23 1 ∨ 25 + 9 * μ 23 1 + 8 < o) → m o = μ o)
theorem kp9_first {μ : knMem} {nc : Int → Int} {L e : Int} (hc : kpTc μ nc L) (hcl : ∀ (μ : knMem) (kc : knMem → Option (Int × knMem)) (w n : Int) (y : Int → Int) (fuel : Nat) (i : Int), kpTc μ nc L → 61 ≤ fuel → 0 ≤ i → i ≤ 0 → kbH (kfX9_firstError_l7 kc fuel i (kpMc μ w 0 n y)) (fun q => q.1 = e ∧ ∃ (w' c' n' : Int) (y' : Int → Int), q.2 = kpMc μ w' c' n' y')) :
    kbH (kfX9_firstError μ) (fun q => q.1 = e ∧ ∃ (w' c' n' : Int) (y' : Int → Int), q.2 = kpMc μ w' c' n' y') := by
  have e4 : knUp μ 137 4 0 = kpMc μ (μ 137 3) 0 (μ 137 5) (μ 139) := by
    have h := kpMc_up4 (μ := μ) (w := μ 137 3) (c := μ 137 4) (n := μ 137 5) (y := μ 139) (v := 0)
    rw [kpMc_id] at h
    exact h
  unfold kfX9_firstError
  rw [e4]
  exact hcl μ _ _ _ _ knF 0 hc (by rw [show knF = 4096 from rfl]; omega) (by omega) (by omega)
theorem kp13_all {μ : knMem} {nc : Int → Int} {L e : Int} (hr : kpTr μ nc L) (hrf : ∀ (μ : knMem) (s : Int) (y : Int → Int) (fuel : Nat), kpTr μ nc L → 61 < fuel → kbH (kfX13_readsAll_l7 (fun w9 => some ((if (w9 142 22) = (w9 142 21) then 1 else 0 : Int), w9)) fuel 1 (kpMr μ 0 s y)) (fun q => ((e = -1 ∧ q.1 = 1) ∨ (e ≠ -1 ∧ q.1 = 0 ∧ q.2 142 22 = e)) ∧ ∃ (c' s' : Int) (y' : Int → Int), q.2 = kpMr μ c' s' y')) :
    kbH (kfX13_readsAll μ) (fun q => ((e = -1 ∧ q.1 = 1) ∨ (e ≠ -1 ∧ q.1 = 0 ∧ q.2 142 22 = e)) ∧ ∃ (c' s' : Int) (y' : Int → Int), q.2 = kpMr μ c' s' y') := by
  have e4 : knUp μ 142 22 0 = kpMr μ 0 (μ 142 26) (μ 158) := by
    have h := kpMr_up22 (μ := μ) (c := μ 142 22) (s := μ 142 26) (y := μ 158) (v := 0)
    rw [kpMr_id] at h
    exact h
  unfold kfX13_readsAll
  rw [e4]
  exact hrf μ _ _ knF hr (by rw [show knF = 4096 from rfl]; omega)
theorem kbLk_52 {μ : knMem} (hI : kbIv μ) (x1 x2 x3 x4 : Int) : kbH (kfLc_52 x1 x2 x3 x4 μ) kbIv := by
  obtain ⟨⟨S, hC, hR⟩, hH, hs, ⟨hL, t21, tx⟩, ho, ⟨e1, e2⟩, ⟨f1, f2⟩⟩ := id hI
  obtain ⟨n0, k0, c0, f0, -⟩ := id hH
  obtain ⟨L, hLe⟩ : ∃ L : Int, L = μ 137 2 := ⟨_, rfl⟩
  rw [← hLe] at hL t21 tx
  obtain ⟨nc, hnc⟩ : ∃ nc : Int → Int, nc = fun k => if L ≤ k then -1 else μ 138 k := ⟨_, rfl⟩
  have hT : kpTk nc L := by
    refine ⟨hL, fun k k0 => ?_⟩
    rw [hnc]
    dsimp only
    by_cases g : L ≤ k
    · rw [if_pos g]; exact Or.inl ⟨g, rfl⟩
    · rw [if_neg g]
      have h9 := tx k k0 (by omega)
      exact Or.inr ⟨by omega, h9.2.1, h9.2.2⟩
  have hTc : kpTc μ nc L := ⟨hLe.symm, fun k k0 k1 => by rw [hnc]; dsimp only; rw [if_neg (by omega)]⟩
  have hTr : kpTr μ nc L := ⟨t21, fun k k0 k1 => by rw [hnc]; dsimp only; rw [if_neg (by omega)]; exact (tx k k0 k1).1⟩
  obtain ⟨e, he, hcl, hrf⟩ := kpScan hT 61 0 (by omega) (by omega) (by omega)
  have hcl2 := kp9_first hTc hcl
  have e143 : ∀ v : Int, knUp μ 142 0 v 143 = μ 143 := fun v => knUp_ne (by omega)
  unfold kfLc_52
  rcases he with ⟨he, hva⟩ | he
  · obtain ⟨ok, k, S', o1, o2, ⟨row, hV⟩, o4, o5⟩ := kpRun hT 61 0 0 S hva (by omega) (by omega) ⟨_, hR⟩
    have hst : ∀ (w' c' n' : Int) (y' : Int → Int), kbCs (kpMc μ w' c' n' y') 1 S := fun w' c' n' y' => hC.sm (fun o _ _ => kpMc_o (by omega) (by omega))
    -- the class, whatever comes of it
    have cls : ∀ P : Int × Int × knMem → Prop, (∀ m1 : knMem, kbCs m1 (25 + 9 * μ 23 1) S → (∀ o : Int, (o < 25 + 9 * μ 23 1 ∨ 25 + 9 * μ 23 1 + 8 < o) → o ≠ 137 → o ≠ 139 → m1 o = μ o) → m1 137 2 = L →
        (ok = 1 → ∀ mem : knMem, kbCs mem 1 S' → kpFq m1 mem → kbH (Option.bind (kfX9_clear mem) (fun q31 => Option.bind (kfX6_keep q31) (fun q34 => some ((0 : Int), k, q34)))) P) ∧
        (ok = 0 → ∀ mem : knMem, kpFq m1 mem → kbH (Option.bind (kfX9_clear (knUp mem 0 13 k)) (fun q21 => Option.bind (kfX6_staged q21) (fun q24 => Option.bind (kfX10_copyFrom 1 q24 q21) (fun q27 => some ((3 : Int), (0 : Int), q27))))) P)) → kbH (kfX12_runScript μ) P := by
      intro P hP
      unfold kfX12_runScript
      refine hcl2.bind (fun q1 ⟨a1, w', c', n', y', a2⟩ => ?_)
      rw [if_pos (a1.trans he), a2]
      refine (kb6_stage (hst w' c' n' y') hR.B hR.2.2.1 (by rw [kpMc_o (by omega) (by omega)]; exact n0)).bind (fun μa ⟨b1, b2⟩ => ?_)
      rw [kpMc_o (by omega) (by omega)] at b1 b2
      unfold kfX9_rewind
      rw [Option.bind_some]
      have g1 : kbCs (knUp μa 137 4 0) (25 + 9 * μ 23 1) S := b1.sm (fun o _ _ => knUp_ne (by omega))
      have g2 : ∀ o : Int, (o < 25 + 9 * μ 23 1 ∨ 25 + 9 * μ 23 1 + 8 < o) → o ≠ 137 → o ≠ 139 → knUp μa 137 4 0 o = μ o := fun o h1 h2 h3 => by rw [knUp_ne h2, b2 o (by omega), kpMc_o h2 h3]
      have g3 : knUp μa 137 4 0 137 2 = L := by rw [kbUp, if_neg (by omega), b2 137 (by omega), kpMc_2, hLe]
      obtain ⟨p1, p2⟩ := hP _ g1 g2 g3
      refine o4 (knUp μa 137 4 0) _ P knF ⟨g3, fun k k0 k1 => by rw [g2 138 (by omega) (by omega) (by omega)]; exact hTc.2 k k0 k1⟩ (hC.sm (fun o _ _ => g2 o (by omega) (by omega) (by omega))) (Or.inl ⟨rfl, kbUpS _ _ _ _⟩) (by rw [show knF = 4096 from rfl]; omega) (fun h mem m1 m2 => p1 h mem m1 m2) (fun h mem m2 => p2 h mem m2)
    -- the reference, whatever comes of it
    have ref : ∀ (μ1 : knMem) (P : Int × knMem → Prop), (∀ o : Int, (142 ≤ o ∧ o ≤ 158) → μ1 o = μ o) →
        (∀ m1 : knMem, (∀ i : Int, 0 ≤ i → i < 50 → m1 146 i = μ 143 i) → (∀ o : Int, o ≠ 142 → o ≠ 146 → o ≠ 158 → m1 o = μ1 o) → (∀ i : Int, i ≠ 0 → i ≠ 22 → i ≠ 26 → i ≠ 27 → m1 142 i = μ 142 i) → m1 142 0 = 0 →
          (ok = 1 → ∀ mem : knMem, kbRs (mem 143) S' → mem 142 27 = k → kpFr m1 mem → kbH (Option.bind (kfX13_keeps (knUp mem 142 21 0)) (fun q19 => some ((q19 142 27), q19))) P) ∧
          (ok = 0 → ∀ mem : knMem, mem 142 27 = k → kpFr m1 mem → kbH (Option.bind (kfX13_goesBack (knUp mem 142 21 0)) (fun q12 => Option.bind (kfX13_fails 2 (knUp q12 142 24 (q12 142 27))) (fun q16 => some (q16.1, q16.2)))) P)) → kbH (kfX13_runScript μ1) P := by
      intro μ1 P hμ hP
      have tr : kpTr (knUp μ1 142 0 0) nc L := ⟨by rw [kbUp, if_neg (by omega), hμ 142 (by omega)]; exact hTr.1, fun k k0 k1 => by rw [knUp_ne (by omega), hμ 157 (by omega)]; exact hTr.2 k k0 k1⟩
      unfold kfX13_runScript
      refine (kp13_all tr hrf).bind (fun q1 ⟨a1, c', s', y', a2⟩ => ?_)
      have a3 : q1.1 = 1 := by omega
      rw [if_neg (show ¬ q1.1 = 0 by omega)]
      refine kb13_copies.bind (fun m0 ⟨b1, b2⟩ => ?_)
      rw [a2] at b1 b2
      unfold kfX13_doesAll
      have r0 : ∀ o : Int, o ≠ 142 → o ≠ 146 → o ≠ 158 → knUp (knUp m0 142 27 0) 142 22 0 o = μ1 o := fun o h1 h2 h3 => by rw [knUp_ne h1, knUp_ne h1, b2 o (by omega), kpMr_o h1 h3, knUp_ne h1]
      have r1 : ∀ i : Int, i ≠ 0 → i ≠ 22 → i ≠ 26 → i ≠ 27 → knUp (knUp m0 142 27 0) 142 22 0 142 i = μ 142 i := fun i h0 h1 h2 h3 => by rw [kbUp, if_neg (by omega), kbUp, if_neg (by omega), b2 142 (by omega), kpMr_i h1 h2, kbUp, if_neg (by omega), hμ 142 (by omega)]
      have r2 : ∀ i : Int, 0 ≤ i → i < 50 → knUp (knUp m0 142 27 0) 142 22 0 146 i = μ 143 i := fun i i0 i1 => by rw [knUp_ne (by omega), knUp_ne (by omega), b1 i i0 i1, kpMr_o (by omega) (by omega), knUp_ne (by omega), hμ 143 (by omega)]
      have r3 : knUp (knUp m0 142 27 0) 142 22 0 142 0 = 0 := by rw [kbUp, if_neg (by omega), kbUp, if_neg (by omega), b2 142 (by omega), kpMr_i (by omega) (by omega), kbUpS]
      obtain ⟨p1, p2⟩ := hP _ r2 r0 r1 r3
      have t2 : kpTr (knUp (knUp m0 142 27 0) 142 22 0) nc L := ⟨by rw [r1 21 (by omega) (by omega) (by omega) (by omega)]; exact hTr.1, fun k k0 k1 => by rw [r0 157 (by omega) (by omega) (by omega), hμ 157 (by omega)]; exact hTr.2 k k0 k1⟩
      have t3 : kbRs (knUp (knUp m0 142 27 0) 142 22 0 143) S := by rw [r0 143 (by omega) (by omega) (by omega), hμ 143 (by omega)]; exact hR
      have t4 : knUp (knUp m0 142 27 0) 142 22 0 142 27 = 0 := by rw [kbUp, if_neg (by omega), kbUpS]
      refine kbH.bind (P := fun q8 => (ok = 1 ∧ q8.1 = 1 ∧ kbRs (q8.2 143) S' ∧ q8.2 142 27 = k ∧ kpFr (knUp (knUp m0 142 27 0) 142 22 0) q8.2) ∨ (ok = 0 ∧ q8.1 = 0 ∧ q8.2 142 27 = k ∧ kpFr (knUp (knUp m0 142 27 0) 142 22 0) q8.2)) (o5 _ _ _ knF t2 t3 (kbUpS _ _ _ _) t4 (by rw [show knF = 4096 from rfl]; omega) (fun h mem m1 m2 m3 => kbH_some.mpr (Or.inl ⟨h, rfl, m1, m2, m3⟩)) (fun h mem m2 m3 => Or.inr ⟨h, rfl, m2, m3⟩)) (fun q8 h8 => ?_)
      rcases h8 with ⟨h, h9, m1, m2, m3⟩ | ⟨h, h9, m2, m3⟩
      · rw [if_neg (show ¬ q8.1 = 0 by omega)]
        exact p1 h q8.2 m1 m2 m3
      · rw [if_pos h9]
        exact p2 h q8.2 m2 m3
    rcases o1 with h0 | h1
    · -- refused
      refine kbTry (P := fun m => kpPq μ m S S ∧ m 23 = μ 23 ∧ m 0 13 = k ∧ ∀ i : Int, i ≠ 13 → m 0 i = μ 0 i) (lc := 2) (v := 0) (fun x => x) ?_ (fun μ1 ⟨⟨q1, q2, q3, q4, q5⟩, q6, q7, q8⟩ => ?_)
      · unfold kfL_runScript
        refine kbH.bind (P := fun q => q.1 = 3 ∧ kpPq μ q.2.2 S S ∧ q.2.2 23 = μ 23 ∧ q.2.2 0 13 = k ∧ ∀ i : Int, i ≠ 13 → q.2.2 0 i = μ 0 i) (cls _ (fun m1 g1 g2 g3 => ⟨fun h => by omega, fun _ mem m2 => ?_⟩)) (fun q ⟨a1, a2⟩ => ?_)
        · unfold kfX9_clear
          rw [Option.bind_some]
          have w23 : knUp (knUp mem 0 13 k) 137 2 0 23 = μ 23 := by rw [knUp_ne (by omega), knUp_ne (by omega), m2.1 23 (by omega) (by omega) (by omega), g2 23 (by omega) (by omega) (by omega)]
          unfold kfX6_staged
          rw [w23, kbGd (by omega), Option.bind_some]
          have hs1 : kbCs (knUp (knUp mem 0 13 k) 137 2 0) (25 + 9 * μ 23 1) S := g1.sm (fun o o0 o1 => by rw [knUp_ne (by omega), knUp_ne (by omega)]; exact m2.1 o (by omega) (by omega) (by omega))
          refine (kb10_copyFrom hs1 hR.B hR.2.2.1 (by omega)).bind (fun μ2 ⟨b1, b2⟩ => kbH_some.mpr ⟨rfl, ⟨b1, fun o h9 => ?_, ?_, hs1.fr b2 (by omega), fun o h9 h8 h7 => ?_⟩, ?_, ?_, fun i hi => ?_⟩)
          · show μ2 o = μ o
            rw [b2 o (by omega), knUp_ne (by omega), knUp_ne (by omega), m2.1 o (by omega) (by omega) (by omega), g2 o (by omega) (by omega) (by omega)]
          · show μ2 137 2 = 0
            rw [b2 137 (by omega), kbUpS]
          · show μ2 o = μ o
            rw [b2 o (by omega), knUp_ne (by omega), knUp_ne (by omega), m2.1 o (by omega) (by omega) (by omega), g2 o (by omega) (by omega) (by omega)]
          · show μ2 23 = μ 23
            rw [b2 23 (by omega), w23]
          · show μ2 0 13 = k
            rw [b2 0 (by omega), knUp_ne (by omega), kbUpS]
          · show μ2 0 i = μ 0 i
            rw [b2 0 (by omega), knUp_ne (by omega), kbUp, if_neg (by omega), m2.1 0 (by omega) (by omega) (by omega), g2 0 (by omega) (by omega) (by omega)]
        · rw [a1, if_neg (show ¬ (3 : Int) = 0 by omega), if_neg (show ¬ (3 : Int) = 2 by omega), if_pos rfl]
          exact kbH_some.mpr ⟨rfl, fun h => absurd h (show ¬ (2 : Int) = 0 by omega), a2⟩
      · refine ref μ1 _ (fun o h9 => q2 o (by omega)) (fun m1 r1 r2 r3 r4 => ⟨fun h => by omega, fun _ mem m2 m3 => ?_⟩)
        refine kb13_goesBack.bind (fun q12 ⟨b1, b2⟩ => ?_)
        unfold kfX13_fails
        rw [Option.bind_some]
        have s1 : ∀ o : Int, o ≠ 142 → o ≠ 143 → q12 o = mem o := fun o h1 h2 => by rw [b2 o (by omega), knUp_ne h1]
        have s2 : ∀ i : Int, i ≠ 21 → q12 142 i = mem 142 i := fun i hi => by rw [b2 142 (by omega), kbUp, if_neg (by omega)]
        have s3 : ∀ o : Int, o ≠ 142 → o ≠ 143 → (o < 146 ∨ 149 < o) → o ≠ 158 → knUp (knUp q12 142 24 (q12 142 27)) 142 0 2 o = μ1 o := fun o h1 h2 h3 h4 => by rw [knUp_ne h1, knUp_ne h1, s1 o h1 h2, m3.1 o h1 h2 (by omega) h4, r2 o h1 (by omega) h4]
        have s4 : ∀ i : Int, i ≠ 0 → i ≠ 8 → i ≠ 21 → i ≠ 22 → i ≠ 24 → i ≠ 26 → i ≠ 27 → knUp (knUp q12 142 24 (q12 142 27)) 142 0 2 142 i = μ 142 i := fun i i0 i8 i21 i22 i24 i26 i27 => by rw [kbUp, if_neg (by omega), kbUp, if_neg (by omega), s2 i i21, m3.2 i i8 i22 i26 i27, r3 i i0 i22 i26 i27]
        have s5 : knUp (knUp q12 142 24 (q12 142 27)) 142 0 2 142 24 = k := by rw [kbUp, if_neg (by omega), kbUpS, s2 27 (by omega), m2]
        have s6 : kbRs (knUp (knUp q12 142 24 (q12 142 27)) 142 0 2 143) S := by
          refine hR.congr (fun i i0 i1 => ?_)
          rw [knUp_ne (by omega), knUp_ne (by omega), b1 i i0 i1, knUp_ne (by omega), m3.1 146 (by omega) (by omega) (by omega) (by omega), r1 i i0 i1]
        refine kbH_some.mpr ⟨kbUpS (knUp q12 142 24 (q12 142 27)) 142 0 2, fun h => absurd h (show ¬ (2 : Int) = 0 by omega), s3 159 (by omega) (by omega) (by omega) (by omega), ?_⟩
        show kbIv (knUp (knUp q12 142 24 (q12 142 27)) 142 0 2)
        have z0 : ∀ i : Int, knUp (knUp q12 142 24 (q12 142 27)) 142 0 2 0 i = μ1 0 i := fun i => by rw [s3 0 (by omega) (by omega) (by omega) (by omega)]
        refine kpIv hI ⟨S, q1.sm (fun o _ _ => s3 o (by omega) (by omega) (by omega) (by omega)), s6⟩ (kpHi hH ?_ (fun o h7 h8 h9 => ?_) (s4 5 (by omega) (by omega) (by omega) (by omega) (by omega) (by omega) (by omega)) (s4 6 (by omega) (by omega) (by omega) (by omega) (by omega) (by omega) (by omega)) ?_) ?_ (fun o h9 => ?_) (s4 7 (by omega) (by omega) (by omega) (by omega) (by omega) (by omega) (by omega)) (s4 19 (by omega) (by omega) (by omega) (by omega) (by omega) (by omega) (by omega)) ?_ ?_ ⟨?_, ?_⟩ ⟨?_, ?_⟩
        · rw [s3 23 (by omega) (by omega) (by omega) (by omega), q6]
        · rw [s3 o (by omega) (by omega) (by omega) (by omega), q5 o h7 h8 h9]
        · rw [s3 144 (by omega) (by omega) (by omega) (by omega), q2 144 (by omega)]
        · rw [z0, q8 11 (by omega)]
        · rw [s3 o (by omega) (by omega) (by omega) (by omega), q2 o (by omega)]
        · rw [s3 137 (by omega) (by omega) (by omega) (by omega), q3]
        · rw [kbUp, if_neg (by omega), kbUp, if_neg (by omega), b2 142 (by omega), kbUpS]
        · rw [s4 23 (by omega) (by omega) (by omega) (by omega) (by omega) (by omega) (by omega), z0, q8 12 (by omega), e1]
        · rw [z0, q8 12 (by omega)]; exact e2
        · rw [s5, z0, q7]
        · rw [z0, q7]; omega
    · -- kept
      refine kbTry (P := fun m => kpPq μ m S S' ∧ (m 23 1 = (if μ 23 1 = 8 then 0 else μ 23 1 + 1) ∧ m 23 2 = (if μ 23 2 = 8 then 8 else μ 23 2 + 1)) ∧ m 0 = μ 0) (lc := 0) (v := k) (fun x => x) ?_ (fun μ1 ⟨⟨q1, q2, q3, q4, q5⟩, ⟨q6, q6b⟩, q7⟩ => ?_)
      · unfold kfL_runScript
        refine kbH.bind (P := fun q => q.1 = 0 ∧ q.2.1 = k ∧ kpPq μ q.2.2 S S' ∧ (q.2.2 23 1 = (if μ 23 1 = 8 then 0 else μ 23 1 + 1) ∧ q.2.2 23 2 = (if μ 23 2 = 8 then 8 else μ 23 2 + 1)) ∧ q.2.2 0 = μ 0) (cls _ (fun m1 g1 g2 g3 => ⟨fun _ mem m1' m2 => ?_, fun h => by omega⟩)) (fun q ⟨a1, a2, ⟨b1, b2, b3, b4, b5⟩, a4, a5⟩ => ?_)
        · unfold kfX9_clear
          rw [Option.bind_some]
          have w23 : knUp mem 137 2 0 23 = μ 23 := by rw [knUp_ne (by omega), m2.1 23 (by omega) (by omega) (by omega), g2 23 (by omega) (by omega) (by omega)]
          rw [kb6_keep (by rw [w23]; exact n0) (by rw [w23]; exact k0), Option.bind_some, w23]
          have wx : ∀ (o v w : Int), o ≠ 23 → o ≠ 137 → knUp (knUp (knUp mem 137 2 0) 23 1 v) 23 2 w o = mem o := fun o v w h1 h2 => by rw [knUp_ne h1, knUp_ne h1, knUp_ne h2]
          refine kbH_some.mpr ⟨rfl, rfl, ⟨m1'.sm (fun o _ _ => wx o _ _ (by omega) (by omega)), fun o h9 => ?_, ?_, g1.sm (fun o o0 o1 => ?_), fun o h9 h8 h7 => ?_⟩, ⟨?_, kbUpS (knUp (knUp mem 137 2 0) 23 1 (if μ 23 1 = 8 then 0 else μ 23 1 + 1)) 23 2 (if μ 23 2 = 8 then 8 else μ 23 2 + 1)⟩, ?_⟩
          · show knUp (knUp (knUp mem 137 2 0) 23 1 _) 23 2 _ o = _
            rw [wx o _ _ (by omega) (by omega), m2.1 o (by omega) (by omega) (by omega), g2 o (by omega) (by omega) (by omega)]
          · show knUp (knUp (knUp mem 137 2 0) 23 1 (if μ 23 1 = 8 then 0 else μ 23 1 + 1)) 23 2 (if μ 23 2 = 8 then 8 else μ 23 2 + 1) 137 2 = 0
            rw [knUp_ne (by omega), knUp_ne (by omega), kbUpS]
          · show knUp (knUp (knUp mem 137 2 0) 23 1 _) 23 2 _ o = _
            rw [wx o _ _ (by omega) (by omega), m2.1 o (by omega) (by omega) (by omega)]
          · show knUp (knUp (knUp mem 137 2 0) 23 1 _) 23 2 _ o = _
            rw [wx o _ _ (by omega) (by omega), m2.1 o (by omega) (by omega) (by omega), g2 o (by omega) (by omega) (by omega)]
          · show knUp (knUp (knUp mem 137 2 0) 23 1 (if μ 23 1 = 8 then 0 else μ 23 1 + 1)) 23 2 (if μ 23 2 = 8 then 8 else μ 23 2 + 1) 23 1 = if μ 23 1 = 8 then 0 else μ 23 1 + 1
            rw [kbUp, if_neg (by omega), kbUpS]
          · show knUp (knUp (knUp mem 137 2 0) 23 1 (if μ 23 1 = 8 then 0 else μ 23 1 + 1)) 23 2 (if μ 23 2 = 8 then 8 else μ 23 2 + 1) 0 = μ 0
            rw [wx 0 _ _ (by omega) (by omega), m2.1 0 (by omega) (by omega) (by omega), g2 0 (by omega) (by omega) (by omega)]
        · rw [if_pos a1, a2]
          have wy : ∀ o : Int, o ≠ 159 → knUp q.2.2 159 0 k o = q.2.2 o := fun o h => knUp_ne h
          refine kbH_some.mpr ⟨rfl, fun _ => kbUpS q.2.2 159 0 k, ⟨b1.sm (fun o _ _ => wy o (by omega)), fun o h9 => ?_, ?_, b4.sm (fun o o0 o1 => wy o (by omega)), fun o h9 h8 h7 => ?_⟩, ⟨?_, ?_⟩, ?_⟩
          · show knUp q.2.2 159 0 k o = _
            rw [wy o (by omega), b2 o h9]
          · show knUp q.2.2 159 0 k 137 2 = _
            rw [wy 137 (by omega), b3]
          · show knUp q.2.2 159 0 k o = _
            rw [wy o (by omega), b5 o h9 h8 h7]
          · show knUp q.2.2 159 0 k 23 1 = _
            rw [wy 23 (by omega), a4.1]
          · show knUp q.2.2 159 0 k 23 2 = _
            rw [wy 23 (by omega), a4.2]
          · show knUp q.2.2 159 0 k 0 = _
            rw [wy 0 (by omega), a5]
      · refine ref μ1 _ (fun o h9 => q2 o (by omega)) (fun m1 r1 r2 r3 r4 => ⟨fun _ mem m1' m2 m3 => ?_, fun h => by omega⟩)
        have u5 : knUp mem 142 21 0 142 5 = μ 23 2 := by rw [kbUp, if_neg (by omega), m3.2 5 (by omega) (by omega) (by omega) (by omega), r3 5 (by omega) (by omega) (by omega) (by omega), c0]
        have u6 : knUp mem 142 21 0 142 6 = μ 142 6 := by rw [kbUp, if_neg (by omega), m3.2 6 (by omega) (by omega) (by omega) (by omega), r3 6 (by omega) (by omega) (by omega) (by omega)]
        refine (kb13_keeps (μ := knUp mem 142 21 0) (by omega) (by omega)).bind (fun q19 h => ?_)
        rw [u5, u6] at h
        obtain ⟨b1, b2, b3, b4, b5, b6⟩ := h
        have s1 : ∀ o : Int, o ≠ 142 → o ≠ 143 → o ≠ 144 → (o < 146 ∨ 149 < o) → o ≠ 158 → q19 o = μ1 o := fun o h1 h2 h3 h4 h5 => by rw [b6 o h1 h3, knUp_ne h1, m3.1 o h1 h2 (by omega) h5, r2 o h1 (by omega) h5]
        have s2 : ∀ i : Int, i ≠ 5 → i ≠ 6 → i ≠ 8 → i ≠ 21 → i ≠ 22 → i ≠ 26 → i ≠ 27 → q19 142 i = m1 142 i := fun i i5 i6 i8 i21 i22 i26 i27 => by rw [b5 i i5 i6, kbUp, if_neg (by omega), m3.2 i i8 i22 i26 i27]
        have s27 : q19 142 27 = k := by rw [b5 27 (by omega) (by omega), kbUp, if_neg (by omega), m2]
        have s44 : mem 144 = μ 144 := by rw [m3.1 144 (by omega) (by omega) (by omega) (by omega), r2 144 (by omega) (by omega) (by omega), q2 144 (by omega)]
        have z0 : q19 0 = μ 0 := by rw [s1 0 (by omega) (by omega) (by omega) (by omega) (by omega), q7]
        refine kbH_some.mpr ⟨?_, fun _ => s27, s1 159 (by omega) (by omega) (by omega) (by omega) (by omega), ?_⟩
        · show q19 142 0 = 0
          rw [s2 0 (by omega) (by omega) (by omega) (by omega) (by omega) (by omega) (by omega), r4]
        · show kbIv q19
          refine kpIv hI ⟨S', q1.sm (fun o _ _ => s1 o (by omega) (by omega) (by omega) (by omega) (by omega)), ?_⟩ (hH.put (S := S) (q4.sm (fun o o0 o1 => s1 o (by omega) (by omega) (by omega) (by omega) (by omega))) (fun o o0 o1 o2 => ?_) ?_ ?_ ?_ ?_ ?_ ?_) (by rw [z0]) (fun o h9 => ?_) ?_ ?_ ?_ ?_ ⟨?_, by rw [z0]; exact e2⟩ ⟨?_, by rw [z0]; exact f2⟩
          · rw [b6 143 (by omega) (by omega), knUp_ne (by omega)]; exact m1'
          · rw [s1 o (by omega) (by omega) (by omega) (by omega) (by omega)]
            exact q5 o o0 o1 o2
          · rw [s1 23 (by omega) (by omega) (by omega) (by omega) (by omega), q6]
          · rw [s1 23 (by omega) (by omega) (by omega) (by omega) (by omega), q6b]
          · rw [b1, s1 23 (by omega) (by omega) (by omega) (by omega) (by omega), q6b]
          · rw [b2]
          · refine hR.congr (fun i i0 i1 => ?_)
            show q19 144 (50 * ((μ 142 6 + μ 23 2) % 8) + i) = μ 143 i
            rw [b3 i i0 i1, knUp_ne (by omega), m3.1 146 (by omega) (by omega) (by omega) (by omega), r1 i i0 i1]
          · intro i hi
            rw [b4 i hi, knUp_ne (by omega), s44]
          · rw [s1 o (by omega) (by omega) (by omega) (by omega) (by omega), q2 o (by omega)]
          · rw [s2 7 (by omega) (by omega) (by omega) (by omega) (by omega) (by omega) (by omega), r3 7 (by omega) (by omega) (by omega) (by omega)]
          · rw [s2 19 (by omega) (by omega) (by omega) (by omega) (by omega) (by omega) (by omega), r3 19 (by omega) (by omega) (by omega) (by omega)]
          · rw [s1 137 (by omega) (by omega) (by omega) (by omega) (by omega), q3]
          · rw [b5 21 (by omega) (by omega), kbUpS]
          · rw [s2 23 (by omega) (by omega) (by omega) (by omega) (by omega) (by omega) (by omega), r3 23 (by omega) (by omega) (by omega) (by omega), z0, e1]
          · rw [s2 24 (by omega) (by omega) (by omega) (by omega) (by omega) (by omega) (by omega), r3 24 (by omega) (by omega) (by omega) (by omega), z0, f1]
  · -- not a script
    refine kbTry (P := fun m => ∃ (w' c' n' : Int) (y' : Int → Int), m = knUp (knUp (kpMc μ w' c' n' y') 0 12 e) 137 2 0) (lc := 1) (v := 0) (fun x => x) ?_ (fun μ1 ⟨w', c', n', y', h1⟩ => ?_)
    · unfold kfL_runScript kfX12_runScript
      refine kbH.bind (P := fun q => q.1 = 2 ∧ ∃ (w' c' n' : Int) (y' : Int → Int), q.2.2 = knUp (knUp (kpMc μ w' c' n' y') 0 12 e) 137 2 0) (hcl2.bind (fun q1 ⟨a1, w', c', n', y', a2⟩ => ?_)) (fun q ⟨a1, a2⟩ => ?_)
      · rw [if_neg (show ¬ q1.1 = -1 by omega), a1, a2]
        exact kbH_some.mpr ⟨rfl, w', c', n', y', rfl⟩
      · rw [a1, if_neg (show ¬ (2 : Int) = 0 by omega), if_pos rfl]
        exact kbH_some.mpr ⟨rfl, fun h => absurd h (show ¬ (1 : Int) = 0 by omega), a2⟩
    · have g0 : ∀ o : Int, o ≠ 0 → o ≠ 137 → o ≠ 139 → μ1 o = μ o := fun o h2 h3 h4 => by rw [h1, knUp_ne h3, knUp_ne h2, kpMc_o h3 h4]
      have g12 : μ1 0 12 = e := by rw [h1, knUp_ne (by omega), kbUpS]
      have g00 : ∀ i : Int, i ≠ 12 → μ1 0 i = μ 0 i := fun i hi => by rw [h1, knUp_ne (by omega), kbUp, if_neg (by omega), kpMc_o (by omega) (by omega)]
      have g37 : μ1 137 2 = 0 := by rw [h1, kbUpS]
      have tr : kpTr (knUp μ1 142 0 0) nc L := ⟨by rw [kbUp, if_neg (by omega), g0 142 (by omega) (by omega) (by omega)]; exact hTr.1, fun k k0 k1 => by rw [knUp_ne (by omega), g0 157 (by omega) (by omega) (by omega)]; exact hTr.2 k k0 k1⟩
      unfold kfX13_runScript
      refine (kp13_all tr hrf).bind (fun q1 ⟨a1, c'', s'', y'', a2⟩ => ?_)
      have a3 : q1.1 = 0 ∧ q1.2 142 22 = e := by omega
      rw [if_pos a3.1, a3.2, a2]
      unfold kfX13_fails
      rw [Option.bind_some]
      have s3 : ∀ (o v w x : Int), o ≠ 142 → o ≠ 158 → knUp (knUp (knUp (kpMr (knUp μ1 142 0 0) c'' s'' y'') 142 23 v) 142 21 w) 142 0 x o = μ1 o := fun o v w x h1 h2 => by rw [knUp_ne h1, knUp_ne h1, knUp_ne h1, kpMr_o h1 h2, knUp_ne h1]
      have s4 : ∀ (i : Int), i ≠ 0 → i ≠ 21 → i ≠ 22 → i ≠ 23 → i ≠ 26 → knUp (knUp (knUp (kpMr (knUp μ1 142 0 0) c'' s'' y'') 142 23 e) 142 21 0) 142 0 1 142 i = μ 142 i := fun i i0 i1 i2 i3 i4 => by rw [kbUp, if_neg (by omega), kbUp, if_neg (by omega), kbUp, if_neg (by omega), kpMr_i i2 i4, kbUp, if_neg (by omega), g0 142 (by omega) (by omega) (by omega)]
      refine kbH_some.mpr ⟨kbUpS (knUp (knUp (kpMr (knUp μ1 142 0 0) c'' s'' y'') 142 23 e) 142 21 0) 142 0 1, fun h => absurd h (show ¬ (1 : Int) = 0 by omega), s3 159 e 0 1 (by omega) (by omega), ?_⟩
      show kbIv (knUp (knUp (knUp (kpMr (knUp μ1 142 0 0) c'' s'' y'') 142 23 e) 142 21 0) 142 0 1)
      refine kpIv hI ⟨S, hC.sm (fun o _ _ => ?_), ?_⟩ (hH.sm (fun o o0 o1 => ?_) ?_ ?_ (s4 5 (by omega) (by omega) (by omega) (by omega) (by omega)) (s4 6 (by omega) (by omega) (by omega) (by omega) (by omega)) ?_) ?_ (fun o h9 => ?_) (s4 7 (by omega) (by omega) (by omega) (by omega) (by omega)) (s4 19 (by omega) (by omega) (by omega) (by omega) (by omega)) ?_ ?_ ⟨?_, ?_⟩ ⟨?_, ?_⟩
      · rw [s3 o _ _ _ (by omega) (by omega), g0 o (by omega) (by omega) (by omega)]
      · rw [s3 143 _ _ _ (by omega) (by omega), g0 143 (by omega) (by omega) (by omega)]; exact hR
      · rw [s3 o _ _ _ (by omega) (by omega), g0 o (by omega) (by omega) (by omega)]
      · rw [s3 23 _ _ _ (by omega) (by omega), g0 23 (by omega) (by omega) (by omega)]
      · rw [s3 23 _ _ _ (by omega) (by omega), g0 23 (by omega) (by omega) (by omega)]
      · rw [s3 144 _ _ _ (by omega) (by omega), g0 144 (by omega) (by omega) (by omega)]
      · rw [s3 0 _ _ _ (by omega) (by omega), g00 11 (by omega)]
      · rw [s3 o _ _ _ (by omega) (by omega), g0 o (by omega) (by omega) (by omega)]
      · rw [s3 137 _ _ _ (by omega) (by omega), g37]
      · rw [kbUp, if_neg (by omega), kbUpS]
      · rw [s3 0 _ _ _ (by omega) (by omega), g12, kbUp, if_neg (by omega), kbUp, if_neg (by omega), kbUpS]
      · rw [s3 0 _ _ _ (by omega) (by omega), g12]; omega
      · rw [s3 0 _ _ _ (by omega) (by omega), g00 13 (by omega), s4 24 (by omega) (by omega) (by omega) (by omega) (by omega), f1]
      · rw [s3 0 _ _ _ (by omega) (by omega), g00 13 (by omega)]; exact f2
