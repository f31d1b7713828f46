/-! Bets: entering, betting, sums. -/
def kbEn (B : kbY) : Int × kbY := if B.1 < 4 then (0, (B.1 + 1, B.2.1, fun k => if k = B.1 then 100 else B.2.2.1 k, fun k => if k = B.1 then 0 else B.2.2.2.1 k, fun k => if k = B.1 then 0 else B.2.2.2.2 k)) else (3, B)
def kbWg (p g s : Int) (B : kbY) : Int × kbY := if 0 ≤ p ∧ p < B.1 then (if (0 ≤ g ∧ g ≤ 7) ∧ (1 ≤ s ∧ s ≤ 99) then (if B.2.2.2.2 p ≤ 0 then (if s ≤ B.2.2.1 p then
  (0, (B.1, B.2.1, fun k => if k = p then B.2.2.1 p - s else B.2.2.1 k, fun k => if k = p then g else B.2.2.2.1 k, fun k => if k = p then s else B.2.2.2.2 k)) else (4, B)) else (3, B)) else (2, B)) else (1, B)
theorem kbBv.le {B : kbY} (h : kbBv B) : (0 ≤ kbSm B.2.2.1 B.1.toNat ∧ kbSm B.2.2.1 B.1.toNat ≤ 400) ∧ (0 ≤ kbSm B.2.2.2.2 B.1.toNat ∧ kbSm B.2.2.2.2 B.1.toNat ≤ 400) ∧ B.2.1 ≤ 400 ∧ ∀ k : Int, 0 ≤ k → k < B.1 → B.2.2.1 k ≤ 400 := by
  obtain ⟨hm, hh, hk, hs⟩ := h
  have h1 := kbSm_nn B.1.toNat (f := B.2.2.1) (fun k k0 k1 => (hk k k0 (by omega)).1)
  have h2 := kbSm_nn B.1.toNat (f := B.2.2.2.2) (fun k k0 k1 => (hk k k0 (by omega)).2.1)
  refine ⟨by omega, by omega, by omega, fun k k0 k1 => ?_⟩
  have h3 := kbSm_up (f := B.2.2.1) (g := fun j => if j = k then 0 else B.2.2.1 j) (a := k) B.1.toNat (by omega) (fun j _ _ hj => by rw [if_neg hj])
  have h4 := kbSm_nn B.1.toNat (f := fun j => if j = k then 0 else B.2.2.1 j) (fun j j0 j1 => by have := (hk j j0 (by omega)).1; split <;> omega)
  rw [if_pos rfl] at h3
  omega
theorem kbEn_v {B : kbY} (h : kbBv B) : kbBv (kbEn B).2 := by
  unfold kbEn
  by_cases h4 : B.1 < 4
  · rw [if_pos h4]
    obtain ⟨hm, hh, hk, hs⟩ := h
    refine ⟨by show 0 ≤ B.1 + 1 ∧ B.1 + 1 ≤ 4; omega, hh, fun k k0 k1 => ?_, ?_⟩
    · have k1 : k < B.1 + 1 := k1
      by_cases hkn : k = B.1
      · simp only [if_pos hkn]; omega
      · simp only [if_neg hkn]; exact hk k k0 (by omega)
    · have e : (B.1 + 1).toNat = B.1.toNat + 1 := by omega
      have e2 : ((B.1.toNat : Nat) : Int) = B.1 := by omega
      show kbSm _ (B.1 + 1).toNat + kbSm _ (B.1 + 1).toNat + B.2.1 = 100 * (B.1 + 1)
      dsimp only
      rw [e, kbSm, kbSm, e2, if_pos rfl, if_pos rfl, kbSm_congr (g := B.2.2.1) _ (fun k k0 k1 => if_neg (by omega)), kbSm_congr (g := B.2.2.2.2) _ (fun k k0 k1 => if_neg (by omega))]
      omega
  · rw [if_neg h4]; exact h
theorem kbWg_v {p g s : Int} {B : kbY} (h : kbBv B) : kbBv (kbWg p g s B).2 := by
  unfold kbWg
  by_cases h1 : 0 ≤ p ∧ p < B.1
  · rw [if_pos h1]
    by_cases h2 : (0 ≤ g ∧ g ≤ 7) ∧ (1 ≤ s ∧ s ≤ 99)
    · rw [if_pos h2]
      by_cases h3 : B.2.2.2.2 p ≤ 0
      · rw [if_pos h3]
        by_cases h4 : s ≤ B.2.2.1 p
        · rw [if_pos h4]
          obtain ⟨hm, hh, hk, hs⟩ := h
          refine ⟨hm, hh, fun k k0 k1 => ?_, ?_⟩
          · have k1 : k < B.1 := k1
            by_cases hkn : k = p
            · simp only [if_pos hkn]; omega
            · simp only [if_neg hkn]; exact hk k k0 k1
          · show kbSm _ B.1.toNat + kbSm _ B.1.toNat + B.2.1 = 100 * B.1
            have h5 := hk p h1.1 h1.2
            rw [kbSm_up (f := fun k => if k = p then B.2.2.1 p - s else B.2.2.1 k) (g := B.2.2.1) (a := p) B.1.toNat (by omega) (fun k _ _ hkp => if_neg hkp), kbSm_up (f := fun k => if k = p then s else B.2.2.2.2 k) (g := B.2.2.2.2) (a := p) B.1.toNat (by omega) (fun k _ _ hkp => if_neg hkp), if_pos rfl, if_pos rfl]
            omega
        · rw [if_neg h4]; exact h
      · rw [if_neg h3]; exact h
    · rw [if_neg h2]; exact h
  · rw [if_neg h1]; exact h
theorem kb1_enter {μ : knMem} {b : Int} {B : kbY} (hC : kbCb μ b B) (hB : kbBv B) : kbH (kfX1_enter b μ) (fun r => r.1 = (kbEn B).1 ∧ kbCb r.2 b (kbEn B).2 ∧ kbFr b (b + 3) μ r.2) := by
  obtain ⟨h0, h1, h2⟩ := id hC
  have hm := hB.1
  unfold kfX1_enter kbEn
  rw [h0]
  by_cases h4 : B.1 < 4
  · have e1 : ∀ v : Int, knUp μ (b + 1) B.1 v b 3 = B.1 := fun v => by rw [kbUp, if_neg (by omega)]; exact h0
    have e2 : ∀ v w : Int, knUp (knUp μ (b + 1) B.1 v) (b + 2) B.1 w b 3 = B.1 := fun v w => by rw [kbUp, if_neg (by omega), kbUp, if_neg (by omega)]; exact h0
    have e3 : ∀ v w x : Int, knUp (knUp (knUp μ (b + 1) B.1 v) (b + 2) B.1 w) (b + 3) B.1 x b 3 = B.1 := fun v w x => by rw [kbUp, if_neg (by omega), kbUp, if_neg (by omega), kbUp, if_neg (by omega)]; exact h0
    simp only [if_pos h4, e1, e2, e3]
    rw [kbH_gd, kbH_gd, kbH_gd, kbH_some, knW_id (by omega)]
    refine ⟨by omega, by omega, by omega, rfl, ⟨?_, ?_, fun k k0 k1 => ?_⟩, (((kbFr.rf.up (by omega)).up (by omega)).up (by omega)).up (by omega)⟩
    · simp (disch := omega) only [kbUp, if_pos, and_true, if_true]
    · simp (disch := omega) only [kbUp, if_neg]
      exact h1
    · have k1 : k < B.1 + 1 := k1
      by_cases hk : k = B.1
      · subst hk
        simp (disch := omega) only [kbUp, if_pos, if_neg, and_true, true_and, if_true]
        trivial
      · simp (disch := omega) only [kbUp, if_pos, if_neg, and_true, true_and, if_true]
        exact h2 k k0 (by omega)
  · simp only [if_neg h4]
    exact kbH_some.mpr ⟨rfl, hC, kbFr.rf⟩
theorem kb1_hasPlayer {μ : knMem} {d a : Int} : kfX1_hasPlayer d a μ = some (if 0 ≤ a ∧ a < μ d 3 then 1 else 0) := by
  unfold kfX1_hasPlayer
  by_cases h1 : a < 0
  · simp only [if_pos h1]
    rw [if_neg (by omega)]
  · by_cases h2 : μ d 3 ≤ a
    · simp only [if_neg h1, if_pos h2]
      rw [if_neg (by omega)]
    · simp only [if_neg h1, if_neg h2]
      rw [if_pos (by omega)]
theorem kb1_wager {μ : knMem} {b p g s : Int} {B : kbY} (hC : kbCb μ b B) (hB : kbBv B) : kbH (kfX1_wager b p g s μ) (fun r => r.1 = (kbWg p g s B).1 ∧ kbCb r.2 b (kbWg p g s B).2 ∧ kbFr b (b + 3) μ r.2) := by
  obtain ⟨h0, h1, h2⟩ := id hC
  have hm := hB.1
  unfold kfX1_wager kbWg
  rw [kb1_hasPlayer, h0, Option.bind_some]
  by_cases g1 : 0 ≤ p ∧ p < B.1
  · have hp := h2 p g1.1 g1.2
    have hv := hB.2.2.1 p g1.1 g1.2
    have hle := hB.le.2.2.2 p g1.1 g1.2
    simp only [if_pos g1]
    rw [if_neg (by omega)]
    by_cases g2 : (0 ≤ g ∧ g ≤ 7) ∧ (1 ≤ s ∧ s ≤ 99)
    · simp only [if_pos g2]
      rw [if_neg (by omega), if_neg (by omega), if_neg (by omega), if_pos (by omega), kbGd (by omega), hp.1, hp.2.1]
      by_cases g3 : B.2.2.2.2 p ≤ 0
      · simp only [if_pos g3]
        by_cases g4 : s ≤ B.2.2.1 p
        · simp only [if_pos g4]
          rw [kbH_some, knW_id (by omega)]
          refine ⟨rfl, ⟨?_, ?_, fun k k0 k1 => ?_⟩, ((kbFr.rf.up (by omega)).up (by omega)).up (by omega)⟩
          · simp (disch := omega) only [kbUp, if_neg]
            exact h0
          · simp (disch := omega) only [kbUp, if_neg]
            exact h1
          · have k1 : k < B.1 := k1
            by_cases hk : k = p
            · subst hk
              simp (disch := omega) only [kbUp, if_pos, if_neg, and_true, true_and, if_true]
              exact fun _ => trivial
            · simp (disch := omega) only [kbUp, if_pos, if_neg, and_true, true_and, if_true]
              exact h2 k k0 k1
        · simp only [if_neg g4]
          exact kbH_some.mpr ⟨rfl, hC, kbFr.rf⟩
      · simp only [if_neg g3]
        exact kbH_some.mpr ⟨rfl, hC, kbFr.rf⟩
    · simp only [if_neg g2]
      have hno : kbH (some ((2 : Int), μ)) (fun r => r.1 = 2 ∧ kbCb r.2 b B ∧ kbFr b (b + 3) μ r.2) := kbH_some.mpr ⟨rfl, hC, kbFr.rf⟩
      by_cases q1 : g < 0
      · rw [if_pos q1]; exact hno
      · rw [if_neg q1]
        by_cases q2 : 7 < g
        · rw [if_pos q2]; exact hno
        · rw [if_neg q2]
          by_cases q3 : s < 1
          · rw [if_pos q3]; exact hno
          · rw [if_neg q3, if_neg (by omega)]; exact hno
  · simp only [if_neg g1]
    rw [if_pos trivial]
    exact kbH_some.mpr ⟨rfl, hC, kbFr.rf⟩
theorem kb1_allStakes {μ : knMem} {b : Int} {B : kbY} (hC : kbCb μ b B) (hB : kbBv B) : kfX1_allStakes b μ = some (kbSm B.2.2.2.2 B.1.toNat) := by
  obtain ⟨h0, h1, h2⟩ := hC
  have hm := hB.1
  have key : kbH (kfX1_allStakes b μ) (fun r => r = kbSm B.2.2.2.2 B.1.toNat) := by
    unfold kfX1_allStakes
    refine kbLoop (fun n i (x : Int) => kfX1_allStakes_l4 b μ (fun w5 => some w5) n x i) (fun i x => 0 ≤ i ∧ x = kbSm B.2.2.2.2 i.toNat) B.1 _ ?_ ?_ _ _ _ (by omega) (by rw [kbF]; omega) ⟨by omega, rfl⟩
    · intro n i x hi ⟨i0, hx⟩ kk
      simp only [kfX1_allStakes_l4, kbH_ite, kbH_gd]
      refine ⟨fun h => by omega, fun _ => ⟨by omega, ?_⟩⟩
      have hv := hB.2.2.1 i i0 hi
      have hb := kbSm_le (f := B.2.2.2.2) (b := 99) i.toNat (fun k k0 k1 => by have := hB.2.2.1 k k0 (by omega); omega)
      rw [(h2 i i0 hi).2.1, knW_id (x := i + 1) (by omega), knW_id (by omega)]
      refine kk _ ⟨by omega, ?_⟩
      have e : (i + 1).toNat = i.toNat + 1 := by omega
      have e2 : ((i.toNat : Nat) : Int) = i := by omega
      rw [e, kbSm, ← hx, e2]
    · intro n x ⟨i0, hx⟩
      simp only [kfX1_allStakes_l4, kbH_ite, kbH_some]
      exact ⟨fun _ => hx, fun h => by omega⟩
  obtain ⟨r, h3, h4⟩ := key
  rw [h3, h4]
theorem kb13_stakes {μ : knMem} {B : kbY} (h : kbRb (μ 143) B) (hB : kbBv B) : kfX13_stakes μ = some (kbSm B.2.2.2.2 B.1.toNat) := by
  obtain ⟨h0, h1, h2, h3⟩ := h
  have hm := hB.1
  have key : kbH (kfX13_stakes μ) (fun r => r = kbSm B.2.2.2.2 B.1.toNat) := by
    unfold kfX13_stakes
    refine kbLoop (fun n i (x : Int) => kfX13_stakes_l4 μ (fun w5 => some w5) n x i) (fun i x => 0 ≤ i ∧ x = kbSm B.2.2.2.2 i.toNat) B.1 _ ?_ ?_ _ _ _ (by omega) (by rw [kbF]; omega) ⟨by omega, rfl⟩
    · intro n i x hi ⟨i0, hx⟩ kk
      simp only [kfX13_stakes_l4, kbH_ite, kbH_gd]
      rw [knW_id (x := 11 + i) (by omega)]
      refine ⟨by omega, fun h => by omega, fun _ => ⟨by omega, ?_⟩⟩
      have hv := hB.2.2.1 i i0 hi
      have hb := kbSm_le (f := B.2.2.2.2) (b := 99) i.toNat (fun k k0 k1 => by have := hB.2.2.1 k k0 (by omega); omega)
      rw [(h2 i i0 hi).2.1, knW_id (x := i + 1) (by omega), knW_id (by omega)]
      refine kk _ ⟨by omega, ?_⟩
      have e : (i + 1).toNat = i.toNat + 1 := by omega
      have e2 : ((i.toNat : Nat) : Int) = i := by omega
      rw [e, kbSm, ← hx, e2]
    · intro n x ⟨i0, hx⟩
      simp only [kfX13_stakes_l4, kbH_ite, kbH_gd, kbH_some]
      exact ⟨by omega, fun _ => hx, fun h => by omega⟩
  obtain ⟨r, h3, h4⟩ := key
  rw [h3, h4]
/-- the bets moved, the diagram as it was -/
theorem kbW.sm {w w' : Int → Int} {D : kbD} (h : kbW w D) (he : ∀ i : Int, (i = 0 ∨ (15 ≤ i ∧ i < 50)) → w' i = w i) : kbW w' D := by
  have hn := h.2.1
  exact ⟨by rw [he 0 (by omega)]; exact h.1, h.2.congr (fun k k0 k1 => ⟨he _ (by omega), he _ (by omega)⟩) (fun k k0 k1 => he _ (by omega))⟩
theorem kb13_isPlayer {μ : knMem} {c m : Int} (h : μ 143 1 = m) (hm : 0 ≤ m ∧ m ≤ 4) : kfX13_isPlayer c μ = some (if 0 ≤ c ∧ c < m then 1 else 0) := by
  unfold kfX13_isPlayer
  rw [kbGd (by omega), kb13_between, Option.bind_some, h, knW_id (by omega)]
  congr 1
  split <;> split <;> omega
theorem kb13_addsPlayer {μ : knMem} {S : kbZ} (h : kbRs (μ 143) S) (h4 : S.2.1 < 4) : kbH (kfX13_addsPlayer μ) (fun r => r.1 = S.2.1 ∧ kbRs (r.2 143) (S.1, (kbEn S.2).2) ∧ kbFw μ r.2) := by
  obtain ⟨hW, ⟨h0, h1, h2, h3⟩, hB⟩ := h
  have hm := hB.1
  unfold kfX13_addsPlayer
  rw [h0, knW_id (x := 3 + S.2.1) (by omega), knW_id (x := S.2.1 + 1) (by omega), kbGd (by omega), kbGd (by omega), kbH_some]
  dsimp only
  refine ⟨rfl, ⟨hW.sm (fun i hi => ?_), ?_, kbEn_v hB⟩, ⟨fun o o1 o2 o3 => ?_, fun i hi => ?_⟩⟩
  · rw [kbUp, if_neg (by omega), kbUp, if_neg (by omega)]
  · unfold kbEn
    rw [if_pos h4]
    refine ⟨?_, ?_, fun k k0 k1 => ?_, fun k k0 k1 => ?_⟩
    · rw [kbUp, if_neg (by omega), kbUp, if_pos (by omega)]
    · rw [kbUp, if_neg (by omega), kbUp, if_neg (by omega)]; exact h1
    · have k1 : k < S.2.1 + 1 := k1
      by_cases hk : k = S.2.1
      · simp only [if_pos hk]
        refine ⟨by rw [kbUp, if_pos (by omega)], by rw [kbUp, if_neg (by omega), kbUp, if_neg (by omega)]; exact h3 k (by omega) (by omega), fun h => absurd rfl h⟩
      · simp only [if_neg hk]
        have := h2 k k0 (by omega)
        simp (disch := omega) only [kbUp, if_neg]
        exact this
    · have k0 : S.2.1 + 1 ≤ k := k0
      rw [kbUp, if_neg (by omega), kbUp, if_neg (by omega)]
      exact h3 k (by omega) k1
  · rw [knUp_ne (by omega), knUp_ne (by omega)]
  · rw [knUp_ne (by omega), knUp_ne (by omega)]
theorem kb13_notBet {μ : knMem} {B : kbY} (h : kbRb (μ 143) B) (hB : kbBv B) {p g s : Int} : kfX13_notBet p g s μ = some (kbWg p g s B).1 := by
  obtain ⟨h0, h1, h2, h3⟩ := h
  have hm := hB.1
  unfold kfX13_notBet kbWg
  simp only [kb13_isPlayer h0 hm, Option.bind_some, kb13_between]
  by_cases g1 : 0 ≤ p ∧ p < B.1
  · have hp := h2 p g1.1 g1.2
    rw [if_pos g1, if_neg (by omega), if_pos g1]
    by_cases g2 : 0 ≤ g ∧ g ≤ 7
    · rw [if_pos g2, if_neg (by omega)]
      by_cases g3 : 1 ≤ s ∧ s ≤ 99
      · rw [if_pos g3, if_neg (by omega), if_pos (show (0 ≤ g ∧ g ≤ 7) ∧ (1 ≤ s ∧ s ≤ 99) from ⟨g2, g3⟩), knW_id (x := 11 + p) (by omega), knW_id (x := 3 + p) (by omega), kbGd (by omega), hp.1, hp.2.1]
        by_cases g4 : B.2.2.2.2 p ≤ 0
        · rw [if_pos g4, if_pos g4, kbGd (by omega)]
          by_cases g5 : s ≤ B.2.2.1 p
          · rw [if_pos g5, if_pos g5]
          · rw [if_neg g5, if_neg g5]
        · rw [if_neg g4, if_neg g4]
      · rw [if_neg g3, if_pos rfl, if_neg (fun h => g3 h.2)]
    · rw [if_neg g2, if_pos rfl, if_neg (fun h => g2 h.1)]
  · rw [if_neg g1, if_pos rfl, if_neg g1]
theorem kbWg_0 {p g s : Int} {B : kbY} (h : (kbWg p g s B).1 = 0) : (0 ≤ p ∧ p < B.1) ∧ ((0 ≤ g ∧ g ≤ 7) ∧ (1 ≤ s ∧ s ≤ 99)) ∧ B.2.2.2.2 p ≤ 0 ∧ s ≤ B.2.2.1 p := by
  unfold kbWg at h
  split at h
  · split at h
    · split at h
      · split at h
        · exact ⟨by assumption, by assumption, by assumption, by assumption⟩
        · simp only at h; omega
      · simp only at h; omega
    · simp only at h; omega
  · simp only at h; omega
theorem kbWg_n {p g s : Int} {B : kbY} (h : (kbWg p g s B).1 ≠ 0) : (kbWg p g s B).2 = B := by
  unfold kbWg at h ⊢
  split
  · split
    · split
      · split
        · rename_i a1 a2 a3 a4; rw [if_pos a1, if_pos a2, if_pos a3, if_pos a4] at h; exact absurd rfl h
        · rfl
      · rfl
    · rfl
  · rfl
theorem kb13_bets {μ : knMem} {S : kbZ} (h : kbRs (μ 143) S) {p g s : Int} (h4 : (kbWg p g s S.2).1 = 0) : kbH (kfX13_bets p g s μ) (fun r => r.1 = S.2.2.2.1 p - s ∧ kbRs (r.2 143) (S.1, (kbWg p g s S.2).2) ∧ kbFw μ r.2) := by
  obtain ⟨hW, ⟨h0, h1, h2, h3⟩, hB⟩ := h
  have hm := hB.1
  obtain ⟨g1, g2, g3, g4⟩ := kbWg_0 h4
  have hle := hB.le.2.2.2 p g1.1 g1.2
  have hp := h2 p g1.1 g1.2
  unfold kfX13_bets
  rw [knW_id (x := 3 + p) (by omega), knW_id (x := 11 + p) (by omega), knW_id (x := 7 + p) (by omega), kbGd (by omega), kbGd (by omega), kbGd (by omega), kbH_some, hp.1, knW_id (by omega)]
  dsimp only
  refine ⟨by simp (disch := omega) only [kbUp, if_pos, if_neg, and_true, true_and, if_true], ⟨hW.sm (fun i hi => ?_), ?_, kbWg_v hB⟩, ⟨fun o o1 o2 o3 => ?_, fun i hi => ?_⟩⟩
  · simp (disch := omega) only [kbUp, if_neg]
  · unfold kbWg
    rw [if_pos g1, if_pos g2, if_pos g3, if_pos g4]
    refine ⟨?_, ?_, fun k k0 k1 => ?_, fun k k0 k1 => ?_⟩
    · simp (disch := omega) only [kbUp, if_neg]; exact h0
    · simp (disch := omega) only [kbUp, if_neg]; exact h1
    · have k1 : k < S.2.1 := k1
      by_cases hk : k = p
      · simp only [if_pos hk]
        subst hk
        simp (disch := omega) only [kbUp, if_pos, if_neg, and_true, true_and, if_true]
        exact fun _ => trivial
      · simp only [if_neg hk]
        have := h2 k k0 (by omega)
        simp (disch := omega) only [kbUp, if_neg]
        exact this
    · have k0 : S.2.1 ≤ k := k0
      simp (disch := omega) only [kbUp, if_neg]
      exact h3 k (by omega) k1
  · simp (disch := omega) only [knUp_ne]
  · simp (disch := omega) only [knUp_ne]
