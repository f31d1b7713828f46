/-! Diagrams as values, and what the class's methods make of them. -/
/-- how many crossings; where each passes over, under; its sign -/
abbrev kbD : Type := Int × (Int → Int) × (Int → Int) × (Int → Int)
def kbA (μ : knMem) (d : Int) (D : kbD) : Prop := μ d 3 = D.1 ∧ ∀ k : Int, 0 ≤ k → k < D.1 → μ (d + 1) k = D.2.1 k ∧ μ (d + 2) k = D.2.2.1 k ∧ μ (d + 3) k = D.2.2.2 k
/-- what a diagram's numbers are -/
def kbB (D : kbD) : Prop := (0 ≤ D.1 ∧ D.1 ≤ 7) ∧ ∀ k : Int, 0 ≤ k → k < D.1 → (0 ≤ D.2.1 k ∧ D.2.1 k < 2 * D.1) ∧ (0 ≤ D.2.2.1 k ∧ D.2.2.1 k < 2 * D.1) ∧ (D.2.2.2 k = 0 ∨ D.2.2.2 k = 1)
/-- .. and its passes are apart -/
def kbV (D : kbD) : Prop := kbB D ∧ ∀ j k : Int, 0 ≤ j → j < D.1 → 0 ≤ k → k < D.1 → D.2.1 j ≠ D.2.2.1 k ∧ (D.2.1 j = D.2.1 k → j = k) ∧ (D.2.2.1 j = D.2.2.1 k → j = k)
/-- nothing but the rows from lo to hi has changed -/
def kbFr (lo hi : Int) (μ μ' : knMem) : Prop := ∀ o : Int, o < lo ∨ hi < o → μ' o = μ o
theorem kbFr.rf {lo hi : Int} {μ : knMem} : kbFr lo hi μ μ := fun _ _ => rfl
theorem kbFr.up {lo hi o k v : Int} {μ μ' : knMem} (h : kbFr lo hi μ μ') (ho : lo ≤ o ∧ o ≤ hi) : kbFr lo hi μ (knUp μ' o k v) := fun p hp => by rw [knUp_ne (by omega)]; exact h p hp
theorem kbFr.trans {lo hi : Int} {μ μ1 μ2 : knMem} (h : kbFr lo hi μ μ1) (h2 : kbFr lo hi μ1 μ2) : kbFr lo hi μ μ2 := fun p hp => (h2 p hp).trans (h p hp)
theorem kbFr.wd {lo hi lo' hi' : Int} {μ μ1 : knMem} (h : kbFr lo hi μ μ1) (h1 : lo' ≤ lo) (h2 : hi ≤ hi') : kbFr lo' hi' μ μ1 := fun p hp => h p (by omega)
theorem kbA.fr {lo hi d : Int} {μ μ1 : knMem} {D : kbD} (h : kbA μ d D) (hf : kbFr lo hi μ μ1) (hd : d + 3 < lo ∨ hi < d) : kbA μ1 d D := by
  refine ⟨by rw [hf d (by omega)]; exact h.1, fun k h0 h1 => ?_⟩
  rw [hf (d + 1) (by omega), hf (d + 2) (by omega), hf (d + 3) (by omega)]
  exact h.2 k h0 h1
theorem kb5_copyFrom {μ : knMem} {a b : Int} {D : kbD} (hA : kbA μ b D) (hB : kbB D) (hab : a + 3 < b ∨ b + 3 < a) : kbH (kfX5_copyFrom a b μ) (fun μ' => kbA μ' a D ∧ kbFr a (a + 3) μ μ') := by
  obtain ⟨h0, h1⟩ := hA
  obtain ⟨⟨hn0, hn7⟩, hb⟩ := hB
  unfold kfX5_copyFrom
  refine kbLoop (fun n i s => kfX5_copyFrom_l10 a b (fun w8 => some w8) n i s) (fun i s => 0 ≤ i ∧ s a 3 = D.1 ∧ (∀ k : Int, 0 ≤ k → k < i → s (a + 1) k = D.2.1 k ∧ s (a + 2) k = D.2.2.1 k ∧ s (a + 3) k = D.2.2.2 k) ∧ kbFr a (a + 3) μ s) D.1 _ ?_ ?_ _ _ _ (by omega) (by rw [kbF]; omega) ?_
  · intro n i s hi ⟨i0, hc, hr, hf⟩ kk
    simp only [kfX5_copyFrom_l10, kbH_ite, kbH_gd]
    refine ⟨fun h => by omega, fun _ => ⟨by omega, ?_⟩⟩
    rw [knW_id (by omega)]
    have e1 : s (b + 1) = μ (b + 1) := hf _ (by omega)
    have e2 : s (b + 2) = μ (b + 2) := hf _ (by omega)
    have e3 : s (b + 3) = μ (b + 3) := hf _ (by omega)
    have hk := h1 i i0 hi
    have hz := (hb i i0 hi).2.2
    have hz2 := @knNz_id (D.2.2.2 i) hz
    refine kk _ ⟨by omega, ?_, ?_, ((hf.up (by omega)).up (by omega)).up (by omega)⟩
    · simp (disch := omega) only [kbUp, if_pos, if_neg, and_true, if_true]
      exact hc
    · intro k k0 k1
      by_cases hki : k = i
      · subst hki
        simp (disch := omega) only [kbUp, if_pos, if_neg, and_true, if_true, e1, e2, e3, hk.1, hk.2.1, hk.2.2, hz2, and_self]
      · simp (disch := omega) only [kbUp, if_pos, if_neg, and_true, if_true]
        exact hr k k0 (by omega)
  · intro n s ⟨i0, hc, hr, hf⟩
    simp only [kfX5_copyFrom_l10, kbH_ite, kbH_some]
    exact ⟨fun _ => ⟨⟨hc, hr⟩, hf⟩, fun h => by omega⟩
  · refine ⟨by omega, ?_, fun k _ _ => by omega, kbFr.rf.up (by omega)⟩
    simp (disch := omega) only [kbUp, if_pos, if_neg, and_true, if_true]
    exact h0
/-- the steps on the shorter way around -/
def kbDs (n a b : Int) : Int := if a ≤ b then (if 2 * n - (b - a) ≤ b - a then 2 * n - (b - a) else b - a) else (if 2 * n - (a - b) ≤ a - b then 2 * n - (a - b) else a - b)
theorem kb5_dist {μ : knMem} {d a b : Int} (hn : 0 ≤ μ d 3 ∧ μ d 3 ≤ 7) (ha : 0 ≤ a ∧ a < 14) (hb : 0 ≤ b ∧ b < 14) : kfX5_distance d a b μ = some (kbDs (μ d 3) a b) := by
  unfold kfX5_distance kbDs
  have e0 : knW (2 * μ d 3) = 2 * μ d 3 := knW_id (by omega)
  rw [e0]
  by_cases h : a ≤ b
  · simp only [if_pos h]
    rw [knW_id (x := b - a) (by omega), knW_id (x := 2 * μ d 3 - (b - a)) (by omega)]
  · simp only [if_neg h]
    rw [knW_id (x := a - b) (by omega), knW_id (x := 2 * μ d 3 - (a - b)) (by omega)]
abbrev kbCu (D : kbD) (c : Int) : Prop := kbDs D.1 (D.2.1 c) (D.2.2.1 c) = 1
abbrev kbPk (D : kbD) (a b : Int) : Prop := D.2.2.2 a ≠ D.2.2.2 b ∧ kbDs D.1 (D.2.1 a) (D.2.1 b) = 1 ∧ kbDs D.1 (D.2.2.1 a) (D.2.2.1 b) = 1
theorem kb5_curls {μ : knMem} {d c : Int} {D : kbD} (hA : kbA μ d D) (hB : kbB D) (hc : 0 ≤ c ∧ c < D.1) : kfX5_curls d c μ = some (if kbCu D c then 1 else 0) := by
  obtain ⟨h0, h1⟩ := hA
  have hk := h1 c hc.1 hc.2
  have hb := hB.2 c hc.1 hc.2
  have hn := hB.1
  unfold kfX5_curls
  rw [kbGd (by omega), hk.1, hk.2.1, kb5_dist (by omega) (by omega) (by omega), h0]
  rfl
theorem kb5_pokes {μ : knMem} {d a b : Int} {D : kbD} (hA : kbA μ d D) (hB : kbB D) (ha : 0 ≤ a ∧ a < D.1) (hb : 0 ≤ b ∧ b < D.1) : kfX5_pokes d a b μ = some (if kbPk D a b then 1 else 0) := by
  obtain ⟨h0, h1⟩ := hA
  have ka := h1 a ha.1 ha.2
  have kb := h1 b hb.1 hb.2
  have ba := hB.2 a ha.1 ha.2
  have bb := hB.2 b hb.1 hb.2
  have hn := hB.1
  unfold kfX5_pokes
  rw [kbGd (by omega), kbGd (by omega), ka.1, ka.2.1, ka.2.2, kb.1, kb.2.1, kb.2.2, kb5_dist (by omega) (by omega) (by omega), kb5_dist (by omega) (by omega) (by omega), h0]
  simp only [Option.bind_some, kbPk]
  by_cases h1 : D.2.2.2 a = D.2.2.2 b
  · simp [h1]
  · by_cases h2 : kbDs D.1 (D.2.1 a) (D.2.1 b) = 1
    · by_cases h3 : kbDs D.1 (D.2.2.1 a) (D.2.2.1 b) = 1
      · simp [h1, h2, h3]
      · simp [h1, h2, h3]
    · simp [h1, h2]
def kbCg (p o u : Int) : Int := p - (if p ≤ o then 0 else 1) - (if p ≤ u then 0 else 1)
theorem kb5_closeGaps {p o u : Int} {μ : knMem} (hp : 0 ≤ p ∧ p < 14) : kfX5_closeGaps p o u μ = some (kbCg p o u) := by
  unfold kfX5_closeGaps kbCg
  by_cases h1 : p ≤ o <;> by_cases h2 : p ≤ u <;> simp only [h1, h2, if_true, if_false] <;> rw [knW_id (x := p - _) (by omega), knW_id (by omega)]
/-- a crossing removed -/
def kbRm (c : Int) (D : kbD) : kbD := (D.1 - 1, fun k => kbCg (D.2.1 (if c ≤ k then k + 1 else k)) (D.2.1 c) (D.2.2.1 c), fun k => kbCg (D.2.2.1 (if c ≤ k then k + 1 else k)) (D.2.1 c) (D.2.2.1 c), fun k => D.2.2.2 (if c ≤ k then k + 1 else k))
theorem kb5_remove {μ : knMem} {d c : Int} {D : kbD} (hA : kbA μ d D) (hB : kbB D) (hc : 0 ≤ c ∧ c < D.1) : kbH (kfX5_remove d c μ) (fun μ' => kbA μ' d (kbRm c D) ∧ kbFr d (d + 3) μ μ') := by
  obtain ⟨h0, h1⟩ := hA
  obtain ⟨⟨hn0, hn7⟩, hb⟩ := hB
  have hk := h1 c hc.1 hc.2
  unfold kfX5_remove
  rw [kbGd (by omega), hk.1, hk.2.1, h0, knW_id (x := D.1 - 1) (by omega)]
  refine kbLoop (fun n i s => kfX5_remove_l27 d c (D.2.1 c) (D.2.2.1 c) (fun w22 => some w22) n i s) (fun i s => 0 ≤ i ∧ s d 3 = D.1 - 1 ∧ (∀ k : Int, 0 ≤ k → k < i → s (d + 1) k = (kbRm c D).2.1 k ∧ s (d + 2) k = (kbRm c D).2.2.1 k ∧ s (d + 3) k = (kbRm c D).2.2.2 k) ∧ (∀ k : Int, i ≤ k → k < D.1 → s (d + 1) k = D.2.1 k ∧ s (d + 2) k = D.2.2.1 k ∧ s (d + 3) k = D.2.2.2 k) ∧ kbFr d (d + 3) μ s) (D.1 - 1) _ ?_ ?_ _ _ _ (by omega) (by rw [kbF]; omega) ?_
  · intro n i s hi ⟨i0, hc9, hr, hr2, hf⟩ kk
    obtain ⟨j, hj⟩ : ∃ j : Int, j = if c ≤ i then i + 1 else i := ⟨_, rfl⟩
    have hj2 : (if c ≤ i then knW (i + 1) else i) = j := by rw [hj]; split; · exact knW_id (by omega)
                                                            · rfl
    have hj0 : 0 ≤ j ∧ j < D.1 ∧ i ≤ j := by rw [hj]; split <;> omega
    have hbj := hb j hj0.1 hj0.2.1
    have hrj := hr2 j hj0.2.2 hj0.2.1
    have e1 : knUp s (d + 1) i (kbCg (D.2.1 j) (D.2.1 c) (D.2.2.1 c)) (d + 2) j = D.2.2.1 j := by rw [kbUp, if_neg (by omega)]; exact hrj.2.1
    have e2 : (knUp (knUp s (d + 1) i (kbCg (D.2.1 j) (D.2.1 c) (D.2.2.1 c))) (d + 2) i (kbCg (D.2.2.1 j) (D.2.1 c) (D.2.2.1 c))) (d + 3) j = D.2.2.2 j := by rw [kbUp, if_neg (by omega), kbUp, if_neg (by omega)]; exact hrj.2.2
    simp only [kfX5_remove_l27, kbH_ite, hj2, hrj.1]
    refine ⟨fun h => by omega, fun _ => ?_⟩
    rw [kbH_gd, kb5_closeGaps (by omega), Option.bind_some, kbH_gd, e1, kb5_closeGaps (by omega), Option.bind_some, knW_id (by omega), e2]
    refine ⟨by omega, by omega, kk _ ⟨by omega, ?_, ?_, ?_, ((hf.up (by omega)).up (by omega)).up (by omega)⟩⟩
    · simp (disch := omega) only [kbUp, if_pos, if_neg, and_true, if_true]
      exact hc9
    · intro k k0 k1
      have hz := (hb j hj0.1 hj0.2.1).2.2
      have h3 := @knNz_id (D.2.2.2 j) hz
      by_cases hki : k = i
      · subst hki
        simp (disch := omega) only [kbUp, if_pos, if_neg, and_true, if_true, h3]
        simp only [kbRm, ← hj, and_self]
      · simp (disch := omega) only [kbUp, if_pos, if_neg, and_true, if_true]
        exact hr k k0 (by omega)
    · intro k k0 k1
      simp (disch := omega) only [kbUp, if_pos, if_neg, and_true, if_true]
      exact hr2 k (by omega) k1
  · intro n s ⟨i0, hc9, hr, _, hf⟩
    simp only [kfX5_remove_l27, kbH_ite, kbH_some]
    exact ⟨fun _ => ⟨⟨hc9, fun k a1 a2 => hr k a1 a2⟩, hf⟩, fun h => by omega⟩
  · refine ⟨by omega, ?_, fun k _ _ => by omega, fun k k0 k1 => ?_, kbFr.rf.up (by omega)⟩
    · simp (disch := omega) only [kbUp, if_pos, if_neg, and_true, if_true]
    · simp (disch := omega) only [kbUp, if_pos, if_neg, and_true, if_true]
      exact h1 k k0 k1
