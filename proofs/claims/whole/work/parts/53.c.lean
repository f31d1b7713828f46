/-! Moves that may be refused: the refusal, the diagram behind. -/
theorem kbCg_apart {o u p q : Int} (h1 : p ≠ o) (h2 : p ≠ u) (h3 : q ≠ o) (h4 : q ≠ u) (hou : o ≠ u) (h : kbCg p o u = kbCg q o u) : p = q := by
  unfold kbCg at h
  split at h <;> split at h <;> split at h <;> split at h <;> omega
theorem kbCg_in {o u p m : Int} (ho : 0 ≤ o ∧ o < m) (hu : 0 ≤ u ∧ u < m) (hp : 0 ≤ p ∧ p < m) (h1 : p ≠ o) (h2 : p ≠ u) (hou : o ≠ u) : 0 ≤ kbCg p o u ∧ kbCg p o u < m - 2 := by
  unfold kbCg
  split <;> split <;> omega
theorem kbV_rm {D : kbD} {c : Int} (h : kbV D) (hc : 0 ≤ c ∧ c < D.1) : kbV (kbRm c D) := by
  obtain ⟨⟨hn, hb⟩, hv⟩ := h
  have hbc := hb c hc.1 hc.2
  have hcc := (hv c c hc.1 hc.2 hc.1 hc.2).1
  have idx : ∀ k : Int, 0 ≤ k → k < D.1 - 1 → (0 ≤ (if c ≤ k then k + 1 else k) ∧ (if c ≤ k then k + 1 else k) < D.1 ∧ (if c ≤ k then k + 1 else k) ≠ c) := fun k k0 k1 => by split <;> omega
  have inj : ∀ j k : Int, (if c ≤ j then j + 1 else j) = (if c ≤ k then k + 1 else k) → j = k := fun j k h => by split at h <;> split at h <;> omega
  have ap : ∀ k : Int, 0 ≤ k → k < D.1 → k ≠ c → (D.2.1 k ≠ D.2.1 c ∧ D.2.1 k ≠ D.2.2.1 c) ∧ (D.2.2.1 k ≠ D.2.1 c ∧ D.2.2.1 k ≠ D.2.2.1 c) := fun k k0 k1 kc => by
    have h1 := hv k c k0 k1 hc.1 hc.2
    have h2 := hv c k hc.1 hc.2 k0 k1
    omega
  refine ⟨⟨by simp only [kbRm]; omega, fun k k0 k1 => ?_⟩, fun j k j0 j1 k0 k1 => ?_⟩
  · have k1 : k < D.1 - 1 := k1
    obtain ⟨i0, i1, i2⟩ := idx k k0 k1
    have hbi := hb _ i0 i1
    have hai := ap _ i0 i1 i2
    have e : 2 * (D.1 - 1) = 2 * D.1 - 2 := by omega
    refine ⟨?_, ?_, hbi.2.2⟩
    · show 0 ≤ kbCg _ _ _ ∧ kbCg _ _ _ < 2 * (D.1 - 1)
      rw [e]
      exact kbCg_in hbc.1 hbc.2.1 hbi.1 hai.1.1 hai.1.2 hcc
    · show 0 ≤ kbCg _ _ _ ∧ kbCg _ _ _ < 2 * (D.1 - 1)
      rw [e]
      exact kbCg_in hbc.1 hbc.2.1 hbi.2.1 hai.2.1 hai.2.2 hcc
  · have j1 : j < D.1 - 1 := j1
    have k1 : k < D.1 - 1 := k1
    obtain ⟨a0, a1, a2⟩ := idx j j0 j1
    obtain ⟨b0, b1, b2⟩ := idx k k0 k1
    have hj := ap _ a0 a1 a2
    have hk := ap _ b0 b1 b2
    have hjk := hv _ _ a0 a1 b0 b1
    refine ⟨fun e => hjk.1 (kbCg_apart hj.1.1 hj.1.2 hk.2.1 hk.2.2 hcc e), fun e => inj j k (hjk.2.1 (kbCg_apart hj.1.1 hj.1.2 hk.1.1 hk.1.2 hcc e)), fun e => inj j k (hjk.2.2 (kbCg_apart hj.2.1 hj.2.2 hk.2.1 hk.2.2 hcc e))⟩
def kbMc (p s f : Int) (D : kbD) : Int × kbD := if 0 ≤ p ∧ p ≤ 2 * D.1 then (if D.1 ≤ 6 then (0, kbAp (if f = 0 then p + 1 else p) (if f = 0 then p else p + 1) s (kbWi p D)) else (3, D)) else (1, D)
theorem kb5_putCurl {μ : knMem} {d p s f : Int} {D : kbD} (hA : kbA μ d D) (hB : kbB D) (hs : s = 0 ∨ s = 1) : kbH (kfX5_putCurl d p s f μ) (fun r => r.1 = (kbMc p s f D).1 ∧ kbA r.2 d (kbMc p s f D).2 ∧ kbFr d (d + 3) μ r.2) := by
  have h0 := hA.1
  have hn := hB.1
  unfold kfX5_putCurl kbMc
  rw [kb5_hasPlace (by omega), h0, Option.bind_some]
  by_cases h1 : 0 ≤ p ∧ p ≤ 2 * D.1
  · by_cases h2 : D.1 ≤ 6
    · simp only [if_pos h1, if_pos h2]
      rw [if_neg (by omega), knW_id (by omega)]
      refine (kb5_widen hA hn (fun k k0 k1 => by have := hB.2 k k0 k1; omega)).bind (fun μ1 ⟨a1, f1⟩ => ?_)
      refine (kb5_append a1 ⟨hn.1, by show D.1 < 7; omega⟩ hs).bind (fun μ2 ⟨a2, f2⟩ => kbH_some.mpr ⟨rfl, a2, f1.trans f2⟩)
    · simp only [if_pos h1, if_neg h2]
      rw [if_neg (by omega), kbH_some]
      exact ⟨rfl, hA, kbFr.rf⟩
  · simp only [if_neg h1]
    rw [if_pos trivial, kbH_some]
    exact ⟨rfl, hA, kbFr.rf⟩
def kbMp (a b q s : Int) (D : kbD) : Int × kbD :=
  if (0 ≤ a ∧ a ≤ 2 * D.1) ∧ (0 ≤ b ∧ b ≤ 2 * D.1) then (if D.1 ≤ 5 then
    (0, kbAp ((if a ≤ b then a else a + 2) + 1) (if q = 0 then (if a ≤ b then b + 2 else b) else (if a ≤ b then b + 2 else b) + 1) (if s = 0 then 1 else 0)
      (kbAp (if a ≤ b then a else a + 2) (if q = 0 then (if a ≤ b then b + 2 else b) + 1 else (if a ≤ b then b + 2 else b)) s (kbWi (if b < a then b else a) (kbWi (if a < b then b else a) D)))) else (3, D)) else (1, D)
theorem kb5_putPoke {μ : knMem} {d a b q s : Int} {D : kbD} (hA : kbA μ d D) (hB : kbB D) (hs : s = 0 ∨ s = 1) : kbH (kfX5_putPoke d a b q s μ) (fun r => r.1 = (kbMp a b q s D).1 ∧ kbA r.2 d (kbMp a b q s D).2 ∧ kbFr d (d + 3) μ r.2) := by
  have h0 := hA.1
  have hn := hB.1
  unfold kfX5_putPoke kbMp kfJ9_max_7cf53 kfJ9_min_7cf53
  simp only [kb5_hasPlace (μ := μ) (d := d) (by omega), h0, Option.bind_some]
  by_cases h1 : 0 ≤ a ∧ a ≤ 2 * D.1
  · by_cases h3 : 0 ≤ b ∧ b ≤ 2 * D.1
    · by_cases h2 : D.1 ≤ 5
      · simp only [if_pos h1, if_pos h3, if_pos h2, if_pos (And.intro h1 h3)]
        rw [if_neg (by omega), if_neg (by omega)]
        rw [knW_id (x := a + 2) (by omega), knW_id (x := b + 2) (by omega), knW_id (x := (if a ≤ b then b + 2 else b) + 1) (by split <;> omega), knW_id (x := (if a ≤ b then a else a + 2) + 1) (by split <;> omega)]
        refine (kb5_widen hA hn (fun k k0 k1 => by have := hB.2 k k0 k1; omega)).bind (fun μ1 ⟨a1, f1⟩ => ?_)
        refine (kb5_widen a1 hn (fun k k0 k1 => by have := hB.2 k k0 k1; simp only [kbWi]; constructor <;> split <;> omega)).bind (fun μ2 ⟨a2, f2⟩ => ?_)
        refine (kb5_append a2 ⟨hn.1, by show D.1 < 7; omega⟩ hs).bind (fun μ3 ⟨a3, f3⟩ => ?_)
        refine (kb5_append a3 ⟨by show 0 ≤ D.1 + 1; omega, by show D.1 + 1 < 7; omega⟩ (by split <;> omega)).bind (fun μ4 ⟨a4, f4⟩ => kbH_some.mpr ⟨rfl, a4, ((f1.trans f2).trans f3).trans f4⟩)
      · simp only [if_pos h1, if_pos h3, if_neg h2, if_pos (And.intro h1 h3)]
        rw [if_neg (by omega), if_neg (by omega), kbH_some]
        exact ⟨rfl, hA, kbFr.rf⟩
    · simp only [if_pos h1, if_neg h3]
      rw [if_neg (by omega), if_pos trivial, kbH_some, if_neg (fun h => h3 h.2)]
      exact ⟨rfl, hA, kbFr.rf⟩
  · simp only [if_neg h1]
    rw [if_pos trivial, kbH_some, if_neg (fun h => h1 h.1)]
    exact ⟨rfl, hA, kbFr.rf⟩
def kbMu (c : Int) (D : kbD) : Int × kbD := if 0 ≤ c ∧ c < D.1 then (if kbCu D c then (0, kbRm c D) else (4, D)) else (1, D)
theorem kb5_takeCurl {μ : knMem} {d c : Int} {D : kbD} (hA : kbA μ d D) (hB : kbB D) : kbH (kfX5_takeCurl d c μ) (fun r => r.1 = (kbMu c D).1 ∧ kbA r.2 d (kbMu c D).2 ∧ kbFr d (d + 3) μ r.2) := by
  have h0 := hA.1
  unfold kfX5_takeCurl kbMu
  rw [kb5_hasCrossing, h0, Option.bind_some]
  by_cases h1 : 0 ≤ c ∧ c < D.1
  · rw [if_pos h1, if_neg (by omega), kb5_curls hA hB h1, Option.bind_some]
    by_cases h2 : kbCu D c
    · simp only [if_pos h1, if_pos h2]
      rw [if_neg (by omega)]
      exact (kb5_remove hA hB h1).bind (fun μ1 ⟨a1, f1⟩ => kbH_some.mpr ⟨rfl, a1, f1⟩)
    · simp only [if_pos h1, if_neg h2]
      rw [if_pos trivial, kbH_some]
      exact ⟨rfl, hA, kbFr.rf⟩
  · simp only [if_neg h1]
    rw [if_pos trivial, kbH_some]
    exact ⟨rfl, hA, kbFr.rf⟩
def kbMq (a b : Int) (D : kbD) : Int × kbD := if (0 ≤ a ∧ a < D.1) ∧ (0 ≤ b ∧ b < D.1) then (if kbPk D a b then (0, kbRm (if b < a then b else a) (kbRm (if a < b then b else a) D)) else (4, D)) else (1, D)
theorem kbPk_ne {D : kbD} {a b : Int} (h : kbPk D a b) : a ≠ b := fun e => by subst e; exact h.1 rfl
theorem kb5_takePoke {μ : knMem} {d a b : Int} {D : kbD} (hA : kbA μ d D) (hV : kbV D) : kbH (kfX5_takePoke d a b μ) (fun r => r.1 = (kbMq a b D).1 ∧ kbA r.2 d (kbMq a b D).2 ∧ kbFr d (d + 3) μ r.2) := by
  have h0 := hA.1
  unfold kfX5_takePoke kbMq kfJ9_max_7cf53 kfJ9_min_7cf53
  simp only [kb5_hasCrossing, h0, Option.bind_some]
  by_cases h1 : 0 ≤ a ∧ a < D.1
  · by_cases h3 : 0 ≤ b ∧ b < D.1
    · simp only [if_pos h1, if_pos h3, if_pos (And.intro h1 h3)]
      rw [if_neg (by omega), if_neg (by omega), kb5_pokes hA hV.1 h1 h3, Option.bind_some]
      by_cases h2 : kbPk D a b
      · have hne := kbPk_ne h2
        simp only [if_pos h2]
        rw [if_neg (by omega)]
        refine (kb5_remove hA hV.1 (by split <;> omega)).bind (fun μ1 ⟨a1, f1⟩ => ?_)
        refine (kb5_remove a1 (kbV_rm hV (by split <;> omega)).1 ⟨by split <;> omega, by show _ < D.1 - 1; split <;> omega⟩).bind (fun μ2 ⟨a2, f2⟩ => kbH_some.mpr ⟨rfl, a2, f1.trans f2⟩)
      · simp only [if_neg h2]
        rw [if_pos trivial, kbH_some]
        exact ⟨rfl, hA, kbFr.rf⟩
    · simp only [if_pos h1, if_neg h3]
      rw [if_neg (by omega), if_pos trivial, kbH_some, if_neg (fun h => h3 h.2)]
      exact ⟨rfl, hA, kbFr.rf⟩
  · simp only [if_neg h1]
    rw [if_pos trivial, kbH_some, if_neg (fun h => h1 h.1)]
    exact ⟨rfl, hA, kbFr.rf⟩
def kbMs (c : Int) (D : kbD) : Int × kbD := if 0 ≤ c ∧ c < D.1 then (0, kbSw c D) else (1, D)
theorem kb5_switchOne {μ : knMem} {d c : Int} {D : kbD} (hA : kbA μ d D) (hB : kbB D) : kbH (kfX5_switchOne d c μ) (fun r => r.1 = (kbMs c D).1 ∧ kbA r.2 d (kbMs c D).2 ∧ kbFr d (d + 3) μ r.2) := by
  have h0 := hA.1
  unfold kfX5_switchOne kbMs
  rw [kb5_hasCrossing, h0, Option.bind_some]
  by_cases h1 : 0 ≤ c ∧ c < D.1
  · simp only [if_pos h1]
    rw [if_neg (by omega)]
    exact (kb5_exchange hA hB h1).bind (fun μ1 ⟨a1, f1⟩ => kbH_some.mpr ⟨rfl, a1, f1⟩)
  · simp only [if_neg h1]
    rw [if_pos trivial, kbH_some]
    exact ⟨rfl, hA, kbFr.rf⟩
def kbMt (p : Int) (D : kbD) : Int × kbD := if 0 ≤ p ∧ p < 2 * D.1 then (0, kbTn p D) else (1, D)
theorem kb5_turn {μ : knMem} {d p : Int} {D : kbD} (hA : kbA μ d D) (hB : kbB D) : kbH (kfX5_turnTo d p μ) (fun r => r.1 = (kbMt p D).1 ∧ kbA r.2 d (kbMt p D).2 ∧ kbFr d (d + 3) μ r.2) := by
  have h0 := hA.1
  have hn := hB.1
  unfold kbMt
  by_cases h1 : 0 ≤ p ∧ p < 2 * D.1
  · rw [if_pos h1]; exact kb5_turnTo hA hB h1
  · rw [if_neg h1]
    unfold kfX5_turnTo
    rw [kb5_hasPosition (by omega), h0, if_neg h1, Option.bind_some, if_pos rfl, kbH_some]
    exact ⟨rfl, hA, kbFr.rf⟩
