/-! Bets, states, the history: of the class, of the reference. -/
/-- bets: how many players, the house, coins, guesses, stakes -/
abbrev kbY : Type := Int × Int × (Int → Int) × (Int → Int) × (Int → Int)
abbrev kbZ : Type := kbD × kbY
def kbCb (μ : knMem) (b : Int) (B : kbY) : Prop := μ b 3 = B.1 ∧ μ b 4 = B.2.1 ∧ ∀ k : Int, 0 ≤ k → k < B.1 → μ (b + 1) k = B.2.2.1 k ∧ μ (b + 3) k = B.2.2.2.2 k ∧ (B.2.2.2.2 k ≠ 0 → μ (b + 2) k = B.2.2.2.1 k)
def kbRb (w : Int → Int) (B : kbY) : Prop := w 1 = B.1 ∧ w 2 = B.2.1 ∧ (∀ k : Int, 0 ≤ k → k < B.1 → w (3 + k) = B.2.2.1 k ∧ w (11 + k) = B.2.2.2.2 k ∧ (B.2.2.2.2 k ≠ 0 → w (7 + k) = B.2.2.2.1 k)) ∧ ∀ k : Int, B.1 ≤ k → k < 4 → w (11 + k) = 0
def kbBv (B : kbY) : Prop := (0 ≤ B.1 ∧ B.1 ≤ 4) ∧ 0 ≤ B.2.1 ∧ (∀ k : Int, 0 ≤ k → k < B.1 → 0 ≤ B.2.2.1 k ∧ 0 ≤ B.2.2.2.2 k ∧ B.2.2.2.2 k ≤ 99) ∧ kbSm B.2.2.1 B.1.toNat + kbSm B.2.2.2.2 B.1.toNat + B.2.1 = 100 * B.1
def kbCs (μ : knMem) (s : Int) (S : kbZ) : Prop := kbA μ (s + 1) S.1 ∧ kbCb μ (s + 5) S.2
def kbRs (w : Int → Int) (S : kbZ) : Prop := kbW w S.1 ∧ kbRb w S.2 ∧ kbBv S.2
theorem kbCb.fr {lo hi b : Int} {μ μ1 : knMem} {B : kbY} (h : kbCb μ b B) (hf : kbFr lo hi μ μ1) (hd : b + 3 < lo ∨ hi < b) : kbCb μ1 b B := by
  refine ⟨by rw [hf b (by omega)]; exact h.1, by rw [hf b (by omega)]; exact h.2.1, fun k h0 h1 => ?_⟩
  rw [hf (b + 1) (by omega), hf (b + 2) (by omega), hf (b + 3) (by omega)]
  exact h.2.2 k h0 h1
theorem kbCs.fr {lo hi s : Int} {μ μ1 : knMem} {S : kbZ} (h : kbCs μ s S) (hf : kbFr lo hi μ μ1) (hd : s + 8 < lo ∨ hi < s) : kbCs μ1 s S := ⟨h.1.fr hf (by omega), h.2.fr hf (by omega)⟩
/-- by rows that are the same -/
theorem kbCs.sm {s : Int} {μ μ1 : knMem} {S : kbZ} (h : kbCs μ s S) (hf : ∀ o : Int, s ≤ o → o ≤ s + 8 → μ1 o = μ o) : kbCs μ1 s S := by
  refine ⟨⟨by rw [hf (s + 1) (by omega) (by omega)]; exact h.1.1, fun k h0 h1 => ?_⟩, by rw [hf (s + 5) (by omega) (by omega)]; exact h.2.1, by rw [hf (s + 5) (by omega) (by omega)]; exact h.2.2.1, fun k h0 h1 => ?_⟩
  · rw [hf (s + 1 + 1) (by omega) (by omega), hf (s + 1 + 2) (by omega) (by omega), hf (s + 1 + 3) (by omega) (by omega)]
    exact h.1.2 k h0 h1
  · rw [hf (s + 5 + 1) (by omega) (by omega), hf (s + 5 + 2) (by omega) (by omega), hf (s + 5 + 3) (by omega) (by omega)]
    exact h.2.2.2 k h0 h1
theorem kbRs.congr {w w' : Int → Int} {S : kbZ} (h : kbRs w S) (he : ∀ i : Int, 0 ≤ i → i < 50 → w' i = w i) : kbRs w' S := by
  obtain ⟨⟨h0, hR⟩, ⟨b0, b1, b2, b3⟩, hv⟩ := h
  have hn := hR.1
  have hm := hv.1
  refine ⟨⟨by rw [he 0 (by omega) (by omega)]; exact h0, hR.congr (fun k k0 k1 => ⟨he _ (by omega) (by omega), he _ (by omega) (by omega)⟩) (fun k k0 k1 => he _ (by omega) (by omega))⟩, ⟨?_, ?_, fun k k0 k1 => ?_, fun k k0 k1 => ?_⟩, hv⟩
  · rw [he 1 (by omega) (by omega)]; exact b0
  · rw [he 2 (by omega) (by omega)]; exact b1
  · rw [he (3 + k) (by omega) (by omega), he (11 + k) (by omega) (by omega), he (7 + k) (by omega) (by omega)]
    exact b2 k k0 k1
  · rw [he (11 + k) (by omega) (by omega)]
    exact b3 k k0 k1
theorem kb1_copyFrom {μ : knMem} {a b : Int} {B : kbY} (hC : kbCb μ b B) (hB : 0 ≤ B.1 ∧ B.1 ≤ 4) (hab : a + 3 < b ∨ b + 3 < a) : kbH (kfX1_copyFrom a b μ) (fun μ' => kbCb μ' a B ∧ kbFr a (a + 3) μ μ') := by
  obtain ⟨h0, h1, h2⟩ := hC
  unfold kfX1_copyFrom
  refine kbLoop (fun n i s => kfX1_copyFrom_l18 a b (fun w9 => some w9) n i s) (fun i s => 0 ≤ i ∧ s a 3 = B.1 ∧ s a 4 = B.2.1 ∧ (∀ k : Int, 0 ≤ k → k < i → s (a + 1) k = B.2.2.1 k ∧ s (a + 3) k = B.2.2.2.2 k ∧ (B.2.2.2.2 k ≠ 0 → s (a + 2) k = B.2.2.2.1 k)) ∧ kbFr a (a + 3) μ s) B.1 _ ?_ ?_ _ _ _ (by omega) (by rw [kbF]; omega) ?_
  · intro n i s hi ⟨i0, hc, hh, hr, hf⟩ kk
    simp only [kfX1_copyFrom_l18, kbH_ite, kbH_gd]
    refine ⟨fun h => by omega, fun _ => ⟨by omega, ?_⟩⟩
    rw [knW_id (by omega)]
    have e1 : s (b + 1) = μ (b + 1) := hf _ (by omega)
    have e2 : s (b + 2) = μ (b + 2) := hf _ (by omega)
    have e3 : s (b + 3) = μ (b + 3) := hf _ (by omega)
    have hk := h2 i i0 hi
    refine kk _ ⟨by omega, ?_, ?_, ?_, ((hf.up (by omega)).up (by omega)).up (by omega)⟩
    · simp (disch := omega) only [kbUp, if_neg]
      exact hc
    · simp (disch := omega) only [kbUp, if_neg]
      exact hh
    · intro k k0 k1
      by_cases hki : k = i
      · subst hki
        simp (disch := omega) only [kbUp, if_pos, if_neg, and_true, true_and, if_true, e1, e2, e3]
        exact hk
      · simp (disch := omega) only [kbUp, if_neg]
        exact hr k k0 (by omega)
  · intro n s ⟨i0, hc, hh, hr, hf⟩
    simp only [kfX1_copyFrom_l18, kbH_ite, kbH_some]
    exact ⟨fun _ => ⟨⟨hc, hh, hr⟩, hf⟩, fun h => by omega⟩
  · refine ⟨by omega, ?_, ?_, fun k _ _ => by omega, (kbFr.rf.up (by omega)).up (by omega)⟩
    · simp (disch := omega) only [kbUp, if_pos, if_neg, and_true, true_and, if_true]
      exact h0
    · simp (disch := omega) only [kbUp, if_pos, if_neg, and_true, true_and, if_true]
      exact h1
theorem kb10_copyFrom {μ : knMem} {a b : Int} {S : kbZ} (hC : kbCs μ b S) (hB : kbB S.1) (hY : 0 ≤ S.2.1 ∧ S.2.1 ≤ 4) (hab : a + 8 < b ∨ b + 8 < a) : kbH (kfX10_copyFrom a b μ) (fun μ' => kbCs μ' a S ∧ kbFr (a + 1) (a + 8) μ μ') := by
  unfold kfX10_copyFrom
  refine (kb5_copyFrom hC.1 hB (by omega)).bind (fun μ1 ⟨a1, f1⟩ => ?_)
  refine (kb1_copyFrom (hC.2.fr f1 (by omega)) hY (by omega)).bind (fun μ2 ⟨a2, f2⟩ => kbH_some.mpr ⟨⟨a1.fr f2 (by omega), a2⟩, (f1.wd (by omega) (by omega)).trans (f2.wd (by omega) (by omega))⟩)
theorem kbRs.B {w : Int → Int} {S : kbZ} (h : kbRs w S) : kbB S.1 := h.1.2.B
theorem kbRs.V {w : Int → Int} {S : kbZ} (h : kbRs w S) : kbV S.1 := h.1.2.V
/-- the histories go together -/
def kbHi (μ : knMem) : Prop := (0 ≤ μ 23 1 ∧ μ 23 1 ≤ 8) ∧ (0 ≤ μ 23 2 ∧ μ 23 2 ≤ 8) ∧ μ 142 5 = μ 23 2 ∧ (0 ≤ μ 142 6 ∧ μ 142 6 ≤ 7) ∧
  ∀ j : Int, 1 ≤ j → j ≤ μ 23 2 → ∃ S : kbZ, kbCs μ (25 + 9 * ((μ 23 1 - j) % 9)) S ∧ kbRs (fun k => μ 144 (50 * ((μ 142 6 + μ 23 2 - j) % 8) + k)) S
theorem kbHi.put {μ μ' : knMem} {S : kbZ} (h : kbHi μ) (hS : kbCs μ' (25 + 9 * μ 23 1) S)
    (hf : ∀ o : Int, 25 ≤ o → o ≤ 105 → (o < 25 + 9 * μ 23 1 ∨ 25 + 9 * μ 23 1 + 8 < o) → μ' o = μ o)
    (h1 : μ' 23 1 = if μ 23 1 = 8 then 0 else μ 23 1 + 1) (h2 : μ' 23 2 = if μ 23 2 = 8 then 8 else μ 23 2 + 1) (h5 : μ' 142 5 = μ' 23 2) (h6 : μ' 142 6 = if μ 23 2 = 8 then (μ 142 6 + 1) % 8 else μ 142 6)
    (hr : kbRs (fun k => μ' 144 (50 * ((μ 142 6 + μ 23 2) % 8) + k)) S)
    (hw : ∀ i : Int, (i < 50 * ((μ 142 6 + μ 23 2) % 8) ∨ 50 * ((μ 142 6 + μ 23 2) % 8) + 50 ≤ i) → μ' 144 i = μ 144 i) : kbHi μ' := by
  obtain ⟨n0, k0, c0, f0, hj⟩ := h
  refine ⟨by rw [h1]; split <;> omega, by rw [h2]; split <;> omega, h5, by rw [h6]; split <;> omega, fun j j1 j2 => ?_⟩
  by_cases hj1 : j = 1
  · subst hj1
    refine ⟨S, ?_, ?_⟩
    · have e : (μ' 23 1 - 1) % 9 = μ 23 1 := by rw [h1]; split <;> omega
      rw [e]; exact hS
    · have e : (μ' 142 6 + μ' 23 2 - 1) % 8 = (μ 142 6 + μ 23 2) % 8 := by rw [h6, h2]; split <;> omega
      rw [e]; exact hr
  · have hk : j - 1 ≤ μ 23 2 := by rw [h2] at j2; split at j2 <;> omega
    have hk7 : j - 1 ≤ 7 := by rw [h2] at j2; split at j2 <;> omega
    obtain ⟨T, t1, t2⟩ := hj (j - 1) (by omega) hk
    refine ⟨T, ?_, ?_⟩
    · have e : (μ' 23 1 - j) % 9 = (μ 23 1 - (j - 1)) % 9 := by rw [h1]; split <;> omega
      rw [e]
      refine t1.sm (fun o o0 o1 => hf o (by omega) (by omega) ?_)
      omega
    · have e : (μ' 142 6 + μ' 23 2 - j) % 8 = (μ 142 6 + μ 23 2 - (j - 1)) % 8 := by rw [h6, h2]; split <;> omega
      rw [e]
      refine t2.congr (fun i i0 i1 => hw _ ?_)
      omega
/-- rows that hold histories are the same -/
theorem kbHi.sm {μ μ' : knMem} (h : kbHi μ) (hf : ∀ o : Int, 25 ≤ o → o ≤ 105 → μ' o = μ o) (h1 : μ' 23 1 = μ 23 1) (h2 : μ' 23 2 = μ 23 2) (h5 : μ' 142 5 = μ 142 5) (h6 : μ' 142 6 = μ 142 6) (hw : μ' 144 = μ 144) : kbHi μ' := by
  obtain ⟨n0, k0, c0, f0, hj⟩ := h
  unfold kbHi
  rw [h1, h2, h5, h6, hw]
  refine ⟨n0, k0, c0, f0, fun j j1 j2 => ?_⟩
  obtain ⟨T, t1, t2⟩ := hj j j1 j2
  exact ⟨T, t1.sm (fun o o0 o1 => hf o (by omega) (by omega)), t2⟩
/-- all of it -/
def kbIv (μ : knMem) : Prop :=
  (∃ S : kbZ, kbCs μ 1 S ∧ kbRs (μ 143) S) ∧ kbHi μ ∧
  ((μ 0 11 = 0 ∧ μ 142 7 = 0) ∨ (μ 0 11 = 1 ∧ μ 142 7 = 1 ∧ ∃ S : kbZ, kbCs μ 10 S ∧ kbRs (μ 145) S)) ∧
  ((0 ≤ μ 137 2 ∧ μ 137 2 ≤ 60) ∧ μ 142 21 = μ 137 2 ∧ ∀ k : Int, 0 ≤ k → k < μ 137 2 → μ 157 k = μ 138 k ∧ 32 ≤ μ 138 k ∧ μ 138 k ≤ 126) ∧
  ((0 ≤ μ 140 1 ∧ μ 140 1 ≤ 256) ∧ μ 142 19 = μ 140 1 ∧ ∀ k : Int, 0 ≤ k → k < μ 140 1 → μ 156 k = μ 141 k) ∧
  (μ 142 23 = μ 0 12 ∧ -1 ≤ μ 0 12) ∧ (μ 142 24 = μ 0 13 ∧ -1 ≤ μ 0 13)
/-- nothing has changed of what kbIv speaks of -/
def kbK (μ μ' : knMem) : Prop := (∀ o : Int, (0 ≤ o ∧ o ≤ 18) ∨ (23 ≤ o ∧ o ≤ 105) ∨ o = 138 ∨ o = 140 ∨ o = 141 ∨ (143 ≤ o ∧ o ≤ 145) ∨ o = 156 ∨ o = 157 → μ' o = μ o) ∧
  (∀ i : Int, i ≠ 0 → i ≠ 8 → i ≠ 22 → i ≠ 26 → i ≠ 27 → μ' 142 i = μ 142 i) ∧ μ' 137 2 = μ 137 2
theorem kbK.rf {μ : knMem} : kbK μ μ := ⟨fun _ _ => rfl, fun _ _ _ _ _ _ => rfl, rfl⟩
theorem kbK.trans {μ μ1 μ2 : knMem} (h : kbK μ μ1) (h2 : kbK μ1 μ2) : kbK μ μ2 := ⟨fun o ho => (h2.1 o ho).trans (h.1 o ho), fun i a b c d e => (h2.2.1 i a b c d e).trans (h.2.1 i a b c d e), h2.2.2.trans h.2.2⟩
theorem kbK.up {o k v : Int} {μ μ' : knMem} (h : kbK μ μ') (ho : (19 ≤ o ∧ o ≤ 22) ∨ (106 ≤ o ∧ o ≤ 136) ∨ (o = 137 ∧ k ≠ 2) ∨ o = 139 ∨ (o = 142 ∧ (k = 0 ∨ k = 8 ∨ k = 22 ∨ k = 26 ∨ k = 27)) ∨ (146 ≤ o ∧ o ≤ 155) ∨ (158 ≤ o ∧ o ≤ 160)) : kbK μ (knUp μ' o k v) := by
  refine ⟨fun p hp => ?_, fun i a b c d e => ?_, ?_⟩
  · rw [knUp_ne (by omega)]; exact h.1 p hp
  · rw [kbUp, if_neg (by omega)]; exact h.2.1 i a b c d e
  · rw [kbUp, if_neg (by omega)]; exact h.2.2
theorem kbFr.K {lo hi : Int} {μ μ' : knMem} (h : kbFr lo hi μ μ') (hh : (19 ≤ lo ∧ hi ≤ 22) ∨ (106 ≤ lo ∧ hi ≤ 136) ∨ (146 ≤ lo ∧ hi ≤ 155)) : kbK μ μ' := ⟨fun o ho => h o (by omega), fun i _ _ _ _ _ => by rw [h 142 (by omega)], by rw [h 137 (by omega)]⟩
theorem kbFz.K {μ μ' : knMem} (h : kbFz μ μ') : kbK μ μ' := ⟨fun o ho => h.1 o (by omega) (by omega), fun i _ i8 _ _ _ => h.2 i i8, by rw [h.1 137 (by omega) (by omega)]⟩
theorem kbIv.K {μ μ' : knMem} (h : kbIv μ) (k : kbK μ μ') : kbIv μ' := by
  obtain ⟨⟨S, s1, s2⟩, hh, hs, ht, ho, he, hf⟩ := h
  obtain ⟨k1, k2, k3⟩ := k
  unfold kbIv
  rw [k3, k1 143 (by omega), k1 0 (by omega), k1 145 (by omega), k1 157 (by omega), k1 138 (by omega), k1 140 (by omega), k1 156 (by omega), k1 141 (by omega), k2 7 (by omega) (by omega) (by omega) (by omega) (by omega), k2 21 (by omega) (by omega) (by omega) (by omega) (by omega), k2 19 (by omega) (by omega) (by omega) (by omega) (by omega), k2 23 (by omega) (by omega) (by omega) (by omega) (by omega), k2 24 (by omega) (by omega) (by omega) (by omega) (by omega)]
  refine ⟨⟨S, s1.sm (fun o o0 o1 => k1 o (by omega)), s2⟩, hh.sm (fun o o0 o1 => k1 o (by omega)) (by rw [k1 23 (by omega)]) (by rw [k1 23 (by omega)]) (k2 5 (by omega) (by omega) (by omega) (by omega) (by omega)) (k2 6 (by omega) (by omega) (by omega) (by omega) (by omega)) (k1 144 (by omega)), ?_, ht, ho, he, hf⟩
  rcases hs with hs | ⟨a, b, T, t1, t2⟩
  · exact Or.inl hs
  · exact Or.inr ⟨a, b, T, t1.sm (fun o o0 o1 => k1 o (by omega)), t2⟩
