/-! The case of a rendered diagram. -/
/-- nothing but texts has changed -/
def kbKt (μ μ' : knMem) : Prop := (∀ o : Int, (0 ≤ o ∧ o ≤ 18) ∨ (23 ≤ o ∧ o ≤ 105) ∨ o = 138 ∨ (143 ≤ o ∧ o ≤ 145) ∨ o = 157 → μ' o = μ o) ∧
  (∀ i : Int, i ≠ 0 → i ≠ 8 → i ≠ 19 → i ≠ 22 → i ≠ 26 → i ≠ 27 → μ' 142 i = μ 142 i) ∧ μ' 137 2 = μ 137 2
theorem kbKt.trans {μ μ1 μ2 : knMem} (h : kbKt μ μ1) (h2 : kbKt μ1 μ2) : kbKt μ μ2 := ⟨fun o ho => (h2.1 o ho).trans (h.1 o ho), fun i a b c d e f => (h2.2.1 i a b c d e f).trans (h.2.1 i a b c d e f), h2.2.2.trans h.2.2⟩
theorem kbK.t {μ μ' : knMem} (h : kbK μ μ') : kbKt μ μ' := ⟨fun o ho => h.1 o (by omega), fun i a b _ d e f => h.2.1 i a b d e f, h.2.2⟩
theorem kbT7.t {μ μ' : knMem} (h : kbT7 μ μ') : kbKt μ μ' := ⟨fun o ho => h o (by omega) (by omega), fun i _ _ _ _ _ _ => by rw [h 142 (by omega) (by omega)], by rw [h 137 (by omega) (by omega)]⟩
theorem kbT13.t {μ μ' : knMem} (h : kbT13 μ μ') : kbKt μ μ' := ⟨fun o ho => h.1 o (by omega) (by omega), fun i _ _ c _ _ _ => h.2 i c, by rw [h.1 137 (by omega) (by omega)]⟩
theorem kbIv.text {μ μ' : knMem} {t : List Int} (h : kbIv μ) (k : kbKt μ μ') (h7 : kbX7 μ' t) (h13 : kbX13 μ' t) (hl : t.length ≤ 256) : kbIv μ' := by
  obtain ⟨⟨S, s1, s2⟩, hh, hs, ht, -, he, hf⟩ := h
  obtain ⟨k1, k2, k3⟩ := k
  unfold kbIv
  rw [k3, k1 143 (by omega), k1 0 (by omega), k1 145 (by omega), k1 157 (by omega), k1 138 (by omega), k2 7 (by omega) (by omega) (by omega) (by omega) (by omega) (by omega), k2 21 (by omega) (by omega) (by omega) (by omega) (by omega) (by omega), k2 23 (by omega) (by omega) (by omega) (by omega) (by omega) (by omega), k2 24 (by omega) (by omega) (by omega) (by omega) (by omega) (by omega)]
  refine ⟨⟨S, s1.sm (fun o o0 o1 => k1 o (by omega)), s2⟩, hh.sm (fun o o0 o1 => k1 o (by omega)) (by rw [k1 23 (by omega)]) (by rw [k1 23 (by omega)]) (k2 5 (by omega) (by omega) (by omega) (by omega) (by omega) (by omega)) (k2 6 (by omega) (by omega) (by omega) (by omega) (by omega) (by omega)) (k1 144 (by omega)), ?_, ht, ⟨?_, ?_, fun k k0 k1' => ?_⟩, he, hf⟩
  · rcases hs with hs | ⟨a, b, T, t1, t2⟩
    · exact Or.inl hs
    · exact Or.inr ⟨a, b, T, t1.sm (fun o o0 o1 => k1 o (by omega)), t2⟩
  · have := h7.1; omega
  · rw [h7.1, h13.1]
  · have e := h7.1
    have e2 : ((k.toNat : Nat) : Int) = k := by omega
    have a := h7.2 k.toNat (by omega)
    have b := h13.2 k.toNat (by omega)
    rw [e2] at a b
    rw [a, b]
def kbPs (of vr sg : Int → Int) (p : Int) : List Int := (if p ≤ 0 then [] else [32]) ++ [if vr p = 1 then 111 else 117] ++ kbNu (of p) ++ [if sg (of p) = 1 then 43 else 45]
def kbDt (of vr sg : Int → Int) : Nat → List Int
  | 0 => []
  | n + 1 => kbDt of vr sg n ++ kbPs of vr sg n
theorem kbPs_le (of vr sg : Int → Int) (p : Int) : (kbPs of vr sg p).length ≤ 8 := by
  unfold kbPs
  have := kbNu_le (of p)
  split <;> simp <;> omega
theorem kbDt_le (of vr sg : Int → Int) : ∀ n : Nat, (kbDt of vr sg n).length ≤ 8 * n
  | 0 => by simp [kbDt]
  | n + 1 => by
    have h1 := kbDt_le of vr sg n
    have h2 := kbPs_le of vr sg n
    unfold kbDt
    rw [List.length_append]
    omega
theorem kb12_renderDiagram {μ : knMem} {D : kbD} {of vr sg : Int → Int} (hA : kbA μ 2 D) (hR : kbR D of vr sg) : kbH (kfX12_renderDiagram μ) (fun r => r.1 = (kbDt of vr sg (2 * D.1).toNat).length ∧ kbX7 r.2 (kbDt of vr sg (2 * D.1).toNat) ∧ kbT7 μ r.2) := by
  have hn := hR.1
  unfold kfX12_renderDiagram kfX7_clear
  rw [Option.bind_some]
  refine kbLoop (fun n i s => kfX12_renderDiagram_l9 (fun w70 => some ((w70 140 1), w70)) n i s) (fun i s => 0 ≤ i ∧ kbX7 s (kbDt of vr sg i.toNat) ∧ kbT7 μ s) (2 * D.1) _ ?_ ?_ _ _ _ (by omega) (by rw [kbF]; omega) ⟨by omega, ⟨kbUpS _ _ _ _, fun k hk => absurd hk (by simp [kbDt])⟩, fun o o1 o2 => knUp_ne o1⟩
  · intro n i s hi ⟨i0, hx, hf⟩ kk
    have hl := kbDt_le of vr sg i.toNat
    have ha : ∀ s' : knMem, kbT7 μ s' → kbA s' 2 D := fun s' h => by
      refine ⟨by rw [h 2 (by omega) (by omega)]; exact hA.1, fun k k0 k1 => ?_⟩
      rw [h (2 + 1) (by omega) (by omega), h (2 + 2) (by omega) (by omega), h (2 + 3) (by omega) (by omega)]
      exact hA.2 k k0 k1
    have hp := hR.2.2 i i0 hi
    have hc := hR.2.1 (of i) hp.1.1 hp.1.2
    simp only [kfX12_renderDiagram_l9, kfX5_passes, Option.bind_some, kbH_ite]
    rw [show s 2 3 = D.1 from (ha s hf).1, knW_id (x := 2 * D.1) (by omega), knW_id (x := i + 1) (by omega)]
    refine ⟨fun h => by omega, fun _ => ?_⟩
    refine kbH.bind (P := fun s1 => kbX7 s1 (kbDt of vr sg i.toNat ++ (if i ≤ 0 then [] else [32])) ∧ kbT7 s s1) ?_ (fun s1 ⟨x1, f1⟩ => ?_)
    · by_cases hz : i ≤ 0
      · rw [if_pos hz, if_pos hz, List.append_nil]
        exact kbH_some.mpr ⟨hx, kbT7.rf⟩
      · rw [if_neg hz, if_neg hz]
        refine (kb7_put hx (by omega)).bind (fun s' ⟨a1, a2⟩ => kbH_some.mpr ⟨by rw [(kbCh (x := 32) (by omega)).1] at a1; exact a1, a2⟩)
    · have g1 := ha s1 (hf.trans f1)
      have l1 : (kbDt of vr sg i.toNat ++ (if i ≤ 0 then [] else [32]) : List Int).length ≤ 8 * i.toNat + 1 := by rw [List.length_append]; split <;> simp <;> omega
      rw [kb5_passesOver (v := vr i) g1 hn (by
        rcases hp.2 with h | h
        · exact Or.inr ⟨h.1, _, hp.1.1, hp.1.2, h.2⟩
        · exact Or.inl ⟨h.1, fun c c0 c1 h9 => (hR.V.2 c _ c0 c1 hp.1.1 hp.1.2).1 (h9.trans h.2.symm)⟩), Option.bind_some]
      have e1 : (if vr i = 0 then 117 else 111 : Int) = if vr i = 1 then 111 else 117 := by rcases hp.2 with h | h <;> rw [h.1] <;> rfl
      rw [e1]
      refine (kb7_put x1 (by omega)).bind (fun s2 ⟨x2, f2⟩ => ?_)
      rw [(kbCh (x := if vr i = 1 then 111 else 117) (by split <;> omega)).1] at x2
      have g2 := ha s2 ((hf.trans f1).trans f2)
      rw [kb5_crossingOf g2 hR.V hp.1 (by rcases hp.2 with h | h; exact Or.inl h.2; exact Or.inr h.2), Option.bind_some]
      refine (kb7_putNumber (v := of i) (by omega) x2 (by rw [List.length_append]; simp only [List.length_cons, List.length_nil]; omega)).bind (fun s3 ⟨x3, f3⟩ => ?_)
      have g3 := ha s3 (((hf.trans f1).trans f2).trans f3)
      have ep : kfX5_positiveAt 2 i s3 = some (sg (of i)) := by
        unfold kfX5_positiveAt
        rw [kb5_crossingOf g3 hR.V hp.1 (by rcases hp.2 with h | h; exact Or.inl h.2; exact Or.inr h.2), Option.bind_some, kb5_hasCrossing, show s3 2 3 = D.1 from g3.1, if_pos hp.1, Option.bind_some]
        simp only
        rw [if_neg (show ¬ (1 : Int) = 0 by omega), kbGd (by omega), (g3.2 (of i) hp.1.1 hp.1.2).2.2, hc.2.2.1]
        rcases hc.2.2.2 with h | h <;> rw [h] <;> rfl
      rw [ep, Option.bind_some]
      have e2 : (if sg (of i) = 0 then 45 else 43 : Int) = if sg (of i) = 1 then 43 else 45 := by rw [hc.2.2.1]; rcases hc.2.2.2 with h | h <;> rw [h] <;> rfl
      rw [e2]
      have l3 := kbNu_le (of i)
      refine (kb7_put x3 (by rw [List.length_append, List.length_append]; simp only [List.length_cons, List.length_nil]; omega)).bind (fun s4 ⟨x4, f4⟩ => ?_)
      rw [(kbCh (x := if sg (of i) = 1 then 43 else 45) (by split <;> omega)).1] at x4
      refine kk s4 ⟨by omega, ?_, ((((hf.trans f1).trans f2).trans f3).trans f4)⟩
      have e : (i + 1).toNat = i.toNat + 1 := by omega
      have e9 : ((i.toNat : Nat) : Int) = i := by omega
      rw [e]
      unfold kbDt kbPs
      rw [e9]
      simp only [List.append_assoc] at x4 ⊢
      exact x4
  · intro n s ⟨i0, hx, hf⟩
    simp only [kfX12_renderDiagram_l9, kfX5_passes, Option.bind_some, kbH_ite]
    rw [show s 2 3 = D.1 from by rw [hf 2 (by omega) (by omega)]; exact hA.1, knW_id (x := 2 * D.1) (by omega)]
    exact ⟨fun _ => kbH_some.mpr ⟨hx.1, hx, hf⟩, fun h => by omega⟩
theorem kb13_renderDiagram {μ : knMem} {D : kbD} (hL : kbL μ D) (h0 : μ 142 19 = 0) : kbH (kfX13_renderDiagram_l16 (fun w62 => some ((w62 142 19), w62)) knF 0 μ) (fun r => r.1 = (kbDt (μ 147) (μ 148) (μ 149) (2 * D.1).toNat).length ∧ kbX13 r.2 (kbDt (μ 147) (μ 148) (μ 149) (2 * D.1).toNat) ∧ kbT13 μ r.2) := by
  have hn := hL.2.1
  refine kbLoop (fun n i s => kfX13_renderDiagram_l16 (fun w62 => some ((w62 142 19), w62)) n i s) (fun i s => 0 ≤ i ∧ kbX13 s (kbDt (μ 147) (μ 148) (μ 149) i.toNat) ∧ kbT13 μ s) (2 * D.1) _ ?_ ?_ _ _ _ (by omega) (by rw [kbF]; omega) ⟨by omega, ⟨h0, fun k hk => absurd hk (by simp [kbDt])⟩, kbT13.rf⟩
  · intro n i s hi ⟨i0, hx, hf⟩ kk
    have hl := kbDt_le (μ 147) (μ 148) (μ 149) i.toNat
    have hp := hL.2.2.2 i i0 hi
    have e8 : ∀ s' : knMem, kbT13 μ s' → s' 142 8 = D.1 := fun s' h => (h.2 8 (by omega)).trans hL.1
    simp only [kfX13_renderDiagram_l16, kbH_ite]
    rw [e8 s hf, knW_id (x := 2 * D.1) (by omega), knW_id (x := i + 1) (by omega)]
    refine ⟨fun h => by omega, fun _ => ?_⟩
    refine kbH.bind (P := fun s1 => kbX13 s1 (kbDt (μ 147) (μ 148) (μ 149) i.toNat ++ (if i ≤ 0 then [] else [32])) ∧ kbT13 s s1) ?_ (fun s1 ⟨x1, f1⟩ => ?_)
    · by_cases hz : i ≤ 0
      · rw [if_pos hz, if_pos hz, List.append_nil]
        exact kbH_some.mpr ⟨hx, kbT13.rf⟩
      · rw [if_neg hz, if_neg hz]
        refine (kb13_writes hx (by omega)).bind (fun s' ⟨a1, a2⟩ => kbH_some.mpr ⟨by rw [(kbCh (x := 32) (by omega)).2, (kbCh (x := 32) (by omega)).1] at a1; exact a1, a2⟩)
    · have l1 : (kbDt (μ 147) (μ 148) (μ 149) i.toNat ++ (if i ≤ 0 then [] else [32]) : List Int).length ≤ 8 * i.toNat + 1 := by rw [List.length_append]; split <;> simp <;> omega
      have r1 := hf.trans f1
      rw [kbGd (by omega), r1.1 148 (by omega) (by omega)]
      refine (kb13_writes x1 (by omega)).bind (fun s2 ⟨x2, f2⟩ => ?_)
      rw [(kbCh (x := if μ 148 i = 1 then 111 else 117) (by split <;> omega)).2, (kbCh (x := if μ 148 i = 1 then 111 else 117) (by split <;> omega)).1] at x2
      have r2 := r1.trans f2
      rw [r2.1 147 (by omega) (by omega)]
      refine (kb13_writesNumber (v := μ 147 i) (by omega) x2 (by rw [List.length_append]; simp only [List.length_cons, List.length_nil]; omega)).bind (fun s3 ⟨x3, f3⟩ => ?_)
      have r3 := r2.trans f3
      rw [r3.1 147 (by omega) (by omega), r3.1 149 (by omega) (by omega), kbGd (by omega)]
      have l3 := kbNu_le (μ 147 i)
      refine (kb13_writes x3 (by rw [List.length_append, List.length_append]; simp only [List.length_cons, List.length_nil]; omega)).bind (fun s4 ⟨x4, f4⟩ => ?_)
      rw [(kbCh (x := if μ 149 (μ 147 i) = 1 then 43 else 45) (by split <;> omega)).2, (kbCh (x := if μ 149 (μ 147 i) = 1 then 43 else 45) (by split <;> omega)).1] at x4
      refine kk s4 ⟨by omega, ?_, r3.trans f4⟩
      have e : (i + 1).toNat = i.toNat + 1 := by omega
      have e9 : ((i.toNat : Nat) : Int) = i := by omega
      rw [e]
      unfold kbDt kbPs
      rw [e9]
      simp only [List.append_assoc] at x4 ⊢
      exact x4
  · intro n s ⟨i0, hx, hf⟩
    simp only [kfX13_renderDiagram_l16, kbH_ite]
    rw [hf.2 8 (by omega), hL.1, knW_id (x := 2 * D.1) (by omega)]
    exact ⟨fun _ => kbH_some.mpr ⟨hx.1, hx, hf⟩, fun h => by omega⟩
theorem kbDt_congr {of vr sg of' vr' sg' : Int → Int} : ∀ n : Nat, (∀ k : Int, 0 ≤ k → k < n → of' k = of k ∧ vr' k = vr k ∧ sg' (of k) = sg (of k)) → kbDt of' vr' sg' n = kbDt of vr sg n
  | 0, _ => rfl
  | n + 1, h => by
    unfold kbDt kbPs
    have h1 := h n (by omega) (by omega)
    rw [kbDt_congr n (fun k k0 k1 => h k k0 (by omega)), h1.1, h1.2.1, h1.2.2]
theorem kbLk_48 {μ : knMem} (hI : kbIv μ) (x1 x2 x3 x4 : Int) : kbH (kfLc_48 x1 x2 x3 x4 μ) kbIv := by
  obtain ⟨⟨S, hC, hR⟩, -⟩ := id hI
  have hn := hR.1.2.1
  unfold kfLc_48
  obtain ⟨t, ht⟩ : ∃ t : List Int, t = kbDt (fun k => μ 143 (22 + k)) (fun k => μ 143 (36 + k)) (fun k => μ 143 (15 + k)) (2 * S.1.1).toNat := ⟨_, rfl⟩
  have hl := kbDt_le (fun k => μ 143 (22 + k)) (fun k => μ 143 (36 + k)) (fun k => μ 143 (15 + k)) (2 * S.1.1).toNat
  rw [← ht] at hl
  refine kbPl3 (P := fun m => kbX7 m t ∧ kbT7 μ m) (v := t.length) ?_ (fun μ1 ⟨h1, h2⟩ => ?_)
  · rw [ht]
    exact kb12_renderDiagram hC.1 hR.1.2
  · have hW : kbW (knUp μ1 142 0 0 143) S.1 := by rw [kbUp3, h2 143 (by omega) (by omega)]; exact hR.1
    unfold kfX13_renderDiagram
    refine (kb13_loads hW).bind (fun q1 ⟨a1, f1⟩ => ?_)
    have a2 : kbL (knUp q1 142 19 0) S.1 := by
      refine ⟨by rw [kbUp, if_neg (by omega)]; exact a1.1, ?_⟩
      rw [knUp_ne (by omega), knUp_ne (by omega), knUp_ne (by omega)]
      exact a1.2
    refine (kb13_renderDiagram a2 (kbUpS _ _ _ _)).mono (fun r ⟨r1, r2, r3⟩ => ?_)
    have et : kbDt (knUp q1 142 19 0 147) (knUp q1 142 19 0 148) (knUp q1 142 19 0 149) (2 * S.1.1).toNat = t := by
      rw [ht, knUp_ne (by omega), knUp_ne (by omega), knUp_ne (by omega)]
      have e147 : ∀ k : Int, 0 ≤ k → k < 2 * S.1.1 → q1 147 k = μ 143 (22 + k) ∧ q1 148 k = μ 143 (36 + k) := by
        intro k k0 k1
        have b1 := a1.2.2.2 k k0 k1
        have b2 := hR.1.2.2.2 k k0 k1
        dsimp only at b2
        have b3 : q1 147 k = μ 143 (22 + k) := hR.V.at b1.1 b2.1 (by rcases b1.2 with h | h; exact Or.inl h.2; exact Or.inr h.2) (by rcases b2.2 with h | h; exact Or.inl h.2; exact Or.inr h.2)
        refine ⟨b3, ?_⟩
        rw [b3] at b1
        have b4 := (hR.V.2 _ _ b2.1.1 b2.1.2 b2.1.1 b2.1.2).1
        rcases b1.2 with ⟨c1, c2⟩ | ⟨c1, c2⟩ <;> rcases b2.2 with ⟨d1, d2⟩ | ⟨d1, d2⟩
        · rw [c1, d1]
        · exact absurd (c2.trans d2.symm) b4
        · exact absurd (d2.trans c2.symm) b4
        · rw [c1, d1]
      refine kbDt_congr _ (fun k k0 k1 => ?_)
      have b1 := e147 k k0 (by omega)
      have b2 := hR.1.2.2.2 k k0 (by omega)
      dsimp only at b2
      refine ⟨b1.1, b1.2, ?_⟩
      rw [(a1.2.2.1 _ b2.1.1 b2.1.2).2.2.1]
      exact ((hR.1.2.2.1 _ b2.1.1 b2.1.2).2.2.1).symm
    rw [et] at r1 r2
    refine ⟨r1, hI.text (t := t) ?_ ?_ r2 (by omega)⟩
    · have k1 : kbKt q1 (knUp q1 142 19 0) := ⟨fun o ho => knUp_ne (by omega), fun i _ _ _ _ _ _ => by rw [kbUp, if_neg (by omega)], by rw [knUp_ne (by omega)]⟩
      exact ((h2.t.trans (kbK.l f1).1.t).trans k1).trans r3.t
    · have ex : ∀ o : Int, o = 140 ∨ o = 141 → r.2 o = μ1 o := fun o ho => by
        rw [r3.1 o (by omega) (by omega), knUp_ne (by omega), f1.1 o (by omega) (by omega), knUp_ne (by omega)]
      unfold kbX7
      rw [ex 140 (by omega), ex 141 (by omega)]
      exact h1
