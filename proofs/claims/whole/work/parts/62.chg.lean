/-! A change: the class's half, the reference's half. -/
/-- the class has staged S, come to S' and, at k = 0, kept it -/
def kbPost (μ μ1 : knMem) (S S' : kbZ) (k : Int) : Prop :=
  ((∀ o : Int, o = 0 ∨ (10 ≤ o ∧ o ≤ 18) ∨ o = 138 ∨ o = 140 ∨ o = 141 ∨ (142 ≤ o ∧ o ≤ 158) → μ1 o = μ o) ∧ μ1 137 2 = μ 137 2) ∧ kbCs μ1 1 S' ∧
  ((0 ≤ μ 23 1 ∧ μ 23 1 ≤ 8) ∧ ∀ o : Int, 25 ≤ o → o ≤ 105 → (o < 25 + 9 * μ 23 1 ∨ 25 + 9 * μ 23 1 + 8 < o) → μ1 o = μ o) ∧ kbCs μ1 (25 + 9 * μ 23 1) S ∧
  μ1 23 1 = (if k = 0 then (if μ 23 1 = 8 then 0 else μ 23 1 + 1) else μ 23 1) ∧ μ1 23 2 = (if k = 0 then (if μ 23 2 = 8 then 8 else μ 23 2 + 1) else μ 23 2)
theorem kbPost.out {μ μ1 : knMem} {S S' : kbZ} {k v : Int} (h : kbPost μ μ1 S S' k) : kbPost μ (knUp μ1 159 0 v) S S' k := by
  obtain ⟨⟨h1, h2⟩, h3, ⟨h0, h4⟩, h5, h6, h7⟩ := h
  have hx : ∀ o : Int, o ≠ 159 → knUp μ1 159 0 v o = μ1 o := fun o ho => knUp_ne ho
  exact ⟨⟨fun o ho => by rw [hx o (by omega)]; exact h1 o ho, by rw [hx 137 (by omega)]; exact h2⟩, h3.sm (fun o _ _ => hx o (by omega)), ⟨h0, fun o o0 o1 ho => by rw [hx o (by omega)]; exact h4 o o0 o1 ho⟩, h5.sm (fun o o0 o1 => hx o (by omega)), by rw [hx 23 (by omega)]; exact h6, by rw [hx 23 (by omega)]; exact h7⟩
theorem kb12_finish0 {μ : knMem} (hn : 0 ≤ μ 23 1 ∧ μ 23 1 ≤ 8) (hk : 0 ≤ μ 23 2 ∧ μ 23 2 ≤ 8) : kfX12_finishChange 0 μ = some (0, knUp (knUp μ 23 1 (if μ 23 1 = 8 then 0 else μ 23 1 + 1)) 23 2 (if μ 23 2 = 8 then 8 else μ 23 2 + 1)) := by
  unfold kfX12_finishChange kfX12_raise
  simp only [kb6_keep hn hk, Option.bind_some, if_true]
  rfl
theorem kb12_finishN {μ : knMem} {c : Int} (hc : 1 ≤ c ∧ c ≤ 5) : kfX12_finishChange c μ = some (c, μ) := by
  unfold kfX12_finishChange kfX12_raise
  have h : c = 1 ∨ c = 2 ∨ c = 3 ∨ c = 4 ∨ c = 5 := by omega
  rcases h with rfl | rfl | rfl | rfl | rfl <;> rfl
/-- staged, moved, kept or refused -/
theorem kb12_chg {α : Type} {μ : knMem} {S S' : kbZ} {c : Int} (hC : kbCs μ 1 S) (hB : kbB S.1) (hY : 0 ≤ S.2.1 ∧ S.2.1 ≤ 4) (hH : kbHi μ) {M : knMem → Option (Int × knMem)} {R : Int × knMem → Option α} {Q : α → Prop}
    (hM : ∀ q1 : knMem, kbCs q1 1 S → kbH (M q1) (fun r => r.1 = c ∧ kbCs r.2 1 S' ∧ kbFr 1 9 q1 r.2)) (hc : 0 ≤ c ∧ c ≤ 5)
    (hR : ∀ q7 : Int × knMem, q7.1 = c → kbPost μ q7.2 S S' c → kbH (R q7) Q) :
    kbH (Option.bind (kfX6_stage 1 μ) (fun q1 => Option.bind (M q1) (fun q4 => Option.bind (kfX12_finishChange q4.1 q4.2) R))) Q := by
  obtain ⟨n0, k0, -⟩ := hH
  refine (kb6_stage hC hB hY n0).bind (fun μ1 ⟨a1, f1⟩ => ?_)
  have hC1 : kbCs μ1 1 S := hC.fr f1 (by omega)
  refine (hM μ1 hC1).bind (fun r ⟨r1, r2, r3⟩ => ?_)
  have g1 : r.2 23 = μ 23 := (r3 23 (by omega)).trans (f1 23 (by omega))
  have hs : kbCs r.2 (25 + 9 * μ 23 1) S := a1.fr r3 (by omega)
  have hx : ∀ o : Int, (o = 0 ∨ 9 < o) → (o < 25 + 9 * μ 23 1 + 1 ∨ 25 + 9 * μ 23 1 + 8 < o) → r.2 o = μ o := fun o h1 h2 => (r3 o (by omega)).trans (f1 o (by omega))
  rw [r1]
  by_cases h0 : c = 0
  · subst h0
    rw [kb12_finish0 (by rw [g1]; exact n0) (by rw [g1]; exact k0), Option.bind_some, g1]
    have hy : ∀ (o v w : Int), o ≠ 23 → knUp (knUp r.2 23 1 v) 23 2 w o = r.2 o := fun o v w ho => by rw [knUp_ne ho, knUp_ne ho]
    have hp : kbPost μ (knUp (knUp r.2 23 1 (if μ 23 1 = 8 then 0 else μ 23 1 + 1)) 23 2 (if μ 23 2 = 8 then 8 else μ 23 2 + 1)) S S' 0 := by
     refine ⟨⟨fun o ho => ?_, ?_⟩, r2.sm (fun o _ _ => hy o _ _ (by omega)), ⟨n0, fun o o0 o1 o2 => ?_⟩, hs.sm (fun o _ _ => hy o _ _ (by omega)), ?_, ?_⟩
     · rw [hy o _ _ (by omega)]; exact hx o (by omega) (by omega)
     · rw [hy 137 _ _ (by omega), hx 137 (by omega) (by omega)]
     · rw [hy o _ _ (by omega)]; exact hx o (by omega) (by omega)
     · rw [kbUp, if_neg (by omega), kbUp, if_pos (by omega)]; rfl
     · rw [kbUp, if_pos (by omega)]; rfl
    exact hR _ rfl hp
  · rw [kb12_finishN (by omega), Option.bind_some]
    refine hR _ rfl ⟨⟨fun o ho => hx o (by omega) (by omega), by rw [hx 137 (by omega) (by omega)]⟩, r2, ⟨n0, fun o o0 o1 o2 => hx o (by omega) (by omega)⟩, hs, ?_, ?_⟩
    · rw [if_neg h0, g1]
    · rw [if_neg h0, g1]
theorem kbPost.Km {μ μ1 : knMem} {S S' : kbZ} {k : Int} (h : kbPost μ μ1 S S' k) : kbKm μ μ1 := ⟨fun o ho => h.1.1 o (by omega), fun i _ _ _ _ _ _ _ => by rw [h.1.1 142 (by omega)], h.1.2⟩
/-- refused: nothing of it is left -/
theorem kbPost.no {μ μ1 μ2 : knMem} {S : kbZ} {k : Int} (hI : kbIv μ) (hR : kbRs (μ 143) S) (h : kbPost μ μ1 S S k) (hk : k ≠ 0) (h2 : kbK μ1 μ2) : kbIv μ2 := by
  refine kbIv.K (hI.mk h.Km ⟨S, h.2.1, by rw [h.1.1 143 (by omega)]; exact hR⟩ ?_) h2
  obtain ⟨n0, k0, c0, f0, hj⟩ := hI.2.1
  obtain ⟨⟨h1, -⟩, -, ⟨-, h4⟩, h5, h6, h7⟩ := h
  rw [if_neg hk] at h6 h7
  unfold kbHi
  rw [h6, h7, h1 142 (by omega), h1 144 (by omega)]
  refine ⟨n0, k0, c0, f0, fun j j1 j2 => ?_⟩
  obtain ⟨T, t1, t2⟩ := hj j j1 j2
  exact ⟨T, t1.sm (fun o o0 o1 => h4 o (by omega) (by omega) (by omega)), t2⟩
/-- done: the reference remembers, and does it too -/
theorem kbPost.yes {μ μ1 q : knMem} {S S' : kbZ} (hI : kbIv μ) (hR : kbRs (μ 143) S) (h : kbPost μ μ1 S S' 0) (h2 : kbK μ1 q) :
    kbH (kfX13_remembers q) (fun q5 => kbRs (q5 143) S ∧ q5 142 0 = q 142 0 ∧ q5 159 = q 159 ∧ ∀ μ3 : knMem, kbFw q5 μ3 → kbRs (μ3 143) S' → kbIv μ3) := by
  obtain ⟨n0, k0, c0, f0, -⟩ := hI.2.1
  have hH := hI.2.1
  obtain ⟨⟨h1, h1b⟩, h3, ⟨-, h4⟩, h5, h6, h7⟩ := id h
  have e5 : q 142 5 = μ 23 2 := by rw [h2.2.1 5 (by omega) (by omega) (by omega) (by omega) (by omega), h1 142 (by omega)]; exact c0
  have e6 : q 142 6 = μ 142 6 := by rw [h2.2.1 6 (by omega) (by omega) (by omega) (by omega) (by omega), h1 142 (by omega)]
  have e143 : q 143 = μ 143 := (h2.1 143 (by omega)).trans (h1 143 (by omega))
  have e144 : q 144 = μ 144 := (h2.1 144 (by omega)).trans (h1 144 (by omega))
  refine (kb13_remembers (μ := q) (by omega) (by omega)).mono (fun q5 ⟨b1, b2, b3, b4, b5, b6⟩ => ?_)
  rw [e5, e6] at b2 b3 b4
  rw [e5] at b1
  have f143 : q5 143 = μ 143 := (b6 143 (by omega) (by omega) (by omega)).trans e143
  refine ⟨by rw [f143]; exact hR, b5 0 (by omega) (by omega), b6 159 (by omega) (by omega) (by omega), fun μ3 g1 g2 => ?_⟩
  have hq : ∀ o : Int, o ≠ 142 → o ≠ 143 → o ≠ 144 → (o < 146 ∨ 149 < o) → μ3 o = q o := fun o o1 o2 o3 o4 => (g1.1 o o1 o2 (by omega)).trans (b6 o o1 o3 (by omega))
  have hq2 : ∀ o : Int, (0 ≤ o ∧ o ≤ 18) ∨ (23 ≤ o ∧ o ≤ 105) → μ3 o = μ1 o := fun o ho => (hq o (by omega) (by omega) (by omega) (by omega)).trans (h2.1 o (by omega))
  have km : kbKm μ μ3 := by
    refine (h.Km.trans h2.m).trans ⟨fun o ho => hq o (by omega) (by omega) (by omega) (by omega), fun i i0 i5 i6 i8 _ _ _ => (g1.2 i i8).trans (b5 i i5 i6), by rw [hq 137 (by omega) (by omega) (by omega) (by omega)]⟩
  refine hI.mk km ⟨S', h3.sm (fun o _ _ => hq2 o (by omega)), g2⟩ (hH.put (S := S) (h5.sm (fun o _ _ => hq2 o (by omega))) (fun o o0 o1 o2 => (hq2 o (by omega)).trans (h4 o o0 o1 o2)) ?_ ?_ ?_ ?_ ?_ ?_)
  · rw [hq2 23 (by omega), h6, if_pos rfl]
  · rw [hq2 23 (by omega), h7, if_pos rfl]
  · rw [g1.2 5 (by omega), b1, hq2 23 (by omega), h7, if_pos rfl]
  · rw [g1.2 6 (by omega), b2]
  · rw [g1.1 144 (by omega) (by omega) (by omega)]
    refine hR.congr (fun i i0 i1 => ?_)
    show q5 144 (50 * ((μ 142 6 + μ 23 2) % 8) + i) = μ 143 i
    rw [b3 i i0 i1, e143]
  · rw [g1.1 144 (by omega) (by omega) (by omega)]
    intro i hi
    rw [b4 i hi, e144]
/-- a case's end -/
theorem kbEnd {c b : Int} {q4 : knMem} (h0 : q4 142 0 = c) (h1 : c = 0 → q4 159 0 = b) (hI : kbIv q4) :
    kbH (Option.bind (kfX13_thrown q4) (fun q7 => if q7 = c then (fun (k14 : Unit → Option knMem) => if c = 0 then if knLcmp (q4 159 0) b = 0 then k14 () else none else k14 ()) (fun _ => some q4) else none)) kbIv := by
  unfold kfX13_thrown
  rw [Option.bind_some, if_pos h0]
  by_cases hc : c = 0
  · simp only [if_pos hc]
    have e : knLcmp (q4 159 0) b = 0 := by rw [h1 hc]; simp [knLcmp]
    rw [if_pos e]
    exact kbH_some.mpr hI
  · simp only [if_neg hc]
    exact kbH_some.mpr hI
