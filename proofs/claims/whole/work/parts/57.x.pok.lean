/-! A poke, both ways. -/
theorem kbR_poke {D : kbD} {of vr sg of1 vr1 of' vr' sg' : Int → Int} (h : kbR D of vr sg) {a b q s o u : Int} (ha : 0 ≤ a ∧ a ≤ 2 * D.1) (hb : 0 ≤ b ∧ b ≤ 2 * D.1) (hn : D.1 ≤ 5) (hs : s = 0 ∨ s = 1)
    (ho : o = if a ≤ b then a else a + 2) (hu : u = if a ≤ b then b + 2 else b)
    (h1 : ∀ k : Int, of' k = (if k = o then D.1 else if k = o + 1 then D.1 + 1 else if k = u then (if q = 0 then D.1 + 1 else D.1) else if k = u + 1 then (if q = 0 then D.1 else D.1 + 1) else of (if a ≤ b then (if k < a then k else if k < b + 2 then k - 2 else k - 4) else (if k < b then k else if k < a + 2 then k - 2 else k - 4))) ∧ vr' k = (if k = o then 1 else if k = o + 1 then 1 else if k = u then 0 else if k = u + 1 then 0 else vr (if a ≤ b then (if k < a then k else if k < b + 2 then k - 2 else k - 4) else (if k < b then k else if k < a + 2 then k - 2 else k - 4))))
    (h2 : ∀ k : Int, 0 ≤ k → k < D.1 → sg' k = sg k) (h3 : sg' D.1 = s) (h4 : sg' (D.1 + 1) = 1 - s) :
    kbR (kbAp (o + 1) (if q = 0 then u else u + 1) (if s = 0 then 1 else 0) (kbAp o (if q = 0 then u + 1 else u) s (kbWi (if b < a then b else a) (kbWi (if a < b then b else a) D)))) of' vr' sg' := by
  obtain ⟨h7, hA, hP⟩ := h
  have hwd : ∀ x : Int, 0 ≤ x → x < 2 * D.1 → ∃ y : Int, y = (x + (if x < (if a < b then b else a) then 0 else 2)) + (if x + (if x < (if a < b then b else a) then 0 else 2) < (if b < a then b else a) then 0 else 2) ∧ 0 ≤ y ∧ y < 2 * D.1 + 4 ∧ y ≠ o ∧ y ≠ o + 1 ∧ y ≠ u ∧ y ≠ u + 1 ∧ (if a ≤ b then (if y < a then y else if y < b + 2 then y - 2 else y - 4) else (if y < b then y else if y < a + 2 then y - 2 else y - 4)) = x := by
    intro x x0 x1
    refine ⟨_, rfl, ?_⟩
    rw [ho, hu]
    by_cases hab : a ≤ b
    · simp (disch := omega) only [if_pos hab]
      by_cases e1 : x < a
      · have : (if a < b then b else a) > x := by split <;> omega
        simp (disch := omega) only [if_pos, if_neg]
        omega
      · by_cases e2 : x < b
        · simp (disch := omega) only [if_pos, if_neg]
          omega
        · by_cases e3 : a < b
          · simp (disch := omega) only [if_pos, if_neg]
            omega
          · simp (disch := omega) only [if_pos, if_neg]
            omega
    · simp (disch := omega) only [if_neg hab]
      by_cases e1 : x < b
      · simp (disch := omega) only [if_pos, if_neg]
        omega
      · by_cases e2 : x < a
        · simp (disch := omega) only [if_pos, if_neg]
          omega
        · simp (disch := omega) only [if_pos, if_neg]
          omega
  have hback : ∀ k : Int, 0 ≤ k → k < 2 * D.1 + 4 → k ≠ o → k ≠ o + 1 → k ≠ u → k ≠ u + 1 → ∃ x : Int, 0 ≤ x ∧ x < 2 * D.1 ∧ x = (if a ≤ b then (if k < a then k else if k < b + 2 then k - 2 else k - 4) else (if k < b then k else if k < a + 2 then k - 2 else k - 4)) ∧ (x + (if x < (if a < b then b else a) then 0 else 2)) + (if x + (if x < (if a < b then b else a) then 0 else 2) < (if b < a then b else a) then 0 else 2) = k := by
    intro k k0 k1 n1 n2 n3 n4
    rw [ho] at n1 n2
    rw [hu] at n3 n4
    refine ⟨_, ?_, ?_, rfl, ?_⟩
    all_goals
      by_cases hab : a ≤ b
      · simp only [if_pos hab] at n1 n2 n3 n4 ⊢
        by_cases e1 : k < a
        · have : (if a < b then b else a) > k := by split <;> omega
          simp (disch := omega) only [if_pos, if_neg]
          try omega
        · by_cases e2 : k < b + 2
          · simp (disch := omega) only [if_pos, if_neg]
            try omega
          · by_cases e3 : a < b
            · simp (disch := omega) only [if_pos, if_neg]
              try omega
            · simp (disch := omega) only [if_pos, if_neg]
              try omega
      · simp only [if_neg hab] at n1 n2 n3 n4 ⊢
        by_cases e1 : k < b
        · simp (disch := omega) only [if_pos, if_neg]
          try omega
        · by_cases e2 : k < a + 2
          · simp (disch := omega) only [if_pos, if_neg]
            try omega
          · simp (disch := omega) only [if_pos, if_neg]
            try omega
  have hou : (0 ≤ o ∧ o + 1 < 2 * D.1 + 4) ∧ (0 ≤ u ∧ u + 1 < 2 * D.1 + 4) ∧ (o + 1 < u ∨ u + 1 < o) := by rw [ho, hu]; split <;> omega
  clear ho hu
  refine ⟨⟨by show 0 ≤ D.1 + 1 + 1; omega, by show D.1 + 1 + 1 ≤ 7; omega⟩, fun c c0 c1 => ?_, fun k k0 k1 => ?_⟩
  · have c1 : c < D.1 + 1 + 1 := c1
    show (0 ≤ _ ∧ _ < 2 * (D.1 + 1 + 1) ∧ _ ∧ _) ∧ (0 ≤ _ ∧ _ < 2 * (D.1 + 1 + 1) ∧ _ ∧ _) ∧ _ ∧ _
    by_cases hc : c = D.1 + 1
    · subst hc
      simp only [kbAp, kbWi]
      simp only [if_true, (h1 _).1, (h1 _).2]
      by_cases hq : q = 0
      · simp (disch := omega) only [if_pos hq, if_pos, if_neg, if_true]
        exact ⟨⟨by omega, by omega, trivial, trivial⟩, ⟨by omega, by omega, trivial, trivial⟩, by rw [h4]; split <;> omega, by split <;> omega⟩
      · simp (disch := omega) only [if_neg hq, if_pos, if_neg, if_true]
        exact ⟨⟨by omega, by omega, trivial, trivial⟩, ⟨by omega, by omega, trivial, trivial⟩, by rw [h4]; split <;> omega, by split <;> omega⟩
    · have n1 := kbApN (D := kbAp o (if q = 0 then u + 1 else u) s (kbWi (if b < a then b else a) (kbWi (if a < b then b else a) D))) (o := o + 1) (u := if q = 0 then u else u + 1) (s := if s = 0 then 1 else 0) (k := c) hc
      by_cases hc2 : c = D.1
      · subst hc2
        rw [n1.1, n1.2.1, n1.2.2]
        simp only [kbAp, kbWi]
        simp only [if_true, (h1 _).1, (h1 _).2]
        by_cases hq : q = 0
        · simp (disch := omega) only [if_pos hq, if_pos, if_neg, if_true]
          exact ⟨⟨by omega, by omega, trivial, trivial⟩, ⟨by omega, by omega, trivial, trivial⟩, h3, hs⟩
        · simp (disch := omega) only [if_neg hq, if_pos, if_neg, if_true]
          exact ⟨⟨by omega, by omega, trivial, trivial⟩, ⟨by omega, by omega, trivial, trivial⟩, h3, hs⟩
      · have hAc := hA c c0 (by omega)
        have n2 := kbApN (D := kbWi (if b < a then b else a) (kbWi (if a < b then b else a) D)) (o := o) (u := if q = 0 then u + 1 else u) (s := s) (k := c) hc2
        rw [n1.1, n1.2.1, n1.2.2, n2.1, n2.2.1, n2.2.2]
        obtain ⟨y, ey, y0, y1, y2, y3, y4, y5, y6⟩ := hwd _ hAc.1.1 hAc.1.2.1
        obtain ⟨z, ez, z0, z1, z2, z3, z4, z5, z6⟩ := hwd _ hAc.2.1.1 hAc.2.1.2.1
        rw [show (kbWi (if b < a then b else a) (kbWi (if a < b then b else a) D)).2.1 c = y from ey.symm, show (kbWi (if b < a then b else a) (kbWi (if a < b then b else a) D)).2.2.1 c = z from ez.symm, show (kbWi (if b < a then b else a) (kbWi (if a < b then b else a) D)).2.2.2 c = D.2.2.2 c from rfl, h2 c c0 (by omega), (h1 y).1, (h1 y).2, (h1 z).1, (h1 z).2, if_neg y2, if_neg y3, if_neg y4, if_neg y5, if_neg y2, if_neg y3, if_neg y4, if_neg y5, if_neg z2, if_neg z3, if_neg z4, if_neg z5, if_neg z2, if_neg z3, if_neg z4, if_neg z5, y6, z6]
        exact ⟨⟨y0, by omega, hAc.1.2.2⟩, ⟨z0, by omega, hAc.2.1.2.2⟩, hAc.2.2⟩
  · have k1 : k < 2 * (D.1 + 1 + 1) := k1
    show (_ ∧ _ < D.1 + 1 + 1) ∧ _
    simp only [kbAp, kbWi]
    by_cases g1 : k = o
    · subst g1
      rw [(h1 k).1, (h1 k).2]
      simp (disch := omega) only [if_true, if_pos, if_neg]
      exact ⟨by omega, Or.inl ⟨trivial, trivial⟩⟩
    · by_cases g2 : k = o + 1
      · subst g2
        rw [(h1 (o + 1)).1, (h1 (o + 1)).2]
        simp (disch := omega) only [if_true, if_pos, if_neg]
        exact ⟨by omega, Or.inl ⟨trivial, trivial⟩⟩
      · by_cases g3 : k = u
        · subst g3
          rw [(h1 k).1, (h1 k).2]
          by_cases hq : q = 0
          · simp (disch := omega) only [if_pos hq, if_true, if_pos, if_neg]
            exact ⟨by omega, Or.inr ⟨trivial, trivial⟩⟩
          · simp (disch := omega) only [if_neg hq, if_true, if_pos, if_neg]
            exact ⟨by omega, Or.inr ⟨trivial, trivial⟩⟩
        · by_cases g4 : k = u + 1
          · subst g4
            rw [(h1 (u + 1)).1, (h1 (u + 1)).2]
            by_cases hq : q = 0
            · simp (disch := omega) only [if_pos hq, if_true, if_pos, if_neg]
              exact ⟨by omega, Or.inr ⟨trivial, trivial⟩⟩
            · simp (disch := omega) only [if_neg hq, if_true, if_pos, if_neg]
              exact ⟨by omega, Or.inr ⟨trivial, trivial⟩⟩
          · obtain ⟨x, x0, x1, x2, x3⟩ := hback k k0 (by omega) g1 g2 g3 g4
            have hPx := hP x x0 x1
            rw [(h1 k).1, (h1 k).2]
            simp only [if_neg g1, if_neg g2, if_neg g3, if_neg g4, ← x2]
            simp (disch := omega) only [if_neg]
            refine ⟨by omega, ?_⟩
            rcases hPx.2 with ⟨w1, w2⟩ | ⟨w1, w2⟩
            · left; rw [w2]; exact ⟨w1, x3⟩
            · right; rw [w2]; exact ⟨w1, x3⟩
