/-! The reference: pokes put, turned, turned round, mirrored; its writhe. -/
theorem kbMd0 {x m : Int} (h : 0 ≤ x ∧ x < m) : x % m = x := Int.emod_eq_of_lt h.1 h.2
theorem kbMd1 {x m : Int} (h : m ≤ x ∧ x < 2 * m) : x % m = x - m := by
  have e : x = (x - m) + m := by omega
  rw [e, Int.add_emod_right, Int.emod_eq_of_lt (by omega) (by omega)]
  omega
theorem kbMdN {x m : Int} (h : -m ≤ x ∧ x < 0) : x % m = x + m := by
  have e : x % m = (x + m) % m := by rw [Int.add_emod_right]
  rw [e, Int.emod_eq_of_lt (by omega) (by omega)]
theorem kb13_addsPoke {μ : knMem} {D : kbD} (hW : kbW (μ 143) D) {a b q s : Int} (ha : 0 ≤ a ∧ a ≤ 2 * D.1) (hb : 0 ≤ b ∧ b ≤ 2 * D.1) (hn : D.1 ≤ 5) (hs : s = 0 ∨ s = 1) (hq : q = 0 ∨ q = 1) :
    kbH (kfX13_addsPoke a b q s μ) (fun r => r.1 = D.1 ∧ kbW (r.2 143) (kbMp a b q s D).2 ∧ (∀ i : Int, 1 ≤ i → i ≤ 14 → r.2 143 i = μ 143 i) ∧ kbFw μ r.2) := by
  have hM : (kbMp a b q s D).2 = kbAp ((if a ≤ b then a else a + 2) + 1) (if q = 0 then (if a ≤ b then b + 2 else b) else (if a ≤ b then b + 2 else b) + 1) (if s = 0 then 1 else 0)
      (kbAp (if a ≤ b then a else a + 2) (if q = 0 then (if a ≤ b then b + 2 else b) + 1 else (if a ≤ b then b + 2 else b)) s (kbWi (if b < a then b else a) (kbWi (if a < b then b else a) D))) := by
    unfold kbMp; rw [if_pos ⟨ha, hb⟩, if_pos hn]
  rw [hM]
  unfold kfX13_addsPoke
  refine (kb13_loads hW).bind (fun μ1 ⟨a1, f1⟩ => ?_)
  have h8 := a1.1
  have hn0 := a1.2.1
  rw [h8, knW_id (x := 2 * D.1) (by omega), knW_id (x := D.1 + 1) (by omega), knW_id (x := a + 2) (by omega), knW_id (x := b + 2) (by omega), knW_id (x := 2 * D.1 + 2) (by omega), knW_id (x := 1 - s) (by omega)]
  have fin : ∀ μ3 : knMem, (∀ k : Int, 0 ≤ k → k < 2 * (D.1 + 2) → μ3 147 k = (if k = (if a ≤ b then a else a + 2) then D.1 else if k = (if a ≤ b then a else a + 2) + 1 then D.1 + 1 else if k = (if a ≤ b then b + 2 else b) then (if q = 0 then D.1 + 1 else D.1) else if k = (if a ≤ b then b + 2 else b) + 1 then (if q = 0 then D.1 else D.1 + 1) else μ1 147 (if a ≤ b then (if k < a then k else if k < b + 2 then k - 2 else k - 4) else (if k < b then k else if k < a + 2 then k - 2 else k - 4))) ∧ μ3 148 k = (if k = (if a ≤ b then a else a + 2) then 1 else if k = (if a ≤ b then a else a + 2) + 1 then 1 else if k = (if a ≤ b then b + 2 else b) then 0 else if k = (if a ≤ b then b + 2 else b) + 1 then 0 else μ1 148 (if a ≤ b then (if k < a then k else if k < b + 2 then k - 2 else k - 4) else (if k < b then k else if k < a + 2 then k - 2 else k - 4)))) → μ3 142 8 = D.1 → μ3 149 = μ1 149 → kbFz μ μ3 →
      kbH (knGd (0 ≤ D.1 ∧ D.1 < 7) (knGd (0 ≤ D.1 + 1 ∧ D.1 + 1 < 7) (Option.bind (kfX13_stores (knUp (knUp (knUp μ3 149 D.1 s) 149 (D.1 + 1) (1 - s)) 142 8 (knW (((knUp (knUp μ3 149 D.1 s) 149 (D.1 + 1) (1 - s)) 142 8) + 2)))) (fun q28 => some (D.1, q28))))) (fun r => r.1 = D.1 ∧ kbW (r.2 143) (kbAp ((if a ≤ b then a else a + 2) + 1) (if q = 0 then (if a ≤ b then b + 2 else b) else (if a ≤ b then b + 2 else b) + 1) (if s = 0 then 1 else 0)
      (kbAp (if a ≤ b then a else a + 2) (if q = 0 then (if a ≤ b then b + 2 else b) + 1 else (if a ≤ b then b + 2 else b)) s (kbWi (if b < a then b else a) (kbWi (if a < b then b else a) D)))) ∧ (∀ i : Int, 1 ≤ i → i ≤ 14 → r.2 143 i = μ 143 i) ∧ kbFw μ r.2) := by
    intro μ3 e1 e8 e9 ef
    rw [kbGd (by omega), kbGd (by omega), show knUp (knUp μ3 149 D.1 s) 149 (D.1 + 1) (1 - s) 142 8 = D.1 from by rw [kbUp, if_neg (by omega), kbUp, if_neg (by omega)]; exact e8, knW_id (x := D.1 + 2) (by omega)]
    have hL : kbL (knUp (knUp (knUp μ3 149 D.1 s) 149 (D.1 + 1) (1 - s)) 142 8 (D.1 + 2)) (kbAp ((if a ≤ b then a else a + 2) + 1) (if q = 0 then (if a ≤ b then b + 2 else b) else (if a ≤ b then b + 2 else b) + 1) (if s = 0 then 1 else 0)
      (kbAp (if a ≤ b then a else a + 2) (if q = 0 then (if a ≤ b then b + 2 else b) + 1 else (if a ≤ b then b + 2 else b)) s (kbWi (if b < a then b else a) (kbWi (if a < b then b else a) D)))) := by
      refine ⟨by rw [kbUp, if_pos (by omega)]; show D.1 + 2 = D.1 + 1 + 1; omega, ?_⟩
      refine (kbR_poke (of1 := fun _ => 0) (vr1 := fun _ => 0) (sg' := knUp (knUp (knUp μ3 149 D.1 s) 149 (D.1 + 1) (1 - s)) 142 8 (D.1 + 2) 149) a1.2 ha hb hn hs rfl rfl (fun k => ⟨rfl, rfl⟩) (fun k k0 k1 => ?_) ?_ ?_).congr (fun k k0 k1 => ?_) (fun k k0 k1 => rfl)
      · simp (disch := omega) only [kbUp, if_pos, if_neg, and_true, true_and, if_true]
        rw [e9]
      · simp (disch := omega) only [kbUp, if_pos, if_neg, and_true, true_and, if_true]
      · simp (disch := omega) only [kbUp, if_pos, if_neg, and_true, true_and, if_true]
      · rw [knUp_ne (by omega), knUp_ne (by omega), knUp_ne (by omega), knUp_ne (by omega), knUp_ne (by omega), knUp_ne (by omega)]
        have k1 : k < 2 * (D.1 + 1 + 1) := k1
        exact e1 k k0 (by omega)
    have hf2 : kbFz μ (knUp (knUp (knUp μ3 149 D.1 s) 149 (D.1 + 1) (1 - s)) 142 8 (D.1 + 2)) := ((ef.up (Or.inl (by omega))).up (Or.inl (by omega))).up (Or.inr ⟨rfl, rfl⟩)
    exact (kb13_stores hL).bind (fun μ5 ⟨d1, d2, d3⟩ => kbH_some.mpr ⟨rfl, d1, fun i i0 i1 => (d2 i i0 i1).trans (congrFun (hf2.1 143 (by omega) (by omega)) i), hf2.st d3⟩)
  by_cases hab : b < a
  · rw [if_pos hab]
    have hab2 : ¬ a ≤ b := by omega
    refine (kbH.bind (P := fun μ3 => _ ∧ μ3 142 8 = D.1 ∧ μ3 149 = μ1 149 ∧ kbFz μ μ3) ?_ (fun μ3 h3 => fin μ3 h3.1 h3.2.1 h3.2.2.1 h3.2.2.2))
    refine (kb13_insertsTwo (m := 2 * D.1) (by omega)).bind (fun μ2 ⟨b1, b8, b9, bf⟩ => ?_)
    refine (kb13_insertsTwo (q := a + 2) (m := 2 * D.1 + 2) (by omega)).bind (fun μ3 ⟨c1, c8, c9, cf⟩ => kbH_some.mpr ⟨fun k k0 k1 => ?_, (c8.trans b8).trans h8, c9.trans b9, (f1.trans bf).trans cf⟩)
    rw [(c1 k).1, (c1 k).2]
    simp only [if_neg hab2]
    unfold kbI2
    by_cases g1 : k < b
    · simp (disch := omega) only [(b1 _).1, (b1 _).2, kbI2, if_pos, if_neg, and_self]
    · by_cases g2 : k = b
      · subst g2
        rcases hq with hq | hq <;> subst hq <;> simp (disch := omega) only [(b1 _).1, (b1 _).2, kbI2, if_pos, if_neg, and_self, if_true] <;> trivial
      · by_cases g3 : k = b + 1
        · subst g3
          rcases hq with hq | hq <;> subst hq <;> simp (disch := omega) only [(b1 _).1, (b1 _).2, kbI2, if_pos, if_neg, and_self, if_true] <;> trivial
        · by_cases g4 : k < a + 2
          · simp (disch := omega) only [(b1 _).1, (b1 _).2, kbI2, if_pos, if_neg, and_self]
          · by_cases g5 : k = a + 2
            · subst g5
              simp (disch := omega) only [if_pos, if_neg, and_self, if_true]
            · by_cases g6 : k = a + 2 + 1
              · subst g6
                simp (disch := omega) only [if_pos, if_neg, and_self, if_true]
              · simp (disch := omega) only [(b1 _).1, (b1 _).2, kbI2, if_pos, if_neg]
                rw [show k - 2 - 2 = k - 4 by omega]
                exact ⟨rfl, rfl⟩
  · rw [if_neg hab]
    have hab2 : a ≤ b := by omega
    refine (kbH.bind (P := fun μ3 => _ ∧ μ3 142 8 = D.1 ∧ μ3 149 = μ1 149 ∧ kbFz μ μ3) ?_ (fun μ3 h3 => fin μ3 h3.1 h3.2.1 h3.2.2.1 h3.2.2.2))
    refine (kb13_insertsTwo (m := 2 * D.1) (by omega)).bind (fun μ2 ⟨b1, b8, b9, bf⟩ => ?_)
    refine (kb13_insertsTwo (q := b + 2) (m := 2 * D.1 + 2) (by omega)).bind (fun μ3 ⟨c1, c8, c9, cf⟩ => kbH_some.mpr ⟨fun k k0 k1 => ?_, (c8.trans b8).trans h8, c9.trans b9, (f1.trans bf).trans cf⟩)
    rw [(c1 k).1, (c1 k).2]
    simp only [if_pos hab2]
    unfold kbI2
    by_cases g1 : k < a
    · simp (disch := omega) only [(b1 _).1, (b1 _).2, kbI2, if_pos, if_neg, and_self]
    · by_cases g2 : k = a
      · subst g2
        simp (disch := omega) only [(b1 _).1, (b1 _).2, kbI2, if_pos, if_neg, and_self, if_true]
      · by_cases g3 : k = a + 1
        · subst g3
          simp (disch := omega) only [(b1 _).1, (b1 _).2, kbI2, if_pos, if_neg, and_self, if_true]
        · by_cases g4 : k < b + 2
          · simp (disch := omega) only [(b1 _).1, (b1 _).2, kbI2, if_pos, if_neg, and_self]
          · by_cases g5 : k = b + 2
            · subst g5
              rcases hq with hq | hq <;> subst hq <;> simp (disch := omega) only [if_pos, if_neg, and_self, if_true] <;> trivial
            · by_cases g6 : k = b + 2 + 1
              · subst g6
                rcases hq with hq | hq <;> subst hq <;> simp (disch := omega) only [if_pos, if_neg, and_self, if_true] <;> trivial
              · simp (disch := omega) only [(b1 _).1, (b1 _).2, kbI2, if_pos, if_neg]
                rw [show k - 2 - 2 = k - 4 by omega]
                exact ⟨rfl, rfl⟩
