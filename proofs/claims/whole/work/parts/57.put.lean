/-! The reference puts passes. -/
def kbIn (q m c : Int) (f : Int → Int) (p : Int) : Int := if p < q then f p else if p = q then c else if p ≤ m then f (p - 1) else f p
def kbI2 (q m a b : Int) (f : Int → Int) (p : Int) : Int := if p < q then f p else if p = q then a else if p = q + 1 then b else if p ≤ m + 1 then f (p - 2) else f p
theorem kb13_inserts {μ : knMem} {q c v m : Int} (hq : 0 ≤ q ∧ q ≤ m ∧ m < 14) : kbH (kfX13_inserts q c v m μ) (fun μ' => (∀ p : Int, μ' 147 p = kbIn q m c (μ 147) p ∧ μ' 148 p = kbIn q m v (μ 148) p) ∧ μ' 142 8 = μ 142 8 ∧ μ' 149 = μ 149 ∧ kbFz μ μ') := by
  unfold kfX13_inserts
  refine kbLoopM (fun n (w : Int × knMem) => kfX13_inserts_l4 q c v (fun w6 => knGd (0 ≤ q ∧ q < 14) (some (knUp (knUp w6 147 q c) 148 q v))) n w.1 w.2) (fun w => (q ≤ w.1 ∧ w.1 ≤ m) ∧ (∀ p : Int, w.1 < p → p ≤ m → w.2 147 p = μ 147 (p - 1) ∧ w.2 148 p = μ 148 (p - 1)) ∧ (∀ p : Int, (p ≤ w.1 ∨ m < p) → w.2 147 p = μ 147 p ∧ w.2 148 p = μ 148 p) ∧ w.2 142 8 = μ 142 8 ∧ w.2 149 = μ 149 ∧ kbFz μ w.2) (fun w => w.1 - q) _ ?_ _ (m, μ) ⟨⟨hq.2.1, Int.le_refl _⟩, fun p _ _ => by dsimp only at *; omega, fun p _ => ⟨rfl, rfl⟩, rfl, rfl, kbFz.rf⟩ (by dsimp only; omega) (by dsimp only; rw [kbF]; omega)
  intro n w ⟨hi, hr, hr2, h8, s2, hf⟩ m0 kk
  obtain ⟨i, s⟩ := w
  dsimp only at hi hr hr2 h8 s2 hf m0 kk ⊢
  simp only [kfX13_inserts_l4]
  by_cases hx : i ≤ q
  · have hiq : i = q := by omega
    subst hiq
    rw [if_pos hx, kbGd (by omega), kbH_some]
    refine ⟨fun p => ?_, by rw [kbUp, if_neg (by omega), kbUp, if_neg (by omega)]; exact h8, by rw [knUp_ne (by omega), knUp_ne (by omega)]; exact s2, (hf.up (Or.inl (by omega))).up (Or.inl (by omega))⟩
    by_cases h1 : p < i
    · simp (disch := omega) only [kbIn, kbUp, if_pos, if_neg, and_true, true_and, if_true]
      exact hr2 p (by omega)
    · by_cases h2 : p = i
      · subst h2
        simp (disch := omega) only [kbIn, kbUp, if_pos, if_neg, and_true, true_and, if_true, and_self]
      · by_cases h3 : p ≤ m
        · simp (disch := omega) only [kbIn, kbUp, if_pos, if_neg, and_true, true_and, if_true]
          exact hr p (by omega) h3
        · simp (disch := omega) only [kbIn, kbUp, if_pos, if_neg, and_true, true_and, if_true]
          exact hr2 p (by omega)
  · have e1 := hr2 (i - 1) (by omega)
    rw [if_neg hx, knW_id (x := i - 1) (by omega), kbGd (by omega), kbGd (by omega), knW_id (x := i + -1) (by omega), e1.1, show knUp s 147 i (μ 147 (i - 1)) 148 (i - 1) = μ 148 (i - 1) from by rw [knUp_ne (by omega)]; exact e1.2]
    refine kk (i + -1, knUp (knUp s 147 i (μ 147 (i - 1))) 148 i (μ 148 (i - 1))) ⟨by dsimp only; omega, fun p p0 p1 => ?_, fun p hp => ?_, ?_, ?_, (hf.up (Or.inl (by omega))).up (Or.inl (by omega))⟩ (by dsimp only; omega) (by dsimp only; omega)
    · dsimp only at p0 ⊢
      by_cases hpi : p = i
      · subst hpi
        simp (disch := omega) only [kbUp, if_pos, if_neg, and_true, true_and, if_true, and_self]
      · simp (disch := omega) only [kbUp, if_pos, if_neg, and_true, true_and, if_true]
        exact hr p (by omega) p1
    · dsimp only at hp ⊢
      simp (disch := omega) only [kbUp, if_pos, if_neg, and_true, true_and, if_true]
      exact hr2 p (by omega)
    · dsimp only
      rw [kbUp, if_neg (by omega), kbUp, if_neg (by omega)]; exact h8
    · dsimp only
      rw [knUp_ne (by omega), knUp_ne (by omega)]; exact s2
theorem kbIn2 {q m a b : Int} {f g h : Int → Int} (hg : ∀ p : Int, g p = kbIn q m a f p) (hh : ∀ p : Int, h p = kbIn (q + 1) (m + 1) b g p) (hq : q ≤ m) (p : Int) : h p = kbI2 q m a b f p := by
  rw [hh p]
  unfold kbI2
  by_cases h1 : p < q
  · simp (disch := omega) only [kbIn, hg, if_pos, if_neg]
  · by_cases h2 : p = q
    · subst h2
      simp (disch := omega) only [kbIn, hg, if_pos, if_neg, if_true]
    · by_cases h3 : p = q + 1
      · subst h3
        simp (disch := omega) only [kbIn, hg, if_pos, if_neg, if_true]
      · by_cases h4 : p ≤ m + 1
        · simp (disch := omega) only [kbIn, hg, if_pos, if_neg]
          rw [show p - 1 - 1 = p - 2 by omega]
        · simp (disch := omega) only [kbIn, hg, if_pos, if_neg]
theorem kb13_two {μ : knMem} {q a b va vb m : Int} (hq : 0 ≤ q ∧ q ≤ m ∧ m < 13) : kbH (Option.bind (kfX13_inserts q a va m μ) (fun q1 => kfX13_inserts (q + 1) b vb (m + 1) q1)) (fun μ' => (∀ p : Int, μ' 147 p = kbI2 q m a b (μ 147) p ∧ μ' 148 p = kbI2 q m va vb (μ 148) p) ∧ μ' 142 8 = μ 142 8 ∧ μ' 149 = μ 149 ∧ kbFz μ μ') := by
  refine (kb13_inserts (by omega)).bind (fun μ1 ⟨a1, b1, c1, d1⟩ => ?_)
  refine (kb13_inserts (by omega)).mono (fun μ2 ⟨a2, b2, c2, d2⟩ => ⟨fun p => ⟨?_, ?_⟩, b2.trans b1, c2.trans c1, d1.trans d2⟩)
  · exact kbIn2 (fun p => (a1 p).1) (fun p => (a2 p).1) hq.2.1 p
  · exact kbIn2 (fun p => (a1 p).2) (fun p => (a2 p).2) hq.2.1 p
theorem kbApN {D : kbD} {o u s k : Int} (hk : k ≠ D.1) : (kbAp o u s D).2.1 k = D.2.1 k ∧ (kbAp o u s D).2.2.1 k = D.2.2.1 k ∧ (kbAp o u s D).2.2.2 k = D.2.2.2 k := ⟨if_neg hk, if_neg hk, if_neg hk⟩
theorem kbApE {D : kbD} {o u s k : Int} (hk : k = D.1) : (kbAp o u s D).2.1 k = o ∧ (kbAp o u s D).2.2.1 k = u ∧ (kbAp o u s D).2.2.2 k = s := ⟨if_pos hk, if_pos hk, if_pos hk⟩
theorem kbR_curl {D : kbD} {of vr sg of' vr' sg' : Int → Int} (h : kbR D of vr sg) {p s f : Int} (hp : 0 ≤ p ∧ p ≤ 2 * D.1) (hn : D.1 ≤ 6) (hs : s = 0 ∨ s = 1) (hf : f = 0 ∨ f = 1)
    (h1 : ∀ k : Int, of' k = kbI2 p (2 * D.1) D.1 D.1 of k ∧ vr' k = kbI2 p (2 * D.1) f (1 - f) vr k) (h2 : ∀ k : Int, 0 ≤ k → k < D.1 → sg' k = sg k) (h3 : sg' D.1 = s) :
    kbR (kbAp (if f = 0 then p + 1 else p) (if f = 0 then p else p + 1) s (kbWi p D)) of' vr' sg' := by
  obtain ⟨h7, hA, hP⟩ := h
  refine ⟨⟨by show 0 ≤ D.1 + 1; omega, by show D.1 + 1 ≤ 7; omega⟩, fun c c0 c1 => ?_, fun k k0 k1 => ?_⟩
  · have c1 : c < D.1 + 1 := c1
    show (0 ≤ _ ∧ _ < 2 * (D.1 + 1) ∧ _ ∧ _) ∧ (0 ≤ _ ∧ _ < 2 * (D.1 + 1) ∧ _ ∧ _) ∧ _ ∧ _
    by_cases hc : c = D.1
    · subst hc
      simp only [kbAp, kbWi]
      rcases hf with hf | hf
      · subst hf
        simp (disch := omega) only [if_true, (h1 _).1, (h1 _).2, kbI2, if_pos, if_neg]
        refine ⟨⟨by omega, by omega, trivial, by omega⟩, ⟨by omega, by omega, trivial, trivial⟩, h3, hs⟩
      · subst hf
        simp (disch := omega) only [if_true, (h1 _).1, (h1 _).2, kbI2, if_pos, if_neg]
        refine ⟨⟨by omega, by omega, trivial, trivial⟩, ⟨by omega, by omega, trivial, by omega⟩, h3, hs⟩
    · have hAc := hA c c0 (by omega)
      have eN := kbApN (D := kbWi p D) (o := if f = 0 then p + 1 else p) (u := if f = 0 then p else p + 1) (s := s) (k := c) hc
      rw [eN.1, eN.2.1, eN.2.2]
      simp only [kbWi]
      rw [h2 c c0 (by omega)]
      have key : ∀ x : Int, 0 ≤ x → x < 2 * D.1 → of' (x + if x < p then 0 else 2) = of x ∧ vr' (x + if x < p then 0 else 2) = vr x := fun x x0 x1 => by
        by_cases hx : x < p
        · rw [if_pos hx, Int.add_zero]
          simp (disch := omega) only [(h1 _).1, (h1 _).2, kbI2, if_pos, if_neg, and_self]
        · rw [if_neg hx]
          simp (disch := omega) only [(h1 _).1, (h1 _).2, kbI2, if_pos, if_neg]
          rw [show x + 2 - 2 = x by omega]
          exact ⟨rfl, rfl⟩
      have k1 := key _ hAc.1.1 hAc.1.2.1
      have k2 := key _ hAc.2.1.1 hAc.2.1.2.1
      rw [k1.1, k1.2, k2.1, k2.2]
      exact ⟨⟨by split <;> omega, by split <;> omega, hAc.1.2.2⟩, ⟨by split <;> omega, by split <;> omega, hAc.2.1.2.2⟩, hAc.2.2⟩
  · have k1 : k < 2 * (D.1 + 1) := k1
    show (_ ∧ _ < D.1 + 1) ∧ _
    rw [(h1 k).1, (h1 k).2]
    simp only [kbAp, kbWi]
    by_cases h4 : k < p
    · have hPk := hP k k0 (by omega)
      simp (disch := omega) only [kbI2, if_pos, if_neg]
      refine ⟨by omega, ?_⟩
      rcases hPk.2 with ⟨z1, z2⟩ | ⟨z1, z2⟩
      · left; rw [z2, if_pos h4]; exact ⟨z1, by omega⟩
      · right; rw [z2, if_pos h4]; exact ⟨z1, by omega⟩
    · by_cases h5 : k = p
      · subst h5
        rcases hf with hf | hf
        · subst hf
          simp (disch := omega) only [kbI2, if_pos, if_neg, if_true]
          exact ⟨by omega, Or.inr ⟨trivial, trivial⟩⟩
        · subst hf
          simp (disch := omega) only [kbI2, if_pos, if_neg, if_true]
          exact ⟨by omega, Or.inl ⟨trivial, trivial⟩⟩
      · by_cases h6 : k = p + 1
        · subst h6
          rcases hf with hf | hf
          · subst hf
            simp (disch := omega) only [kbI2, if_pos, if_neg, if_true]
            exact ⟨by omega, Or.inl ⟨by omega, trivial⟩⟩
          · subst hf
            simp (disch := omega) only [kbI2, if_pos, if_neg, if_true]
            exact ⟨by omega, Or.inr ⟨by omega, trivial⟩⟩
        · have hPk := hP (k - 2) (by omega) (by omega)
          simp (disch := omega) only [kbI2, if_pos, if_neg]
          refine ⟨by omega, ?_⟩
          rcases hPk.2 with ⟨z1, z2⟩ | ⟨z1, z2⟩
          · left; rw [z2, if_neg (by omega)]; exact ⟨z1, by omega⟩
          · right; rw [z2, if_neg (by omega)]; exact ⟨z1, by omega⟩
/-- nothing but the diagram's rows and the long row has changed -/
def kbFw (μ μ' : knMem) : Prop := (∀ o : Int, o ≠ 142 → o ≠ 143 → (o < 147 ∨ 149 < o) → μ' o = μ o) ∧ ∀ i : Int, i ≠ 8 → μ' 142 i = μ 142 i
theorem kbFz.st {μ μ1 μ2 : knMem} (h : kbFz μ μ1) (h2 : ∀ o : Int, o ≠ 143 → μ2 o = μ1 o) : kbFw μ μ2 := ⟨fun o h3 h4 h5 => (h2 o h4).trans (h.1 o h5 h3), fun i hi => by rw [h2 142 (by omega)]; exact h.2 i hi⟩
theorem kb13_addsCurl {μ : knMem} {D : kbD} (hW : kbW (μ 143) D) {p s f : Int} (hp : 0 ≤ p ∧ p ≤ 2 * D.1) (hn : D.1 ≤ 6) (hs : s = 0 ∨ s = 1) (hf : f = 0 ∨ f = 1) :
    kbH (kfX13_addsCurl p s f μ) (fun r => r.1 = D.1 ∧ kbW (r.2 143) (kbMc p s f D).2 ∧ (∀ i : Int, 1 ≤ i → i ≤ 14 → r.2 143 i = μ 143 i) ∧ kbFw μ r.2) := by
  unfold kfX13_addsCurl
  refine (kb13_loads hW).bind (fun μ1 ⟨a1, f1⟩ => ?_)
  have h8 := a1.1
  have hn0 := a1.2.1
  rw [h8, knW_id (x := 2 * D.1) (by omega)]
  refine (kb13_inserts (m := 2 * D.1) (by omega)).bind (fun μ2 ⟨b1, b8, b9, bf⟩ => ?_)
  rw [b8, h8, knW_id (x := p + 1) (by omega), knW_id (x := 1 - f) (by omega), knW_id (x := 2 * D.1) (by omega), knW_id (x := 2 * D.1 + 1) (by omega)]
  refine (kb13_inserts (q := p + 1) (m := 2 * D.1 + 1) (by omega)).bind (fun μ3 ⟨c1, c8, c9, cf⟩ => ?_)
  have e8 : μ3 142 8 = D.1 := (c8.trans b8).trans h8
  have e9 : μ3 149 = μ1 149 := c9.trans b9
  rw [e8, kbGd (by omega), show knUp μ3 149 D.1 s 142 8 = D.1 from by rw [kbUp, if_neg (by omega)]; exact e8, knW_id (x := D.1 + 1) (by omega)]
  have hM : (kbMc p s f D).2 = kbAp (if f = 0 then p + 1 else p) (if f = 0 then p else p + 1) s (kbWi p D) := by unfold kbMc; rw [if_pos hp, if_pos hn]
  rw [hM]
  have hL : kbL (knUp (knUp μ3 149 D.1 s) 142 8 (D.1 + 1)) (kbAp (if f = 0 then p + 1 else p) (if f = 0 then p else p + 1) s (kbWi p D)) := by
    refine ⟨by rw [kbUp, if_pos (by omega)]; rfl, kbR_curl a1.2 hp hn hs hf (fun k => ?_) (fun k k0 k1 => ?_) ?_⟩
    · rw [knUp_ne (by omega), knUp_ne (by omega), knUp_ne (by omega), knUp_ne (by omega)]
      exact ⟨kbIn2 (fun p => (b1 p).1) (fun p => (c1 p).1) hp.2 k, kbIn2 (fun p => (b1 p).2) (fun p => (c1 p).2) hp.2 k⟩
    · rw [kbUp, if_neg (by omega), kbUp, if_neg (by omega), e9]
    · rw [kbUp, if_neg (by omega), kbUp, if_pos (by omega)]
  have hf2 : kbFz μ (knUp (knUp μ3 149 D.1 s) 142 8 (D.1 + 1)) := (((f1.trans bf).trans cf).up (Or.inl (by omega))).up (Or.inr ⟨rfl, rfl⟩)
  refine (kb13_stores hL).bind (fun μ5 ⟨d1, d2, d3⟩ => kbH_some.mpr ⟨?_, d1, fun i i0 i1 => (d2 i i0 i1).trans (congrFun (hf2.1 143 (by omega) (by omega)) i), hf2.st d3⟩)
  rw [d3 142 (by omega), kbUp, if_pos (by omega), knW_id (by omega)]
  omega
theorem kb13_insertsTwo {μ : knMem} {q a b v m : Int} (hq : 0 ≤ q ∧ q ≤ m ∧ m < 13) : kbH (kfX13_insertsTwo q a b v m μ) (fun μ' => (∀ p : Int, μ' 147 p = kbI2 q m a b (μ 147) p ∧ μ' 148 p = kbI2 q m v v (μ 148) p) ∧ μ' 142 8 = μ 142 8 ∧ μ' 149 = μ 149 ∧ kbFz μ μ') := by
  unfold kfX13_insertsTwo
  rw [knW_id (x := q + 1) (by omega), knW_id (x := m + 1) (by omega)]
  refine (kb13_inserts (by omega)).bind (fun μ1 ⟨a1, b1, c1, d1⟩ => ?_)
  refine (kb13_inserts (by omega)).bind (fun μ2 ⟨a2, b2, c2, d2⟩ => kbH_some.mpr ⟨fun p => ⟨?_, ?_⟩, b2.trans b1, c2.trans c1, d1.trans d2⟩)
  · exact kbIn2 (fun p => (a1 p).1) (fun p => (a2 p).1) hq.2.1 p
  · exact kbIn2 (fun p => (a1 p).2) (fun p => (a2 p).2) hq.2.1 p
