/-! Reduction. -/
def kbLc (D : kbD) (c : Int) : Prop := (0 ≤ c ∧ c < D.1) ∧ kbCu D c ∧ ∀ j : Int, 0 ≤ j → j < c → ¬ kbCu D j
def kbNc (D : kbD) : Prop := ∀ j : Int, 0 ≤ j → j < D.1 → ¬ kbCu D j
def kbLp (D : kbD) (a b : Int) : Prop := (0 ≤ a ∧ a < b ∧ b < D.1) ∧ kbPk D a b ∧ ∀ i j : Int, 0 ≤ i → i < j → j < D.1 → (i < a ∨ (i = a ∧ j < b)) → ¬ kbPk D i j
def kbNp (D : kbD) : Prop := ∀ i j : Int, 0 ≤ i → i < j → j < D.1 → ¬ kbPk D i j
/-- one step of a reduction; none -/
def kbS1 (D E : kbD) : Prop := (∃ c : Int, kbLc D c ∧ E = kbRm c D) ∨ (kbNc D ∧ ∃ a b : Int, kbLp D a b ∧ E = kbRm a (kbRm b D))
def kbS0 (D : kbD) : Prop := kbNc D ∧ kbNp D
def kbRd : Nat → kbD → kbD → Prop
  | 0, D, E => kbS0 D ∧ E = D
  | k + 1, D, E => (kbS0 D ∧ E = D) ∨ ∃ D' : kbD, kbS1 D D' ∧ kbRd k D' E
/-- E is D reduced -/
def kbRx (D E : kbD) : Prop := ∃ k : Nat, kbRd k D E
theorem kbS01 {D E : kbD} (h0 : kbS0 D) (h1 : kbS1 D E) : False := by
  rcases h1 with ⟨c, h, _⟩ | ⟨_, a, b, h, _⟩
  · exact h0.1 c h.1.1 h.1.2 h.2.1
  · exact h0.2 a b h.1.1 h.1.2.1 h.1.2.2 h.2.1
theorem kbLc_det {D : kbD} {c e : Int} (h : kbLc D c) (h2 : kbLc D e) : c = e := by
  have a1 := h.2.2 e h2.1.1
  have a2 := h2.2.2 c h.1.1
  have b1 := h.2.1
  have b2 := h2.2.1
  by_cases h3 : c < e
  · exact absurd b1 (a2 h3)
  · by_cases h4 : e < c
    · exact absurd b2 (a1 h4)
    · omega
theorem kbLp_det {D : kbD} {a b i j : Int} (h : kbLp D a b) (h2 : kbLp D i j) : a = i ∧ b = j := by
  have a1 := h.2.2 i j h2.1.1 h2.1.2.1 h2.1.2.2
  have a2 := h2.2.2 a b h.1.1 h.1.2.1 h.1.2.2
  have b1 := h.2.1
  have b2 := h2.2.1
  by_cases h3 : i < a ∨ (i = a ∧ j < b)
  · exact absurd b2 (a1 h3)
  · by_cases h4 : a < i ∨ (a = i ∧ b < j)
    · exact absurd b1 (a2 h4)
    · omega
theorem kbS1_det {D E F : kbD} (h : kbS1 D E) (h2 : kbS1 D F) : E = F := by
  rcases h with ⟨c, h, e⟩ | ⟨hn, a, b, h, e⟩ <;> rcases h2 with ⟨c2, h2, e2⟩ | ⟨hn2, a2, b2, h2, e2⟩
  · rw [e, e2, kbLc_det h h2]
  · exact absurd h.2.1 (hn2 c h.1.1 h.1.2)
  · exact absurd h2.2.1 (hn c2 h2.1.1 h2.1.2)
  · rw [e, e2, (kbLp_det h h2).1, (kbLp_det h h2).2]
theorem kbRd_det : ∀ (k m : Nat) {D E F : kbD}, kbRd k D E → kbRd m D F → E = F
  | 0, 0, _, _, _, h, h2 => h.2.trans h2.2.symm
  | 0, m + 1, D, E, F, h, h2 => by
    rcases h2 with h2 | ⟨D', h2, _⟩
    · exact h.2.trans h2.2.symm
    · exact (kbS01 h.1 h2).elim
  | k + 1, 0, D, E, F, h, h2 => by
    rcases h with h | ⟨D', h, _⟩
    · exact h.2.trans h2.2.symm
    · exact (kbS01 h2.1 h).elim
  | k + 1, m + 1, D, E, F, h, h2 => by
    rcases h with h | ⟨D', h, h3⟩ <;> rcases h2 with h2 | ⟨D2, h2, h4⟩
    · exact h.2.trans h2.2.symm
    · exact (kbS01 h.1 h2).elim
    · exact (kbS01 h2.1 h).elim
    · have := kbS1_det h h2
      subst this
      exact kbRd_det k m h3 h4
theorem kbRx.det {D E F : kbD} (h : kbRx D E) (h2 : kbRx D F) : E = F := by
  obtain ⟨k, h⟩ := h
  obtain ⟨m, h2⟩ := h2
  exact kbRd_det k m h h2
theorem kbRx.stop {D : kbD} (h : kbS0 D) : kbRx D D := ⟨0, h, rfl⟩
theorem kbRx.step {D D' E : kbD} (h : kbS1 D D') (h2 : kbRx D' E) : kbRx D E := by
  obtain ⟨k, h2⟩ := h2
  exact ⟨k + 1, Or.inr ⟨D', h, h2⟩⟩
theorem kbS1.V {D E : kbD} (h : kbS1 D E) (hV : kbV D) : kbV E ∧ E.1 < D.1 := by
  rcases h with ⟨c, h, e⟩ | ⟨hn, a, b, h, e⟩
  · subst e
    exact ⟨kbV_rm hV h.1, by show D.1 - 1 < D.1; omega⟩
  · subst e
    have hb : 0 ≤ b ∧ b < D.1 := by have := h.1; omega
    exact ⟨kbV_rm (kbV_rm hV hb) ⟨h.1.1, by show a < D.1 - 1; have := h.1; omega⟩, by show D.1 - 1 - 1 < D.1; omega⟩
theorem kb5_dropCurl {μ : knMem} {d : Int} {D : kbD} (hA : kbA μ d D) (hB : kbB D) : kbH (kfX5_dropLowestCurl d μ) (fun r => (r.1 = 1 ∧ ∃ c : Int, kbLc D c ∧ kbA r.2 d (kbRm c D) ∧ kbFr d (d + 3) μ r.2) ∨ (r.1 = 0 ∧ kbNc D ∧ r.2 = μ)) := by
  have h0 := hA.1
  have hn := hB.1
  unfold kfX5_dropLowestCurl
  refine kbLoop (fun n i (_ : Unit) => kfX5_dropLowestCurl_l2 d μ (fun _ => some (0, μ)) n i) (fun i _ => 0 ≤ i ∧ ∀ j : Int, 0 ≤ j → j < i → ¬ kbCu D j) D.1 _ ?_ ?_ _ _ () (by omega) (by rw [kbF]; omega) ⟨by omega, fun j _ _ => by omega⟩
  · intro n i _ hi ⟨i0, i1⟩ kk
    simp only [kfX5_dropLowestCurl_l2]
    rw [if_neg (by omega), kb5_curls hA hB ⟨i0, hi⟩, Option.bind_some, knW_id (by omega)]
    by_cases h : kbCu D i
    · rw [if_pos h, if_neg (by omega)]
      exact (kb5_remove hA hB ⟨i0, hi⟩).bind (fun μ1 ⟨a1, f1⟩ => kbH_some.mpr (Or.inl ⟨rfl, i, ⟨⟨i0, hi⟩, h, i1⟩, a1, f1⟩))
    · rw [if_neg h, if_pos rfl]
      refine kk () ⟨by omega, fun j j0 j1 => ?_⟩
      by_cases hj : j = i
      · rw [hj]; exact h
      · exact i1 j j0 (by omega)
  · intro n _ ⟨i0, i1⟩
    simp only [kfX5_dropLowestCurl_l2]
    rw [if_pos (by omega), kbH_some]
    exact Or.inr ⟨rfl, i1, rfl⟩
theorem kb5_dropPoke {μ : knMem} {d : Int} {D : kbD} (hA : kbA μ d D) (hV : kbV D) : kbH (kfX5_dropLowestPoke d μ) (fun r => (r.1 = 1 ∧ ∃ a b : Int, kbLp D a b ∧ kbA r.2 d (kbRm a (kbRm b D)) ∧ kbFr d (d + 3) μ r.2) ∨ (r.1 = 0 ∧ kbNp D ∧ r.2 = μ)) := by
  have h0 := hA.1
  have hn := hV.1.1
  unfold kfX5_dropLowestPoke
  refine kbLoop (fun n i (_ : Unit) => kfX5_dropLowestPoke_l2 d μ (fun _ => some (0, μ)) n i) (fun i _ => 0 ≤ i ∧ ∀ a b : Int, 0 ≤ a → a < i → a < b → b < D.1 → ¬ kbPk D a b) D.1 _ ?_ ?_ _ _ () (by omega) (by rw [kbF]; omega) ⟨by omega, fun a b _ _ => by omega⟩
  · intro n i _ hi ⟨i0, i1⟩ kk
    simp only [kfX5_dropLowestPoke_l2]
    rw [if_neg (by omega), knW_id (x := i + 1) (by omega)]
    refine kbLoop (fun n2 j (_ : Unit) => kfX5_dropLowestPoke_l14 d i μ (fun _ => kfX5_dropLowestPoke_l2 d μ (fun _ => some (0, μ)) n (i + 1)) n2 j) (fun j _ => i < j ∧ ∀ b : Int, i < b → b < j → ¬ kbPk D i b) D.1 _ ?_ ?_ _ _ () (by omega) (by rw [kbF]; omega) ⟨by omega, fun b _ _ => by omega⟩
    · intro n2 j _ hj ⟨j0, j1⟩ kk2
      simp only [kfX5_dropLowestPoke_l14]
      rw [if_neg (by omega), kb5_pokes hA hV.1 ⟨i0, hi⟩ ⟨by omega, hj⟩, Option.bind_some, knW_id (by omega)]
      by_cases h : kbPk D i j
      · rw [if_pos h, if_neg (by omega)]
        refine (kb5_remove hA hV.1 ⟨by omega, hj⟩).bind (fun μ1 ⟨a1, f1⟩ => ?_)
        refine (kb5_remove a1 (kbV_rm hV ⟨by omega, hj⟩).1 ⟨i0, by show i < D.1 - 1; omega⟩).bind (fun μ2 ⟨a2, f2⟩ => kbH_some.mpr (Or.inl ⟨rfl, i, j, ⟨⟨i0, j0, hj⟩, h, fun a b a0 ab b1 hab => ?_⟩, a2, f1.trans f2⟩))
        rcases hab with hab | ⟨e, hab⟩
        · exact i1 a b a0 hab ab b1
        · subst e; exact j1 b ab hab
      · rw [if_neg h, if_pos rfl]
        refine kk2 () ⟨by omega, fun b b0 b1 => ?_⟩
        by_cases hb : b = j
        · rw [hb]; exact h
        · exact j1 b b0 (by omega)
    · intro n2 _ ⟨j0, j1⟩
      simp only [kfX5_dropLowestPoke_l14]
      rw [if_pos (by omega)]
      refine kk () ⟨by omega, fun a b a0 a1 ab b1 => ?_⟩
      by_cases ha : a = i
      · subst ha; exact j1 b ab b1
      · exact i1 a b a0 (by omega) ab b1
  · intro n _ ⟨i0, i1⟩
    simp only [kfX5_dropLowestPoke_l2]
    rw [if_pos (by omega), kbH_some]
    exact Or.inr ⟨rfl, fun a b a0 ab b1 => i1 a b a0 (by omega) ab b1, rfl⟩
theorem kb5_simplify {μ : knMem} {d : Int} {D : kbD} (hA : kbA μ d D) (hV : kbV D) : kbH (kfX5_simplify d μ) (fun r => r.1 = 0 ∧ ∃ E : kbD, kbRx D E ∧ kbV E ∧ E.1 ≤ D.1 ∧ kbA r.2 d E ∧ kbFr d (d + 3) μ r.2) := by
  unfold kfX5_simplify
  refine kbLoop (fun n i s => kfX5_simplify_l2 d (fun w17 => some (0, w17)) n i s) (fun i s => 0 ≤ i ∧ ∃ F : kbD, kbA s d F ∧ kbV F ∧ F.1 ≤ 7 - i ∧ F.1 ≤ D.1 ∧ (∀ E : kbD, kbRx F E → kbRx D E) ∧ kbFr d (d + 3) μ s) 7 _ ?_ ?_ _ _ _ (by omega) (by rw [kbF]; omega) ⟨by omega, D, hA, hV, by have := hV.1.1; omega, Int.le_refl _, fun E h => h, kbFr.rf⟩
  · intro n i s hi ⟨i0, F, a0, v0, l0, l1, r0, f0⟩ kk
    simp only [kfX5_simplify_l2]
    rw [if_neg (by omega), knW_id (by omega)]
    refine (kb5_dropCurl a0 v0.1).bind (fun q hq => ?_)
    obtain ⟨q1, q2⟩ := q
    rcases hq with ⟨e, c, hc, a1, f1⟩ | ⟨e, hN, e2⟩
    · dsimp only at e a1 f1 ⊢
      subst e
      rw [if_neg (by omega)]
      have hs : kbS1 F (kbRm c F) := Or.inl ⟨c, hc, rfl⟩
      have hv := hs.V v0
      exact kk q2 ⟨by omega, _, a1, hv.1, by omega, by omega, fun E h => r0 E (kbRx.step hs h), f0.trans f1⟩
    · dsimp only at e e2 ⊢
      subst e
      subst e2
      rw [if_pos rfl]
      refine (kb5_dropPoke a0 v0).bind (fun q hq => ?_)
      obtain ⟨q1, q2⟩ := q
      rcases hq with ⟨e, a, b, hc, a1, f1⟩ | ⟨e, hN2, e2⟩
      · dsimp only at e a1 f1 ⊢
        subst e
        rw [if_neg (by omega)]
        have hs : kbS1 F (kbRm a (kbRm b F)) := Or.inr ⟨hN, a, b, hc, rfl⟩
        have hv := hs.V v0
        exact kk q2 ⟨by omega, _, a1, hv.1, by omega, by omega, fun E h => r0 E (kbRx.step hs h), f0.trans f1⟩
      · dsimp only at e e2 ⊢
        subst e
        subst e2
        rw [if_pos rfl, kbH_some]
        exact ⟨rfl, F, r0 F (kbRx.stop ⟨hN, hN2⟩), v0, l1, a0, f0⟩
  · intro n s ⟨i0, F, a0, v0, l0, l1, r0, f0⟩
    simp only [kfX5_simplify_l2]
    rw [if_pos (by omega), kbH_some]
    have hs : kbS0 F := ⟨fun j j0 j1 => by omega, fun i j a b c => by omega⟩
    exact ⟨rfl, F, r0 F (kbRx.stop hs), v0, l1, a0, f0⟩
