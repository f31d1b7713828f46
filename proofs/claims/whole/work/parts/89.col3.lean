/-! Colourings counted by elimination; by trying. -/
theorem kb13_colourings {μ : knMem} {D : kbD} {p : Nat} (hp : p = 3 ∨ p = 5 ∨ p = 7) (hW : kbW (μ 143) D) : kbH (kfX13_colourings p μ) (fun r => r.1 = kbCv D p ∧ r.2 142 0 = 0 ∧ r.2 159 = μ 159 ∧ kbK μ r.2) := by
  have h0 : kbH (Option.bind (kfX13_coloured p (knUp μ 142 0 0)) (fun q8 => some (q8.1, q8.2))) (fun r => r.1 = kbCv D p ∧ r.2 142 0 = 0 ∧ r.2 159 = μ 159 ∧ kbK μ r.2) := by
    refine (kb13_coloured hp (μ := knUp μ 142 0 0) (D := D) (by rw [kbUp3]; exact hW)).bind (fun q ⟨a1, a2⟩ => kbH_some.mpr ⟨a1, ?_, ?_, (kbK0 kbK.rf).trans a2.K⟩)
    · show q.2 142 0 = 0
      rw [a2.2 0 (by omega)]; exact kbUp0 μ
    · show q.2 159 = μ 159
      rw [a2.1 159 (by omega) (by omega)]; exact kbUp9 μ
  unfold kfX13_colourings
  dsimp only
  rcases hp with rfl | rfl | rfl
  · rw [if_pos (show ((3 : Nat) : Int) = 3 by rfl)]; exact h0
  · rw [if_neg (show ¬ ((5 : Nat) : Int) = 3 by omega), if_pos (show ((5 : Nat) : Int) = 5 by rfl)]; exact h0
  · rw [if_neg (show ¬ ((7 : Nat) : Int) = 3 by omega), if_neg (show ¬ ((7 : Nat) : Int) = 5 by omega), if_pos (show ((7 : Nat) : Int) = 7 by rfl)]; exact h0
theorem kbLk_23 {μ : knMem} (hI : kbIv μ) (x1 x2 x3 x4 : Int) : kbH (kfLc_23 x1 x2 x3 x4 μ) kbIv := by
  obtain ⟨⟨S, hC, hR⟩, -⟩ := id hI
  obtain ⟨c, hc⟩ : ∃ c : Int, c = (if x1 = 3 ∨ x1 = 5 ∨ x1 = 7 then 0 else 2) := ⟨_, rfl⟩
  unfold kfLc_23
  refine kbTry (P := kbK μ) (lc := kbC1 c) (v := kbCv S.1 x1.toNat) (fun x => x) ?_ (fun μ1 h1 => ?_)
  · unfold kfL_colourings kfX12_colourings
    by_cases g : x1 = 3 ∨ x1 = 5 ∨ x1 = 7
    · rw [if_pos g] at hc
      subst hc
      obtain ⟨p, rfl⟩ : ∃ p : Nat, x1 = p := ⟨x1.toNat, by omega⟩
      have h0 : kbH (Option.bind (kfX3_countByElimination 2 p μ) (fun q5 => some ((0 : Int), q5.1, q5.2))) (fun q => q.1 = 0 ∧ q.2.1 = kbCv S.1 p ∧ kbK μ q.2.2) :=
        (kb3_count (by omega) hC.1 hR.B).bind (fun q ⟨a1, a2⟩ => kbH_some.mpr ⟨rfl, a1, a2.K (Or.inr (Or.inl ⟨by omega, by omega⟩))⟩)
      refine kbH.bind (P := fun q => q.1 = 0 ∧ q.2.1 = kbCv S.1 p ∧ kbK μ q.2.2) ?_ (fun q ⟨q1, q2, q3⟩ => ?_)
      · simp only [kbH_ite]
        exact ⟨fun _ => h0, fun _ => ⟨fun _ => h0, fun _ => ⟨fun _ => h0, fun _ => by omega⟩⟩⟩
      · rw [if_pos q1]
        exact kbH_some.mpr ⟨rfl, fun _ => (kbUpS q.2.2 159 0 _).trans q2, q3.up (by omega)⟩
    · rw [if_neg g] at hc
      subst hc
      simp only [if_neg (show ¬ x1 = 3 by omega), if_neg (show ¬ x1 = 5 by omega), if_neg (show ¬ x1 = 7 by omega), Option.bind_some]
      rw [if_neg (show ¬ (2 : Int) = 0 by omega), if_pos trivial]
      exact kbH_some.mpr ⟨rfl, fun h => absurd (kbC1_0 h) (by omega), kbK.rf⟩
  · have hI1 := hI.K h1
    have hW : kbW (μ1 143) S.1 := by rw [h1.1 143 (by omega)]; exact hR.1
    by_cases g : x1 = 3 ∨ x1 = 5 ∨ x1 = 7
    · rw [if_pos g] at hc
      subst hc
      obtain ⟨p, rfl⟩ : ∃ p : Nat, x1 = p := ⟨x1.toNat, by omega⟩
      exact (kb13_colourings (by omega) hW).mono (fun r ⟨r1, r2, r3, r4⟩ => ⟨r2, fun _ => r1, r3, hI1.K r4⟩)
    · rw [if_neg g] at hc
      subst hc
      unfold kfX13_colourings
      simp only [if_neg (show ¬ x1 = 3 by omega), if_neg (show ¬ x1 = 5 by omega), if_neg (show ¬ x1 = 7 by omega)]
      exact (kbQf (c := 1) (fun x => x) hI1 (kbK0 kbK.rf) (kbUp9 _)).mono (fun r ⟨r1, r2, r3⟩ => ⟨r1, fun h => absurd (kbC1_0 h) (by omega), r2, r3⟩)
/-! trying -/
def kbM3 (D : kbD) (c : Int) : Int := if kbAo D c < (if kbAe D c < kbAb D c then kbAb D c else kbAe D c) then (if kbAe D c < kbAb D c then kbAb D c else kbAe D c) else kbAo D c
theorem kbM3_le (D : kbD) (c : Int) : kbAo D c ≤ kbM3 D c ∧ kbAe D c ≤ kbM3 D c ∧ kbAb D c ≤ kbM3 D c := by
  unfold kbM3
  split <;> split <;> omega
theorem kbM3_in {D : kbD} (hn : 0 < D.1) (c : Int) : 0 ≤ kbM3 D c ∧ kbM3 D c < D.1 := by
  have r1 : 0 ≤ kbAo D c ∧ kbAo D c < D.1 := kbAc_in hn (D.2.1 c)
  have r2 : 0 ≤ kbAe D c ∧ kbAe D c < D.1 := kbAc_in hn (kbBf D.1 (D.2.2.1 c))
  have r3 : 0 ≤ kbAb D c ∧ kbAb D c < D.1 := kbAc_in hn (D.2.2.1 c)
  unfold kbM3
  split <;> split <;> omega
def kbE3 (D : kbD) (c : Int) (x : kbCo) : Int := 2 * x (kbAo D c) - x (kbAe D c) - x (kbAb D c)
def kbFit (D : kbD) (b : Int) (x : kbCo) : Prop := ∀ c : Int, 0 ≤ c → c < D.1 → kbM3 D c = b → (3 : Int) ∣ kbE3 D c x
theorem kbE3_s {D : kbD} (hn : 0 < D.1) {c b : Int} {x y : kbCo} (h : ∀ i : Int, 0 ≤ i → i ≤ b → x i = y i) (hc : kbM3 D c ≤ b) : kbE3 D c x = kbE3 D c y := by
  have r1 : 0 ≤ kbAo D c := (kbAc_in hn (D.2.1 c)).1
  have r2 : 0 ≤ kbAe D c := (kbAc_in hn (kbBf D.1 (D.2.2.1 c))).1
  have r3 : 0 ≤ kbAb D c := (kbAc_in hn (D.2.2.1 c)).1
  have h3 := kbM3_le D c
  unfold kbE3
  rw [h _ r1 (by omega), h _ r2 (by omega), h _ r3 (by omega)]
theorem kbFit_s {D : kbD} {b : Int} {x y : kbCo} (h : ∀ i : Int, 0 ≤ i → i ≤ b → x i = y i) : kbFit D b x ↔ kbFit D b y := by
  unfold kbFit
  constructor
  · intro h9 c c0 c1 c2
    rw [← kbE3_s (by omega) h (by omega)]; exact h9 c c0 c1 c2
  · intro h9 c c0 c1 c2
    rw [kbE3_s (by omega) h (by omega)]; exact h9 c c0 c1 c2
theorem kb3_fits {μ : knMem} {D : kbD} {b : Int} (hR : kbRa μ D) (hn : 0 < D.1 ∧ D.1 ≤ 7) (hb : 0 ≤ b ∧ b < D.1) (hx : ∀ i : Int, 0 ≤ i → i ≤ b → 0 ≤ μ 118 i ∧ μ 118 i < 3) : kfX3_fits b μ = some (kbId (kbFit D b (μ 118))) := by
  obtain ⟨h5, h6⟩ := hR
  have key : kbH (kfX3_fits b μ) (fun r => r = kbId (kbFit D b (μ 118))) := by
    unfold kfX3_fits
    refine kbLoop (fun n i (_ : Unit) => kfX3_fits_l2 b μ (fun _ => some 1) n i) (fun i _ => 0 ≤ i ∧ ∀ c : Int, 0 ≤ c → c < i → kbM3 D c = b → (3 : Int) ∣ kbE3 D c (μ 118)) D.1 _ ?_ ?_ _ _ () (by omega) (by rw [kbF]; omega) ⟨Int.le_refl _, fun c _ _ => by omega⟩
    · intro n i _ hi ⟨i0, hs⟩ kk
      have h9 := h6 i i0 hi
      have r1 : 0 ≤ kbAo D i ∧ kbAo D i < D.1 := kbAc_in hn.1 (D.2.1 i)
      have r2 : 0 ≤ kbAe D i ∧ kbAe D i < D.1 := kbAc_in hn.1 (kbBf D.1 (D.2.2.1 i))
      have r3 : 0 ≤ kbAb D i ∧ kbAb D i < D.1 := kbAc_in hn.1 (D.2.2.1 i)
      have h3 := kbM3_le D i
      simp only [kfX3_fits_l2, kfJ9_max_7cf53, Option.bind_some]
      rw [h5, h9.1, h9.2.1, h9.2.2, if_neg (by omega), kbGd (by omega), knW_id (x := i + 1) (by omega)]
      rw [show (if kbAo D i < (if kbAe D i < kbAb D i then kbAb D i else kbAe D i) then (if kbAe D i < kbAb D i then kbAb D i else kbAe D i) else kbAo D i) = kbM3 D i from rfl]
      by_cases g : kbM3 D i = b
      · have x1 := hx (kbAo D i) r1.1 (by omega)
        have x2 := hx (kbAe D i) r2.1 (by omega)
        have x3 := hx (kbAb D i) r3.1 (by omega)
        rw [if_pos g, kbGd (by omega), kbGd (by omega), kbGd (by omega), knW_id (x := 2 * μ 118 (kbAo D i)) (by omega), knW_id (x := 2 * μ 118 (kbAo D i) - μ 118 (kbAe D i)) (by omega), knW_id (x := 2 * μ 118 (kbAo D i) - μ 118 (kbAe D i) - μ 118 (kbAb D i)) (by omega), kbRmI ⟨by omega, by omega⟩ (by omega)]
        have e : 2 * μ 118 (kbAo D i) - μ 118 (kbAe D i) - μ 118 (kbAb D i) = kbE3 D i (μ 118) := rfl
        rw [e]
        by_cases g2 : (3 : Int) ∣ kbE3 D i (μ 118)
        · rw [if_pos (Int.tmod_eq_zero_of_dvd g2)]
          refine kk () ⟨by omega, fun c c0 c1 c2 => ?_⟩
          by_cases hc : c = i
          · rw [hc]; exact g2
          · exact hs c c0 (by omega) c2
        · rw [if_neg (fun h => g2 (Int.dvd_of_tmod_eq_zero h))]
          exact kbH_some.mpr (kbId_f (fun h => g2 (h i i0 hi g))).symm
      · rw [if_neg g]
        refine kk () ⟨by omega, fun c c0 c1 c2 => ?_⟩
        by_cases hc : c = i
        · rw [hc] at c2; exact absurd c2 g
        · exact hs c c0 (by omega) c2
    · intro n _ ⟨i0, hs⟩
      simp only [kfX3_fits_l2]
      rw [h5, if_pos (Int.le_refl _)]
      exact kbH_some.mpr (kbId_t (fun c c0 c1 c2 => hs c c0 c1 c2)).symm
  obtain ⟨r, h2, h3⟩ := key
  rw [h2, h3]
theorem kbUc_out {p n : Nat} {h f : kbCo → Int} : ∀ (m : Nat) (x : kbCo), (∀ (y : kbCo) (k c : Int), (n : Int) - m ≤ k → h (kbPu y k c) = h y) → kbUc p n m (fun y => h y * f y) x = h x * kbUc p n m f x
  | 0, _, _ => rfl
  | m + 1, x, hh => by
    show kbSm (fun c => kbUc p n m (fun y => h y * f y) (kbPu x ((n : Int) - m - 1) c)) p = h x * kbSm (fun c => kbUc p n m f (kbPu x ((n : Int) - m - 1) c)) p
    rw [← kbSm_mul]
    refine kbSm_congr _ (fun c _ _ => ?_)
    rw [kbUc_out m _ (fun y k c hk => hh y k c (by omega)), hh x _ c (by omega)]
theorem kbUc_b {n : Nat} {f : kbCo → Int} (hf : ∀ x : kbCo, 0 ≤ f x ∧ f x ≤ 1) : ∀ (m : Nat) (x : kbCo), 0 ≤ kbUc 3 n m f x ∧ kbUc 3 n m f x ≤ (3 : Int) ^ m
  | 0, x => by rw [Int.pow_zero]; exact hf x
  | m + 1, x => by
    show 0 ≤ kbSm (fun c => kbUc 3 n m f (kbPu x ((n : Int) - m - 1) c)) 3 ∧ kbSm (fun c => kbUc 3 n m f (kbPu x ((n : Int) - m - 1) c)) 3 ≤ (3 : Int) ^ (m + 1)
    have h1 := kbSm_nn (f := fun c => kbUc 3 n m f (kbPu x ((n : Int) - m - 1) c)) 3 (fun c _ _ => (kbUc_b hf m _).1)
    have h2 := kbSm_mono (f := fun c => kbUc 3 n m f (kbPu x ((n : Int) - m - 1) c)) (g := fun _ => (3 : Int) ^ m) 3 (fun c _ _ => (kbUc_b hf m _).2)
    rw [kbSm_c] at h2
    rw [Int.pow_succ]
    exact ⟨h1, h2⟩
theorem kbId_b (P : Prop) : 0 ≤ kbId P ∧ kbId P ≤ 1 := by
  by_cases h : P
  · rw [kbId_t h]; omega
  · rw [kbId_f h]; omega
theorem kbRa.fr {μ μ' : knMem} {D : kbD} (h : kbRa μ D) (hf : kbFr 118 118 μ μ') : kbRa μ' D := by
  refine ⟨by rw [hf 106 (by omega)]; exact h.1, fun c c0 c1 => ?_⟩
  rw [hf 107 (by omega), hf 108 (by omega), hf 109 (by omega)]
  exact h.2 c c0 c1
theorem kb3_tryFrom {D : kbD} (hn : 0 < D.1 ∧ D.1 ≤ 7) : ∀ (N m : Nat) (μ : knMem) (x : kbCo), (m : Int) ≤ D.1 → m < N → kbRa μ D → (∀ i : Int, 0 ≤ i → i < D.1 - m → μ 118 i = x i ∧ 0 ≤ x i ∧ x i < 3) →
    kbH (kfX3_tryFrom N (D.1 - m) μ) (fun q => q.1 = kbUc 3 D.1.toNat m (fun y => kbId (∀ b : Int, D.1 - m ≤ b → b < D.1 → kbFit D b y)) x ∧ kbFr 118 118 μ q.2 ∧ ∀ i : Int, i < D.1 - m → q.2 118 i = μ 118 i)
  | 0, _, _, _, _, h, _, _ => absurd h (by omega)
  | N + 1, 0, μ, x, _, _, hR, _ => by
    unfold kfX3_tryFrom
    rw [hR.1, if_neg (by omega)]
    refine kbH_some.mpr ⟨?_, kbFr.rf, fun _ _ => rfl⟩
    show (1 : Int) = kbId _
    rw [kbId_t (fun b b0 b1 => by omega)]
  | N + 1, m + 1, μ, x, hm, hN, hR, hx => by
    obtain ⟨a, ha⟩ : ∃ a : Int, a = D.1 - ((m + 1 : Nat) : Int) := ⟨_, rfl⟩
    have ea : ((D.1.toNat : Nat) : Int) - m - 1 = a := by omega
    have ea1 : D.1 - (m : Int) = a + 1 := by omega
    rw [← ha] at hx ⊢
    obtain ⟨G, hG⟩ : ∃ G : kbCo → Int, G = fun y => kbId (∀ b : Int, D.1 - (m : Int) ≤ b → b < D.1 → kbFit D b y) := ⟨_, rfl⟩
    obtain ⟨F, hF⟩ : ∃ F : kbCo → Int, F = fun y => kbId (∀ b : Int, a ≤ b → b < D.1 → kbFit D b y) := ⟨_, rfl⟩
    rw [← hF]
    have hFG : F = fun y => kbId (kbFit D a y) * G y := by
      funext y
      rw [hF, hG]
      show kbId _ = kbId _ * kbId _
      rw [← kbId_a]
      refine kbId_c ⟨fun h => ⟨h a (Int.le_refl _) (by omega), fun b b0 b1 => h b (by omega) b1⟩, fun h b b0 b1 => ?_⟩
      by_cases hb : b = a
      · rw [hb]; exact h.1
      · exact h.2 b (by omega) b1
    obtain ⟨T, hT⟩ : ∃ T : Int → Int, T = fun c => kbUc 3 D.1.toNat m F (kbPu x a c) := ⟨_, rfl⟩
    have hv : kbUc 3 D.1.toNat (m + 1) F x = kbSm T 3 := by
      show kbSm (fun c => kbUc 3 D.1.toNat m F (kbPu x (((D.1.toNat : Nat) : Int) - m - 1) c)) 3 = _
      rw [ea, hT]
    have hTe : ∀ c : Int, T c = kbId (kbFit D a (kbPu x a c)) * kbUc 3 D.1.toNat m G (kbPu x a c) := by
      intro c
      rw [hT, hFG]
      refine kbUc_out m _ (fun y k c hk => kbId_c (kbFit_s (fun i _ i1 => if_neg (by omega))))
    have hTb : ∀ c : Int, 0 ≤ T c ∧ T c ≤ 823543 := by
      intro c
      have h1 := kbUc_b (n := D.1.toNat) (f := F) (by rw [hF]; exact fun y => kbId_b _) m (kbPu x a c)
      have h2 := kbPwA 3 (by omega) m (by omega)
      have h3 : ((3 : Int) ^ m) = ((3 ^ m : Nat) : Int) := (Int.natCast_pow 3 m).symm
      rw [hT]
      dsimp only
      omega
    rw [hv]
    unfold kfX3_tryFrom
    rw [hR.1, if_pos (by omega)]
    refine kbLoop (fun n i (s : Int × knMem) => kfX3_tryFrom_l14 (kfX3_tryFrom N) a (fun w18 => some (w18.1, w18.2)) n s.1 i s.2) (fun i s => 0 ≤ i ∧ s.1 = kbSm T i.toNat ∧ kbFr 118 118 μ s.2 ∧ ∀ j : Int, j < a → s.2 118 j = μ 118 j) 3 _ ?_ ?_ knF 0 (0, μ) (by omega) (by rw [kbF]; omega) ⟨by omega, rfl, kbFr.rf, fun _ _ => rfl⟩
    · rintro n i ⟨v, s⟩ hi ⟨i0, hs, hf, hj⟩ kk
      dsimp only at hs hf hj kk ⊢
      have ei : ((i.toNat : Nat) : Int) = i := by omega
      have hsum : kbSm T (i + 1).toNat = v + T i := by
        rw [show (i + 1).toNat = i.toNat + 1 by omega, kbSm, ei, hs]
      have hb1 := kbSm_le (f := T) (b := 823543) i.toNat (fun k _ _ => ⟨by have := hTb k; omega, (hTb k).2⟩)
      have hb2 := hTb i
      have hf2 : kbFr 118 118 μ (knUp s 118 a i) := hf.up (by omega)
      have hR2 : kbRa (knUp s 118 a i) D := hR.fr hf2
      have hag : ∀ j : Int, 0 ≤ j → j ≤ a → knUp s 118 a i 118 j = kbPu x a i j := by
        intro j j0 j1
        unfold kbPu
        by_cases g : j = a
        · rw [if_pos g, g]; exact kbUpS s 118 a i
        · rw [if_neg g, kbUp, if_neg (by omega), hj j (by omega)]; exact (hx j j0 (by omega)).1
      have hbb : ∀ j : Int, 0 ≤ j → j ≤ a → 0 ≤ kbPu x a i j ∧ kbPu x a i j < 3 := by
        intro j j0 j1
        unfold kbPu
        by_cases g : j = a
        · rw [if_pos g]; omega
        · rw [if_neg g]; exact (hx j j0 (by omega)).2
      have hkeep : ∀ j : Int, j < a → knUp s 118 a i 118 j = μ 118 j := fun j j1 => by rw [kbUp, if_neg (by omega)]; exact hj j j1
      unfold kfX3_tryFrom_l14
      rw [if_neg (by omega), kbGd (by omega), kb3_fits hR2 hn (by omega) (fun j j0 j1 => by rw [hag j j0 j1]; exact hbb j j0 j1), Option.bind_some, kbId_c (kbFit_s hag), knW_id (x := i + 1) (by omega), knW_id (x := a + 1) (by omega)]
      by_cases g : kbFit D a (kbPu x a i)
      · have hTi : T i = kbUc 3 D.1.toNat m G (kbPu x a i) := by rw [hTe, kbId_t g, Int.one_mul]
        rw [kbId_t g, if_neg (by omega)]
        refine kbH.bind (P := fun q => q.1 = v + T i ∧ kbFr 118 118 μ q.2 ∧ ∀ j : Int, j < a → q.2 118 j = μ 118 j) ?_ (fun q12 ⟨q1, q2, q3⟩ => ?_)
        · have ih := kb3_tryFrom hn N m (knUp s 118 a i) (kbPu x a i) (by omega) (by omega) hR2 (fun j j0 j1 => ⟨hag j j0 (by omega), hbb j j0 (by omega)⟩)
          rw [← hG, ea1] at ih
          refine ih.bind (fun q ⟨q1, q2, q3⟩ => kbH_some.mpr ⟨?_, hf2.trans q2, fun j j1 => (q3 j (by omega)).trans (hkeep j j1)⟩)
          show knW (v + q.1) = v + T i
          rw [q1, ← hTi]
          exact knW_id (by omega)
        · rw [q1]
          exact kk (v + T i, q12.2) ⟨by omega, hsum.symm, q2, q3⟩
      · have hTi : T i = 0 := by rw [hTe, kbId_f g, Int.zero_mul]
        rw [kbId_f g, if_pos rfl, Option.bind_some]
        exact kk (v, knUp s 118 a i) ⟨by omega, by rw [hsum, hTi, Int.add_zero], hf2, hkeep⟩
    · rintro n ⟨v, s⟩ ⟨i0, hs, hf, hj⟩
      dsimp only at hs hf hj ⊢
      unfold kfX3_tryFrom_l14
      rw [if_pos (Int.le_refl _)]
      exact kbH_some.mpr ⟨hs, hf, hj⟩
theorem kbDot_3 {D : kbD} (hn : 0 < D.1) {c : Int} (x : kbCo) : (3 : Int) ∣ kbDot (kbMx D 3) D.1.toNat c x - kbE3 D c x := by
  have r1 : 0 ≤ kbAo D c ∧ kbAo D c < D.1 := kbAc_in hn (D.2.1 c)
  have r2 : 0 ≤ kbAe D c ∧ kbAe D c < D.1 := kbAc_in hn (kbBf D.1 (D.2.2.1 c))
  have r3 : 0 ≤ kbAb D c ∧ kbAb D c < D.1 := kbAc_in hn (D.2.2.1 c)
  have one : ∀ k v : Int, 0 ≤ k → k < D.1 → kbSm (fun a => (if a = k then v else 0) * x a) D.1.toNat = v * x k := by
    intro k v k0 k1
    rw [kbSm_up (f := fun a => (if a = k then v else 0) * x a) (g := fun _ => 0) (a := k) D.1.toNat (by omega) (fun j _ _ hj => by rw [if_neg hj, Int.zero_mul]), kbSm_c]
    rw [if_pos rfl, Int.zero_mul]
    omega
  have hs : kbSm (fun a => kbMe D 3 c a * x a) D.1.toNat = 2 * x (kbAo D c) + 2 * x (kbAe D c) + 2 * x (kbAb D c) := by
    rw [← one _ 2 r1.1 r1.2, ← one _ 2 r2.1 r2.2, ← one _ 2 r3.1 r3.2, ← kbSm_add, ← kbSm_add]
    refine kbSm_congr _ (fun a _ _ => ?_)
    unfold kbMe
    rw [Int.add_mul, Int.add_mul]
    rfl
  have hd : (3 : Int) ∣ kbDot (kbMx D 3) D.1.toNat c x - kbSm (fun a => kbMe D 3 c a * x a) D.1.toNat := by
    unfold kbDot
    rw [← kbSm_sub]
    refine kbSm_dvd _ (fun a _ _ => ?_)
    rw [← Int.sub_mul]
    exact Int.dvd_mul_of_dvd_left (kbDvdM 3 _)
  rw [hs] at hd
  unfold kbE3
  omega
theorem kbTry_all {D : kbD} (hn : 0 < D.1) (x : kbCo) : (∀ b : Int, 0 ≤ b → b < D.1 → kbFit D b x) ↔ kbSat 3 (kbMx D 3) D.1.toNat 0 x := by
  constructor
  · intro h c c0 c1
    have h1 := kbDot_3 hn (c := c) x
    have h2 := kbM3_in hn c
    have h3 := h (kbM3 D c) h2.1 h2.2 c c0 (by omega) rfl
    omega
  · intro h b _ _ c c0 c1 _
    have h1 := kbDot_3 hn (c := c) x
    have h3 := h c c0 (by omega)
    omega
theorem kb3_countByTrying {μ : knMem} {D : kbD} (hA : kbA μ 2 D) (hB : kbB D) : kbH (kfX3_countByTrying 2 μ) (fun q => q.1 = kbCv D 3 ∧ kbFr 106 118 μ q.2) := by
  have hn := hB.1
  unfold kfX3_countByTrying
  refine (kb3_readArcs hA hB).bind (fun q1 ⟨a1, a2⟩ => ?_)
  rw [a1.1]
  unfold kbCv
  by_cases hz : D.1 = 0
  · rw [if_pos hz, if_pos hz, Option.bind_some]
    exact kbH_some.mpr ⟨rfl, a2.wd (by omega) (by omega)⟩
  · rw [if_neg hz, if_neg hz]
    have h9 := kb3_tryFrom (D := D) (by omega) 10 D.1.toNat q1 (fun _ => 0) (by omega) (by omega) a1 (fun i _ _ => by omega)
    rw [show D.1 - ((D.1.toNat : Nat) : Int) = 0 by omega, kbUT] at h9
    have h8 : kbH (Option.bind (kfX3_tryFrom 10 0 q1) (fun q12 => some (q12.1, q12.2))) (fun q => q.1 = kbTc 3 D.1.toNat D.1.toNat (fun x => kbId (kbSat (3 : Nat) (kbMx D (3 : Nat)) D.1.toNat 0 x)) (fun _ => 0) ∧ kbFr 106 118 μ q.2) := by
      refine h9.bind (fun q ⟨b1, b2, _⟩ => kbH_some.mpr ⟨?_, (a2.wd (by omega) (by omega)).trans (b2.wd (by omega) (by omega))⟩)
      rw [b1]
      congr 1
      funext x
      exact kbId_c (kbTry_all (by omega) x)
    exact h8.bind (fun q h => kbH_some.mpr h)
theorem kbLk_24 {μ : knMem} (hI : kbIv μ) (x1 x2 x3 x4 : Int) : kbH (kfLc_24 x1 x2 x3 x4 μ) kbIv := by
  obtain ⟨⟨S, hC, hR⟩, -⟩ := id hI
  unfold kfLc_24
  refine kbPl3 (P := kbK μ) (v := kbCv S.1 3) ?_ (fun μ1 h1 => ?_)
  · unfold kfX12_colouringsByTrying
    exact (kb3_countByTrying hC.1 hR.B).bind (fun q ⟨a1, a2⟩ => kbH_some.mpr ⟨a1, a2.K (Or.inr (Or.inl ⟨by omega, by omega⟩))⟩)
  · have hW : kbW (μ1 143) S.1 := by rw [h1.1 143 (by omega)]; exact hR.1
    unfold kfX13_colouringsByTrying
    exact (kb13_colourings (p := 3) (by omega) hW).bind (fun r ⟨r1, _, _, r4⟩ => kbH_some.mpr ⟨r1, (hI.K h1).K r4⟩)
