/-! The reference counts colourings. -/
def kbMr (μ : knMem) (n : Int) (M : Int → Int → Int) : Prop := ∀ i j : Int, 0 ≤ i → i < n → 0 ≤ j → j < n → μ 150 (7 * i + j) = M i j
theorem kbAe_eq {D : kbD} {of vr sg : Int → Int} (hR : kbR D of vr sg) {c : Int} (hc : 0 ≤ c ∧ c < D.1) : (kbAb D c + D.1 - 1) % D.1 = kbAe D c := by
  have hn := hR.1
  have h1 := hR.2.1 c hc.1 hc.2
  obtain ⟨u, hu⟩ : ∃ u : Int, u = D.2.2.1 c := ⟨_, rfl⟩
  have hvu : vr u = 0 := by rw [hu]; exact h1.2.1.2.2.2
  have hu2 : 0 ≤ u ∧ u < 2 * D.1 := by omega
  have hAb : kbAb D c = kbAc D u := by rw [hu]
  have hAe : kbAe D c = kbAc D (kbBf D.1 u) := by rw [hu]
  have e1 := hR.arc (u.toNat + 1) (by omega)
  have e0 := hR.arc u.toNat (by omega)
  have eu : ((u.toNat : Nat) : Int) = u := by omega
  have e2 : kbSm (fun k => 1 - vr k) (u.toNat + 1) = kbSm (fun k => 1 - vr k) u.toNat + (1 - vr u) := by
    show _ + (1 - vr ((u.toNat : Nat) : Int)) = _
    rw [eu]
  rw [show ((u.toNat + 1 : Nat) : Int) - 1 = u by omega, e2, e0, eu, hvu] at e1
  have b1 := kbAr_in (D := D) (by omega) u
  have b0 := kbAr_in (D := D) (by omega) (u - 1)
  rw [hAb, hAe]
  unfold kbBf
  by_cases hz : u = 0
  · have z0 : kbAr D (u - 1) = 0 := by
      rw [hz]
      have e9 := hR.arc 0 (by omega)
      exact e9.symm
    have zl : kbAr D (2 * D.1 - 1) = D.1 := by
      unfold kbAr
      rw [kbSm_congr (g := fun _ => 1) _ (fun k k0 k1 => if_neg (by have := hR.2.1 k k0 (by omega); omega)), kbSm_c]
      omega
    rw [if_pos hz]
    unfold kbAc
    rw [zl, if_neg (by omega), if_neg (by omega), show kbAr D u - 1 + D.1 - 1 = D.1 - 1 by omega, kbMd0 (by omega)]
  · rw [if_neg hz]
    unfold kbAc
    rw [if_neg (by omega)]
    by_cases g : kbAr D (u - 1) = 0
    · rw [if_pos g, show kbAr D u - 1 + D.1 - 1 = D.1 - 1 by omega, kbMd0 (by omega)]
    · rw [if_neg g, kbMd1 (by omega)]; omega
theorem kb13_equations {μ : knMem} {D : kbD} {p : Nat} (hp : p = 3 ∨ p = 5 ∨ p = 7) (hL : kbL μ D) : kbH (kfX13_equations p μ) (fun μ' => kbMr μ' D.1 (kbMx D p) ∧ kbFr 150 150 μ μ') := by
  have hn := hL.2.1
  unfold kfX13_equations
  refine kbLoop (fun n i s => kfX13_equations_l2 p (fun w3 => kfX13_equations_l23 p (fun w27 => kfX13_equations_l124 p (fun w32 => some w32) knF 0 w27) knF 0 w3) n i s) (fun i s => 0 ≤ i ∧ (∀ j : Int, 0 ≤ j → j < i → s 150 j = 0) ∧ kbFr 150 150 μ s) 49 _ ?_ ?_ _ _ _ (by omega) (by rw [kbF]; omega) ⟨by omega, fun j _ _ => by omega, kbFr.rf⟩
  · intro n i s hi ⟨i0, hr, hf⟩ kk
    simp only [kfX13_equations_l2, kbH_ite, kbH_gd]
    rw [knW_id (by omega)]
    refine ⟨fun h => by omega, fun _ => ⟨by omega, kk _ ⟨by omega, fun j j0 j1 => ?_, hf.up (by omega)⟩⟩⟩
    by_cases h : j = i
    · subst h; exact kbUpS s 150 j 0
    · rw [kbUp, if_neg (by omega)]; exact hr j j0 (by omega)
  · intro n s ⟨i0, hr, hf⟩
    simp only [kfX13_equations_l2, kbH_ite]
    refine ⟨fun _ => ?_, fun h => by omega⟩
    refine kbLoop (fun n i m => kfX13_equations_l23 p (fun w27 => kfX13_equations_l124 p (fun w32 => some w32) knF 0 w27) n i m) (fun i m => 0 ≤ i ∧ (∀ c a : Int, 0 ≤ c → c < i → 0 ≤ a → a < D.1 → m 150 (7 * c + a) = kbMe D p c a) ∧ (∀ j : Int, 7 * i ≤ j → j < 49 → m 150 j = 0) ∧ kbFr 150 150 μ m) D.1 _ ?_ ?_ _ _ _ (by omega) (by rw [kbF]; omega) ⟨by omega, fun c a _ _ => by omega, fun j j0 j1 => hr j (by omega) (by omega), hf⟩
    · intro n i m hi ⟨i0, hlo, hhi, hf⟩ kk
      have hLm : kbL m D := ⟨by rw [hf 142 (by omega)]; exact hL.1, by rw [hf 147 (by omega), hf 148 (by omega), hf 149 (by omega)]; exact hL.2⟩
      have h1 := hL.2.2.1 i i0 hi
      have hps := kb13_passOf hLm ⟨i0, hi⟩
      have r1 : 0 ≤ kbAo D i ∧ kbAo D i < D.1 := kbAc_in (D := D) (by omega) (D.2.1 i)
      have r2 : 0 ≤ kbAe D i ∧ kbAe D i < D.1 := kbAc_in (D := D) (by omega) (kbBf D.1 (D.2.2.1 i))
      have r3 : 0 ≤ kbAb D i ∧ kbAb D i < D.1 := kbAc_in (D := D) (by omega) (D.2.2.1 i)
      have hae := kbAe_eq hL.2 ⟨i0, hi⟩
      simp only [kfX13_equations_l23, kbH_ite]
      rw [hLm.1, hps.1, hps.2]
      simp only [Option.bind_some]
      rw [kb13_arcOf hLm (p := D.2.2.1 i) (by omega), Option.bind_some, kbH_gd, kb13_arcOf hLm (p := D.2.1 i) (by omega), Option.bind_some]
      rw [show kbAc D (D.2.1 i) = kbAo D i from rfl, show kbAc D (D.2.2.1 i) = kbAb D i from rfl, knW_id (x := kbAb D i + D.1) (by omega), knW_id (x := kbAb D i + D.1 - 1) (by omega), kbRe (by omega) (by omega), hae, knW_id (x := 7 * i) (by omega), knW_id (x := 7 * i + kbAo D i) (by omega), knW_id (x := 7 * i + kbAb D i) (by omega), knW_id (x := 7 * i + kbAe D i) (by omega), knW_id (x := (p : Int) - 1) (by omega), knW_id (x := i + 1) (by omega)]
      refine ⟨fun h => by omega, fun _ => ⟨by omega, ?_⟩⟩
      rw [kbGd (by omega), kbGd (by omega), kbGd (by omega), hhi (7 * i + kbAo D i) (by omega) (by omega), knW_id (x := 0 + 2) (by omega)]
      have v1 : knUp m 150 (7 * i + kbAo D i) (0 + 2) 150 (7 * i + kbAb D i) = if kbAb D i = kbAo D i then 2 else 0 := by
        rw [kbUp]
        by_cases g : kbAb D i = kbAo D i
        · rw [if_pos (by omega), if_pos g]; rfl
        · rw [if_neg (by omega), if_neg g]; exact hhi _ (by omega) (by omega)
      rw [v1, knW_id (x := (if kbAb D i = kbAo D i then 2 else 0) + ((p : Int) - 1)) (by split <;> omega)]
      obtain ⟨q2, hq2⟩ : ∃ q2 : knMem, q2 = knUp (knUp m 150 (7 * i + kbAo D i) (0 + 2)) 150 (7 * i + kbAb D i) ((if kbAb D i = kbAo D i then 2 else 0) + ((p : Int) - 1)) := ⟨_, rfl⟩
      rw [← hq2]
      have v2 : ∀ a : Int, 0 ≤ a → a < D.1 → q2 150 (7 * i + a) = (if a = kbAo D i then 2 else 0) + (if a = kbAb D i then (p : Int) - 1 else 0) := by
        intro a a0 a1'
        rw [hq2, kbUp]
        by_cases g : a = kbAb D i
        · rw [if_pos (by omega), if_pos g, g]
        · rw [if_neg (by omega), if_neg g, kbUp]
          by_cases g2 : a = kbAo D i
          · rw [if_pos (by omega), if_pos g2]; omega
          · rw [if_neg (by omega), if_neg g2]; exact hhi _ (by omega) (by omega)
      have hv3 := v2 _ r2.1 r2.2
      have b3 : 0 ≤ q2 150 (7 * i + kbAe D i) ∧ q2 150 (7 * i + kbAe D i) ≤ 100 := by rw [hv3]; split <;> split <;> omega
      rw [knW_id (x := q2 150 (7 * i + kbAe D i) + ((p : Int) - 1)) (by omega)]
      refine kk _ ⟨by omega, fun c a c0 c1 a0 a1 => ?_, fun j j0 j1 => ?_, ?_⟩
      · rw [kbUp]
        by_cases hc : c = i
        · subst hc
          unfold kbMe
          by_cases g : a = kbAe D c
          · rw [if_pos (by omega), if_pos g, ← g, v2 a a0 a1]; omega
          · rw [if_neg (by omega), if_neg g, v2 a a0 a1]; omega
        · rw [if_neg (by omega), hq2, kbUp, if_neg (by omega), kbUp, if_neg (by omega)]
          exact hlo c a c0 (by omega) a0 a1
      · rw [kbUp, if_neg (by omega), hq2, kbUp, if_neg (by omega), kbUp, if_neg (by omega)]
        exact hhi j (by omega) j1
      · rw [hq2]
        exact ((hf.up (by omega)).up (by omega)).up (by omega)
    · intro n m ⟨i0, hlo, hhi, hf⟩
      simp only [kfX13_equations_l23, kbH_ite]
      rw [hf 142 (by omega), hL.1]
      refine ⟨fun _ => ?_, fun h => absurd (Int.le_refl _) h⟩
      have hb : ∀ j : Int, 0 ≤ j → j < 49 → (∃ c a : Int, 0 ≤ c ∧ c < D.1 ∧ 0 ≤ a ∧ a < D.1 ∧ j = 7 * c + a) ∨ True := fun _ _ _ => Or.inr trivial
      refine kbLoop (fun n i m' => kfX13_equations_l124 p (fun w32 => some w32) n i m') (fun i m' => 0 ≤ i ∧ (∀ c a : Int, 0 ≤ c → c < D.1 → 0 ≤ a → a < D.1 → m' 150 (7 * c + a) = if 7 * c + a < i then kbMx D p c a else kbMe D p c a) ∧ kbFr 150 150 μ m') 49 _ ?_ ?_ _ _ _ (by omega) (by rw [kbF]; omega) ⟨by omega, fun c a c0 c1 a0 a1 => by rw [if_neg (by omega)]; exact hlo c a c0 c1 a0 a1, hf⟩
      · intro n1 i m' hi ⟨i0, hs, hg⟩ kk
        simp only [kfX13_equations_l124, kbH_ite, kbH_gd]
        rw [knW_id (by omega)]
        refine ⟨fun h => by omega, fun _ => ⟨by omega, by omega, kk _ ⟨by omega, fun c a c0 c1 a0 a1 => ?_, hg.up (by omega)⟩⟩⟩
        have hca := hs c a c0 c1 a0 a1
        rw [kbUp]
        by_cases g : 7 * c + a = i
        · rw [if_neg (by omega)] at hca
          have hbe : 0 ≤ kbMe D p c a ∧ kbMe D p c a ≤ 100 := by unfold kbMe; split <;> split <;> split <;> omega
          rw [if_pos ⟨rfl, g⟩, if_pos (by omega), ← g, hca, kbRe (by omega) (by omega)]
          rfl
        · rw [if_neg (fun h => g h.2), hca]
          by_cases g2 : 7 * c + a < i
          · rw [if_pos g2, if_pos (by omega)]
          · rw [if_neg g2, if_neg (by omega)]
      · intro n1 m' ⟨i0, hs, hg⟩
        simp only [kfX13_equations_l124, kbH_ite]
        exact ⟨fun _ => kbH_some.mpr ⟨fun c a c0 c1 a0 a1 => by rw [hs c a c0 c1 a0 a1, if_pos (by omega)], hg⟩, fun h => absurd (Int.le_refl _) h⟩
theorem kbIvA : ∀ v : Nat, v < 3 → v ≠ 0 → ∃ b : Nat, b < 3 ∧ 1 ≤ b ∧ v * b % 3 = 1 ∧ ∀ k : Nat, k < b → 1 ≤ k → v * k % 3 ≠ 1 := by decide +kernel
theorem kbIvB : ∀ v : Nat, v < 5 → v ≠ 0 → ∃ b : Nat, b < 5 ∧ 1 ≤ b ∧ v * b % 5 = 1 ∧ ∀ k : Nat, k < b → 1 ≤ k → v * k % 5 ≠ 1 := by decide +kernel
theorem kbIvC : ∀ v : Nat, v < 7 → v ≠ 0 → ∃ b : Nat, b < 7 ∧ 1 ≤ b ∧ v * b % 7 = 1 ∧ ∀ k : Nat, k < b → 1 ≤ k → v * k % 7 ≠ 1 := by decide +kernel
theorem kbIvD : ∀ a : Nat, a < 3 → ∀ v : Nat, v < 3 → ∀ b : Nat, b < 3 → v * b % 3 = 1 → ((a : Int) + (3 - (a : Int) * b % 3) * v) % 3 = 0 := by decide +kernel
theorem kbIvE : ∀ a : Nat, a < 5 → ∀ v : Nat, v < 5 → ∀ b : Nat, b < 5 → v * b % 5 = 1 → ((a : Int) + (5 - (a : Int) * b % 5) * v) % 5 = 0 := by decide +kernel
theorem kbIvF : ∀ a : Nat, a < 7 → ∀ v : Nat, v < 7 → ∀ b : Nat, b < 7 → v * b % 7 = 1 → ((a : Int) + (7 - (a : Int) * b % 7) * v) % 7 = 0 := by decide +kernel
theorem kb13_inverse {v : Int} {p : Nat} {μ : knMem} (hp : p = 3 ∨ p = 5 ∨ p = 7) (hv : 0 < v ∧ v < p) : ∃ b : Int, (0 < b ∧ b < p) ∧ kfX13_inverse v p μ = some b ∧ ∀ a : Int, 0 ≤ a → a < p → (a + ((p : Int) - a * b % (p : Int)) * v) % (p : Int) = 0 := by
  have hex : ∃ b : Nat, b < p ∧ 1 ≤ b ∧ v.toNat * b % p = 1 ∧ ∀ k : Nat, k < b → 1 ≤ k → v.toNat * k % p ≠ 1 := by
    rcases hp with rfl | rfl | rfl
    · exact kbIvA _ (by omega) (by omega)
    · exact kbIvB _ (by omega) (by omega)
    · exact kbIvC _ (by omega) (by omega)
  obtain ⟨b, b1, b2, b3, b4⟩ := hex
  have hr : ∀ k : Nat, k < 8 → knRem (knW (v * (k : Int))) p = ((v.toNat * k % p : Nat) : Int) := by
    intro k hk
    have h1 : v * (k : Int) = ((v.toNat * k : Nat) : Int) := by rw [Int.natCast_mul, show ((v.toNat : Nat) : Int) = v by omega]
    have h2 : v.toNat * k ≤ 7 * 8 := Nat.mul_le_mul (by omega) (by omega)
    rw [h1, knW_id (by omega), kbRe (by omega) (by omega), Int.natCast_emod]
  refine ⟨b, by omega, ?_, fun a a0 a1 => ?_⟩
  · have key : kbH (kfX13_inverse v p μ) (fun r => r = b) := by
      unfold kfX13_inverse
      refine kbLoop (fun n i (_ : Unit) => kfX13_inverse_l2 v p μ (fun w3 => some w3) n i) (fun i _ => 1 ≤ i) b _ ?_ ?_ _ _ () (by omega) (by rw [kbF]; omega) (by omega)
      · intro n i _ hi i0 kk
        have h9 := hr i.toNat (by omega)
        have h8 := b4 i.toNat (by omega) (by omega)
        rw [show ((i.toNat : Nat) : Int) = i by omega] at h9
        simp only [kfX13_inverse_l2, kbH_ite, kbH_gd]
        rw [h9, knW_id (x := i + 1) (by omega)]
        exact ⟨by omega, fun h => absurd (by omega) h8, fun _ => kk () (by omega)⟩
      · intro n _ _
        have h9 := hr b (by omega)
        simp only [kfX13_inverse_l2, kbH_ite, kbH_gd]
        rw [h9, b3]
        exact ⟨by omega, fun _ => kbH_some.mpr rfl, fun h => absurd rfl h⟩
    obtain ⟨r, h2, h3⟩ := key
    rw [h2, h3]
  · have e1 : ((a.toNat : Nat) : Int) = a := by omega
    have e2 : ((v.toNat : Nat) : Int) = v := by omega
    rcases hp with rfl | rfl | rfl
    · have := kbIvD a.toNat (by omega) v.toNat (by omega) b (by omega) b3
      rw [e1, e2] at this; exact this
    · have := kbIvE a.toNat (by omega) v.toNat (by omega) b (by omega) b3
      rw [e1, e2] at this; exact this
    · have := kbIvF a.toNat (by omega) v.toNat (by omega) b (by omega) b3
      rw [e1, e2] at this; exact this
theorem kb13_swaps {μ : knMem} {n r q : Int} {M : Int → Int → Int} (h8 : μ 142 8 = n) (hn : 0 ≤ n ∧ n ≤ 7) (hM : kbMr μ n M) (hr : 0 ≤ r ∧ r < n) (hq : 0 ≤ q ∧ q < n) : kbH (kfX13_swaps r q μ) (fun μ' => kbMr μ' n (kbEx2 r q M) ∧ kbFr 150 150 μ μ') := by
  unfold kfX13_swaps
  refine kbLoop (fun n1 i s => kfX13_swaps_l2 r q (fun w7 => some w7) n1 i s) (fun i s => 0 ≤ i ∧ (∀ c a : Int, 0 ≤ c → c < n → 0 ≤ a → a < n → s 150 (7 * c + a) = if a < i then kbEx2 r q M c a else M c a) ∧ kbFr 150 150 μ s) n _ ?_ ?_ _ _ _ (by omega) (by rw [kbF]; omega) ⟨by omega, fun c a c0 c1 a0 a1 => by rw [if_neg (by omega)]; exact hM c a c0 c1 a0 a1, kbFr.rf⟩
  · intro n1 i s hi ⟨i0, hs, hf⟩ kk
    simp only [kfX13_swaps_l2, kbH_ite, kbH_gd]
    rw [hf 142 (by omega), h8, knW_id (x := 7 * r) (by omega), knW_id (x := 7 * q) (by omega), knW_id (x := 7 * r + i) (by omega), knW_id (x := 7 * q + i) (by omega), knW_id (x := i + 1) (by omega)]
    refine ⟨fun h => by omega, fun _ => ⟨by omega, by omega, kk _ ⟨by omega, fun c a c0 c1 a0 a1 => ?_, (hf.up (by omega)).up (by omega)⟩⟩⟩
    have s1 := hs r i hr.1 hr.2 i0 hi
    have s2 := hs q i hq.1 hq.2 i0 hi
    have s3 := hs c a c0 c1 a0 a1
    rw [if_neg (by omega)] at s1 s2
    by_cases ha : a = i
    · subst ha
      rw [if_pos (by omega)]
      unfold kbEx2
      by_cases g1 : c = q
      · rw [kbUp, if_pos ⟨rfl, by omega⟩, s1]
        by_cases g2 : c = r
        · rw [if_pos g2, ← g1, g2]
        · rw [if_neg g2, if_pos g1]
      · rw [kbUp, if_neg (by omega), kbUp]
        by_cases g2 : c = r
        · rw [if_pos ⟨rfl, by omega⟩, if_pos g2, s2]
        · rw [if_neg (by omega), if_neg g2, if_neg g1, s3, if_neg (by omega)]
    · rw [kbUp, if_neg (by omega), kbUp, if_neg (by omega), s3]
      by_cases g : a < i
      · rw [if_pos g, if_pos (by omega)]
      · rw [if_neg g, if_neg (by omega)]
  · intro n1 s ⟨i0, hs, hf⟩
    simp only [kfX13_swaps_l2, kbH_ite, kbH_some]
    rw [hf 142 (by omega), h8]
    exact ⟨fun _ => ⟨fun c a c0 c1 a0 a1 => by rw [hs c a c0 c1 a0 a1, if_pos a1], hf⟩, fun h => absurd (Int.le_refl n) h⟩
def kbCr (p r col b hi : Int) (M : Int → Int → Int) : Int → Int → Int := fun i c => if r < i ∧ i < hi then (M i c + (p - M i col * b % p) * M r c) % p else M i c
theorem kb13_takes {μ : knMem} {n r col i b : Int} {p : Nat} (hp : p = 3 ∨ p = 5 ∨ p = 7) {M : Int → Int → Int} (h8 : μ 142 8 = n) (hn : 0 ≤ n ∧ n ≤ 7) (hM : kbMr μ n (kbCr p r col b i M)) (hMb : ∀ i j : Int, 0 ≤ i → i < n → 0 ≤ j → j < n → 0 ≤ M i j ∧ M i j < p) (hr : 0 ≤ r ∧ r < i) (hi : i < n) :
    kbH (kfX13_takes i r (M i col * b % p) p μ) (fun μ' => kbMr μ' n (kbCr p r col b (i + 1) M) ∧ kbFr 150 150 μ μ') := by
  have er : ∀ c : Int, kbCr p r col b i M r c = M r c := fun c => if_neg (by omega)
  have ei : ∀ c : Int, kbCr p r col b i M i c = M i c := fun c => if_neg (by omega)
  have t0 : 0 ≤ M i col * b % p ∧ M i col * b % p < p := ⟨Int.emod_nonneg _ (by omega), Int.emod_lt_of_pos _ (by omega)⟩
  unfold kfX13_takes
  refine kbLoop (fun n1 j s => kfX13_takes_l3 i r (M i col * b % p) p (fun w8 => some w8) n1 j s) (fun j s => 0 ≤ j ∧ (∀ c a : Int, 0 ≤ c → c < n → 0 ≤ a → a < n → s 150 (7 * c + a) = if c = i ∧ a < j then (M i a + ((p : Int) - M i col * b % p) * M r a) % p else kbCr p r col b i M c a) ∧ kbFr 150 150 μ s) n _ ?_ ?_ _ _ _ (by omega) (by rw [kbF]; omega) ⟨by omega, fun c a c0 c1 a0 a1 => by rw [if_neg (by omega)]; exact hM c a c0 c1 a0 a1, kbFr.rf⟩
  · intro n1 j s hj ⟨j0, hs, hf⟩ kk
    have s1 := hs i j (by omega) hi j0 hj
    have s2 := hs r j (by omega) (by omega) j0 hj
    rw [if_neg (by omega), ei] at s1
    rw [if_neg (by omega), er] at s2
    have b3 := hMb i j (by omega) hi j0 hj
    have b4 := hMb r j (by omega) (by omega) j0 hj
    have m1 : 0 ≤ ((p : Int) - M i col * b % p) * M r j ∧ ((p : Int) - M i col * b % p) * M r j ≤ 42 := ⟨Int.mul_nonneg (by omega) b4.1, by
      have := Int.mul_le_mul (show (p : Int) - M i col * b % p ≤ 7 by omega) (show M r j ≤ 6 by omega) b4.1 (by omega); omega⟩
    simp only [kfX13_takes_l3, kbH_ite, kbH_gd]
    rw [hf 142 (by omega), h8, knW_id (x := 7 * i) (by omega), knW_id (x := 7 * r) (by omega), knW_id (x := 7 * i + j) (by omega), knW_id (x := 7 * r + j) (by omega), s1, s2, knW_id (x := (p : Int) - M i col * b % p) (by omega), knW_id (x := ((p : Int) - M i col * b % p) * M r j) (by omega), knW_id (x := M i j + ((p : Int) - M i col * b % p) * M r j) (by omega), kbRe (by omega) (by omega), knW_id (x := j + 1) (by omega)]
    refine ⟨fun h => by omega, fun _ => ⟨by omega, by omega, by omega, kk _ ⟨by omega, fun c a c0 c1 a0 a1 => ?_, hf.up (by omega)⟩⟩⟩
    rw [kbUp]
    by_cases g : c = i ∧ a = j
    · rw [if_pos (by omega), if_pos (by omega), g.2]
    · rw [if_neg (by omega), hs c a c0 c1 a0 a1]
      by_cases g2 : c = i ∧ a < j
      · rw [if_pos g2, if_pos (by omega)]
      · rw [if_neg g2, if_neg (by omega)]
  · intro n1 s ⟨j0, hs, hf⟩
    simp only [kfX13_takes_l3, kbH_ite, kbH_some]
    rw [hf 142 (by omega), h8]
    refine ⟨fun _ => ⟨fun c a c0 c1 a0 a1 => ?_, hf⟩, fun h => absurd (Int.le_refl n) h⟩
    rw [hs c a c0 c1 a0 a1]
    unfold kbCr
    by_cases g : c = i
    · rw [if_pos ⟨g, a1⟩, if_pos (by omega), g]
    · rw [if_neg (fun h => g h.1)]
      by_cases g2 : r < c ∧ c < i
      · rw [if_pos g2, if_pos (by omega)]
      · rw [if_neg g2, if_neg (by omega)]
theorem kbCr_el {p n : Nat} (hp : p = 3 ∨ p = 5 ∨ p = 7) {N : Int} {M : Int → Int → Int} {r col : Nat} {q b : Int} (h : kbEl p n N M r col) (hc : col < n) (hq : (r : Int) ≤ q ∧ q < n ∧ M q col ≠ 0) (hb : ∀ a : Int, 0 ≤ a → a < p → (a + ((p : Int) - a * b % (p : Int)) * M q col) % (p : Int) = 0) : kbEl p n N (kbCr p r col b n (kbEx2 r q M)) (r + 1) (col + 1) := by
  obtain ⟨h1, h2, h3, h4⟩ := id h
  have hrn : (r : Int) < n := by omega
  have hEb : ∀ i j : Int, 0 ≤ i → i < n → 0 ≤ j → j < n → 0 ≤ kbEx2 r q M i j ∧ kbEx2 r q M i j < p := by
    intro i j i0 i1 j0 j1
    unfold kbEx2
    split
    · exact h3 q j (by omega) hq.2.1 j0 j1
    · split
      · exact h3 r j (by omega) hrn j0 j1
      · exact h3 i j i0 i1 j0 j1
  have hEz : ∀ i j : Int, (r : Int) ≤ i → i < n → 0 ≤ j → j < col → kbEx2 r q M i j = 0 := by
    intro i j i0 i1 j0 j1
    unfold kbEx2
    split
    · exact h2 q j hq.1 hq.2.1 j0 j1
    · split
      · exact h2 r j (Int.le_refl _) hrn j0 j1
      · exact h2 i j i0 i1 j0 j1
  have hpv : kbEx2 r q M r col = M q col := by unfold kbEx2; rw [if_pos rfl]
  have hCr : kbCr p r col b n (kbEx2 r q M) r = kbEx2 r q M r := funext fun c => if_neg (by omega)
  refine h.yes hp hc (fun x => (kbSat_ex ⟨hq.1, hq.2.1⟩ x).trans (kbSat_el hp hCr (fun i i0 i1 => ⟨1, (p : Int) - kbEx2 r q M i col * b % p, by omega, fun c c0 c1 => ?_⟩) hrn x)) (fun i j i0 i1 j0 j1 => ?_) (fun i i0 i1 => ?_) ?_ (fun i j i0 i1 j0 j1 => ?_)
  · have e : kbCr p r col b n (kbEx2 r q M) i c = (kbEx2 r q M i c + ((p : Int) - kbEx2 r q M i col * b % p) * kbEx2 r q M r c) % p := if_pos ⟨i0, i1⟩
    rw [e, Int.one_mul]
    exact kbDvdM _ _
  · unfold kbCr
    split
    · rw [hEz i j i0 i1 j0 j1, hEz r j (Int.le_refl _) hrn j0 j1, Int.mul_zero]; rfl
    · exact hEz i j i0 i1 j0 j1
  · have e : kbCr p r col b n (kbEx2 r q M) i col = (kbEx2 r q M i col + ((p : Int) - kbEx2 r q M i col * b % p) * kbEx2 r q M r col) % p := if_pos ⟨by omega, i1⟩
    have hib := hEb i col (by omega) i1 (by omega) (by omega)
    rw [e, hpv]
    exact hb _ hib.1 hib.2
  · rw [hCr, hpv]; exact hq.2.2
  · unfold kbCr
    split
    · exact ⟨Int.emod_nonneg _ (by omega), Int.emod_lt_of_pos _ (by omega)⟩
    · exact hEb i j i0 i1 j0 j1
theorem kb13_pivot {μ : knMem} {p n lo col q : Int} {M : Int → Int → Int} (h8 : μ 142 8 = n) (hn : 0 ≤ n ∧ n ≤ 7) (hM : kbMr μ n M) (hl : 0 ≤ lo ∧ lo ≤ n) (hc : 0 ≤ col ∧ col < n) (hq : kbPv M n lo col q) {kc : Int → Option (Int × knMem)} {Q : Int × knMem → Prop} (hk : kbH (kc q) Q) : kbH (kfX13_rankOf_l20 p lo col μ kc knF lo) Q := by
  rcases hq with ⟨q0, q1, q2, q3⟩ | ⟨q0, q1⟩
  · refine kbLoop (fun n1 i (_ : Unit) => kfX13_rankOf_l20 p lo col μ kc n1 i) (fun i _ => lo ≤ i) q _ ?_ ?_ _ _ () q0 (by rw [kbF]; omega) (Int.le_refl _)
    · intro n1 i _ hi i0 kk
      simp only [kfX13_rankOf_l20, kbH_ite, kbH_gd]
      rw [h8, knW_id (x := 7 * i) (by omega), knW_id (x := 7 * i + col) (by omega), hM i col (by omega) (by omega) hc.1 hc.2, knW_id (x := i + 1) (by omega)]
      exact ⟨fun h => by omega, fun _ => ⟨by omega, fun _ => kk () (by omega), fun h => absurd (q3 i i0 hi) h⟩⟩
    · intro n1 _ _
      simp only [kfX13_rankOf_l20, kbH_ite, kbH_gd]
      rw [h8, knW_id (x := 7 * q) (by omega), knW_id (x := 7 * q + col) (by omega), hM q col (by omega) (by omega) hc.1 hc.2]
      exact ⟨fun h => by omega, fun _ => ⟨by omega, fun h => absurd h q2, fun _ => hk⟩⟩
  · refine kbLoop (fun n1 i (_ : Unit) => kfX13_rankOf_l20 p lo col μ kc n1 i) (fun i _ => lo ≤ i) n _ ?_ ?_ _ _ () hl.2 (by rw [kbF]; omega) (Int.le_refl _)
    · intro n1 i _ hi i0 kk
      simp only [kfX13_rankOf_l20, kbH_ite, kbH_gd]
      rw [h8, knW_id (x := 7 * i) (by omega), knW_id (x := 7 * i + col) (by omega), hM i col (by omega) (by omega) hc.1 hc.2, knW_id (x := i + 1) (by omega)]
      exact ⟨fun h => by omega, fun _ => ⟨by omega, fun _ => kk () (by omega), fun h => absurd (q1 i i0 hi) h⟩⟩
    · intro n1 _ _
      simp only [kfX13_rankOf_l20, kbH_ite, h8]
      exact ⟨fun _ => by rw [← q0]; exact hk, fun h => absurd (Int.le_refl n) h⟩
theorem kb13_rankOf {μ : knMem} {D : kbD} {p : Nat} (hp : p = 3 ∨ p = 5 ∨ p = 7) (hL : kbL μ D) :
    kbH (kfX13_rankOf p μ) (fun q => ∃ r : Nat, q.1 = r ∧ r ≤ D.1.toNat ∧ kbTc p D.1.toNat D.1.toNat (fun x => kbId (kbSat p (kbMx D p) D.1.toNat 0 x)) (fun _ => 0) = (p : Int) ^ (D.1.toNat - r) ∧ kbFr 150 150 μ q.2) := by
  have hn := hL.2.1
  obtain ⟨N0, hN0⟩ : ∃ N0 : Int, N0 = kbTc p D.1.toNat D.1.toNat (fun x => kbId (kbSat p (kbMx D p) D.1.toNat 0 x)) (fun _ => 0) := ⟨_, rfl⟩
  rw [← hN0]
  have eD : ((D.1.toNat : Nat) : Int) = D.1 := by omega
  unfold kfX13_rankOf
  refine (kb13_equations hp hL).bind (fun q1 ⟨e1, e2⟩ => ?_)
  refine kbLoop (fun n i (s : Int × knMem) => kfX13_rankOf_l9 p (fun w66 => some (w66.1, w66.2)) n s.1 i s.2) (fun i s => 0 ≤ i ∧ kbFr 150 150 μ s.2 ∧ ∃ (r : Nat) (M : Int → Int → Int), s.1 = r ∧ kbMr s.2 D.1 M ∧ kbEl p D.1.toNat N0 M r i.toNat) D.1 _ ?_ ?_ knF 0 (0, q1) (by omega) (by rw [kbF]; omega) ⟨by omega, e2, 0, kbMx D p, rfl, e1, ?_⟩
  · rintro n i ⟨x, s⟩ hi ⟨i0, hf, r, M, hx, hm, hel⟩ kk
    dsimp only at hf hx hm kk ⊢
    subst hx
    obtain ⟨q, hq, q0, q1⟩ := kbPv_ex (M := M) (n := D.1) (lo := r) (col := i) (by have := hel.1; omega)
    have s8 : s 142 8 = D.1 := by rw [hf 142 (by omega)]; exact hL.1
    have hri := hel.1.1
    have ei : ((i.toNat : Nat) : Int) = i := by omega
    have ei1 : (i + 1).toNat = i.toNat + 1 := by omega
    unfold kfX13_rankOf_l9
    rw [s8, if_neg (by omega)]
    refine kb13_pivot s8 hn hm (by omega) ⟨i0, hi⟩ hq ?_
    rw [knW_id (x := i + 1) (by omega)]
    dsimp only
    rcases hq with ⟨a0, a1, a2, a3⟩ | ⟨a0, a1⟩
    · rw [if_neg (by omega)]
      refine (kb13_swaps s8 hn hm (by omega) (by omega)).bind (fun s1 ⟨b1, b2⟩ => ?_)
      have hEb : ∀ c a : Int, 0 ≤ c → c < D.1 → 0 ≤ a → a < D.1 → 0 ≤ kbEx2 r q M c a ∧ kbEx2 r q M c a < p := by
        intro c a c0 c1 a0' a1'
        unfold kbEx2
        split
        · exact hel.2.2.1 q a (by omega) (by omega) a0' (by omega)
        · split
          · exact hel.2.2.1 r a (by omega) (by omega) a0' (by omega)
          · exact hel.2.2.1 c a c0 (by omega) a0' (by omega)
      have hpv : kbEx2 r q M r i = M q i := by unfold kbEx2; rw [if_pos rfl]
      have hpb := hEb r i (by omega) (by omega) i0 hi
      rw [hpv] at hpb
      obtain ⟨b, hb1, hb2, hb3⟩ := kb13_inverse (v := M q i) (p := p) (μ := s1) hp (by omega)
      rw [knW_id (x := (r : Int) + 1) (by omega), knW_id (x := 7 * (r : Int)) (by omega), knW_id (x := 7 * (r : Int) + i) (by omega), kbGd (by omega), b1 r i (by omega) (by omega) i0 hi, hpv, hb2, Option.bind_some]
      refine kbLoop (fun n1 j m => kfX13_rankOf_l91 p r i b (fun w42 => kfX13_rankOf_l9 p (fun w66 => some (w66.1, w66.2)) n ((r : Int) + 1) (i + 1) w42) n1 j m) (fun j m => (r : Int) + 1 ≤ j ∧ kbFr 150 150 μ m ∧ kbMr m D.1 (kbCr p r i b j (kbEx2 r q M))) D.1 _ ?_ ?_ _ _ _ (by omega) (by rw [kbF]; omega) ⟨Int.le_refl _, hf.trans b2, fun c a c0 c1 a0' a1' => ?_⟩
      · intro n1 j m hj ⟨j0, hg, hm1⟩ kk1
        have m8 : m 142 8 = D.1 := by rw [hg 142 (by omega)]; exact hL.1
        have hje := hm1 j i (by omega) hj i0 hi
        have eje : kbCr p r i b j (kbEx2 r q M) j i = kbEx2 r q M j i := if_neg (by omega)
        rw [eje] at hje
        have hjb := hEb j i (by omega) hj i0 hi
        have hm2 : 0 ≤ kbEx2 r q M j i * b ∧ kbEx2 r q M j i * b ≤ 36 := ⟨Int.mul_nonneg hjb.1 (by omega), by
          have := Int.mul_le_mul (show kbEx2 r q M j i ≤ 6 by omega) (show b ≤ 6 by omega) (by omega) (by omega); omega⟩
        simp only [kfX13_rankOf_l91, kbH_ite, kbH_gd]
        rw [m8, knW_id (x := 7 * j) (by omega), knW_id (x := 7 * j + i) (by omega), hje, knW_id (x := kbEx2 r q M j i * b) (by omega), kbRe (by omega) (by omega), knW_id (x := j + 1) (by omega)]
        refine ⟨fun h => by omega, fun _ => ⟨by omega, by omega, ?_⟩⟩
        exact (kb13_takes hp m8 hn hm1 hEb (by omega) hj).bind (fun m2 ⟨c1, c2⟩ => kk1 m2 ⟨by omega, hg.trans c2, c1⟩)
      · intro n1 m ⟨j0, hg, hm1⟩
        have m8 : m 142 8 = D.1 := by rw [hg 142 (by omega)]; exact hL.1
        simp only [kfX13_rankOf_l91, kbH_ite]
        rw [m8]
        refine ⟨fun _ => kk ((r : Int) + 1, m) ⟨by omega, hg, r + 1, _, by dsimp only; omega, hm1, ?_⟩, fun h => absurd (Int.le_refl _) h⟩
        have h9 := kbCr_el hp hel (by omega) (q := q) (b := b) ⟨a0, by omega, by rw [ei]; exact a2⟩ (by rw [ei]; exact hb3)
        rw [ei, eD] at h9
        rw [ei1]
        exact h9
      · have e : kbCr p r i b ((r : Int) + 1) (kbEx2 r q M) c a = kbEx2 r q M c a := if_neg (by omega)
        rw [e]
        exact b1 c a c0 c1 a0' a1'
    · rw [if_pos a0]
      refine kk (r, s) ⟨by omega, hf, r, M, rfl, hm, ?_⟩
      rw [ei1]
      exact hel.no (by omega) (fun c c0 c1 => by rw [ei]; exact a1 c c0 (by omega))
  · rintro n ⟨x, s⟩ ⟨i0, hf, r, M, hx, hm, hel⟩
    dsimp only at hf hx hm ⊢
    have s8 : s 142 8 = D.1 := by rw [hf 142 (by omega)]; exact hL.1
    unfold kfX13_rankOf_l9
    rw [s8, if_pos (by omega)]
    exact kbH_some.mpr ⟨r, hx, hel.1.1, hel.fin, hf⟩
  · rw [hN0]
    exact kbEl_0 (fun i j _ _ _ _ => kbMx_in hp i j)
theorem kb13_coloured {μ : knMem} {D : kbD} {p : Nat} (hp : p = 3 ∨ p = 5 ∨ p = 7) (hW : kbW (μ 143) D) : kbH (kfX13_coloured p μ) (fun q => q.1 = kbCv D p ∧ kbFb μ q.2) := by
  have hn := hW.2.1
  unfold kfX13_coloured
  refine (kb13_loads hW).bind (fun q1 ⟨a1, f1⟩ => ?_)
  refine (kb13_rankOf hp a1).bind (fun q3 ⟨r, c1, c2, c3, c4⟩ => ?_)
  have e8 : q3.2 142 8 = D.1 := by rw [c4 142 (by omega)]; exact a1.1
  obtain ⟨k, hk⟩ : ∃ k : Nat, (k : Int) = (if D.1 = 0 then 1 else D.1) - r := ⟨((if D.1 = 0 then 1 else D.1) - (r : Int)).toNat, by split <;> omega⟩
  have hk8 : k < 8 := by split at hk <;> omega
  have hv : (p : Int) ^ k = kbCv D p := by
    unfold kbCv
    by_cases hz : D.1 = 0
    · rw [if_pos hz] at hk ⊢
      have : k = 1 := by omega
      rw [this, Int.pow_succ, Int.pow_zero, Int.one_mul]
    · rw [if_neg hz] at hk ⊢
      rw [c3]
      congr 1
      omega
  rw [c1]
  refine kbLoop (fun n i (x : Int) => kfX13_coloured_l12 p q3.2 (fun w11 => some (w11, q3.2)) n x i) (fun i x => (r : Int) ≤ i ∧ x = (p : Int) ^ (i - r).toNat) (if D.1 = 0 then 1 else D.1) _ ?_ ?_ knF r 1 (by omega) (by rw [kbF]; split <;> omega) ⟨Int.le_refl _, by rw [Int.sub_self]; rfl⟩
  · intro n i x hi ⟨i0, hx⟩ kk
    have h9 := kbPwA p (by omega) ((i - r).toNat + 1) (by omega)
    have e : x * (p : Int) = ((p ^ ((i - r).toNat + 1) : Nat) : Int) := by rw [hx, Int.natCast_pow, Int.pow_succ]
    have hi2 : i < 8 := by split at hi <;> omega
    simp only [kfX13_coloured_l12, kfX13_arcs, Option.bind_some, kbH_ite, e8]
    rw [knW_id (x := i + 1) (by omega), knW_id (x := x * (p : Int)) (by omega)]
    refine ⟨fun h => by omega, fun _ => kk _ ⟨by omega, ?_⟩⟩
    rw [e, show (i + 1 - r).toNat = (i - r).toNat + 1 by omega, Int.natCast_pow]
  · intro n x ⟨i0, hx⟩
    simp only [kfX13_coloured_l12, kfX13_arcs, Option.bind_some, kbH_ite, e8]
    refine ⟨fun _ => kbH_some.mpr ⟨?_, f1.b.trans (c4.b (by omega))⟩, fun h => absurd (Int.le_refl _) h⟩
    rw [← hv, hx, ← hk, Int.toNat_natCast]
