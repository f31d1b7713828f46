/-! Sums; as many boxes as letters. -/
theorem kbSm_congr {f g : Int → Int} : ∀ n : Nat, (∀ k : Int, 0 ≤ k → k < n → f k = g k) → kbSm f n = kbSm g n
  | 0, _ => rfl
  | n + 1, h => by
    unfold kbSm
    rw [kbSm_congr n (fun k k0 k1 => h k k0 (by omega)), h n (by omega) (by omega)]
theorem kbSm_add {f g : Int → Int} : ∀ n : Nat, kbSm (fun k => f k + g k) n = kbSm f n + kbSm g n
  | 0 => rfl
  | n + 1 => by
    unfold kbSm
    rw [kbSm_add n]
    omega
theorem kbSm_sub {f g : Int → Int} : ∀ n : Nat, kbSm (fun k => f k - g k) n = kbSm f n - kbSm g n
  | 0 => rfl
  | n + 1 => by
    unfold kbSm
    rw [kbSm_sub n]
    omega
theorem kbSm_c (c : Int) : ∀ n : Nat, kbSm (fun _ => c) n = c * n
  | 0 => by simp [kbSm]
  | n + 1 => by
    unfold kbSm
    rw [kbSm_c c n, Int.natCast_add, Int.mul_add]
    simp
theorem kbSm_z {f : Int → Int} (n : Nat) (h : ∀ k : Int, 0 ≤ k → k < n → f k = 0) : kbSm f n = 0 := by
  rw [kbSm_congr n (g := fun _ => 0) h, kbSm_c]; simp
theorem kbSm_swap {f : Int → Int → Int} (m : Nat) : ∀ n : Nat, kbSm (fun i => kbSm (fun j => f i j) m) n = kbSm (fun j => kbSm (fun i => f i j) n) m
  | 0 => by
    rw [kbSm_z m (f := fun j => kbSm (fun i => f i j) 0) (fun k _ _ => rfl)]
    rfl
  | n + 1 => by
    have e : kbSm (fun i => kbSm (fun j => f i j) m) (n + 1) = kbSm (fun i => kbSm (fun j => f i j) m) n + kbSm (fun j => f n j) m := rfl
    rw [e, kbSm_swap m n, ← kbSm_add m]
    rfl
theorem kbSm_nn {f : Int → Int} : ∀ n : Nat, (∀ k : Int, 0 ≤ k → k < n → 0 ≤ f k) → 0 ≤ kbSm f n
  | 0, _ => by simp [kbSm]
  | n + 1, h => by
    have h1 := kbSm_nn n (fun k k0 k1 => h k k0 (by omega))
    have h2 := h n (by omega) (by omega)
    unfold kbSm
    omega
theorem kbSm_mono {f g : Int → Int} (n : Nat) (h : ∀ k : Int, 0 ≤ k → k < n → f k ≤ g k) : kbSm f n ≤ kbSm g n := by
  have h1 := kbSm_nn n (f := fun k => g k - f k) (fun k k0 k1 => by have := h k k0 k1; omega)
  rw [kbSm_sub] at h1
  omega
/-- none is below 0, all make 0 -/
theorem kbSm_all {f : Int → Int} : ∀ n : Nat, (∀ k : Int, 0 ≤ k → k < n → 0 ≤ f k) → kbSm f n = 0 → ∀ k : Int, 0 ≤ k → k < n → f k = 0
  | 0, _, _ => fun k _ _ => by omega
  | n + 1, h, e => fun k k0 k1 => by
    have h1 := kbSm_nn n (fun k k0 k1 => h k k0 (by omega))
    have h2 := h n (by omega) (by omega)
    unfold kbSm at e
    by_cases hk : k = n
    · rw [hk]; omega
    · exact kbSm_all n (fun k k0 k1 => h k k0 (by omega)) (by omega) k k0 (by omega)
theorem kbSm_up {f g : Int → Int} {a : Int} : ∀ n : Nat, (0 ≤ a ∧ a < n) → (∀ k : Int, 0 ≤ k → k < n → k ≠ a → f k = g k) → kbSm f n = kbSm g n + f a - g a
  | 0, h, _ => by omega
  | n + 1, h, he => by
    unfold kbSm
    by_cases ha : a = n
    · rw [kbSm_congr n (fun k k0 k1 => he k k0 (by omega) (by omega)), ha]
      omega
    · rw [kbSm_up n (by omega) (fun k k0 k1 hk => he k k0 (by omega) hk), he n (by omega) (by omega) (fun h9 => ha h9.symm)]
      omega
theorem kbSm_1 {a : Int} (n : Nat) (ha : 0 ≤ a ∧ a < n) : kbSm (fun k => if k = a then 1 else 0) n = 1 := by
  rw [kbSm_up n ha (g := fun _ => 0) (fun k _ _ hk => if_neg hk), kbSm_c, if_pos rfl]
  simp
theorem kbSm_1' {a : Int} (n : Nat) (ha : 0 ≤ a ∧ a < n) : kbSm (fun k => if a = k then 1 else 0) n = 1 := by
  refine Eq.trans ?_ (kbSm_1 n ha)
  refine kbSm_congr n (fun k _ _ => ?_)
  by_cases h : k = a
  · rw [if_pos h, if_pos h.symm]
  · rw [if_neg h, if_neg (fun h9 => h h9.symm)]
theorem kbSm_0 {a : Int} (n : Nat) (ha : a < 0 ∨ n ≤ a) : kbSm (fun k => if k = a then 1 else 0) n = 0 := kbSm_z n (fun k k0 k1 => if_neg (by omega))
/-- at most one is -/
theorem kbSm_am {P : Int → Prop} [DecidablePred P] : ∀ n : Nat, (∀ i j : Int, 0 ≤ i → i < n → 0 ≤ j → j < n → P i → P j → i = j) → kbSm (fun k => if P k then 1 else 0) n ≤ 1
  | 0, _ => by simp [kbSm]
  | n + 1, h => by
    have h1 := kbSm_am n (fun i j i0 i1 j0 j1 => h i j i0 (by omega) j0 (by omega))
    unfold kbSm
    by_cases hp : P n
    · rw [kbSm_z n (fun k k0 k1 => if_neg (fun hk => by have := h k n k0 (by omega) (by omega) (by omega) hk hp; omega)), if_pos hp]
      omega
    · rw [if_neg hp]
      omega
theorem kbSm_ex {P : Int → Prop} [DecidablePred P] : ∀ n : Nat, kbSm (fun k => if P k then 1 else 0) n ≠ 0 → ∃ k : Int, 0 ≤ k ∧ k < n ∧ P k
  | 0, h => absurd rfl h
  | n + 1, h => by
    by_cases hp : P n
    · exact ⟨n, by omega, by omega, hp⟩
    · unfold kbSm at h
      rw [if_neg hp] at h
      obtain ⟨k, k0, k1, k2⟩ := kbSm_ex n (fun h9 => h (by rw [h9]; rfl))
      exact ⟨k, k0, by omega, k2⟩
theorem kbPig {f : Int → Int} (n : Nat) (h : ∀ a : Int, 0 ≤ a → a < n → 0 ≤ f a ∧ f a < n) (hi : ∀ a b : Int, 0 ≤ a → a < n → 0 ≤ b → b < n → f a = f b → a = b) {r : Int} (hr : 0 ≤ r ∧ r < n) : ∃ a : Int, 0 ≤ a ∧ a < n ∧ f a = r := by
  have h1 : kbSm (fun s => kbSm (fun a => if f a = s then 1 else 0) n) n = n := by
    rw [kbSm_swap n n, kbSm_congr n (g := fun _ => 1) (fun a a0 a1 => kbSm_1' n (h a a0 a1)), kbSm_c]
    simp
  have h2 : ∀ s : Int, kbSm (fun a => if f a = s then 1 else 0) n ≤ 1 := fun s => kbSm_am n (fun i j i0 i1 j0 j1 p q => hi i j i0 i1 j0 j1 (p.trans q.symm))
  have h3 := kbSm_all n (f := fun s => 1 - kbSm (fun a => if f a = s then 1 else 0) n) (fun s _ _ => by have := h2 s; omega) (by rw [kbSm_sub, h1, kbSm_c]; simp) r hr.1 hr.2
  exact kbSm_ex n (by omega)
/-! Passes over, under, counted. -/
theorem kbR.over {D : kbD} {of vr sg : Int → Int} (h : kbR D of vr sg) {p : Int} (hp : 0 ≤ p ∧ p < 2 * D.1) : vr p = kbSm (fun c => if D.2.1 c = p then 1 else 0) D.1.toNat := by
  have hV := h.V.2
  have hn := h.1
  have h1 := h.2.2 p hp.1 hp.2
  have e : ((D.1.toNat : Nat) : Int) = D.1 := by omega
  rcases h1.2 with ⟨a, b⟩ | ⟨a, b⟩
  · rw [a, kbSm_congr (g := fun c => if c = of p then 1 else 0) D.1.toNat (fun c c0 c1 => ?_), kbSm_1 _ (by omega)]
    have := hV c (of p) c0 (by omega) h1.1.1 h1.1.2
    by_cases hc : c = of p
    · rw [if_pos hc, hc, if_pos b]
    · rw [if_neg hc, if_neg (fun h9 => hc (this.2.1 (h9.trans b.symm)))]
  · rw [a, kbSm_z D.1.toNat (fun c c0 c1 => if_neg (fun h9 => ?_))]
    exact (hV c (of p) c0 (by omega) h1.1.1 h1.1.2).1 (h9.trans b.symm)
theorem kbR.under {D : kbD} {of vr sg : Int → Int} (h : kbR D of vr sg) {p : Int} (hp : 0 ≤ p ∧ p < 2 * D.1) : 1 - vr p = kbSm (fun c => if D.2.2.1 c = p then 1 else 0) D.1.toNat := by
  have hV := h.V.2
  have hn := h.1
  have h1 := h.2.2 p hp.1 hp.2
  have e : ((D.1.toNat : Nat) : Int) = D.1 := by omega
  rcases h1.2 with ⟨a, b⟩ | ⟨a, b⟩
  · rw [a, kbSm_z D.1.toNat (fun c c0 c1 => if_neg (fun h9 => ?_))]
    · rfl
    · exact (hV (of p) c h1.1.1 h1.1.2 c0 (by omega)).1 (b.trans h9.symm)
  · rw [a, kbSm_congr (g := fun c => if c = of p then 1 else 0) D.1.toNat (fun c c0 c1 => ?_), kbSm_1 _ (by omega)]
    · rfl
    have := hV c (of p) c0 (by omega) h1.1.1 h1.1.2
    by_cases hc : c = of p
    · rw [if_pos hc, hc, if_pos b]
    · rw [if_neg hc, if_neg (fun h9 => hc (this.2.2 (h9.trans b.symm)))]
/-- as many passes over as crossings -/
theorem kbR.overs {D : kbD} {of vr sg : Int → Int} (h : kbR D of vr sg) : kbSm vr (2 * D.1).toNat = D.1 := by
  have hn := h.1
  rw [kbSm_congr (g := fun p => kbSm (fun c => if D.2.1 c = p then 1 else 0) D.1.toNat) _ (fun p p0 p1 => h.over (by omega)), kbSm_swap, kbSm_congr (g := fun _ => 1) _ (fun c c0 c1 => kbSm_1' _ (by have := h.2.1 c c0 (by omega); omega)), kbSm_c]
  omega
/-- how many arcs have begun -/
theorem kbR.arc {D : kbD} {of vr sg : Int → Int} (h : kbR D of vr sg) : ∀ n : Nat, (n : Int) ≤ 2 * D.1 → kbSm (fun k => 1 - vr k) n = kbAr D (n - 1)
  | 0, _ => by
    unfold kbAr
    rw [kbSm_z D.1.toNat (fun c c0 c1 => ?_)]
    · rfl
    · have := h.2.1 c c0 (by omega)
      rw [if_pos (by omega)]
  | n + 1, hn => by
    have h1 := kbR.arc h n (by omega)
    unfold kbSm
    rw [h1, h.under ⟨by omega, by omega⟩]
    unfold kbAr
    rw [← kbSm_add]
    refine kbSm_congr _ (fun c c0 c1 => ?_)
    by_cases h2 : D.2.2.1 c = n
    · rw [if_pos (by omega), if_pos h2, if_neg (by omega)]; rfl
    · rw [if_neg h2]
      by_cases h3 : (n : Int) - 1 < D.2.2.1 c
      · rw [if_pos h3, if_pos (by omega)]; rfl
      · rw [if_neg h3, if_neg (by omega)]; rfl
