/-! One crossing resolved after the other; the bracket isn't 0. -/
def kbXk (D : kbD) (s : Int) (k : Nat) : Int := kbSm (fun c => if kbBi s c = D.2.2.2 c then 1 else -1) k
theorem kbHi2 : ∀ k : Nat, k < 7 → ∀ s : Nat, s < 2 ^ k → kbBi s k = 0 ∧ kbBi (s + 2 ^ k : Nat) k = 1 := by decide +kernel
theorem kbLo2 : ∀ k : Nat, k < 7 → ∀ c : Nat, c < k → ∀ s : Nat, s < 2 ^ k → kbBi (s + 2 ^ k : Nat) c = kbBi s c := by decide +kernel
theorem kbXk_lo {D : kbD} {k s : Nat} (hk : k < 7) (hs : s < 2 ^ k) : kbXk D (s + 2 ^ k : Nat) k = kbXk D s k := by
  refine kbSm_congr _ (fun c c0 c1 => ?_)
  have h := kbLo2 k hk c.toNat (by omega) s hs
  rw [show ((c.toNat : Nat) : Int) = c by omega] at h
  rw [h]
theorem kbLs_lo {D : kbD} {k s : Nat} (hk : k < 7) (hs : s < 2 ^ k) : ∀ m : Nat, m ≤ k → kbLs D (s + 2 ^ k : Nat) m = kbLs D s m
  | 0, _ => rfl
  | m + 1, hm => by
    have h := kbLo2 k hk m (by omega) s hs
    show kbSo D m (kbBi (s + 2 ^ k : Nat) m) (kbLs D (s + 2 ^ k : Nat) m) = kbSo D m (kbBi s m) (kbLs D s m)
    rw [h, kbLs_lo hk hs m (by omega)]
/-- what is still to come at k of the set p -/
def kbTr (D : kbD) (i : Int) (k p : Nat) : Int := kbSm (fun q => kbFt D i ((p : Int) + 2 ^ k * q)) (2 ^ (D.1.toNat - k))
theorem kbTr_n {D : kbD} {i : Int} {p : Nat} : kbTr D i D.1.toNat p = kbFt D i p := by
  unfold kbTr
  rw [Nat.sub_self]
  show 0 + kbFt D i ((p : Int) + 2 ^ D.1.toNat * ((0 : Nat) : Int)) = _
  rw [show ((0 : Nat) : Int) = 0 from rfl, Int.mul_zero, Int.add_zero, Int.zero_add]
theorem kbTr_s {D : kbD} {i : Int} {k p : Nat} (hk : k < D.1.toNat) : kbTr D i k p = kbTr D i (k + 1) (p + 2 ^ k) + kbTr D i (k + 1) p := by
  unfold kbTr
  have e : 2 ^ (D.1.toNat - k) = 2 * 2 ^ (D.1.toNat - (k + 1)) := by
    rw [show D.1.toNat - k = (D.1.toNat - (k + 1)) + 1 by omega, Nat.pow_succ]
    omega
  rw [e, kbSm_pair, ← kbSm_add]
  refine kbSm_congr _ (fun q _ _ => ?_)
  have h2 : (2 : Int) ^ (k + 1) = 2 ^ k * 2 := Int.pow_succ 2 k
  have e1 : (p : Int) + 2 ^ k * (2 * q) = (p : Int) + 2 ^ (k + 1) * q := by rw [h2, Int.mul_assoc]
  have e2 : (p : Int) + 2 ^ k * (2 * q + 1) = ((p + 2 ^ k : Nat) : Int) + 2 ^ (k + 1) * q := by
    rw [h2, Int.mul_add, Int.mul_one, Int.mul_assoc, Int.natCast_add, Int.natCast_pow]
    show (p : Int) + (2 ^ k * (2 * q) + 2 ^ k) = (p : Int) + 2 ^ k + 2 ^ k * (2 * q)
    omega
  rw [e1, e2]
  omega
theorem kbTr_in {D : kbD} {of vr sg : Int → Int} (hR : kbR D of vr sg) {i : Int} (hi : 0 ≤ i ∧ i ≤ 100) (k p : Nat) : -(35 * ((2 ^ (D.1.toNat - k) : Nat) : Int)) ≤ kbTr D i k p ∧ kbTr D i k p ≤ 35 * ((2 ^ (D.1.toNat - k) : Nat) : Int) :=
  kbSm_le _ (fun s _ _ => kbFt_in hR hi)
theorem kb2_resolve {D : kbD} {of vr sg : Int → Int} (hR : kbR D of vr sg) : ∀ (N k p : Nat) (x parts M : Int) (μ : knMem), kbA μ 2 D → k ≤ D.1.toNat → D.1.toNat - k < N → p < 2 ^ k → x = kbXk D p k → parts = (kbLs D p k).2 → kbRw μ (124 + k) (2 * D.1) (kbLs D p k) → (∀ i : Int, 0 ≤ i → i ≤ 100 → -M ≤ μ 121 i ∧ μ 121 i ≤ M) → M + 35 * ((2 ^ (D.1.toNat - k) : Nat) : Int) ≤ 100000 →
    kbH (kfX2_resolve N 2 k x parts μ) (fun μ' => (∀ i : Int, 0 ≤ i → i ≤ 100 → μ' 121 i = μ 121 i + kbTr D i k p) ∧ ∀ o : Int, o ≠ 121 → (o ≤ 124 + k ∨ 131 < o) → μ' o = μ o) := by
  intro N
  induction N with
  | zero => intro k p x parts M μ _ _ h; omega
  | succ N ih =>
    intro k p x parts M μ hA hk hN hp hx hparts hrow hM hMb
    have hn := hR.1
    have hB := hR.B
    unfold kfX2_resolve
    have hA3 : μ 2 3 = D.1 := hA.1
    rw [hA3]
    by_cases hkn : k = D.1.toNat
    · simp only
      rw [if_pos (by omega)]
      have hl := kbLm_le hR p
      have hlp : parts = kbLm D p := by rw [hparts, hkn]; rfl
      have hxp : x = kbXp D p := by rw [hx, hkn]; rfl
      have hxr := kbXp_in hn (s := p)
      have hpos : (0 : Int) ≤ ((2 ^ (D.1.toNat - k) : Nat) : Int) := Int.natCast_nonneg _
      rw [hlp, hxp, knW_id (by omega), show kbLm D p - 1 = (((kbLm D p - 1).toNat : Nat) : Int) by omega]
      refine (kb2_addFactor (r := 121) (x := kbXp D p) (m := (kbLm D p - 1).toNat) (Or.inr rfl) (by omega) (by omega) (fun j j0 j1 => by have := hM j j0 j1; omega)).bind (fun q ⟨a1, a2⟩ => kbH_some.mpr ⟨fun i i0 i1 => ?_, fun o o1 o2 => a2 o (by omega)⟩)
      rw [a1 i i0 i1, hkn, kbTr_n]
      rfl
    · have hk7 : k < D.1.toNat := by omega
      have hki : (k : Int) < D.1 := by omega
      have hsg := hA.2 k (by omega) hki
      have hsz := (hB.2 k (by omega) hki).2.2
      simp only
      rw [if_neg (by omega), if_pos (by omega), kbGd (by omega), knW_id (x := (k : Int) + 1) (by omega), kbGd (by omega), kbGd (by omega), kbGd (by omega), show μ (2 + 3) k = D.2.2.2 k from hsg.2.2]
      have hb := kbHi2 k (by omega) p hp
      have hxk := kbXk_lo (D := D) (k := k) (s := p) (by omega) hp
      have hls := kbLs_lo (D := D) (k := k) (s := p) (by omega) hp k (Nat.le_refl _)
      have e2k : 2 ^ (k + 1) = 2 ^ k + 2 ^ k := by rw [Nat.pow_succ]; omega
      have epow : 2 ^ (D.1.toNat - k) = 2 * 2 ^ (D.1.toNat - (k + 1)) := by
        rw [show D.1.toNat - k = (D.1.toNat - (k + 1)) + 1 by omega, Nat.pow_succ]; omega
      have hpos : (0 : Int) ≤ ((2 ^ (D.1.toNat - (k + 1)) : Nat) : Int) := Int.natCast_nonneg _
      have hxb := kbSm_le (f := fun c => if kbBi p c = D.2.2.2 c then 1 else -1) (b := 1) k (fun c _ _ => by split <;> omega)
      have hxr : -7 ≤ x ∧ x ≤ 7 := by rw [hx]; unfold kbXk; omega
      have cp : ∀ (m : knMem), m (124 + k) = μ (124 + k) → kbRw (knCopy m (124 + k) (124 + (k + 1)) 14) (124 + (k + 1)) (2 * D.1) (kbLs D p k) := by
        intro m hm e e0 e1
        unfold knCopy
        rw [if_pos rfl, if_pos (by omega), hm]
        exact hrow e e0 e1
      have cf : ∀ (m : knMem) (o : Int), o ≠ 124 + ((k : Int) + 1) → knCopy m (124 + k) (124 + (k + 1)) 14 o = m o := by
        intro m o ho
        unfold knCopy
        rw [if_neg ho]
      have ha1 : kbA (knCopy μ (124 + k) (124 + (k + 1)) 14) 2 D := by
        refine ⟨by rw [cf _ _ (by omega)]; exact hA.1, fun c c0 c1 => ?_⟩
        rw [cf _ _ (by omega), cf _ _ (by omega), cf _ _ (by omega)]
        exact hA.2 c c0 c1
      refine (kb2_smooth (c := (k : Int)) (t := 1) ha1 hB (by omega) ⟨by omega, hki⟩ (cp μ rfl)).bind (fun q1 ⟨b1, b2, b3⟩ => ?_)
      have f1 : ∀ o : Int, o ≠ 124 + ((k : Int) + 1) → q1.2 o = μ o := fun o ho => (b3 o (by omega)).trans (cf μ o ho)
      have els1 : kbLs D (p + 2 ^ k : Nat) (k + 1) = kbSo D k 1 (kbLs D p k) := by
        show kbSo D k (kbBi (p + 2 ^ k : Nat) k) (kbLs D (p + 2 ^ k : Nat) k) = _
        rw [hb.2, hls]
      have els0 : kbLs D p (k + 1) = kbSo D k 0 (kbLs D p k) := by
        show kbSo D k (kbBi p k) (kbLs D p k) = _
        rw [hb.1]
      have hin := kbLs_in hn (s := p) k
      have hin1 := kbLs_in hn (s := (p + 2 ^ k : Nat)) (k + 1)
      have hin0 := kbLs_in hn (s := p) (k + 1)
      rw [b1, ← els1, hparts, knW_id (x := (kbLs D p k).2 - ((kbLs D p k).2 - (kbLs D (p + 2 ^ k : Nat) (k + 1)).2)) (by omega), knW_id (x := x + _) (by split <;> omega)]
      have haq1 : kbA q1.2 2 D := by
        refine ⟨by rw [f1 2 (by omega)]; exact hA.1, fun c c0 c1 => ?_⟩
        rw [f1 (2 + 1) (by omega), f1 (2 + 2) (by omega), f1 (2 + 3) (by omega)]
        exact hA.2 c c0 c1
      have ek1 : ((k : Int) + 1) = ((k + 1 : Nat) : Int) := by omega
      have exk1 : x + (if D.2.2.2 k = 0 then -1 else 1) = kbXk D (p + 2 ^ k : Nat) (k + 1) := by
        show _ = kbXk D (p + 2 ^ k : Nat) k + (if kbBi (p + 2 ^ k : Nat) k = D.2.2.2 k then 1 else -1)
        rw [hxk, hb.2, hx]
        rcases hsz with h | h <;> rw [h] <;> rfl
      have exk0 : x - (if D.2.2.2 k = 0 then -1 else 1) = kbXk D p (k + 1) := by
        show _ = kbXk D p k + (if kbBi p k = D.2.2.2 k then 1 else -1)
        rw [hb.1, hx]
        rcases hsz with h | h <;> rw [h] <;> rfl
      have hih1 := ih (k + 1) (p + 2 ^ k) (x + (if D.2.2.2 k = 0 then -1 else 1)) ((kbLs D p k).2 - ((kbLs D p k).2 - (kbLs D (p + 2 ^ k : Nat) (k + 1)).2)) M q1.2 haq1 (by omega) (by omega) (by omega) exk1 (by omega) (by rw [els1, ← ek1]; exact b2) (fun i i0 i1 => by rw [f1 121 (by omega)]; exact hM i i0 i1) (by omega)
      rw [← ek1] at hih1
      refine hih1.bind (fun q2 ⟨c1, c2⟩ => ?_)
      have f2 : ∀ o : Int, o ≠ 121 → (o ≤ 124 + (k : Int) ∨ 131 < o) → q2 o = μ o := fun o h1 h2 => (c2 o h1 (by omega)).trans (f1 o (by omega))
      have ha2 : kbA (knCopy q2 (124 + k) (124 + (k + 1)) 14) 2 D := by
        refine ⟨by rw [cf _ _ (by omega), f2 2 (by omega) (by omega)]; exact hA.1, fun c c0 c1 => ?_⟩
        rw [cf _ _ (by omega), cf _ _ (by omega), cf _ _ (by omega), f2 (2 + 1) (by omega) (by omega), f2 (2 + 2) (by omega) (by omega), f2 (2 + 3) (by omega) (by omega)]
        exact hA.2 c c0 c1
      refine (kb2_smooth (c := (k : Int)) (t := 0) ha2 hB (by omega) ⟨by omega, hki⟩ (cp q2 (f2 _ (by omega) (by omega)))).bind (fun q3 ⟨d1, d2, d3⟩ => ?_)
      have f3 : ∀ o : Int, o ≠ 124 + ((k : Int) + 1) → q3.2 o = q2 o := fun o ho => (d3 o (by omega)).trans (cf q2 o ho)
      rw [d1, ← els0, knW_id (x := (kbLs D p k).2 - ((kbLs D p k).2 - (kbLs D p (k + 1)).2)) (by omega), knW_id (x := x - _) (by split <;> omega)]
      have haq3 : kbA q3.2 2 D := by
        refine ⟨by rw [f3 2 (by omega), f2 2 (by omega) (by omega)]; exact hA.1, fun c c0 c1 => ?_⟩
        rw [f3 (2 + 1) (by omega), f3 (2 + 2) (by omega), f3 (2 + 3) (by omega), f2 (2 + 1) (by omega) (by omega), f2 (2 + 2) (by omega) (by omega), f2 (2 + 3) (by omega) (by omega)]
        exact hA.2 c c0 c1
      have e121 : ∀ i : Int, 0 ≤ i → i ≤ 100 → q3.2 121 i = μ 121 i + kbTr D i (k + 1) (p + 2 ^ k) := fun i i0 i1 => by rw [f3 121 (by omega), c1 i i0 i1, f1 121 (by omega)]
      have hih0 := ih (k + 1) p (x - (if D.2.2.2 k = 0 then -1 else 1)) ((kbLs D p k).2 - ((kbLs D p k).2 - (kbLs D p (k + 1)).2)) (M + 35 * ((2 ^ (D.1.toNat - (k + 1)) : Nat) : Int)) q3.2 haq3 (by omega) (by omega) (by omega) exk0 (by omega) (by rw [els0, ← ek1]; exact d2) (fun i i0 i1 => by
          have g1 := hM i i0 i1
          have g2 := kbTr_in hR (i := i) ⟨i0, i1⟩ (k + 1) (p + 2 ^ k)
          rw [e121 i i0 i1]
          omega) (by omega)
      rw [← ek1] at hih0
      refine hih0.bind (fun q4 ⟨g1, g2⟩ => kbH_some.mpr ⟨fun i i0 i1 => ?_, fun o o1 o2 => ?_⟩)
      · rw [g1 i i0 i1, e121 i i0 i1, kbTr_s hk7]
        omega
      · rw [g2 o o1 (by omega), f3 o (by omega)]
        exact f2 o o1 o2
theorem kb2_resolveAll {μ : knMem} {D : kbD} {of vr sg : Int → Int} (hA : kbA μ 2 D) (hR : kbR D of vr sg) : kbH (kfX2_resolveAll 2 μ) (fun μ' => (∀ i : Int, 0 ≤ i → i ≤ 100 → μ' 121 i = kbBk2 D i (kbP2 D.1).toNat) ∧ ∀ o : Int, o ≠ 121 → (o < 124 ∨ 131 < o) → μ' o = μ o) := by
  have hn := hR.1
  have hp2 := kbP2_e hn
  unfold kfX2_resolveAll
  refine (kb7_fill (a := 121) (v := 0) kbLn101.2.1 (by omega)).bind (fun q1 ⟨a1, a2⟩ => ?_)
  have hA1 : kbA q1 2 D := hA.fr a2 (by omega)
  refine (kb2_separate (s := 0) hA1 hn).bind (fun q2 ⟨b1, b2, b3⟩ => ?_)
  have hA2 : kbA q2.2 2 D := hA1.fr b3 (by omega)
  have h7 : 2 ^ (D.1.toNat - 0) ≤ 128 := (kbP2B _ (by omega)).2
  have e121 : q2.2 121 = q1 121 := b3 121 (by omega)
  have h := kb2_resolve hR 10 0 0 0 q2.1 0 q2.2 hA2 (by omega) (by omega) (by decide) rfl b1 b2 (fun i i0 i1 => by rw [e121, a1 i i0 (by omega)]; omega) (by omega)
  refine kbH.bind h (fun q3 ⟨c1, c2⟩ => kbH_some.mpr ⟨fun i i0 i1 => ?_, fun o o1 o2 => ?_⟩)
  · rw [c1 i i0 i1, e121, a1 i i0 (by omega), Int.zero_add]
    unfold kbTr kbBk2
    rw [hp2, Int.toNat_natCast, Nat.sub_zero]
    refine kbSm_congr _ (fun q _ _ => ?_)
    have e : ((0 : Nat) : Int) + 2 ^ 0 * q = q := by rw [Int.pow_zero, Int.one_mul]; simp
    rw [e]
  · rw [c2 o o1 (by omega), b3 o (by omega), a2 o (by omega)]
/-! a number with a + 1 / a = 1: there each factor is a power, their sum 1 -/
def kbU (j : Int) : Int := if j % 6 = 0 then 1 else if j % 6 = 1 then 0 else if j % 6 = 2 then -1 else if j % 6 = 3 then -1 else if j % 6 = 4 then 0 else 1
theorem kbU_1 (j : Int) : kbU (j + 1) + kbU (j - 1) = kbU j := by
  unfold kbU
  have h : j % 6 = 0 ∨ j % 6 = 1 ∨ j % 6 = 2 ∨ j % 6 = 3 ∨ j % 6 = 4 ∨ j % 6 = 5 := by omega
  rcases h with h | h | h | h | h | h
  · rw [show (j + 1) % 6 = 1 by omega, show (j - 1) % 6 = 5 by omega, h]; decide
  · rw [show (j + 1) % 6 = 2 by omega, show (j - 1) % 6 = 0 by omega, h]; decide
  · rw [show (j + 1) % 6 = 3 by omega, show (j - 1) % 6 = 1 by omega, h]; decide
  · rw [show (j + 1) % 6 = 4 by omega, show (j - 1) % 6 = 2 by omega, h]; decide
  · rw [show (j + 1) % 6 = 5 by omega, show (j - 1) % 6 = 3 by omega, h]; decide
  · rw [show (j + 1) % 6 = 0 by omega, show (j - 1) % 6 = 4 by omega, h]; decide
theorem kbU_2 (j : Int) : -(kbU (j + 2)) - kbU (j - 2) = kbU j := by
  unfold kbU
  have h : j % 6 = 0 ∨ j % 6 = 1 ∨ j % 6 = 2 ∨ j % 6 = 3 ∨ j % 6 = 4 ∨ j % 6 = 5 := by omega
  rcases h with h | h | h | h | h | h
  · rw [show (j + 2) % 6 = 2 by omega, show (j - 2) % 6 = 4 by omega, h]; decide
  · rw [show (j + 2) % 6 = 3 by omega, show (j - 2) % 6 = 5 by omega, h]; decide
  · rw [show (j + 2) % 6 = 4 by omega, show (j - 2) % 6 = 0 by omega, h]; decide
  · rw [show (j + 2) % 6 = 5 by omega, show (j - 2) % 6 = 1 by omega, h]; decide
  · rw [show (j + 2) % 6 = 0 by omega, show (j - 2) % 6 = 2 by omega, h]; decide
  · rw [show (j + 2) % 6 = 1 by omega, show (j - 2) % 6 = 3 by omega, h]; decide
theorem kbU_G : ∀ (m : Nat) (x : Int), -50 + 2 * (m : Int) ≤ x → x ≤ 50 - 2 * (m : Int) → kbSm (fun i => kbG m (i - 50 - x) * kbU (i - 50)) 101 = kbU x
  | 0, x, h1, h2 => by
    rw [kbSm_up (f := fun i => kbG 0 (i - 50 - x) * kbU (i - 50)) (g := fun _ => 0) (a := 50 + x) 101 (by omega) (fun i _ _ hi => ?_), kbSm_c]
    · show 0 * _ + (if 50 + x - 50 - x = 0 then 1 else 0) * kbU (50 + x - 50) - 0 = kbU x
      rw [if_pos (by omega), show 50 + x - 50 = x by omega]
      omega
    · show (if i - 50 - x = 0 then 1 else 0) * _ = 0
      rw [if_neg (by omega), Int.zero_mul]
  | m + 1, x, h1, h2 => by
    have i1 := kbU_G m (x + 2) (by omega) (by omega)
    have i2 := kbU_G m (x - 2) (by omega) (by omega)
    have h3 := kbU_2 x
    have e : kbSm (fun i => kbG (m + 1) (i - 50 - x) * kbU (i - 50)) 101 = kbSm (fun i => -(kbG m (i - 50 - (x + 2)) * kbU (i - 50)) - kbG m (i - 50 - (x - 2)) * kbU (i - 50)) 101 := by
      refine kbSm_congr _ (fun i _ _ => ?_)
      show (-(kbG m (i - 50 - x - 2)) - kbG m (i - 50 - x + 2)) * kbU (i - 50) = _
      rw [show i - 50 - x - 2 = i - 50 - (x + 2) by omega, show i - 50 - x + 2 = i - 50 - (x - 2) by omega, Int.sub_mul, Int.neg_mul]
    have e2 : kbSm (fun i => -(kbG m (i - 50 - (x + 2)) * kbU (i - 50))) 101 = -(kbU (x + 2)) := by
      rw [← i1, kbSm_congr (g := fun i => 0 - (kbG m (i - 50 - (x + 2)) * kbU (i - 50))) 101 (fun i _ _ => by omega), kbSm_sub, kbSm_c]
      omega
    rw [e, kbSm_sub, e2, i2]
    exact h3
theorem kbU_X {D : kbD} : ∀ (k : Nat), k ≤ 7 → (∀ c : Int, 0 ≤ c → c < k → D.2.2.2 c = 0 ∨ D.2.2.2 c = 1) → ∀ y : Int, kbSm (fun s => kbU (y + kbXk D s k)) (2 ^ k) = kbU y
  | 0, _, _, y => by
    show 0 + kbU (y + 0) = kbU y
    rw [Int.zero_add, Int.add_zero]
  | k + 1, hk, hz, y => by
    have ih := kbU_X k (by omega) (fun c c0 c1 => hz c c0 (by omega)) y
    have hzk := hz k (by omega) (by omega)
    have e : ∀ (f : Int → Int) (m : Nat), kbSm f (m + 2 ^ k) = kbSm f m + kbSm (fun j => f (m + j)) (2 ^ k) := by
      intro f m
      generalize 2 ^ k = n
      induction n with
      | zero => simp [kbSm]
      | succ n ih2 =>
        have e1 : ∀ (g : Int → Int) (n : Nat), kbSm g (n + 1) = kbSm g n + g n := fun _ _ => rfl
        rw [← Nat.add_assoc, e1, e1, ih2, Int.natCast_add]
        omega
    rw [show 2 ^ (k + 1) = 2 ^ k + 2 ^ k by rw [Nat.pow_succ]; omega, e, ← kbSm_add]
    refine Eq.trans (kbSm_congr _ (fun j j0 j1 => ?_)) ih
    have hj : j.toNat < 2 ^ k := by omega
    have hb := kbHi2 k (by omega) j.toNat hj
    have hxk := kbXk_lo (D := D) (k := k) (s := j.toNat) (by omega) hj
    have ej : ((j.toNat : Nat) : Int) = j := by omega
    have ej2 : ((j.toNat + 2 ^ k : Nat) : Int) = ((2 ^ k : Nat) : Int) + j := by omega
    rw [ej2, ej] at hxk
    rw [ej2, ej] at hb
    have x1 : kbXk D j (k + 1) = kbXk D j k + (if kbBi j k = D.2.2.2 k then 1 else -1) := rfl
    have x2 : kbXk D (((2 ^ k : Nat) : Int) + j) (k + 1) = kbXk D (((2 ^ k : Nat) : Int) + j) k + (if kbBi (((2 ^ k : Nat) : Int) + j) k = D.2.2.2 k then 1 else -1) := rfl
    have hu := kbU_1 (y + kbXk D j k)
    rw [x1, x2, hxk, hb.1, hb.2]
    rcases hzk with h | h
    · rw [h, if_pos rfl, if_neg (by omega), show y + (kbXk D j k + 1) = y + kbXk D j k + 1 by omega, show y + (kbXk D j k + -1) = y + kbXk D j k - 1 by omega]
      exact hu
    · rw [h, if_neg (by omega), if_pos rfl, show y + (kbXk D j k + 1) = y + kbXk D j k + 1 by omega, show y + (kbXk D j k + -1) = y + kbXk D j k - 1 by omega]
      omega
theorem kbBk2_ne {D : kbD} {of vr sg : Int → Int} (hR : kbR D of vr sg) : ∃ i : Int, 0 ≤ i ∧ i ≤ 100 ∧ kbBk2 D i (kbP2 D.1).toNat ≠ 0 := by
  have hn := hR.1
  have hp := kbP2_e hn
  have h1 : kbSm (fun i => kbBk2 D i (kbP2 D.1).toNat * kbU (i - 50)) 101 = 1 := by
    have e1 : kbSm (fun i => kbBk2 D i (kbP2 D.1).toNat * kbU (i - 50)) 101 = kbSm (fun i => kbSm (fun s => kbFt D i s * kbU (i - 50)) (kbP2 D.1).toNat) 101 := by
      refine kbSm_congr _ (fun i _ _ => ?_)
      unfold kbBk2
      generalize (kbP2 D.1).toNat = n
      induction n with
      | zero => simp [kbSm]
      | succ n ih =>
        have e1 : ∀ (g : Int → Int) (n : Nat), kbSm g (n + 1) = kbSm g n + g n := fun _ _ => rfl
        rw [e1, e1, Int.add_mul, ih]
    rw [e1, kbSm_swap, kbSm_congr (g := fun s => kbU (0 + kbXk D s D.1.toNat)) _ (fun s s0 s1 => ?_)]
    · rw [hp, Int.toNat_natCast, kbU_X D.1.toNat (by omega) (fun c c0 c1 => (hR.B.2 c c0 (by omega)).2.2)]
      decide
    · have hl := kbLm_le hR s
      have hx := kbXp_in hn (s := s)
      unfold kbFt
      rw [kbU_G _ _ (by omega) (by omega), Int.zero_add]
      rfl
  have h2 : ¬ ∀ i : Int, 0 ≤ i → i < ((101 : Nat) : Int) → kbBk2 D i (kbP2 D.1).toNat * kbU (i - 50) = 0 := fun h => by
    rw [kbSm_z _ h] at h1
    exact absurd h1 (by decide)
  refine Classical.byContradiction (fun h3 => h2 (fun i i0 i1 => ?_))
  have h4 : kbBk2 D i (kbP2 D.1).toNat = 0 := Classical.byContradiction (fun h5 => h3 ⟨i, i0, by omega, h5⟩)
  rw [h4, Int.zero_mul]
theorem kbXk_par {D : kbD} {s : Int} : ∀ k : Nat, (kbXk D s k - (k : Int)) % 2 = 0
  | 0 => by simp [kbXk, kbSm]
  | k + 1 => by
    have h := kbXk_par (D := D) (s := s) k
    have e : kbXk D s (k + 1) = kbXk D s k + (if kbBi s k = D.2.2.2 k then 1 else -1) := rfl
    rw [e]
    split <;> omega
/-- where the bracket can be other than 0 -/
theorem kbBk2_at {D : kbD} {of vr sg : Int → Int} (hR : kbR D of vr sg) {i : Int} (hi : 0 ≤ i ∧ i ≤ 100) {n : Nat} (h : kbBk2 D i n ≠ 0) : (50 - 3 * D.1 ≤ i ∧ i ≤ 50 + 3 * D.1) ∧ (i - D.1) % 2 = 0 := by
  have hn := hR.1
  refine Classical.byContradiction (fun h2 => h ?_)
  refine kbSm_z n (fun s _ _ => ?_)
  have hl := kbLm_le hR s
  have hx := kbXp_in hn (s := s)
  have hpar := kbXk_par (D := D) (s := s) D.1.toNat
  have e : kbXk D s D.1.toNat = kbXp D s := rfl
  rw [e] at hpar
  exact kbG_z (by omega) (by omega) (by omega)
theorem kbNo_in {D : kbD} {of vr sg : Int → Int} (hR : kbR D of vr sg) (i : Int) : -4480 ≤ kbNo D i ∧ kbNo D i ≤ 4480 := by
  have hp := kbP2_in hR.1
  have hb : -4480 ≤ (if 0 ≤ i + 3 * kbWr D ∧ i + 3 * kbWr D ≤ 100 then kbBk2 D (i + 3 * kbWr D) (kbP2 D.1).toNat else 0) ∧ (if 0 ≤ i + 3 * kbWr D ∧ i + 3 * kbWr D ≤ 100 then kbBk2 D (i + 3 * kbWr D) (kbP2 D.1).toNat else 0) ≤ 4480 := by
    by_cases g : 0 ≤ i + 3 * kbWr D ∧ i + 3 * kbWr D ≤ 100
    · have hb := kbBk2_in hR (i := i + 3 * kbWr D) g (kbP2 D.1).toNat
      rw [if_pos g]; omega
    · rw [if_neg g]; omega
  unfold kbNo
  split <;> omega
theorem kbNo_at {D : kbD} {of vr sg : Int → Int} (hR : kbR D of vr sg) {i : Int} (h : kbNo D i ≠ 0) : (50 - 3 * D.1 - 3 * kbWr D ≤ i ∧ i ≤ 50 + 3 * D.1 - 3 * kbWr D) ∧ (i + 3 * kbWr D - D.1) % 2 = 0 := by
  by_cases g : 0 ≤ i + 3 * kbWr D ∧ i + 3 * kbWr D ≤ 100
  · have h2 := kbBk2_at hR (i := i + 3 * kbWr D) (n := (kbP2 D.1).toNat) g (fun h9 => h (by unfold kbNo; rw [if_pos g, h9]; split <;> rfl))
    omega
  · exact absurd (by unfold kbNo; rw [if_neg g]; split <;> rfl) h
theorem kbNo_ne {D : kbD} {of vr sg : Int → Int} (hR : kbR D of vr sg) : ∃ i : Int, 0 ≤ i ∧ i ≤ 100 ∧ kbNo D i ≠ 0 := by
  have hn := hR.1
  have hw := kbWr_in (D := D) hn
  obtain ⟨i, i0, i1, h⟩ := kbBk2_ne hR
  have h2 := kbBk2_at hR ⟨i0, i1⟩ h
  refine ⟨i - 3 * kbWr D, by omega, by omega, ?_⟩
  unfold kbNo
  rw [show i - 3 * kbWr D + 3 * kbWr D = i by omega, if_pos (show 0 ≤ i ∧ i ≤ 100 from ⟨i0, i1⟩)]
  split
  · exact h
  · omega
