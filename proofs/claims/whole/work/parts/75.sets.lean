/-! Sets of crossings, the search for the smallest one. -/
def kbBi (s k : Int) : Int := knAnd (knShr s k) 1
theorem kbBiA : ∀ s : Nat, s < 128 → ∀ k : Nat, k < 7 → kbBi s k = ((s / 2 ^ k % 2 : Nat) : Int) := by decide +kernel
theorem kbBi_e {s k : Int} (hs : 0 ≤ s ∧ s < 128) (hk : 0 ≤ k ∧ k < 7) : kbBi s k = ((s.toNat / 2 ^ k.toNat % 2 : Nat) : Int) := by
  have h := kbBiA s.toNat (by omega) k.toNat (by omega)
  rw [show ((s.toNat : Nat) : Int) = s by omega, show ((k.toNat : Nat) : Int) = k by omega] at h
  exact h
theorem kbBi_z {s k : Int} (hs : 0 ≤ s ∧ s < 128) (hk : 0 ≤ k ∧ k < 7) : kbBi s k = 0 ∨ kbBi s k = 1 := by
  rw [kbBi_e hs hk]; omega
def kbP2 (n : Int) : Int := knShl 1 n
theorem kbP2A : ∀ n : Nat, n < 8 → kbP2 n = ((2 ^ n : Nat) : Int) := by decide +kernel
theorem kbP2_e {n : Int} (hn : 0 ≤ n ∧ n ≤ 7) : kbP2 n = ((2 ^ n.toNat : Nat) : Int) := by
  have h := kbP2A n.toNat (by omega)
  rw [show ((n.toNat : Nat) : Int) = n by omega] at h
  exact h
theorem kbP2B : ∀ n : Nat, n < 8 → 1 ≤ 2 ^ n ∧ 2 ^ n ≤ 128 := by decide +kernel
theorem kbP2_in {n : Int} (hn : 0 ≤ n ∧ n ≤ 7) : 1 ≤ kbP2 n ∧ kbP2 n ≤ 128 := by
  have := kbP2B n.toNat (by omega)
  rw [kbP2_e hn]; omega
/-- how many -/
def kbMn (s : Nat) : Nat := s % 2 + s / 2 % 2 + s / 4 % 2 + s / 8 % 2 + s / 16 % 2 + s / 32 % 2 + s / 64 % 2
def kbMa (s : Int) : Int := ((kbMn s.toNat : Nat) : Int)
theorem kbMn_step : ∀ s : Nat, s < 128 → kbMn s = s % 2 + kbMn (s / 2) := by decide +kernel
theorem kbMn_7 : ∀ s : Nat, s < 128 → kbMn s ≤ 7 := by decide +kernel
theorem kbMa_in {s : Int} (hs : 0 ≤ s ∧ s < 128) : 0 ≤ kbMa s ∧ kbMa s ≤ 7 := by
  have := kbMn_7 s.toNat (by omega)
  unfold kbMa; omega
theorem kbBcA : ∀ s : Nat, s < 128 → ∀ μ : knMem, kfJ6_bitCount_0f7a4 s μ = some ((kbMn s : Nat) : Int) := by
  have h : ∀ s : Nat, s < 128 → kfJ6_bitCount_0f7a4 s (fun _ _ => 0) = some ((kbMn s : Nat) : Int) := by decide +kernel
  intro s hs μ
  exact h s hs
theorem kb6_bitCount {s : Int} {μ : knMem} (hs : 0 ≤ s ∧ s < 128) : kfJ6_bitCount_0f7a4 s μ = some (kbMa s) := by
  have h := kbBcA s.toNat (by omega) μ
  rw [show ((s.toNat : Nat) : Int) = s by omega] at h
  exact h
theorem kb13_many {s : Int} {μ : knMem} (hs : 0 ≤ s ∧ s < 128) : kfX13_many s μ = some (kbMa s) := by
  have key : kbH (kfX13_many s μ) (fun r => r = kbMa s) := by
    unfold kfX13_many
    refine kbLoopM (fun n (p : Int × Int) => kfX13_many_l4 μ (fun w2 => some w2) n p.1 p.2) (fun p => (0 ≤ p.1 ∧ p.1 ≤ 7) ∧ (0 ≤ p.2 ∧ p.2 < 128) ∧ p.1 + kbMa p.2 = kbMa s) (fun p => p.2) _ ?_ knF (0, s) ⟨⟨Int.le_refl 0, show (0 : Int) ≤ 7 by omega⟩, hs, by dsimp only; omega⟩ hs.1 (by rw [kbF]; show s < 4096; omega)
    rintro n ⟨a, b⟩ ⟨h1, h2, h3⟩ _ kk
    dsimp only at h1 h2 h3 kk ⊢
    unfold kfX13_many_l4
    by_cases hb : b ≤ 0
    · rw [if_pos hb, kbH_some]
      have : b = 0 := by omega
      subst this
      have e : kbMa 0 = 0 := by decide
      omega
    · rw [if_neg hb, kbDv (by omega) (by omega), kbRe (by omega) (by omega)]
      have st := kbMn_step b.toNat (by omega)
      have e : kbMa b = b % 2 + kbMa (b / 2) := by
        unfold kbMa
        rw [st, show (b / 2).toNat = b.toNat / 2 by omega]
        omega
      have h4 := kbMa_in (s := b / 2) (by omega)
      have h5 := kbMa_in hs
      rw [knW_id (by omega)]
      have h6 := kk (a + b % 2, b / 2) ⟨by dsimp only; omega, by dsimp only; omega, by dsimp only; omega⟩ (by dsimp only; omega) (by dsimp only; omega)
      cases n <;> exact h6
  obtain ⟨r, h3, h4⟩ := key
  rw [h3, h4]
/-- a set of crossings switched -/
def kbSs (s : Int) (D : kbD) : kbD := (D.1, fun k => if kbBi s k = 1 then D.2.2.1 k else D.2.1 k, fun k => if kbBi s k = 1 then D.2.1 k else D.2.2.1 k, fun k => if kbBi s k = 1 then 1 - D.2.2.2 k else D.2.2.2 k)
def kbSp (i s : Int) (D : kbD) : kbD := (D.1, fun k => if k < i ∧ kbBi s k = 1 then D.2.2.1 k else D.2.1 k, fun k => if k < i ∧ kbBi s k = 1 then D.2.1 k else D.2.2.1 k, fun k => if k < i ∧ kbBi s k = 1 then 1 - D.2.2.2 k else D.2.2.2 k)
theorem kbB_ss {s : Int} {D : kbD} (h : kbB D) : kbB (kbSs s D) := by
  refine ⟨h.1, fun k k0 k1 => ?_⟩
  have h2 := h.2 k k0 k1
  unfold kbSs
  dsimp only
  by_cases hb : kbBi s k = 1
  · simp only [if_pos hb]; omega
  · simp only [if_neg hb]; exact h2
theorem kbB_sp {i s : Int} {D : kbD} (h : kbB D) : kbB (kbSp i s D) := by
  refine ⟨h.1, fun k k0 k1 => ?_⟩
  have h2 := h.2 k k0 k1
  unfold kbSp
  dsimp only
  by_cases hb : k < i ∧ kbBi s k = 1
  · simp only [if_pos hb]; omega
  · simp only [if_neg hb]; exact h2
theorem kbV_ss {s : Int} {D : kbD} (h : kbV D) : kbV (kbSs s D) := by
  refine ⟨kbB_ss h.1, fun j k j0 j1 k0 k1 => ?_⟩
  have h1 := h.2 j k j0 j1 k0 k1
  have h2 := h.2 k j k0 k1 j0 j1
  have h3 := (h.2 j j j0 j1 j0 j1).1
  unfold kbSs
  dsimp only
  by_cases hb : kbBi s j = 1 <;> by_cases hc : kbBi s k = 1
  · simp only [if_pos hb, if_pos hc]
    exact ⟨fun e => h2.1 e.symm, h1.2.2, h1.2.1⟩
  · simp only [if_pos hb, if_neg hc]
    exact ⟨fun e => by have := h1.2.2 e; subst this; exact hc hb, fun e => absurd e.symm h2.1, fun e => absurd e h1.1⟩
  · simp only [if_neg hb, if_pos hc]
    exact ⟨fun e => by have := h1.2.1 e; subst this; exact hb hc, fun e => absurd e h1.1, fun e => absurd e.symm h2.1⟩
  · simp only [if_neg hb, if_neg hc]
    exact h1
/-- this set unknots plainly -/
def kbUn (D : kbD) (s : Int) : Prop := ∃ E : kbD, kbRx (kbSs s D) E ∧ E.1 = 0
theorem kbUn_iff {D E : kbD} {s : Int} (h : kbRx (kbSs s D) E) : kbUn D s ↔ E.1 = 0 := ⟨fun ⟨F, f1, f2⟩ => by rw [h.det f1]; exact f2, fun e => ⟨E, h, e⟩⟩
theorem kbSp_step {i s : Int} {D : kbD} : (kbBi s i = 1 → kbE (kbSw i (kbSp i s D)) (kbSp (i + 1) s D)) ∧ (kbBi s i ≠ 1 → kbE (kbSp i s D) (kbSp (i + 1) s D)) := by
  refine ⟨fun hb => ⟨rfl, fun k k0 k1 => ?_⟩, fun hb => ⟨rfl, fun k k0 k1 => ?_⟩⟩
  · unfold kbSw kbSp
    dsimp only
    by_cases hk : k = i
    · subst hk
      have h1 : ¬ (k < k ∧ kbBi s k = 1) := fun h => by omega
      have h2 : k < k + 1 ∧ kbBi s k = 1 := ⟨by omega, hb⟩
      simp only [if_neg h1, if_pos h2, if_true, and_self]
    · by_cases h1 : k < i ∧ kbBi s k = 1
      · have h2 : k < i + 1 ∧ kbBi s k = 1 := ⟨by omega, h1.2⟩
        simp only [if_neg hk, if_pos h1, if_pos h2, and_self]
      · have h2 : ¬ (k < i + 1 ∧ kbBi s k = 1) := fun h => h1 ⟨by omega, h.2⟩
        simp only [if_neg hk, if_neg h1, if_neg h2, and_self]
  · unfold kbSp
    dsimp only
    by_cases h1 : k < i ∧ kbBi s k = 1
    · have h2 : k < i + 1 ∧ kbBi s k = 1 := ⟨by omega, h1.2⟩
      simp only [if_pos h1, if_pos h2, and_self]
    · have h2 : ¬ (k < i + 1 ∧ kbBi s k = 1) := fun h => by
        by_cases hk : k = i
        · subst hk; exact hb h.2
        · exact h1 ⟨by omega, h.2⟩
      simp only [if_neg h1, if_neg h2, and_self]
theorem kbSp_0 {s : Int} {D : kbD} : kbE D (kbSp 0 s D) := ⟨rfl, fun k k0 k1 => by
  have h1 : ¬ (k < 0 ∧ kbBi s k = 1) := fun h => by omega
  unfold kbSp
  simp only [if_neg h1, and_self]⟩
theorem kbSp_n {s : Int} {D : kbD} : kbE (kbSp D.1 s D) (kbSs s D) := ⟨rfl, fun k k0 k1 => by
  have k1 : k < D.1 := k1
  unfold kbSp kbSs
  dsimp only
  by_cases hb : kbBi s k = 1
  · have h1 : k < D.1 ∧ kbBi s k = 1 := ⟨k1, hb⟩
    simp only [if_pos h1, if_pos hb, and_self]
  · have h1 : ¬ (k < D.1 ∧ kbBi s k = 1) := fun h => hb h.2
    simp only [if_neg h1, if_neg hb, and_self]⟩
theorem kb12_isInSet {s k : Int} {μ : knMem} : kfX12_isInSet k s μ = some (if kbBi s k = 1 then 1 else 0) := rfl
theorem kb5_copySwitched {μ : knMem} {a b s : Int} {D : kbD} (hA : kbA μ b D) (hB : kbB D) (hab : a + 3 < b ∨ b + 3 < a) : kbH (kfX5_copySwitched a b s μ) (fun μ' => kbA μ' a (kbSs s D) ∧ kbFr a (a + 3) μ μ') := by
  have hn := hB.1
  unfold kfX5_copySwitched
  refine (kb5_copyFrom hA hB hab).bind (fun q1 ⟨a1, f1⟩ => ?_)
  refine kbLoop (fun n i m => kfX5_copySwitched_l7 a s (fun w19 => some w19) n i m) (fun i m => 0 ≤ i ∧ kbA m a (kbSp i s D) ∧ kbFr a (a + 3) μ m) D.1 _ ?_ ?_ _ _ _ (by omega) (by rw [kbF]; omega) ⟨by omega, a1.eq kbSp_0, f1⟩
  · intro n i m hi ⟨i0, hc, hf⟩ kk
    simp only [kfX5_copySwitched_l7, kbH_ite, kb12_isInSet, Option.bind_some]
    rw [show m a 3 = D.1 from hc.1, knW_id (by omega)]
    refine ⟨fun h => by omega, fun _ => ?_⟩
    refine kbH.bind (P := fun m' => kbA m' a (kbSp (i + 1) s D) ∧ kbFr a (a + 3) m m') ?_ (fun m' ⟨x1, x2⟩ => kk m' ⟨by omega, x1, hf.trans x2⟩)
    by_cases hb : kbBi s i = 1
    · rw [if_pos hb, if_neg (by omega)]
      refine (kb5_exchange hc (kbB_sp hB) ⟨i0, hi⟩).bind (fun m' ⟨x1, x2⟩ => kbH_some.mpr ⟨x1.eq (kbSp_step.1 hb), x2⟩)
    · rw [if_neg hb, if_pos rfl]
      exact kbH_some.mpr ⟨hc.eq (kbSp_step.2 hb), kbFr.rf⟩
  · intro n m ⟨i0, hc, hf⟩
    simp only [kfX5_copySwitched_l7, kbH_ite, kbH_some]
    exact ⟨fun _ => ⟨hc.eq kbSp_n, hf⟩, fun h => by have e : m a 3 = D.1 := hc.1; omega⟩
/-- the class tries a set -/
theorem kb11_try {α : Type} {μ : knMem} {b s : Int} {D : kbD} (hA : kbA μ b D) (hV : kbV D) (hb : b + 3 < 133 ∨ 136 < b) {R : Int × knMem → Option α} {Q : α → Prop}
    (hR : ∀ r : Int × knMem, ((kbUn D s ∧ r.2 133 3 = 0) ∨ (¬ kbUn D s ∧ r.2 133 3 ≠ 0)) → kbFr 133 136 μ r.2 → kbH (R r) Q) : kbH (Option.bind (kfX5_copySwitched 133 b s μ) (fun q => Option.bind (kfX5_simplify 133 q) R)) Q := by
  refine (kb5_copySwitched hA hV.1 (by omega)).bind (fun q ⟨a1, f1⟩ => ?_)
  refine (kb5_simplify a1 (kbV_ss hV)).bind (fun r ⟨_, E, e1, _, _, a2, f2⟩ => hR r ?_ ((f1.trans f2).wd (by omega) (by omega)))
  rw [kbUn_iff e1, a2.1]
  by_cases h : E.1 = 0
  · exact Or.inl ⟨h, h⟩
  · exact Or.inr ⟨h, h⟩
/-- the reference tries a set -/
theorem kb13_unknots {μ : knMem} {s : Int} {D : kbD} (hW : kbW (μ 143) D) (hs : 0 ≤ s ∧ s < 128) : kbH (kfX13_unknots s μ) (fun r => ((r.1 = 1 ∧ kbUn D s) ∨ (r.1 = 0 ∧ ¬ kbUn D s)) ∧ kbFz μ r.2) := by
  have hn := hW.2.1
  unfold kfX13_unknots
  refine (kb13_loads hW).bind (fun μ1 ⟨a1, f1⟩ => ?_)
  refine kbLoop (fun n i m => kfX13_unknots_l6 s (fun w16 => Option.bind (kfX13_reduces w16) (fun q17 => some ((if (q17 142 8) = 0 then 1 else 0 : Int), q17))) n i m) (fun i m => 0 ≤ i ∧ kbL m (kbSp i s D) ∧ kbFz μ m) D.1 _ ?_ ?_ _ _ _ (by omega) (by rw [kbF]; omega) ⟨by omega, a1.eq kbSp_0, f1⟩
  · intro n i m hi ⟨i0, hc, hf⟩ kk
    have hbz := kbBi_z hs (k := i) (by omega)
    simp only [kfX13_unknots_l6, kbH_ite]
    rw [show m 142 8 = D.1 from hc.1, knW_id (by omega)]
    refine ⟨fun h => by omega, fun _ => ?_⟩
    refine kbH.bind (P := fun m' => kbL m' (kbSp (i + 1) s D) ∧ kbFz m m') ?_ (fun m' ⟨x1, x2⟩ => kk m' ⟨by omega, x1, hf.trans x2⟩)
    by_cases hb : kbBi s i = 1
    · have hb2 : knAnd (knShr s i) 1 = 1 := hb
      rw [if_pos hb2]
      refine (kb13_flips hc ⟨i0, hi⟩).bind (fun m' ⟨x1, x2⟩ => kbH_some.mpr ⟨x1.eq (kbSp_step.1 hb), x2⟩)
    · have hb2 : ¬ knAnd (knShr s i) 1 = 1 := hb
      rw [if_neg hb2]
      exact kbH_some.mpr ⟨hc.eq (kbSp_step.2 hb), kbFz.rf⟩
  · intro n m ⟨i0, hc, hf⟩
    simp only [kfX13_unknots_l6, kbH_ite]
    refine ⟨fun _ => ?_, fun h => by have e : m 142 8 = D.1 := hc.1; omega⟩
    refine (kb13_reduces (hc.eq kbSp_n)).bind (fun m2 ⟨E, e1, a2, _, f2⟩ => kbH_some.mpr ⟨?_, hf.trans f2⟩)
    rw [kbUn_iff e1, a2.1]
    by_cases h : E.1 = 0
    · exact Or.inl ⟨if_pos h, h⟩
    · exact Or.inr ⟨if_neg h, h⟩
/-- b is the smallest set below i, the lowest of several -/
def kbBs (D : kbD) (i b : Int) : Prop := (b = -1 ∧ ∀ s : Int, 0 ≤ s → s < i → ¬ kbUn D s) ∨ ((0 ≤ b ∧ b < i) ∧ kbUn D b ∧ ∀ s : Int, 0 ≤ s → s < i → kbUn D s → kbMa b < kbMa s ∨ (kbMa b = kbMa s ∧ b ≤ s))
theorem kbBs_det {D : kbD} {i b c : Int} (h : kbBs D i b) (h2 : kbBs D i c) : b = c := by
  rcases h with ⟨a1, a2⟩ | ⟨a1, a2, a3⟩ <;> rcases h2 with ⟨b1, b2⟩ | ⟨b1, b2, b3⟩
  · omega
  · exact absurd b2 (a2 c b1.1 b1.2)
  · exact absurd a2 (b2 b a1.1 a1.2)
  · have h3 := a3 c b1.1 b1.2 b2
    have h4 := b3 b a1.1 a1.2 a2
    omega
theorem kbBs_0 {D : kbD} : kbBs D 0 (-1) := Or.inl ⟨rfl, fun s s0 s1 => by omega⟩
theorem kbBs_skip {D : kbD} {i b : Int} (h : kbBs D i b) (hb : 0 ≤ b) (hm : kbMa b ≤ kbMa i) : kbBs D (i + 1) b := by
  rcases h with ⟨a1, _⟩ | ⟨a1, a2, a3⟩
  · omega
  · refine Or.inr ⟨by omega, a2, fun s s0 s1 hs => ?_⟩
    by_cases h : s = i
    · subst h; omega
    · exact a3 s s0 (by omega) hs
theorem kbBs_no {D : kbD} {i b : Int} (h : kbBs D i b) (hu : ¬ kbUn D i) : kbBs D (i + 1) b := by
  rcases h with ⟨a1, a2⟩ | ⟨a1, a2, a3⟩
  · refine Or.inl ⟨a1, fun s s0 s1 => ?_⟩
    by_cases h : s = i
    · subst h; exact hu
    · exact a2 s s0 (by omega)
  · refine Or.inr ⟨by omega, a2, fun s s0 s1 hs => ?_⟩
    by_cases h : s = i
    · subst h; exact absurd hs hu
    · exact a3 s s0 (by omega) hs
theorem kbBs_yes {D : kbD} {i b : Int} (h : kbBs D i b) (hu : kbUn D i) (i0 : 0 ≤ i) (hm : b = -1 ∨ kbMa i < kbMa b) : kbBs D (i + 1) i := by
  refine Or.inr ⟨by omega, hu, fun s s0 s1 hs => ?_⟩
  by_cases he : s = i
  · subst he; omega
  · rcases h with ⟨a1, a2⟩ | ⟨a1, a2, a3⟩
    · exact absurd hs (a2 s s0 (by omega))
    · have := a3 s s0 (by omega) hs
      omega
/-- its size, -1 if there is none -/
def kbSz (b : Int) : Int := if b = -1 then -1 else kbMa b
theorem kb11_fewest {μ : knMem} {D : kbD} (hA : kbA μ 2 D) (hV : kbV D) : kbH (kfX11_fewest 2 μ) (fun r => ∃ b : Int, kbBs D (kbP2 D.1) b ∧ r.1 = kbSz b ∧ (b ≠ -1 → r.2 132 1 = b) ∧ kbFr 132 136 μ r.2) := by
  have hn := hV.1.1
  have hp := kbP2_in hn
  unfold kfX11_fewest
  refine kbLoop (fun n i (p : Int × knMem) => kfX11_fewest_l4 2 (fun w46 => some (w46.1, w46.2)) n p.1 i p.2) (fun i p => 0 ≤ i ∧ ∃ b : Int, kbBs D i b ∧ p.1 = kbSz b ∧ (b ≠ -1 → p.2 132 1 = b) ∧ kbFr 132 136 μ p.2) (kbP2 D.1) _ ?_ ?_ knF 0 (-1, μ) (by omega) (by rw [kbF]; omega) ⟨by omega, -1, kbBs_0, rfl, fun h => absurd rfl h, kbFr.rf⟩
  · rintro n i ⟨x, m⟩ hi ⟨i0, b, hb, hx, hs, hf⟩ kk
    dsimp only at hx hs hf kk ⊢
    have hA1 : kbA m 2 D := hA.fr hf (by omega)
    have hbr : b = -1 ∨ (0 ≤ b ∧ b < i) := by rcases hb with ⟨h, _⟩ | ⟨h, _⟩ <;> omega
    have hmi := kbMa_in (s := i) (by omega)
    unfold kfX11_fewest_l4 kfX5_sets
    rw [Option.bind_some, hA1.1, show knShl 1 D.1 = kbP2 D.1 from rfl, if_neg (by omega), kb6_bitCount (by omega), Option.bind_some, knW_id (by omega)]
    have hfin : ∀ p : Int × knMem, (∃ b : Int, kbBs D (i + 1) b ∧ p.1 = kbSz b ∧ (b ≠ -1 → p.2 132 1 = b) ∧ kbFr 132 136 μ p.2) → kbH (kfX11_fewest_l4 2 (fun w46 => some (w46.1, w46.2)) n p.1 (i + 1) p.2) _ := fun p hp => kk p ⟨by omega, hp⟩
    have htry : (b = -1 ∨ kbMa i < kbMa b) → kbH (Option.bind (kfX5_copySwitched 133 2 i m) (fun q29 => Option.bind (kfX5_simplify 133 q29) (fun q32 => if (q32.2 133 3) = 0 then some (kbMa i, (knUp q32.2 132 1 i)) else some (x, q32.2)))) (fun p => ∃ b : Int, kbBs D (i + 1) b ∧ p.1 = kbSz b ∧ (b ≠ -1 → p.2 132 1 = b) ∧ kbFr 132 136 μ p.2) := by
      intro hm
      refine kb11_try hA1 hV (by omega) (fun r hr fr => ?_)
      have fr2 : kbFr 132 136 μ r.2 := hf.trans (fr.wd (by omega) (by omega))
      rcases hr with ⟨u, z⟩ | ⟨u, z⟩
      · rw [if_pos z]
        refine kbH_some.mpr ⟨i, kbBs_yes hb u i0 hm, ?_, fun _ => kbUpS r.2 132 1 i, fr2.up (by omega)⟩
        unfold kbSz
        rw [if_neg (by omega)]
      · rw [if_neg z]
        refine kbH_some.mpr ⟨b, kbBs_no hb u, hx, fun h => ?_, fr2⟩
        show r.2 132 1 = b
        rw [fr 132 (by omega)]; exact hs h
    refine kbH.bind (P := fun p => ∃ b : Int, kbBs D (i + 1) b ∧ p.1 = kbSz b ∧ (b ≠ -1 → p.2 132 1 = b) ∧ kbFr 132 136 μ p.2) ?_ hfin
    unfold kbSz at hx
    rcases hbr with h9 | h9
    · rw [if_pos h9] at hx
      rw [if_pos hx]
      exact htry (Or.inl h9)
    · have hmb := kbMa_in (s := b) (by omega)
      rw [if_neg (by omega)] at hx
      rw [if_neg (by omega)]
      by_cases g : x ≤ kbMa i
      · rw [if_pos g]
        exact kbH_some.mpr ⟨b, kbBs_skip hb h9.1 (by omega), by unfold kbSz; rw [if_neg (by omega)]; exact hx, hs, hf⟩
      · rw [if_neg g]
        exact htry (Or.inr (by omega))
  · rintro n ⟨x, m⟩ ⟨i0, b, hb, hx, hs, hf⟩
    dsimp only at hx hs hf ⊢
    have hA1 : kbA m 2 D := hA.fr hf (by omega)
    unfold kfX11_fewest_l4 kfX5_sets
    rw [Option.bind_some, hA1.1, show knShl 1 D.1 = kbP2 D.1 from rfl, if_pos (by omega)]
    exact kbH_some.mpr ⟨b, hb, hx, hs, hf⟩
theorem kb13_smallest {μ : knMem} {D : kbD} (hW : kbW (μ 143) D) : kbH (kfX13_smallest μ) (fun r => kbBs D (kbP2 D.1) r.1 ∧ kbFz μ r.2) := by
  have hn := hW.2.1
  have hp := kbP2_in hn
  unfold kfX13_smallest
  rw [kbGd (by omega), hW.1, show knShl 1 D.1 = kbP2 D.1 from rfl]
  refine kbLoop (fun n i (p : Int × knMem) => kfX13_smallest_l13 (kbP2 D.1) (fun w38 => some (w38.1, w38.2)) n p.1 i p.2) (fun i p => 0 ≤ i ∧ kbBs D i p.1 ∧ kbFz μ p.2) (kbP2 D.1) _ ?_ ?_ knF 0 (-1, μ) (by omega) (by rw [kbF]; omega) ⟨by omega, kbBs_0, kbFz.rf⟩
  · rintro n i ⟨b, m⟩ hi ⟨i0, hb, hf⟩ kk
    dsimp only at hb hf kk ⊢
    have hW1 : kbW (m 143) D := by rw [hf.1 143 (by omega) (by omega)]; exact hW
    have hbr : b = -1 ∨ (0 ≤ b ∧ b < i) := by rcases hb with ⟨h, _⟩ | ⟨h, _⟩ <;> omega
    unfold kfX13_smallest_l13
    rw [if_neg (by omega), knW_id (by omega)]
    have hfin : ∀ p : Int × knMem, (kbBs D (i + 1) p.1 ∧ kbFz μ p.2) → kbH (kfX13_smallest_l13 (kbP2 D.1) (fun w38 => some (w38.1, w38.2)) n p.1 (i + 1) p.2) _ := fun p hp => kk p ⟨by omega, hp⟩
    have htry : (b = -1 ∨ kbMa i < kbMa b) → kbH (Option.bind (kfX13_unknots i m) (fun q23 => if q23.1 = 0 then some (b, q23.2) else some (i, q23.2))) (fun p => kbBs D (i + 1) p.1 ∧ kbFz μ p.2) := by
      intro hm
      refine (kb13_unknots hW1 (by omega)).bind (fun r ⟨hr, fr⟩ => ?_)
      rcases hr with ⟨z, u⟩ | ⟨z, u⟩
      · rw [if_neg (by omega)]
        exact kbH_some.mpr ⟨kbBs_yes hb u i0 hm, hf.trans fr⟩
      · rw [if_pos z]
        exact kbH_some.mpr ⟨kbBs_no hb u, hf.trans fr⟩
    refine kbH.bind (P := fun p => kbBs D (i + 1) p.1 ∧ kbFz μ p.2) ?_ hfin
    rcases hbr with h9 | h9
    · rw [if_pos (by omega)]
      exact htry (Or.inl h9)
    · rw [if_neg (by omega), kb13_many (by omega), Option.bind_some, kb13_many (by omega), Option.bind_some]
      by_cases g : kbMa b ≤ kbMa i
      · rw [if_pos g]
        exact kbH_some.mpr ⟨kbBs_skip hb h9.1 g, hf⟩
      · rw [if_neg g]
        exact htry (Or.inr (by omega))
  · rintro n ⟨b, m⟩ ⟨i0, hb, hf⟩
    dsimp only at hb hf ⊢
    unfold kfX13_smallest_l13
    rw [if_pos (by omega)]
    exact kbH_some.mpr ⟨hb, hf⟩
