/-! The search by depth; the cases of switches. -/
theorem kbSa : ∀ f : Nat, f < 8 → ∀ s : Nat, s < 128 → kbMn (s % 2 ^ f) = kbMn s → s % 2 ^ f = s := by decide +kernel
theorem kbSb' : ∀ f : Nat, f < 8 → ∀ s : Nat, s < 128 → kbMn (s % 2 ^ f) < kbMn s → ∃ c : Nat, c < 7 ∧ f ≤ c ∧ s % 2 ^ (c + 1) = s % 2 ^ f + 2 ^ c := by decide +kernel
theorem kbSc : ∀ c : Nat, c < 7 → ∀ a : Nat, a < 2 ^ c → kbMn (a + 2 ^ c) = kbMn a + 1 ∧ knOr (a : Int) (knShl 1 (c : Int)) = ((a + 2 ^ c : Nat) : Int) := by decide +kernel
theorem kbSd : ∀ f : Nat, f < 8 → ∀ c : Nat, c < 7 → f ≤ c → ∀ s : Nat, s < 128 → s % 2 ^ (c + 1) % 2 ^ f = s % 2 ^ f := by decide +kernel
theorem kbSe : ∀ n : Nat, n < 8 → ∀ c : Nat, c < 7 → ∀ s : Nat, s < 2 ^ n → 2 ^ c ≤ s % 2 ^ (c + 1) → c < n := by decide +kernel
theorem kbSf : ∀ c : Nat, c < 7 → ∀ f : Nat, f ≤ c → 2 ^ f ≤ 2 ^ c ∧ 2 ^ (c + 1) = 2 * 2 ^ c ∧ 2 ^ c ≤ 64 := by decide +kernel
theorem kbSg : ∀ n : Nat, n < 8 → ∀ s : Nat, s < 2 ^ n → kbMn s ≤ n := by decide +kernel
theorem kbSh : ∀ c : Nat, c < 7 → ∀ f : Nat, f ≤ c → ∀ a : Nat, a < 2 ^ f → (a + 2 ^ c) % 2 ^ f = a := by decide +kernel
/-- s is the set a with some more crossings, from f on -/
def kbEx (n f a m s : Nat) : Prop := s < 2 ^ n ∧ s % 2 ^ f = a ∧ kbMn s = kbMn a + m
theorem kbP2n {n : Nat} (hn : n < 8) : 2 ^ n ≤ 128 := (kbP2B n hn).2
theorem kbEx_0 {n f a s : Nat} (hn : n < 8) (hf : f ≤ n) (ha : a < 2 ^ f) : kbEx n f a 0 s ↔ s = a := by
  have h1 := kbP2n hn
  have h2 := Nat.pow_le_pow_right (show 0 < 2 by omega) hf
  constructor
  · intro ⟨a1, a2, a3⟩
    have := kbSa f (by omega) s (by omega) (by rw [a2, a3]; omega)
    omega
  · intro h
    subst h
    exact ⟨by omega, Nat.mod_eq_of_lt ha, by omega⟩
theorem kbEx_s {n f a m s : Nat} (hn : n < 8) (hf : f ≤ n) (ha : a < 2 ^ f) : kbEx n f a (m + 1) s ↔ ∃ c : Nat, f ≤ c ∧ c < n ∧ kbEx n (c + 1) (a + 2 ^ c) m s := by
  have h1 := kbP2n hn
  constructor
  · intro ⟨a1, a2, a3⟩
    obtain ⟨c, c7, cf, e⟩ := kbSb' f (by omega) s (by omega) (by rw [a2, a3]; omega)
    have hcn := kbSe n hn c c7 s a1 (by omega)
    have hsf := kbSf c c7 f cf
    have hsc := (kbSc c c7 a (by omega)).1
    exact ⟨c, cf, hcn, a1, by rw [e, a2], by rw [a3, hsc]; omega⟩
  · intro ⟨c, cf, cn, a1, a2, a3⟩
    have c7 : c < 7 := by omega
    have hsf := kbSf c c7 f cf
    have hsc := (kbSc c c7 a (by omega)).1
    have hsd := kbSd f (by omega) c c7 cf s (by omega)
    rw [a2, kbSh c c7 f cf a ha] at hsd
    exact ⟨a1, hsd.symm, by rw [a3, hsc]; omega⟩
theorem kb11_reaches {D : kbD} (hV : kbV D) : ∀ (m N f a : Nat) (μ : knMem), kbA μ 2 D → (m < N ∧ N ≤ 10) → f ≤ D.1.toNat → a < 2 ^ f →
    kbH (kfX11_reaches N 2 a f m μ) (fun r => ((r.1 = 1 ∧ ∃ s : Nat, kbEx D.1.toNat f a m s ∧ kbUn D s) ∨ (r.1 = 0 ∧ ¬ ∃ s : Nat, kbEx D.1.toNat f a m s ∧ kbUn D s)) ∧ kbFr 133 136 μ r.2)
  | 0, N, f, a, μ, hA, hN, hf, ha => by
    have hn := hV.1.1
    obtain ⟨N, rfl⟩ : ∃ M : Nat, N = M + 1 := ⟨N - 1, by omega⟩
    unfold kfX11_reaches
    rw [if_neg (by omega)]
    refine kb11_try hA hV (by omega) (fun r hr fr => kbH_some.mpr ⟨?_, fr⟩)
    have hx : (∃ s : Nat, kbEx D.1.toNat f a 0 s ∧ kbUn D s) ↔ kbUn D a := ⟨fun ⟨s, h1, h2⟩ => by rw [(kbEx_0 (by omega) hf ha).mp h1] at h2; exact h2, fun h => ⟨a, (kbEx_0 (by omega) hf ha).mpr rfl, h⟩⟩
    rw [hx]
    rcases hr with ⟨u, z⟩ | ⟨u, z⟩
    · exact Or.inl ⟨if_pos z, u⟩
    · exact Or.inr ⟨if_neg z, u⟩
  | m + 1, N, f, a, μ, hA, hN, hf, ha => by
    have hn := hV.1.1
    obtain ⟨N, rfl⟩ : ∃ M : Nat, N = M + 1 := ⟨N - 1, by omega⟩
    unfold kfX11_reaches
    rw [if_pos (by omega)]
    have hx : (∃ s : Nat, kbEx D.1.toNat f a (m + 1) s ∧ kbUn D s) ↔ ∃ c : Nat, f ≤ c ∧ c < D.1.toNat ∧ ∃ s : Nat, kbEx D.1.toNat (c + 1) (a + 2 ^ c) m s ∧ kbUn D s := by
      constructor
      · intro ⟨s, h1, h2⟩
        obtain ⟨c, c1, c2, c3⟩ := (kbEx_s (by omega) hf ha).mp h1
        exact ⟨c, c1, c2, s, c3, h2⟩
      · intro ⟨c, c1, c2, s, h1, h2⟩
        exact ⟨s, (kbEx_s (by omega) hf ha).mpr ⟨c, c1, c2, h1⟩, h2⟩
    rw [hx]
    refine kbLoop (fun n i s => kfX11_reaches_l41 (kfX11_reaches N) 2 a ((m + 1 : Nat) : Int) (fun w8 => some (0, w8)) n i s) (fun i s => (f : Int) ≤ i ∧ kbFr 133 136 μ s ∧ ∀ c : Nat, f ≤ c → (c : Int) < i → ¬ ∃ s : Nat, kbEx D.1.toNat (c + 1) (a + 2 ^ c) m s ∧ kbUn D s) D.1 _ ?_ ?_ _ _ _ (by omega) (by rw [kbF]; omega) ⟨by omega, kbFr.rf, fun c c1 c2 => by omega⟩
    · intro n i s hi ⟨i0, hfr, hno⟩ kk
      have hA1 : kbA s 2 D := hA.fr hfr (by omega)
      obtain ⟨c, hc⟩ : ∃ c : Nat, (c : Int) = i := ⟨i.toNat, by omega⟩
      have c7 : c < 7 := by omega
      have hsf := kbSf c c7 f (by omega)
      have hsc := (kbSc c c7 a (by omega)).2
      simp only [kfX11_reaches_l41, kbH_ite]
      rw [hA1.1, ← hc, hsc, knW_id (by omega), knW_id (by omega), show ((c : Int) + 1) = ((c + 1 : Nat) : Int) by omega, show (((m + 1 : Nat) : Int) - 1) = ((m : Nat) : Int) by omega]
      refine ⟨fun h => by omega, fun _ => ?_⟩
      refine (kb11_reaches hV m N (c + 1) (a + 2 ^ c) s hA1 (by omega) (by omega) (by omega)).bind (fun r ⟨hr, fr⟩ => ?_)
      rcases hr with ⟨z, u⟩ | ⟨z, u⟩
      · rw [if_neg (by omega)]
        exact kbH_some.mpr ⟨Or.inl ⟨rfl, c, by omega, by omega, u⟩, hfr.trans fr⟩
      · rw [if_pos z, show ((c + 1 : Nat) : Int) = i + 1 by omega]
        refine kk _ ⟨by omega, hfr.trans fr, fun c' c1 c2 => ?_⟩
        by_cases h : c' = c
        · subst h; exact u
        · exact hno c' c1 (by omega)
    · intro n s ⟨i0, hfr, hno⟩
      have hA1 : kbA s 2 D := hA.fr hfr (by omega)
      simp only [kfX11_reaches_l41, kbH_ite]
      rw [hA1.1]
      refine ⟨fun _ => kbH_some.mpr ⟨Or.inr ⟨rfl, fun ⟨c, c1, c2, h⟩ => hno c c1 (by omega) h⟩, hfr⟩, fun h => by omega⟩
theorem kb11_byDepth {μ : knMem} {D : kbD} (hA : kbA μ 2 D) (hV : kbV D) {b : Int} (hb : kbBs D (kbP2 D.1) b) : kbH (kfX11_fewestByDepth 2 μ) (fun r => r.1 = kbSz b ∧ kbFr 133 136 μ r.2) := by
  have hn := hV.1.1
  have hp := kbP2_in hn
  have hpe := kbP2_e hn
  have hex : ∀ m s : Nat, kbEx D.1.toNat 0 0 m s ↔ s < 2 ^ D.1.toNat ∧ kbMn s = m := by
    intro m s
    unfold kbEx
    have e : kbMn 0 = 0 := by decide
    rw [e, Nat.pow_zero, Nat.mod_one]
    constructor
    · intro ⟨a1, _, a3⟩; exact ⟨a1, by omega⟩
    · intro ⟨a1, a3⟩; exact ⟨a1, rfl, by omega⟩
  unfold kfX11_fewestByDepth
  refine kbLoop (fun n i s => kfX11_fewestByDepth_l2 2 (fun w7 => some (-1, w7)) n i s) (fun i s => 0 ≤ i ∧ kbFr 133 136 μ s ∧ ∀ t : Nat, t < 2 ^ D.1.toNat → (kbMn t : Int) < i → ¬ kbUn D t) (D.1 + 1) _ ?_ ?_ _ _ _ (by omega) (by rw [kbF]; omega) ⟨by omega, kbFr.rf, fun t _ h => by omega⟩
  · intro n i s hi ⟨i0, hfr, hno⟩ kk
    have hA1 : kbA s 2 D := hA.fr hfr (by omega)
    obtain ⟨d, hd⟩ : ∃ d : Nat, (d : Int) = i := ⟨i.toNat, by omega⟩
    simp only [kfX11_fewestByDepth_l2, kbH_ite]
    rw [hA1.1, knW_id (by omega)]
    refine ⟨fun h => by omega, fun _ => ?_⟩
    rw [← hd]
    refine (kb11_reaches hV d 10 0 0 s hA1 (by omega) (by omega) (by decide)).bind (fun r ⟨hr, fr⟩ => ?_)
    rcases hr with ⟨z, t, u1, u2⟩ | ⟨z, u⟩
    · rw [if_neg (by omega)]
      have ht := (hex d t).mp u1
      refine kbH_some.mpr ⟨?_, hfr.trans fr⟩
      show (d : Int) = kbSz b
      rcases hb with ⟨_, h2⟩ | ⟨h1, h2, h3⟩
      · exact absurd u2 (h2 t (by omega) (by omega))
      · have h4 := h3 t (by omega) (by omega) u2
        have h5 := hno b.toNat (by omega)
        rw [show ((b.toNat : Nat) : Int) = b by omega] at h5
        have h6 : kbMa t = d := by unfold kbMa; rw [Int.toNat_natCast, ht.2]
        have h7 : kbMa b = ((kbMn b.toNat : Nat) : Int) := rfl
        unfold kbSz
        rw [if_neg (by omega)]
        by_cases h8 : (kbMn b.toNat : Int) < i
        · exact absurd h2 (h5 h8)
        · omega
    · rw [if_pos z, hd]
      refine kk _ ⟨by omega, hfr.trans fr, fun t t1 t2 => ?_⟩
      by_cases h : kbMn t = d
      · exact fun hu => u ⟨t, (hex d t).mpr ⟨t1, h⟩, hu⟩
      · exact hno t t1 (by omega)
  · intro n s ⟨i0, hfr, hno⟩
    have hA1 : kbA s 2 D := hA.fr hfr (by omega)
    simp only [kfX11_fewestByDepth_l2, kbH_ite]
    rw [hA1.1]
    refine ⟨fun _ => kbH_some.mpr ⟨?_, hfr⟩, fun h => by omega⟩
    rcases hb with ⟨h1, _⟩ | ⟨h1, h2, _⟩
    · unfold kbSz; rw [if_pos h1]
    · have h5 := hno b.toNat (by omega) (by have := kbSg D.1.toNat (by omega) b.toNat (by omega); omega)
      rw [show ((b.toNat : Nat) : Int) = b by omega] at h5
      exact absurd h2 h5
theorem kbBs_r {D : kbD} {b : Int} (hn : 0 ≤ D.1 ∧ D.1 ≤ 7) (h : kbBs D (kbP2 D.1) b) : b = -1 ∨ (0 ≤ b ∧ b < 128) := by
  have := kbP2_in hn
  rcases h with ⟨h, _⟩ | ⟨h, _⟩ <;> omega
theorem kbBs_ex {μ : knMem} {D : kbD} (hA : kbA μ 2 D) (hV : kbV D) : ∃ b : Int, kbBs D (kbP2 D.1) b := by
  obtain ⟨r, _, b, h, _⟩ := kb11_fewest hA hV
  exact ⟨b, h⟩
theorem kbFr.K3 {μ μ' : knMem} (h : kbFr 132 136 μ μ') : kbK μ μ' := h.K (Or.inr (Or.inl ⟨by omega, by omega⟩))
theorem kbLk_33 {μ : knMem} (hI : kbIv μ) (x1 x2 x3 x4 : Int) : kbH (kfLc_33 x1 x2 x3 x4 μ) kbIv := by
  obtain ⟨⟨S, hC, hR⟩, -⟩ := id hI
  obtain ⟨E, hE⟩ : ∃ E : kbD, kbRx S.1 E := by
    obtain ⟨r, _, _, E, e1, _⟩ := kb5_simplify (d := 2) hC.1 hR.V
    exact ⟨E, e1⟩
  have hss : kbSs 0 S.1 = S.1 := by
    have hb : ∀ k : Int, kbBi 0 k ≠ 1 := by
      intro k h
      unfold kbBi knAnd knShr at h
      have e : (Int32.ofInt 0 >>> (Int32.ofInt k &&& 31)) = 0 := by
        show (0 : Int32) >>> _ = 0
        exact Int32.zero_shiftRight
      rw [e] at h
      exact absurd h (by decide)
    unfold kbSs
    simp only [if_neg (hb _)]
  unfold kfLc_33
  refine kbPl3 (P := kbK μ) (v := if E.1 = 0 then 1 else 0) ?_ (fun μ1 h1 => ?_)
  · unfold kfX12_isPlainlyUnknotted kfX12_reducedCrossings
    refine kbH.bind (P := fun r => r.1 = E.1 ∧ kbK μ r.2) ?_ (fun r ⟨r1, r2⟩ => kbH_some.mpr ⟨by rw [← r1], r2⟩)
    refine (kb5_copyFrom (a := 19) (b := 2) hC.1 hR.B (by omega)).bind (fun q1 ⟨a1, f1⟩ => ?_)
    refine (kb5_simplify (d := 19) a1 hR.V).bind (fun q4 ⟨b1, E2, e1, _, _, a2, f2⟩ => ?_)
    rw [e1.det hE] at a2
    exact kbH_some.mpr ⟨a2.1, ((f1.trans f2).wd (by omega) (by omega)).K (Or.inl ⟨Int.le_refl 19, Int.le_refl 22⟩)⟩
  · have hI1 := hI.K h1
    have hW : kbW (knUp μ1 142 0 0 143) S.1 := by rw [kbUp3, h1.1 143 (by omega)]; exact hR.1
    unfold kfX13_isPlainlyUnknotted
    refine (kb13_unknots (s := 0) hW (by omega)).bind (fun r ⟨hr, fr⟩ => kbH_some.mpr ⟨?_, hI1.K (kbK.l fr).1⟩)
    rw [kbUn_iff (E := E) (by rw [hss]; exact hE)] at hr
    rcases hr with ⟨z, u⟩ | ⟨z, u⟩
    · show r.1 = _; rw [z, if_pos u]
    · show r.1 = _; rw [z, if_neg u]
/-- what the reference says of it -/
theorem kb13_switches {μ1 : knMem} {D : kbD} {b : Int} (hI1 : kbIv μ1) (hW : kbW (knUp μ1 142 0 0 143) D) (hb : kbBs D (kbP2 D.1) b) : kbH (kfX13_switches μ1) (fun r => r.2 142 0 = kbC1 (if b = -1 then 5 else 0) ∧ (kbC1 (if b = -1 then 5 else 0) = 0 → r.1 = kbSz b) ∧ r.2 159 = μ1 159 ∧ kbIv r.2) := by
  have hn := hW.2.1
  have hbr := kbBs_r hn hb
  unfold kfX13_switches
  refine (kb13_smallest hW).bind (fun q1 ⟨h1, f1⟩ => ?_)
  have e := kbBs_det h1 hb
  rw [e]
  rcases hbr with h9 | h9
  · rw [if_neg (by omega), if_pos h9]
    refine kbH.bind (P := fun r => r.2 142 0 = 1 ∧ r.2 159 = μ1 159 ∧ kbIv r.2) ?_ (fun r ⟨r1, r2, r3⟩ => kbH_some.mpr ⟨r1, fun h => absurd (kbC1_0 h) (by omega), r2, r3⟩)
    exact (kbQf (c := 1) (fun x => x) hI1 (kbK.l f1).1 (kbK.l f1).2.2)
  · rw [if_pos h9.1, if_neg (by omega), kb13_many h9, Option.bind_some, Option.bind_some]
    refine kbH_some.mpr ⟨(kbK.l f1).2.1, fun _ => ?_, (kbK.l f1).2.2, hI1.K (kbK.l f1).1⟩
    unfold kbSz
    rw [if_neg (by omega)]
theorem kb12_reqSw {b : Int} {μ : knMem} (hbr : b = -1 ∨ (0 ≤ b ∧ b < 128)) : kfX12_requireSwitches (kbSz b) μ = some (if b = -1 then (5, 0) else (0, kbSz b)) := by
  unfold kfX12_requireSwitches kbSz
  rcases hbr with h9 | h9
  · simp only [if_pos h9, if_true]
  · have := kbMa_in h9
    rw [if_neg (show ¬ b = -1 by omega), if_neg (by omega), if_neg (show ¬ b = -1 by omega)]
theorem kbLk_34 {μ : knMem} (hI : kbIv μ) (x1 x2 x3 x4 : Int) : kbH (kfLc_34 x1 x2 x3 x4 μ) kbIv := by
  obtain ⟨⟨S, hC, hR⟩, -⟩ := id hI
  have hn := hR.1.2.1
  obtain ⟨b, hb⟩ := kbBs_ex hC.1 hR.V
  have hbr := kbBs_r hn hb
  unfold kfLc_34
  refine kbTry (P := kbK μ) (lc := kbC1 (if b = -1 then 5 else 0)) (v := kbSz b) (fun x => x) ?_ (fun μ1 h1 => ?_)
  · unfold kfL_switches kfX12_switches
    refine kbH.bind (P := fun q => q.1 = (if b = -1 then 5 else 0) ∧ (b ≠ -1 → q.2.1 = kbSz b) ∧ kbK μ q.2.2) ?_ (fun q ⟨q1, q2, q3⟩ => ?_)
    · refine (kb11_fewest hC.1 hR.V).bind (fun r ⟨c, c1, c2, c3, c4⟩ => ?_)
      rw [kbBs_det c1 hb] at c2
      rw [c2, kb12_reqSw hbr, Option.bind_some]
      by_cases h : b = -1
      · rw [if_pos h, if_neg (show ¬ (5 : Int) = 0 by omega), if_pos h]
        exact kbH_some.mpr ⟨rfl, fun h2 => absurd h h2, c4.K3⟩
      · rw [if_neg h, if_pos rfl, if_neg h]
        exact kbH_some.mpr ⟨rfl, fun h2 => rfl, c4.K3⟩
    · rw [q1]
      by_cases h : b = -1
      · rw [if_pos h, if_neg (show ¬ (5 : Int) = 0 by omega), if_pos rfl]
        exact kbH_some.mpr ⟨rfl, fun h2 => absurd (kbC1_0 h2) (by omega), q3⟩
      · rw [if_neg h, if_pos rfl]
        exact kbH_some.mpr ⟨rfl, fun _ => (kbUpS q.2.2 159 0 _).trans (q2 h), q3.up (by omega)⟩
  · have hI1 := hI.K h1
    have hW : kbW (knUp μ1 142 0 0 143) S.1 := by rw [kbUp3, h1.1 143 (by omega)]; exact hR.1
    exact kb13_switches hI1 hW hb
theorem kbLk_35 {μ : knMem} (hI : kbIv μ) (x1 x2 x3 x4 : Int) : kbH (kfLc_35 x1 x2 x3 x4 μ) kbIv := by
  obtain ⟨⟨S, hC, hR⟩, -⟩ := id hI
  have hn := hR.1.2.1
  obtain ⟨b, hb⟩ := kbBs_ex hC.1 hR.V
  have hbr := kbBs_r hn hb
  unfold kfLc_35
  refine kbTry (P := kbK μ) (lc := kbC1 (if b = -1 then 5 else 0)) (v := kbSz b) (fun x => x) ?_ (fun μ1 h1 => ?_)
  · unfold kfL_switchesByDepth kfX12_switchesByDepth
    refine kbH.bind (P := fun q => q.1 = (if b = -1 then 5 else 0) ∧ (b ≠ -1 → q.2.1 = kbSz b) ∧ kbK μ q.2.2) ?_ (fun q ⟨q1, q2, q3⟩ => ?_)
    · refine (kb11_byDepth hC.1 hR.V hb).bind (fun r ⟨c2, c4⟩ => ?_)
      rw [c2, kb12_reqSw hbr, Option.bind_some]
      by_cases h : b = -1
      · rw [if_pos h, if_neg (show ¬ (5 : Int) = 0 by omega), if_pos h]
        exact kbH_some.mpr ⟨rfl, fun h2 => absurd h h2, (c4.wd (by omega) (by omega)).K3⟩
      · rw [if_neg h, if_pos rfl, if_neg h]
        exact kbH_some.mpr ⟨rfl, fun h2 => rfl, (c4.wd (by omega) (by omega)).K3⟩
    · rw [q1]
      by_cases h : b = -1
      · rw [if_pos h, if_neg (show ¬ (5 : Int) = 0 by omega), if_pos rfl]
        exact kbH_some.mpr ⟨rfl, fun h2 => absurd (kbC1_0 h2) (by omega), q3⟩
      · rw [if_neg h, if_pos rfl]
        exact kbH_some.mpr ⟨rfl, fun _ => (kbUpS q.2.2 159 0 _).trans (q2 h), q3.up (by omega)⟩
  · have hI1 := hI.K h1
    have hW : kbW (knUp μ1 142 0 0 143) S.1 := by rw [kbUp3, h1.1 143 (by omega)]; exact hR.1
    unfold kfX13_switchesByDepth
    exact (kb13_switches hI1 hW hb).bind (fun r h => kbH_some.mpr h)
theorem kbLoA : ∀ s : Nat, s < 128 → s ≠ 0 → ∃ c : Nat, c < 7 ∧ kbBi s c = 1 ∧ ∀ k : Nat, k < c → kbBi s k ≠ 1 := by decide +kernel
theorem kbLoB : ∀ k : Nat, k < 7 → kbBi 0 k ≠ 1 := by decide +kernel
/-- the lowest crossing of a set -/
theorem kbLo {b : Int} (hb : 0 ≤ b ∧ b < 128) (h0 : b ≠ 0) : ∃ c : Int, (0 ≤ c ∧ c < 7) ∧ kbBi b c = 1 ∧ ∀ k : Int, 0 ≤ k → k < c → kbBi b k ≠ 1 := by
  obtain ⟨c, c1, c2, c3⟩ := kbLoA b.toNat (by omega) (by omega)
  rw [show ((b.toNat : Nat) : Int) = b by omega] at c2 c3
  refine ⟨c, by omega, c2, fun k k0 k1 => ?_⟩
  have := c3 k.toNat (by omega)
  rw [show ((k.toNat : Nat) : Int) = k by omega] at this
  exact this
theorem kb12_first {μ : knMem} {b v : Int} (he : μ 132 1 = b) (hv : (b = 0 ∧ v = -1) ∨ ((0 ≤ v ∧ v < 7) ∧ kbBi b v = 1 ∧ ∀ k : Int, 0 ≤ k → k < v → kbBi b k ≠ 1)) : kbH (kfX12_firstSwitch_l17 μ (fun _ => some (0, -1, μ)) knF 0) (fun r => r.1 = 0 ∧ r.2.1 = v ∧ r.2.2 = μ) := by
  rcases hv with ⟨h0, h1⟩ | ⟨h0, h1, h2⟩
  · refine kbLoop (fun n i (_ : Unit) => kfX12_firstSwitch_l17 μ (fun _ => some (0, -1, μ)) n i) (fun i _ => 0 ≤ i) 7 _ ?_ ?_ _ _ () (by omega) (by rw [kbF]; omega) (by omega)
    · intro n i _ hi i0 kk
      simp only [kfX12_firstSwitch_l17, kbH_ite, kb12_isInSet, Option.bind_some, he]
      rw [knW_id (by omega)]
      refine ⟨fun h => by omega, fun _ => ⟨fun _ => kk () (by omega), fun h => ?_⟩⟩
      have h9 := kbLoB i.toNat (by omega)
      rw [show ((i.toNat : Nat) : Int) = i by omega] at h9
      rw [h0, if_neg h9] at h
      exact absurd rfl h
    · intro n _ _
      simp only [kfX12_firstSwitch_l17, kbH_ite]
      exact ⟨fun _ => kbH_some.mpr ⟨rfl, h1.symm, rfl⟩, fun h => absurd (Int.le_refl 7) h⟩
  · refine kbLoop (fun n i (_ : Unit) => kfX12_firstSwitch_l17 μ (fun _ => some (0, -1, μ)) n i) (fun i _ => 0 ≤ i ∧ i ≤ v) v _ ?_ ?_ _ _ () (by omega) (by rw [kbF]; omega) (by omega)
    · intro n i _ hi ⟨i0, _⟩ kk
      simp only [kfX12_firstSwitch_l17, kbH_ite, kb12_isInSet, Option.bind_some, he]
      rw [knW_id (by omega)]
      refine ⟨fun h => by omega, fun _ => ⟨fun _ => kk () (by omega), fun h => ?_⟩⟩
      rw [if_neg (h2 i i0 hi)] at h
      exact absurd rfl h
    · intro n _ _
      simp only [kfX12_firstSwitch_l17, kbH_ite, kb12_isInSet, Option.bind_some, he]
      refine ⟨fun h => by omega, fun _ => ⟨fun h => ?_, fun _ => kbH_some.mpr ⟨rfl, rfl, rfl⟩⟩⟩
      rw [if_pos h1] at h
      exact absurd h (by decide)
theorem kb13_first {μ : knMem} {b v : Int} (hb : 0 ≤ b) {kc : Int → Option (Int × knMem)} {Q : Int × knMem → Prop} (hv : (b = 0 ∧ v = -1) ∨ ((0 ≤ v ∧ v < 7) ∧ kbBi b v = 1 ∧ (∀ k : Int, 0 ≤ k → k < v → kbBi b k = 0) ∧ b ≠ 0)) (hk : ∀ w : Int, (if b = 0 then -1 else w) = v → kbH (kc w) Q) : kbH (kfX13_firstSwitch_l22 b μ kc knF 0) Q := by
  rcases hv with ⟨h0, h1⟩ | ⟨h0, h1, h2, h3⟩
  · show kbH (kfX13_firstSwitch_l22 b μ kc (4095 + 1) 0) Q
    unfold kfX13_firstSwitch_l22
    rw [if_pos (by omega)]
    exact hk 0 (by rw [if_pos h0, h1])
  · refine kbLoop (fun n i (_ : Unit) => kfX13_firstSwitch_l22 b μ kc n i) (fun i _ => 0 ≤ i ∧ i ≤ v) v _ ?_ ?_ _ _ () (by omega) (by rw [kbF]; omega) (by omega)
    · intro n i _ hi ⟨i0, _⟩ kk
      have h9 : knAnd (knShr b i) 1 = 0 := h2 i i0 hi
      simp only [kfX13_firstSwitch_l22, kbH_ite]
      rw [knW_id (by omega)]
      exact ⟨fun h => by omega, fun _ => ⟨fun _ => kk () (by omega), fun h => absurd h9 h⟩⟩
    · intro n _ _
      have h9 : knAnd (knShr b v) 1 = 1 := h1
      simp only [kfX13_firstSwitch_l22, kbH_ite]
      refine ⟨fun h => by omega, fun _ => ⟨fun h => by omega, fun _ => hk v (by rw [if_neg h3])⟩⟩
theorem kbLk_36 {μ : knMem} (hI : kbIv μ) (x1 x2 x3 x4 : Int) : kbH (kfLc_36 x1 x2 x3 x4 μ) kbIv := by
  obtain ⟨⟨S, hC, hR⟩, -⟩ := id hI
  have hn := hR.1.2.1
  obtain ⟨b, hb⟩ := kbBs_ex hC.1 hR.V
  have hbr := kbBs_r hn hb
  obtain ⟨v, hv⟩ : ∃ v : Int, b ≠ -1 → (b = 0 ∧ v = -1) ∨ ((0 ≤ v ∧ v < 7) ∧ kbBi b v = 1 ∧ (∀ k : Int, 0 ≤ k → k < v → kbBi b k ≠ 1) ∧ b ≠ 0) := by
    by_cases h : b = -1
    · exact ⟨0, fun h2 => absurd h h2⟩
    · by_cases h0 : b = 0
      · exact ⟨-1, fun _ => Or.inl ⟨h0, rfl⟩⟩
      · obtain ⟨c, c1, c2, c3⟩ := kbLo (b := b) (by omega) h0
        exact ⟨c, fun _ => Or.inr ⟨c1, c2, c3, h0⟩⟩
  unfold kfLc_36
  refine kbTry (P := kbK μ) (lc := kbC1 (if b = -1 then 5 else 0)) (v := v) (fun x => x) ?_ (fun μ1 h1 => ?_)
  · unfold kfL_firstSwitch kfX12_firstSwitch
    refine kbH.bind (P := fun q => q.1 = (if b = -1 then 5 else 0) ∧ (b ≠ -1 → q.2.1 = v) ∧ kbK μ q.2.2) ?_ (fun q ⟨q1, q2, q3⟩ => ?_)
    · refine (kb11_fewest hC.1 hR.V).bind (fun r ⟨c, c1, c2, c3, c4⟩ => ?_)
      rw [kbBs_det c1 hb] at c2 c3
      rw [c2, kb12_reqSw hbr, Option.bind_some]
      by_cases h : b = -1
      · rw [if_pos h, if_neg (show ¬ (5 : Int) = 0 by omega), if_pos h]
        exact kbH_some.mpr ⟨rfl, fun h2 => absurd h h2, c4.K3⟩
      · rw [if_neg h, if_pos rfl, if_neg h]
        refine (kb12_first (b := b) (v := v) (c3 h) (by rcases hv h with h9 | ⟨a1, a2, a3, _⟩; exact Or.inl h9; exact Or.inr ⟨a1, a2, a3⟩)).mono (fun q ⟨q1, q2, q3⟩ => ⟨q1, fun _ => q2, by rw [q3]; exact c4.K3⟩)
    · rw [q1]
      by_cases h : b = -1
      · rw [if_pos h, if_neg (show ¬ (5 : Int) = 0 by omega), if_pos rfl]
        exact kbH_some.mpr ⟨rfl, fun h2 => absurd (kbC1_0 h2) (by omega), q3⟩
      · rw [if_neg h, if_pos rfl]
        exact kbH_some.mpr ⟨rfl, fun _ => (kbUpS q.2.2 159 0 _).trans (q2 h), q3.up (by omega)⟩
  · have hI1 := hI.K h1
    have hW : kbW (knUp μ1 142 0 0 143) S.1 := by rw [kbUp3, h1.1 143 (by omega)]; exact hR.1
    unfold kfX13_firstSwitch
    refine (kb13_smallest hW).bind (fun q1 ⟨g1, f1⟩ => ?_)
    rw [kbBs_det g1 hb]
    rcases hbr with h9 | h9
    · rw [if_neg (by omega), if_pos h9]
      exact (kbQf (c := 1) (fun x => x) hI1 (kbK.l f1).1 (kbK.l f1).2.2).mono (fun r ⟨r1, r2, r3⟩ => ⟨r1, fun h => absurd (kbC1_0 h) (by omega), r2, r3⟩)
    · rw [if_pos h9.1, if_neg (by omega)]
      have hv1 := hv (by omega)
      refine kb13_first h9.1 (v := v) (by
        rcases hv1 with h | ⟨a1, a2, a3, a4⟩
        · exact Or.inl h
        · exact Or.inr ⟨a1, a2, fun k k0 k1 => by
            rcases kbBi_z h9 (k := k) (by omega) with h | h
            · exact h
            · exact absurd h (a3 k k0 k1), a4⟩) (fun w hw => kbH_some.mpr ⟨(kbK.l f1).2.1, fun _ => hw, (kbK.l f1).2.2, hI1.K (kbK.l f1).1⟩)
