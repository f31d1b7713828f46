/-! The cases of the questions about a diagram. -/
/-- no pass over follows a pass over -/
def kbAl (D : kbD) : Prop := ∀ c e : Int, 0 ≤ c → c < D.1 → 0 ≤ e → e < D.1 → D.2.1 e ≠ (if D.2.1 c = 2 * D.1 - 1 then 0 else D.2.1 c + 1)
theorem kb5_alternates {μ : knMem} {d : Int} {D : kbD} (hA : kbA μ d D) (hB : kbB D) : kbH (kfX5_alternates d μ) (fun r => (r = 1 ∧ kbAl D) ∨ (r = 0 ∧ ¬ kbAl D)) := by
  obtain ⟨h0, h1⟩ := id hA
  obtain ⟨hn, hb⟩ := hB
  unfold kfX5_alternates
  refine kbLoop (fun n i (_ : Unit) => kfX5_alternates_l2 d μ (fun _ => some 1) n i) (fun i _ => 0 ≤ i ∧ ∀ c e : Int, 0 ≤ c → c < i → 0 ≤ e → e < D.1 → D.2.1 e ≠ (if D.2.1 c = 2 * D.1 - 1 then 0 else D.2.1 c + 1)) D.1 _ ?_ ?_ _ _ () (by omega) (by rw [kbF]; omega) ⟨by omega, fun c e c0 c1 => by omega⟩
  · intro n i _ hi ⟨i0, hr⟩ kk
    have ki := h1 i i0 hi
    have bi := hb i i0 hi
    simp only [kfX5_alternates_l2, kbH_ite, kbH_gd]
    refine ⟨fun h => by omega, fun _ => ⟨by omega, ?_⟩⟩
    unfold kfX5_after
    rw [ki.1, h0, knW_id (x := 2 * D.1) (by omega), knW_id (x := 2 * D.1 - 1) (by omega), knW_id (x := D.2.1 i + 1) (by omega), knW_id (x := i + 1) (by omega), Option.bind_some]
    by_cases hx : ∃ e : Int, 0 ≤ e ∧ e < D.1 ∧ D.2.1 e = (if D.2.1 i = 2 * D.1 - 1 then 0 else D.2.1 i + 1)
    · rw [kb5_passesOver (v := 1) hA hn (Or.inr ⟨rfl, hx⟩), Option.bind_some, if_neg (by omega)]
      obtain ⟨e, e0, e1, e2⟩ := hx
      exact kbH_some.mpr (Or.inr ⟨rfl, fun h => h i e i0 hi e0 e1 e2⟩)
    · rw [kb5_passesOver (v := 0) hA hn (Or.inl ⟨rfl, fun e e0 e1 e2 => hx ⟨e, e0, e1, e2⟩⟩), Option.bind_some, if_pos rfl]
      refine kk () ⟨by omega, fun c e c0 c1 e0 e1 e2 => ?_⟩
      by_cases hc : c = i
      · subst hc; exact hx ⟨e, e0, e1, e2⟩
      · exact hr c e c0 (by omega) e0 e1 e2
  · intro n _ ⟨i0, hr⟩
    simp only [kfX5_alternates_l2, kbH_ite, kbH_some]
    exact ⟨fun _ => Or.inl ⟨trivial, fun c e c0 c1 e0 e1 => hr c e c0 c1 e0 e1⟩, fun h => by omega⟩
theorem kbSm_pair {f : Int → Int} : ∀ n : Nat, kbSm f (2 * n) = kbSm (fun j => f (2 * j) + f (2 * j + 1)) n
  | 0 => rfl
  | n + 1 => by
    have e : 2 * (n + 1) = 2 * n + 1 + 1 := by omega
    rw [e]
    have e1 : ∀ m : Nat, kbSm f (m + 1) = kbSm f m + f m := fun _ => rfl
    rw [e1, e1, kbSm_pair n, kbSm]
    have e2 : (((2 * n : Nat)) : Int) = 2 * (n : Int) := by omega
    have e3 : (((2 * n + 1 : Nat)) : Int) = 2 * (n : Int) + 1 := by omega
    rw [e2, e3]
    omega
theorem kbSm_sh {f : Int → Int} : ∀ n : Nat, kbSm f (n + 1) = f 0 + kbSm (fun k => f (k + 1)) n
  | 0 => by simp [kbSm]
  | n + 1 => by
    have h := kbSm_sh (f := f) n
    have e1 : ∀ (g : Int → Int) (m : Nat), kbSm g (m + 1) = kbSm g m + g m := fun _ _ => rfl
    rw [e1 f (n + 1), h, e1 (fun k => f (k + 1)) n]
    have e2 : ((n + 1 : Nat) : Int) = (n : Int) + 1 := by omega
    rw [e2]
    omega
theorem kbR.alt {D : kbD} {of vr sg : Int → Int} (h : kbR D of vr sg) : kbAl D ↔ ∀ k : Int, 0 ≤ k → k < 2 * D.1 → vr k ≠ vr (if k + 1 = 2 * D.1 then 0 else k + 1) := by
  have hn := h.1
  have hp := h.2.2
  have nx : ∀ k : Int, 0 ≤ k → k < 2 * D.1 → 0 ≤ (if k + 1 = 2 * D.1 then 0 else k + 1) ∧ (if k + 1 = 2 * D.1 then 0 else k + 1) < 2 * D.1 := fun k k0 k1 => by split <;> omega
  constructor
  · intro ha
    have h1 : ∀ k : Int, 0 ≤ k → k < 2 * D.1 → vr k + vr (if k + 1 = 2 * D.1 then 0 else k + 1) ≤ 1 := by
      intro k k0 k1
      have n1 := nx k k0 k1
      have p1 := hp k k0 k1
      have p2 := hp _ n1.1 n1.2
      by_cases hk : vr k = 1 ∧ vr (if k + 1 = 2 * D.1 then 0 else k + 1) = 1
      · exfalso
        have q1 : D.2.1 (of k) = k := by omega
        have q2 : D.2.1 (of (if k + 1 = 2 * D.1 then 0 else k + 1)) = (if k + 1 = 2 * D.1 then 0 else k + 1) := by omega
        refine ha (of k) (of (if k + 1 = 2 * D.1 then 0 else k + 1)) p1.1.1 p1.1.2 p2.1.1 p2.1.2 ?_
        rw [q2, q1]
        split <;> split <;> omega
      · omega
    have e : (2 * D.1).toNat = 2 * D.1.toNat := by omega
    have s1 : kbSm (fun j => vr (2 * j) + vr (2 * j + 1)) D.1.toNat = D.1 := by rw [← kbSm_pair, ← e]; exact h.overs
    have s2 : kbSm (fun k => vr (if k + 1 = 2 * D.1 then 0 else k + 1)) (2 * D.1).toNat = D.1 := by
      refine Eq.trans ?_ h.overs
      by_cases hz : D.1 = 0
      · rw [hz]; rfl
      · have e2 : (2 * D.1).toNat = (2 * D.1 - 1).toNat + 1 := by omega
        have e3 : ((2 * D.1 - 1).toNat : Int) = 2 * D.1 - 1 := by omega
        have e1 : ∀ (g : Int → Int) (m : Nat), kbSm g (m + 1) = kbSm g m + g m := fun _ _ => rfl
        rw [e2, kbSm_sh (f := vr), e1, kbSm_congr (g := fun k => vr (k + 1)) _ (fun k k0 k1 => by rw [if_neg (by omega)]), if_pos (by omega)]
        omega
    have s3 : kbSm (fun j => vr (if 2 * j + 1 = 2 * D.1 then 0 else 2 * j + 1) + vr (if 2 * j + 1 + 1 = 2 * D.1 then 0 else 2 * j + 1 + 1)) D.1.toNat = D.1 := by
      rw [e, kbSm_pair] at s2
      exact s2
    have a1 := kbSm_all D.1.toNat (f := fun j => 1 - (vr (2 * j) + vr (2 * j + 1))) (fun j j0 j1 => by have := h1 (2 * j) (by omega) (by omega); rw [if_neg (by omega)] at this; omega) (by rw [kbSm_sub, s1, kbSm_c]; omega)
    have a2 := kbSm_all D.1.toNat (f := fun j => 1 - (vr (if 2 * j + 1 = 2 * D.1 then 0 else 2 * j + 1) + vr (if 2 * j + 1 + 1 = 2 * D.1 then 0 else 2 * j + 1 + 1))) (fun j j0 j1 => by
      have := h1 (2 * j + 1) (by omega) (by omega)
      rw [if_neg (show ¬ 2 * j + 1 = 2 * D.1 by omega)]
      omega) (by rw [kbSm_sub, s3, kbSm_c]; omega)
    intro k k0 k1
    by_cases hk : k % 2 = 0
    · have b := a1 (k / 2) (by omega) (by omega)
      rw [show 2 * (k / 2) = k by omega] at b
      rw [if_neg (by omega)]
      omega
    · have b := a2 (k / 2) (by omega) (by omega)
      rw [show 2 * (k / 2) + 1 = k by omega, if_neg (by omega)] at b
      omega
  · intro ha c e c0 c1 e0 e1 he
    have h1 := h.2.1 c c0 c1
    have h2 := h.2.1 e e0 e1
    have h3 := ha (D.2.1 c) (by omega) (by omega)
    have h4 : (if D.2.1 c + 1 = 2 * D.1 then 0 else D.2.1 c + 1) = D.2.1 e := by rw [he]; split <;> split <;> omega
    rw [h4] at h3
    omega
theorem kb13_isAlternating {μ : knMem} {D : kbD} (hL : kbL μ D) : kbH (kfX13_isAlternating_l11 μ (fun _ => some (1, μ)) knF 0) (fun r => ((r.1 = 1 ∧ kbAl D) ∨ (r.1 = 0 ∧ ¬ kbAl D)) ∧ r.2 = μ) := by
  have hn := hL.2.1
  rw [hL.2.alt]
  refine kbLoop (fun n i (_ : Unit) => kfX13_isAlternating_l11 μ (fun _ => some (1, μ)) n i) (fun i _ => 0 ≤ i ∧ ∀ k : Int, 0 ≤ k → k < i → μ 148 k ≠ μ 148 (if k + 1 = 2 * D.1 then 0 else k + 1)) (2 * D.1) _ ?_ ?_ _ _ () (by omega) (by rw [kbF]; omega) ⟨by omega, fun k _ _ => by omega⟩
  · intro n i _ hi ⟨i0, hr⟩ kk
    have hm : (i + 1) % (2 * D.1) = if i + 1 = 2 * D.1 then 0 else i + 1 := by
      split
      · rename_i h; rw [h, Int.emod_self]
      · rw [kbMd0 (by omega)]
    simp only [kfX13_isAlternating_l11, kbH_ite, kbH_gd, hL.1]
    rw [knW_id (x := 2 * D.1) (by omega), knW_id (x := i + 1) (by omega), kbRe (by omega) (by omega), hm]
    refine ⟨fun h => by omega, fun _ => ⟨by omega, by omega, by split <;> omega, fun h => ?_, fun h => kk () ⟨by omega, fun k k0 k1 => ?_⟩⟩⟩
    · exact kbH_some.mpr ⟨Or.inr ⟨rfl, fun h9 => h9 i i0 hi h⟩, rfl⟩
    · by_cases hk : k = i
      · subst hk; exact h
      · exact hr k k0 (by omega)
  · intro n _ ⟨i0, hr⟩
    simp only [kfX13_isAlternating_l11, kbH_ite, kbH_some, hL.1]
    rw [knW_id (x := 2 * D.1) (by omega)]
    exact ⟨fun _ => ⟨Or.inl ⟨trivial, hr⟩, trivial⟩, fun h => by omega⟩
/-! what neither throws -/
theorem kbPl2 {v : Int} {X : Option Int} {Y : Option (Int × knMem)} (hA : X = some v) (hB : kbH Y (fun r => r.1 = v ∧ kbIv r.2)) : kbH (Option.bind X (fun q1 => Option.bind Y (fun q4 => if q1 = q4.1 then some q4.2 else none))) kbIv := by
  rw [hA, Option.bind_some]
  refine hB.bind (fun r ⟨r1, r2⟩ => ?_)
  rw [if_pos r1.symm]
  exact kbH_some.mpr r2
theorem kbPl3 {P : knMem → Prop} {v : Int} {X : Option (Int × knMem)} {Y : knMem → Option (Int × knMem)} (hA : kbH X (fun r => r.1 = v ∧ P r.2)) (hB : ∀ μ1 : knMem, P μ1 → kbH (Y μ1) (fun r => r.1 = v ∧ kbIv r.2)) :
    kbH (Option.bind X (fun q1 => Option.bind (Y q1.2) (fun q4 => if q1.1 = q4.1 then some q4.2 else none))) kbIv := by
  refine hA.bind (fun q ⟨a1, a2⟩ => (hB _ a2).bind (fun r ⟨r1, r2⟩ => ?_))
  rw [if_pos (by rw [a1, r1])]
  exact kbH_some.mpr r2
/-- a question that may be refused, the class's half -/
theorem kbQ1 {μ : knMem} {c a v w : Int} {X : Option (Int × Int)} (g : Int → Int) (h : X = some (c, v)) (hc : c = 0 ∨ c = a) (ha : a ≠ 0) (hv : c = 0 → g v = w) :
    kbH (Option.bind X (fun q1 => if q1.1 = 0 then some ((0 : Int), knUp μ 159 0 (g q1.2)) else if q1.1 = a then some (1, μ) else none)) (fun r => r.1 = kbC1 c ∧ (kbC1 c = 0 → r.2 159 0 = w) ∧ kbK μ r.2) := by
  rw [h, Option.bind_some]
  by_cases h0 : c = 0
  · rw [if_pos h0]
    exact kbH_some.mpr ⟨by rw [h0]; rfl, fun _ => (kbUpS μ 159 0 _).trans (hv h0), kbK.rf.up (by omega)⟩
  · rw [if_neg h0, if_pos (by omega)]
    exact kbH_some.mpr ⟨(if_neg h0).symm, fun h9 => absurd (kbC1_0 h9) h0, kbK.rf⟩
/-- .. the reference's refusal -/
theorem kbQf {μ1 q : knMem} {c : Int} (g : Int → Int) (hI : kbIv μ1) (hk : kbK μ1 q) (h9 : q 159 = μ1 159) :
    kbH (Option.bind (kfX13_fails c q) (fun q13 => some (g q13.1, q13.2))) (fun r => r.2 142 0 = c ∧ r.2 159 = μ1 159 ∧ kbIv r.2) := by
  unfold kfX13_fails
  rw [Option.bind_some]
  exact kbH_some.mpr ⟨kbUpS q 142 0 c, (show knUp q 142 0 c 159 = μ1 159 by rw [knUp_ne (by omega), h9]), hI.K (hk.up (by omega))⟩
theorem kbK.l {μ μ1 : knMem} (h : kbFz (knUp μ 142 0 0) μ1) : kbK μ μ1 ∧ μ1 142 0 = 0 ∧ μ1 159 = μ 159 := ⟨(kbK0 kbK.rf).trans h.K, (h.2 0 (by omega)).trans (kbUp0 μ), (h.1 159 (by omega) (by omega)).trans (kbUp9 μ)⟩
theorem kb12_reqPos {μ : knMem} {x n : Int} (h : μ 2 3 = n) (hn : 0 ≤ n ∧ n ≤ 7) : kfX12_requirePosition x μ = some (if 0 ≤ x ∧ x < 2 * n then 0 else 1) := by
  unfold kfX12_requirePosition
  rw [kb5_hasPosition (by omega), h, Option.bind_some]
  split <;> rfl
theorem kb12_reqCr {μ : knMem} {x n : Int} (h : μ 2 3 = n) (hn : 0 ≤ n ∧ n ≤ 7) : kfX12_requireCrossing x μ = some (if 0 ≤ x ∧ x < n then 0 else 1) := by
  unfold kfX12_requireCrossing
  rw [kb5_hasCrossing, h, Option.bind_some]
  split <;> rfl
theorem kbLk_9 {μ : knMem} (hI : kbIv μ) (x1 x2 x3 x4 : Int) : kbH (kfLc_9 x1 x2 x3 x4 μ) kbIv := by
  obtain ⟨⟨S, hC, hR⟩, -⟩ := id hI
  unfold kfLc_9 kfX12_crossingCount kfX13_crossingCount kfX13_asks
  refine kbPl2 (v := S.1.1) (by rw [show μ 2 3 = S.1.1 from hC.1.1]) ?_
  rw [kbGd (by omega), Option.bind_some]
  exact kbH_some.mpr ⟨by show knUp μ 142 0 0 143 0 = S.1.1; rw [kbUp3]; exact hR.1.1, hI.K (kbK0 kbK.rf)⟩
