/-! Loops: the class's labels, the reference's leaders. -/
/-- a row holds the labels -/
def kbRw (μ : knMem) (r N : Int) (X : kbX) : Prop := ∀ e : Int, 0 ≤ e → e < N → μ r e = X.1 e
theorem kbLnA : ∀ k : Nat, k < 8 → knLn (124 + (k : Int)) = 14 := by decide +kernel
theorem kbLn {r : Int} (h : 124 ≤ r ∧ r ≤ 131) : knLn r = 14 := by
  have h1 := kbLnA (r - 124).toNat (by omega)
  rw [show (124 : Int) + (((r - 124).toNat : Nat) : Int) = r by omega] at h1
  exact h1
theorem kb2_join {μ : knMem} {a b r N : Int} {X : kbX} (hr : 124 ≤ r ∧ r ≤ 131) (hN : 0 ≤ N ∧ N ≤ 14) (ha : 0 ≤ a ∧ a < N) (hb : 0 ≤ b ∧ b < N) (h : kbRw μ r N X) : kbH (kfX2_join a b r μ) (fun q => q.1 = (if X.1 a = X.1 b then 0 else 1) ∧ kbRw q.2 r N (kbJn a b X) ∧ kbFr r r μ q.2) := by
  unfold kfX2_join
  rw [kbLn hr, kbGd (by omega), kbGd (by omega), h a ha.1 ha.2, h b hb.1 hb.2]
  by_cases g : X.1 a = X.1 b
  · rw [if_pos g, if_pos g]
    refine kbH_some.mpr ⟨rfl, fun e e0 e1 => ?_, kbFr.rf⟩
    show μ r e = if X.1 e = X.1 b then X.1 a else X.1 e
    rw [h e e0 e1]
    split
    · rename_i g2; rw [g, g2]
    · rfl
  · rw [if_neg g, if_neg g]
    refine kbLoop (fun n i m => kfX2_join_l20 r (X.1 a) (X.1 b) (fun w13 => some (1, w13)) n i m) (fun i m => 0 ≤ i ∧ (∀ e : Int, 0 ≤ e → e < i → e < N → m r e = (kbJn a b X).1 e) ∧ (∀ e : Int, i ≤ e → e < N → m r e = X.1 e) ∧ kbFr r r μ m) 14 _ ?_ ?_ _ _ _ (by omega) (by rw [kbF]; omega) ⟨by omega, fun e _ _ => by omega, fun e e0 e1 => h e e0 e1, kbFr.rf⟩
    · intro n i m hi ⟨i0, hlo, hhi, hf⟩ kk
      simp only [kfX2_join_l20, kbH_ite, kbH_gd, kbLn hr]
      rw [knW_id (by omega)]
      refine ⟨fun h => by omega, fun _ => ⟨by omega, ?_⟩⟩
      refine kbH.bind (P := fun m' => (∀ e : Int, e ≠ i → m' r e = m r e) ∧ m' r i = (if m r i = X.1 b then X.1 a else m r i) ∧ kbFr r r m m') ?_ (fun m' ⟨c1, c2, c3⟩ => kk m' ⟨by omega, fun e e0 e1 e2 => ?_, fun e e0 e1 => ?_, hf.trans c3⟩)
      · by_cases g2 : m r i = X.1 b
        · rw [if_pos g2]
          refine kbH_some.mpr ⟨fun e he => ?_, ?_, kbFr.rf.up (by omega)⟩
          · rw [kbUp, if_neg (by omega)]
          · rw [kbUpS, if_pos g2]
        · rw [if_neg g2]
          exact kbH_some.mpr ⟨fun _ _ => rfl, by rw [if_neg g2], kbFr.rf⟩
      · by_cases he : e = i
        · subst he
          rw [c2, hhi e (by omega) e2]
          rfl
        · rw [c1 e he]
          exact hlo e e0 (by omega) e2
      · rw [c1 e (by omega)]
        exact hhi e (by omega) e1
    · intro n m ⟨i0, hlo, hhi, hf⟩
      simp only [kfX2_join_l20, kbH_ite, kbLn hr, kbH_some]
      exact ⟨fun _ => ⟨trivial, fun e e0 e1 => hlo e e0 (by omega) e1, hf⟩, fun h => by omega⟩
theorem kb5_before {μ : knMem} {d p : Int} {D : kbD} (hA : kbA μ d D) (hn : 0 ≤ D.1 ∧ D.1 ≤ 7) (hp : 0 ≤ p ∧ p < 14) : kfX5_before d p μ = some (kbBf D.1 p) := by
  unfold kfX5_before kbBf
  rw [hA.1, knW_id (x := 2 * D.1) (by omega), knW_id (x := 2 * D.1 - 1) (by omega), knW_id (x := p - 1) (by omega)]
theorem kb2_smooth {μ : knMem} {c t r : Int} {D : kbD} {X : kbX} (hA : kbA μ 2 D) (hB : kbB D) (hr : 124 ≤ r ∧ r ≤ 131) (hc : 0 ≤ c ∧ c < D.1) (h : kbRw μ r (2 * D.1) X) : kbH (kfX2_smooth 2 c t r μ) (fun q => q.1 = X.2 - (kbSo D c t X).2 ∧ kbRw q.2 r (2 * D.1) (kbSo D c t X) ∧ kbFr r r μ q.2) := by
  have hn := hB.1
  have hb := hB.2 c hc.1 hc.2
  have ha := hA.2 c hc.1 hc.2
  have b1 := kbBf_in hb.1
  have b2 := kbBf_in hb.2.1
  unfold kfX2_smooth
  rw [kbGd (by omega), ha.1, ha.2.1, kb5_before hA hn (by omega), Option.bind_some, kb5_before hA hn (by omega), Option.bind_some]
  have fin : ∀ (a b a' b' : Int), (0 ≤ a ∧ a < 2 * D.1) → (0 ≤ b ∧ b < 2 * D.1) → (0 ≤ a' ∧ a' < 2 * D.1) → (0 ≤ b' ∧ b' < 2 * D.1) → kbH (Option.bind (kfX2_join a b r μ) (fun q11 => Option.bind (kfX2_join a' b' r q11.2) (fun q14 => some ((knW (q11.1 + q14.1)), q14.2)))) (fun q => q.1 = X.2 - (kbJn a' b' (kbJn a b X)).2 ∧ kbRw q.2 r (2 * D.1) (kbJn a' b' (kbJn a b X)) ∧ kbFr r r μ q.2) := by
    intro a b a' b' h1 h2 h3 h4
    refine (kb2_join hr (by omega) h1 h2 h).bind (fun q ⟨x1, x2, x3⟩ => ?_)
    refine (kb2_join hr (by omega) h3 h4 x2).bind (fun q2 ⟨y1, y2, y3⟩ => kbH_some.mpr ⟨?_, y2, x3.trans y3⟩)
    have e1 : (kbJn a b X).2 = X.2 - (if X.1 a = X.1 b then 0 else 1) := rfl
    have e2 : (kbJn a' b' (kbJn a b X)).2 = (kbJn a b X).2 - (if (kbJn a b X).1 a' = (kbJn a b X).1 b' then 0 else 1) := rfl
    dsimp only
    rw [x1, y1, e2, e1]
    split <;> split <;> (rw [knW_id (by omega)]; omega)
  unfold kbSo
  by_cases ht : t = 0
  · rw [if_pos ht, if_pos ht]
    exact fin _ _ _ _ b1 b2 hb.1 hb.2.1
  · rw [if_neg ht, if_neg ht]
    exact fin _ _ _ _ b1 hb.2.1 b2 hb.1
theorem kbSo_le {D : kbD} {c t : Int} {X : kbX} : X.2 - 2 ≤ (kbSo D c t X).2 ∧ (kbSo D c t X).2 ≤ X.2 := by
  unfold kbSo
  split
  · have h1 := kbJn_2 (a := kbBf D.1 (D.2.1 c)) (b := kbBf D.1 (D.2.2.1 c)) (X := X)
    have h2 := kbJn_2 (a := D.2.1 c) (b := D.2.2.1 c) (X := kbJn (kbBf D.1 (D.2.1 c)) (kbBf D.1 (D.2.2.1 c)) X)
    omega
  · have h1 := kbJn_2 (a := kbBf D.1 (D.2.1 c)) (b := D.2.2.1 c) (X := X)
    have h2 := kbJn_2 (a := kbBf D.1 (D.2.2.1 c)) (b := D.2.1 c) (X := kbJn (kbBf D.1 (D.2.1 c)) (D.2.2.1 c) X)
    omega
theorem kbLs_in {D : kbD} (hn : 0 ≤ D.1 ∧ D.1 ≤ 7) {s : Int} : ∀ k : Nat, -2 * k ≤ (kbLs D s k).2 ∧ (kbLs D s k).2 ≤ 14
  | 0 => by
    show _ ≤ (if D.1 = 0 then 1 else 2 * D.1) ∧ (if D.1 = 0 then 1 else 2 * D.1) ≤ 14
    split <;> omega
  | k + 1 => by
    have h1 := kbLs_in hn (s := s) k
    have h2 := kbSo_le (D := D) (c := k) (t := kbBi s k) (X := kbLs D s k)
    show _ ≤ (kbSo D k (kbBi s k) (kbLs D s k)).2 ∧ (kbSo D k (kbBi s k) (kbLs D s k)).2 ≤ 14
    omega
theorem kb2_separate {μ : knMem} {s : Int} {D : kbD} (hA : kbA μ 2 D) (hn : 0 ≤ D.1 ∧ D.1 ≤ 7) : kbH (kfX2_separate 2 μ) (fun q => q.1 = (kbLs D s 0).2 ∧ kbRw q.2 124 (2 * D.1) (kbLs D s 0) ∧ kbFr 124 124 μ q.2) := by
  unfold kfX2_separate
  refine kbLoop (fun n i m => kfX2_separate_l2 2 (fun w7 => Option.bind (α := Int) (if (w7 2 3) = 0 then some 1 else Option.bind (kfX5_passes 2 w7) (fun q16 => some q16)) (fun q13 => some (q13, w7))) n i m) (fun i m => 0 ≤ i ∧ (∀ e : Int, 0 ≤ e → e < i → m 124 e = e) ∧ kbFr 124 124 μ m) (2 * D.1) _ ?_ ?_ _ _ _ (by omega) (by rw [kbF]; omega) ⟨by omega, fun e _ _ => by omega, kbFr.rf⟩
  · intro n i m hi ⟨i0, hr, hf⟩ kk
    simp only [kfX2_separate_l2, kfX5_passes, Option.bind_some, kbH_ite, kbH_gd]
    rw [hf 2 (by omega), hA.1, knW_id (x := 2 * D.1) (by omega), knW_id (x := i + 1) (by omega)]
    refine ⟨fun h => by omega, fun _ => ⟨by omega, by omega, kk _ ⟨by omega, fun e e0 e1 => ?_, hf.up (by omega)⟩⟩⟩
    by_cases he : e = i
    · subst he; exact kbUpS m 124 e e
    · show knUp m 124 i i 124 e = e
      rw [kbUp, if_neg (by omega)]
      exact hr e e0 (by omega)
  · intro n m ⟨i0, hr, hf⟩
    simp only [kfX2_separate_l2, kfX5_passes, Option.bind_some, kbH_ite]
    rw [hf 2 (by omega), hA.1, knW_id (x := 2 * D.1) (by omega)]
    refine ⟨fun _ => ?_, fun h => by omega⟩
    have e : (if D.1 = 0 then some 1 else some (2 * D.1) : Option Int) = some (if D.1 = 0 then 1 else 2 * D.1) := by split <;> rfl
    rw [e, Option.bind_some]
    exact kbH_some.mpr ⟨rfl, fun e e0 e1 => hr e e0 e1, hf⟩
theorem kb2_loopsOf {μ : knMem} {s : Int} {D : kbD} (hA : kbA μ 2 D) (hB : kbB D) (hs : 0 ≤ s ∧ s < 128) : kbH (kfX2_loopsOf 2 s μ) (fun q => q.1 = kbLm D s ∧ kbFr 124 124 μ q.2) := by
  have hn := hB.1
  unfold kfX2_loopsOf
  refine (kb2_separate (s := s) hA hn).bind (fun q ⟨a1, a2, a3⟩ => ?_)
  refine kbLoop (fun n i (p : Int × knMem) => kfX2_loopsOf_l9 2 s (fun w13 => some (w13.1, w13.2)) n p.1 i p.2) (fun i p => 0 ≤ i ∧ p.1 = (kbLs D s i.toNat).2 ∧ kbRw p.2 124 (2 * D.1) (kbLs D s i.toNat) ∧ kbFr 124 124 μ p.2) D.1 _ ?_ ?_ knF 0 (q.1, q.2) (by omega) (by rw [kbF]; omega) ⟨by omega, a1, a2, a3⟩
  · rintro n i ⟨x, m⟩ hi ⟨i0, hx, hr, hf⟩ kk
    dsimp only at hx hr hf kk ⊢
    have hA1 : kbA m 2 D := hA.fr hf (by omega)
    have e2 : ((i.toNat : Nat) : Int) = i := by omega
    have hbz := kbBi_z hs (k := i) (by omega)
    have et : (if kbBi s i = 1 then 1 else 0 : Int) = kbBi s i := by rcases hbz with h | h <;> rw [h] <;> rfl
    unfold kfX2_loopsOf_l9
    rw [hA1.1, if_neg (by omega), kb12_isInSet, Option.bind_some, kbGd (by omega), et, knW_id (x := i + 1) (by omega)]
    refine (kb2_smooth (t := kbBi s i) hA1 hB (by omega) ⟨i0, hi⟩ hr).bind (fun q2 ⟨b1, b2, b3⟩ => ?_)
    have e9 : (i + 1).toNat = i.toNat + 1 := by omega
    have e8 : kbLs D s (i.toNat + 1) = kbSo D i (kbBi s i) (kbLs D s i.toNat) := by
      show kbSo D (i.toNat : Int) (kbBi s (i.toNat : Int)) _ = _
      rw [e2]
    have h3 := kbLs_in hn (s := s) i.toNat
    have h4 := kbLs_in hn (s := s) (i.toNat + 1)
    rw [b1, hx, ← e8, knW_id (by omega), show (kbLs D s i.toNat).2 - ((kbLs D s i.toNat).2 - (kbLs D s (i.toNat + 1)).2) = (kbLs D s (i.toNat + 1)).2 by omega]
    refine kk ((kbLs D s (i.toNat + 1)).2, q2.2) ⟨by omega, ?_, ?_, hf.trans b3⟩
    · dsimp only; rw [e9]
    · dsimp only; rw [e9, e8]; exact b2
  · rintro n ⟨x, m⟩ ⟨i0, hx, hr, hf⟩
    dsimp only at hx hr hf ⊢
    have hA1 : kbA m 2 D := hA.fr hf (by omega)
    unfold kfX2_loopsOf_l9
    rw [hA1.1, if_pos (by omega)]
    exact kbH_some.mpr ⟨hx, hf⟩
/-! leaders: where each edge's way ends, how far it is -/
def kbFo (N : Int) (ld ρ d : Int → Int) (J : Int) : Prop := ∀ e : Int, 0 ≤ e → e < N → (0 ≤ ld e ∧ ld e < N) ∧ (0 ≤ ρ e ∧ ρ e < N) ∧ ld (ρ e) = ρ e ∧ (ld e = e → ρ e = e ∧ d e = 0) ∧ ρ (ld e) = ρ e ∧ (0 ≤ d e ∧ d e ≤ J) ∧ (ld e ≠ e → d (ld e) < d e)
/-- .. and the parts are the labels' parts -/
def kbPt (N : Int) (ρ : Int → Int) (X : kbX) : Prop := ∀ e f : Int, 0 ≤ e → e < N → 0 ≤ f → f < N → (ρ e = ρ f ↔ X.1 e = X.1 f)
theorem kbFo.root {N : Int} {ld ρ d : Int → Int} {J : Int} (h : kbFo N ld ρ d J) {e : Int} (he : 0 ≤ e ∧ e < N) : ρ (ρ e) = ρ e := by
  have h1 := h e he.1 he.2
  have h2 := h (ρ e) h1.2.1.1 h1.2.1.2
  exact (h2.2.2.2.1 h1.2.2.1).1
theorem kbFo.jn {N : Int} {ld ρ d : Int → Int} {J : Int} (h : kbFo N ld ρ d J) {a b : Int} (ha : 0 ≤ a ∧ a < N) (hb : 0 ≤ b ∧ b < N) (hab : ρ a ≠ ρ b) :
    kbFo N (fun e => if e = ρ b then ρ a else ld e) (fun e => if ρ e = ρ b then ρ a else ρ e) (fun e => if ρ e = ρ b then d e + 1 else d e) (J + 1) := by
  intro e e0 e1
  have he := h e e0 e1
  have hA := h a ha.1 ha.2
  have hBb := h b hb.1 hb.2
  have rra := h.root ha
  have rrb := h.root hb
  have rre := h.root ⟨e0, e1⟩
  have hra := h (ρ a) hA.2.1.1 hA.2.1.2
  have hrb := h (ρ b) hBb.2.1.1 hBb.2.1.2
  have hre := h (ρ e) he.2.1.1 he.2.1.2
  have dra := (hra.2.2.2.1 hA.2.2.1).2
  have drb := (hrb.2.2.2.1 hBb.2.2.1).2
  dsimp only
  by_cases g1 : e = ρ b
  · have g2 : ρ e = ρ b := by rw [g1]; exact rrb
    have g3 : ¬ ρ (ρ a) = ρ b := by rw [rra]; exact hab
    have g5 : d e = 0 := by rw [g1]; exact drb
    rw [if_pos g1, if_pos g2, if_neg hab, if_neg g3, if_pos g2, if_neg g3, rra]
    exact ⟨hA.2.1, hA.2.1, hA.2.2.1, fun h9 => absurd (h9.trans g1) hab, rfl, by omega, fun _ => by omega⟩
  · rw [if_neg g1]
    by_cases g2 : ρ e = ρ b
    · have g4 : ρ (ld e) = ρ b := he.2.2.2.2.1.trans g2
      rw [if_pos g2, if_neg hab, if_pos g4, if_pos g2, if_pos g4]
      have hne : ld e ≠ e := fun h9 => g1 (by rw [← g2]; exact ((he.2.2.2.1 h9).1).symm)
      refine ⟨he.1, hA.2.1, hA.2.2.1, fun h9 => absurd h9 hne, rfl, by omega, fun h9 => ?_⟩
      have := he.2.2.2.2.2.2 h9
      omega
    · have g4 : ¬ ρ (ld e) = ρ b := fun h9 => g2 (by rw [← h9]; exact he.2.2.2.2.1.symm)
      have g5 : ¬ ρ e = ρ b := g2
      rw [if_neg g2, if_neg g5, if_neg g4, if_neg g2, if_neg g4]
      exact ⟨he.1, he.2.1, he.2.2.1, he.2.2.2.1, he.2.2.2.2.1, by omega, he.2.2.2.2.2.2⟩
theorem kb13_leaderOf {μ : knMem} {N J e : Int} {ρ d : Int → Int} (h : kbFo N (μ 151) ρ d J) (hN : N ≤ 14) (hJ : J ≤ 100) (he : 0 ≤ e ∧ e < N) : kfX13_leaderOf e μ = some (ρ e) := by
  have key : kbH (kfX13_leaderOf e μ) (fun r => r = ρ e) := by
    unfold kfX13_leaderOf
    have h0 := h e he.1 he.2
    refine kbLoopM (fun n (x : Int) => kfX13_leaderOf_l2 μ (fun w5 => some w5) n x) (fun x => (0 ≤ x ∧ x < N) ∧ ρ x = ρ e) (fun x => d x) _ ?_ knF e ⟨he, rfl⟩ h0.2.2.2.2.2.1.1 (by rw [kbF]; show d e < 4096; omega)
    intro n x ⟨h1, h2⟩ h3 kk
    have hx := h x h1.1 h1.2
    unfold kfX13_leaderOf_l2
    rw [kbGd (by omega)]
    by_cases g : μ 151 x = x
    · rw [if_pos g]
      exact kbH_some.mpr ((hx.2.2.2.1 g).1.symm.trans h2)
    · rw [if_neg g]
      have h4 := h _ hx.1.1 hx.1.2
      have h6 := kk (μ 151 x) ⟨hx.1, hx.2.2.2.2.1.trans h2⟩ h4.2.2.2.2.2.1.1 (hx.2.2.2.2.2.2 g)
      cases n <;> exact h6
  obtain ⟨r, h3, h4⟩ := key
  rw [h3, h4]
/-- all that the reference's leaders say, J joins in -/
def kbLd (μ : knMem) (N : Int) (X : kbX) (J : Int) : Prop := ∃ ρ d : Int → Int, kbFo N (μ 151) ρ d J ∧ kbPt N ρ X ∧ X.2 = kbSm (fun e => if μ 151 e = e then 1 else 0) N.toNat
theorem kbFo.congr {N : Int} {ld ld' ρ d : Int → Int} {J J' : Int} (h : kbFo N ld ρ d J) (hl : ∀ e : Int, ld' e = ld e) (hJ : J ≤ J') : kbFo N ld' ρ d J' := by
  have e : ld' = ld := funext hl
  rw [e]
  intro x x0 x1
  have h1 := h x x0 x1
  exact ⟨h1.1, h1.2.1, h1.2.2.1, h1.2.2.2.1, h1.2.2.2.2.1, by omega, h1.2.2.2.2.2.2⟩
/-- a join, in either order -/
theorem kb13_joins {μ : knMem} {N J a b a' b' : Int} {X : kbX} (h : kbLd μ N X J) (hN : 0 ≤ N ∧ N ≤ 14) (hJ : J ≤ 100) (ha : 0 ≤ a ∧ a < N) (hb : 0 ≤ b ∧ b < N) (hab : (a' = a ∧ b' = b) ∨ (a' = b ∧ b' = a)) : kbH (kfX13_joins a' b' μ) (fun μ' => kbLd μ' N (kbJn a b X) (J + 1) ∧ kbFr 151 151 μ μ') := by
  obtain ⟨ρ, d, h1, h2, h3⟩ := h
  have ha' : 0 ≤ a' ∧ a' < N := by omega
  have hb' : 0 ≤ b' ∧ b' < N := by omega
  have ra := h1 a' ha'.1 ha'.2
  have rb := h1 b' hb'.1 hb'.2
  unfold kfX13_joins
  rw [kb13_leaderOf h1 hN.2 hJ ha', Option.bind_some, kb13_leaderOf h1 hN.2 hJ hb', Option.bind_some, kbGd (by omega), kbH_some]
  refine ⟨?_, kbFr.rf.up (by omega)⟩
  have el : ∀ e : Int, knUp μ 151 (ρ b') (ρ a') 151 e = if e = ρ b' then ρ a' else μ 151 e := by
    intro e
    rw [kbUp]
    by_cases g : e = ρ b'
    · rw [if_pos ⟨rfl, g⟩, if_pos g]
    · rw [if_neg (by omega), if_neg g]
  have hX := h2 a b ha.1 ha.2 hb.1 hb.2
  have e2 : (kbJn a b X).2 = X.2 - (if X.1 a = X.1 b then 0 else 1) := rfl
  have hpt : ρ a' = ρ b' ↔ X.1 a = X.1 b := by
    rcases hab with ⟨x, y⟩ | ⟨x, y⟩
    · rw [x, y]; exact hX
    · rw [x, y]; exact ⟨fun h => hX.mp h.symm, fun h => (hX.mpr h).symm⟩
  by_cases g : ρ a' = ρ b'
  · have gx := hpt.mp g
    refine ⟨ρ, d, h1.congr (fun e => ?_) (by omega), fun e f e0 e1 f0 f1 => ?_, ?_⟩
    · rw [el]
      split
      · rename_i h9; rw [h9, g]; exact rb.2.2.1.symm
      · rfl
    · rw [h2 e f e0 e1 f0 f1]
      have j : ∀ x : Int, (kbJn a b X).1 x = X.1 x := by
        intro x
        show (if X.1 x = X.1 b then X.1 a else X.1 x) = X.1 x
        split
        · rename_i h9; rw [gx, h9]
        · rfl
      rw [j, j]
    · rw [e2, if_pos gx, Int.sub_zero, h3]
      refine kbSm_congr _ (fun e _ _ => ?_)
      have e5 : knUp μ 151 (ρ b') (ρ a') 151 e = μ 151 e := by
        rw [el]
        split
        · rename_i h9; rw [h9, g]; exact rb.2.2.1.symm
        · rfl
      rw [e5]
  · have gx : ¬ X.1 a = X.1 b := fun h => g (hpt.mpr h)
    refine ⟨_, _, (h1.jn ha' hb' g).congr el (Int.le_refl _), fun e f e0 e1 f0 f1 => ?_, ?_⟩
    · have p1 := h2 e f e0 e1 f0 f1
      have p2 := h2 e a e0 e1 ha.1 ha.2
      have p3 := h2 e b e0 e1 hb.1 hb.2
      have p4 := h2 f a f0 f1 ha.1 ha.2
      have p5 := h2 f b f0 f1 hb.1 hb.2
      show ((if ρ e = ρ b' then ρ a' else ρ e) = (if ρ f = ρ b' then ρ a' else ρ f)) ↔ ((if X.1 e = X.1 b then X.1 a else X.1 e) = (if X.1 f = X.1 b then X.1 a else X.1 f))
      rcases hab with ⟨x, y⟩ | ⟨x, y⟩
      · rw [x, y] at g ⊢
        by_cases q1 : X.1 e = X.1 b <;> by_cases q2 : X.1 f = X.1 b
        · rw [if_pos q1, if_pos q2, if_pos (p3.mpr q1), if_pos (p5.mpr q2)]; simp
        · rw [if_pos q1, if_neg q2, if_pos (p3.mpr q1), if_neg (fun h => q2 (p5.mp h))]
          exact ⟨fun h => (p4.mp h.symm).symm, fun h => (p4.mpr h.symm).symm⟩
        · rw [if_neg q1, if_pos q2, if_neg (fun h => q1 (p3.mp h)), if_pos (p5.mpr q2)]
          exact p2
        · rw [if_neg q1, if_neg q2, if_neg (fun h => q1 (p3.mp h)), if_neg (fun h => q2 (p5.mp h))]
          exact p1
      · rw [x, y] at g ⊢
        by_cases q1 : X.1 e = X.1 b <;> by_cases q2 : X.1 f = X.1 b
        · have r1 := p3.mpr q1
          have r2 := p5.mpr q2
          rw [if_pos q1, if_pos q2, r1, r2]; simp
        · have r1 := p3.mpr q1
          have r2 : ¬ ρ f = ρ b := fun h => q2 (p5.mp h)
          rw [if_pos q1, if_neg q2, r1, if_neg g]
          by_cases q3 : X.1 f = X.1 a
          · rw [if_pos (p4.mpr q3)]
            exact ⟨fun _ => q3.symm, fun _ => rfl⟩
          · rw [if_neg (fun h => q3 (p4.mp h))]
            exact ⟨fun h => absurd h.symm r2, fun h => absurd h.symm q3⟩
        · have r1 := p5.mpr q2
          have r2 : ¬ ρ e = ρ b := fun h => q1 (p3.mp h)
          rw [if_neg q1, if_pos q2, r1, if_neg g]
          by_cases q3 : X.1 e = X.1 a
          · rw [if_pos (p2.mpr q3)]
            exact ⟨fun _ => q3, fun _ => rfl⟩
          · rw [if_neg (fun h => q3 (p2.mp h))]
            exact ⟨fun h => absurd h r2, fun h => absurd h q3⟩
        · rw [if_neg q1, if_neg q2]
          have r1 : ¬ ρ e = ρ b := fun h => q1 (p3.mp h)
          have r2 : ¬ ρ f = ρ b := fun h => q2 (p5.mp h)
          by_cases q3 : X.1 e = X.1 a <;> by_cases q4 : X.1 f = X.1 a
          · rw [if_pos (p2.mpr q3), if_pos (p4.mpr q4), q3, q4]; simp
          · rw [if_pos (p2.mpr q3), if_neg (fun h => q4 (p4.mp h))]
            exact ⟨fun h => absurd h.symm r2, fun h => absurd (h.symm.trans q3) q4⟩
          · rw [if_neg (fun h => q3 (p2.mp h)), if_pos (p4.mpr q4)]
            exact ⟨fun h => absurd h r1, fun h => absurd (h.trans q4) q3⟩
          · rw [if_neg (fun h => q3 (p2.mp h)), if_neg (fun h => q4 (p4.mp h))]
            exact p1
    · rw [e2, if_neg gx, h3, kbSm_up (f := fun e => if knUp μ 151 (ρ b') (ρ a') 151 e = e then 1 else 0) (g := fun e => if μ 151 e = e then 1 else 0) (a := ρ b') N.toNat (by omega) (fun e _ _ he => ?_)]
      · rw [kbUpS, if_neg g, if_pos rb.2.2.1]
        omega
      · rw [el, if_neg he]
/-- the reference's loops -/
theorem kb13_loopsOf {μ : knMem} {D : kbD} {s : Int} (hL : kbL μ D) (hs : 0 ≤ s ∧ s < 128) : kbH (kfX13_loopsOf s μ) (fun r => r.1 = kbLm D s ∧ kbFr 151 151 μ r.2) := by
  have hn := hL.2.1
  have hB := hL.2.B
  unfold kfX13_loopsOf
  rw [hL.1, knW_id (x := 2 * D.1) (by omega)]
  refine kbLoop (fun n i m => kfX13_loopsOf_l9 s (2 * D.1) (fun w4 => kfX13_loopsOf_l29 s (2 * D.1) (fun w32 => kfX13_loopsOf_l136 (2 * D.1) w32 (fun w40 => some ((if (w32 142 8) = 0 then 1 else w40 : Int), w32)) knF 0 0) knF 0 w4) n i m) (fun i m => 0 ≤ i ∧ (∀ e : Int, 0 ≤ e → e < i → m 151 e = e) ∧ kbFr 151 151 μ m) (2 * D.1) _ ?_ ?_ _ _ _ (by omega) (by rw [kbF]; omega) ⟨by omega, fun e _ _ => by omega, kbFr.rf⟩
  · intro n i m hi ⟨i0, hr, hf⟩ kk
    simp only [kfX13_loopsOf_l9, kbH_ite, kbH_gd]
    rw [knW_id (x := i + 1) (by omega)]
    refine ⟨fun h => by omega, fun _ => ⟨by omega, kk _ ⟨by omega, fun e e0 e1 => ?_, hf.up (by omega)⟩⟩⟩
    by_cases he : e = i
    · subst he; exact kbUpS m 151 e e
    · rw [kbUp, if_neg (by omega)]
      exact hr e e0 (by omega)
  · intro n m ⟨i0, hr, hf⟩
    simp only [kfX13_loopsOf_l9, kbH_ite]
    refine ⟨fun _ => ?_, fun h => by omega⟩
    have hL' : ∀ m' : knMem, kbFr 151 151 μ m' → kbL m' D := fun m' h => ⟨by rw [h 142 (by omega)]; exact hL.1, by rw [h 147 (by omega), h 148 (by omega), h 149 (by omega)]; exact hL.2⟩
    by_cases hz : D.1 = 0
    · refine kbLoop (fun n i m => kfX13_loopsOf_l29 s (2 * D.1) (fun w32 => kfX13_loopsOf_l136 (2 * D.1) w32 (fun w40 => some ((if (w32 142 8) = 0 then 1 else w40 : Int), w32)) knF 0 0) n i m) (fun i m' => i = 0 ∧ m' = m) 0 _ (fun n i m hi h => by omega) ?_ _ 0 _ (by omega) (by rw [kbF]; omega) ⟨rfl, rfl⟩
      intro n m' ⟨_, hm⟩
      subst hm
      simp only [kfX13_loopsOf_l29, kbH_ite]
      rw [(hL' m' hf).1]
      refine ⟨fun _ => ?_, fun h => by omega⟩
      rw [show knF = 4095 + 1 from rfl]
      unfold kfX13_loopsOf_l136
      rw [if_pos (by omega), if_pos hz]
      refine kbH_some.mpr ⟨?_, hf⟩
      unfold kbLm
      rw [hz]
      show (1 : Int) = if D.1 = 0 then 1 else 2 * D.1
      rw [if_pos hz]
    · have h0 : kbLd m (2 * D.1) (kbLs D s 0) 0 := by
        refine ⟨fun e => e, fun _ => 0, fun e e0 e1 => ?_, fun e f _ _ _ _ => Iff.rfl, ?_⟩
        · have h1 := hr e e0 e1
          refine ⟨by rw [h1]; exact ⟨e0, e1⟩, ⟨e0, e1⟩, h1, fun _ => ⟨rfl, rfl⟩, h1, ⟨Int.le_refl 0, Int.le_refl 0⟩, fun h9 => absurd h1 h9⟩
        · show (if D.1 = 0 then 1 else 2 * D.1) = _
          rw [if_neg hz, kbSm_congr (g := fun _ => 1) _ (fun e e0 e1 => if_pos (hr e e0 (by omega))), kbSm_c]
          omega
      refine kbLoop (fun n i m => kfX13_loopsOf_l29 s (2 * D.1) (fun w32 => kfX13_loopsOf_l136 (2 * D.1) w32 (fun w40 => some ((if (w32 142 8) = 0 then 1 else w40 : Int), w32)) knF 0 0) n i m) (fun i m => 0 ≤ i ∧ kbLd m (2 * D.1) (kbLs D s i.toNat) (2 * i) ∧ kbFr 151 151 μ m) D.1 _ ?_ ?_ _ _ _ (by omega) (by rw [kbF]; omega) ⟨by omega, by simpa using h0, hf⟩
      · intro n i m hi ⟨i0, hl, hf⟩ kk
        have hLm := hL' m hf
        have hp := kb13_passOf hLm ⟨i0, hi⟩
        have hb := hB.2 i i0 hi
        have b1 := kbBf_in hb.1
        have b2 := kbBf_in hb.2.1
        have e2 : ((i.toNat : Nat) : Int) = i := by omega
        have hbz := kbBi_z hs (k := i) (by omega)
        have bm : ∀ p : Int, 0 ≤ p → p < 2 * D.1 → knRem (knW (knW (p + 2 * D.1) - 1)) (2 * D.1) = kbBf D.1 p := by
          intro p p0 p1
          rw [knW_id (x := p + 2 * D.1) (by omega), knW_id (x := p + 2 * D.1 - 1) (by omega), kbRe (by omega) (by omega)]
          unfold kbBf
          split
          · rw [kbMd0 (by omega)]; omega
          · rw [kbMd1 (by omega)]; omega
        simp only [kfX13_loopsOf_l29, kbH_ite]
        rw [hLm.1, hp.1, hp.2]
        simp only [Option.bind_some]
        rw [bm _ hb.1.1 hb.1.2, bm _ hb.2.1.1 hb.2.1.2, knW_id (x := i + 1) (by omega)]
        refine ⟨fun h => by omega, fun _ => ?_⟩
        rw [kbGd (by omega)]
        have e9 : (i + 1).toNat = i.toNat + 1 := by omega
        have e8 : kbLs D s (i.toNat + 1) = kbSo D i (kbBi s i) (kbLs D s i.toNat) := by
          show kbSo D (i.toNat : Int) (kbBi s (i.toNat : Int)) _ = _
          rw [e2]
        have eb : (if knAnd (knShr s i) 1 = 1 then 1 else 0 : Int) = kbBi s i := by
          show (if kbBi s i = 1 then 1 else 0 : Int) = kbBi s i
          rcases hbz with h | h <;> rw [h] <;> rfl
        rw [eb]
        refine kbH.bind (P := fun m1 => kbLd m1 (2 * D.1) (kbJn (kbBf D.1 (D.2.1 i)) (if kbBi s i = 0 then kbBf D.1 (D.2.2.1 i) else D.2.2.1 i) (kbLs D s i.toNat)) (2 * i + 1) ∧ kbFr 151 151 m m1) ?_ (fun m1 ⟨x1, x2⟩ => ?_)
        · exact kb13_joins hl (by omega) (by omega) b1 (by split <;> omega) (Or.inl ⟨rfl, rfl⟩)
        · refine kbH.bind (P := fun m2 => kbLd m2 (2 * D.1) (kbLs D s (i.toNat + 1)) (2 * i + 1 + 1) ∧ kbFr 151 151 m1 m2) ?_ (fun m2 ⟨y1, y2⟩ => kk m2 ⟨by omega, ?_, (hf.trans x2).trans y2⟩)
          · rw [e8]
            unfold kbSo
            by_cases ht : kbBi s i = 0
            · rw [if_pos ht] at x1
              rw [if_pos ht, if_pos ht]
              exact kb13_joins x1 (by omega) (by omega) hb.1 hb.2.1 (Or.inr ⟨rfl, rfl⟩)
            · rw [if_neg ht] at x1
              rw [if_neg ht, if_neg ht]
              exact kb13_joins x1 (by omega) (by omega) b2 hb.1 (Or.inl ⟨rfl, rfl⟩)
          · rw [e9, show 2 * (i + 1) = 2 * i + 1 + 1 by omega]
            exact y1
      · intro n m ⟨i0, ⟨ρ, d, hl1, hl2, hl3⟩, hf⟩
        simp only [kfX13_loopsOf_l29, kbH_ite]
        rw [(hL' m hf).1]
        refine ⟨fun _ => ?_, fun h => by omega⟩
        refine kbLoop (fun n i (x : Int) => kfX13_loopsOf_l136 (2 * D.1) m (fun w40 => some ((if D.1 = 0 then 1 else w40 : Int), m)) n x i) (fun i x => 0 ≤ i ∧ x = kbSm (fun e => if m 151 e = e then 1 else 0) i.toNat) (2 * D.1) _ ?_ ?_ _ _ _ (by omega) (by rw [kbF]; omega) ⟨by omega, rfl⟩
        · intro n i x hi ⟨i0, hx⟩ kk
          have hx1 := kbSm_nn (f := fun e => if m 151 e = e then 1 else 0) i.toNat (fun k _ _ => by split <;> omega)
          have hx2 := kbSm_mono (f := fun e => if m 151 e = e then 1 else 0) (g := fun _ => 1) i.toNat (fun k _ _ => by split <;> omega)
          rw [kbSm_c] at hx2
          simp only [kfX13_loopsOf_l136, kbH_ite, kbH_gd]
          rw [knW_id (x := i + 1) (by omega), knW_id (by split <;> omega)]
          refine ⟨fun h => by omega, fun _ => ⟨by omega, kk _ ⟨by omega, ?_⟩⟩⟩
          have e : (i + 1).toNat = i.toNat + 1 := by omega
          have e2 : ((i.toNat : Nat) : Int) = i := by omega
          rw [e, kbSm, ← hx]
          simp only [e2]
        · intro n x ⟨i0, hx⟩
          simp only [kfX13_loopsOf_l136, kbH_ite, kbH_some]
          refine ⟨fun _ => ⟨?_, hf⟩, fun h => by omega⟩
          rw [if_neg hz, hx, ← hl3]
          rfl
theorem kbLk_25 {μ : knMem} (hI : kbIv μ) (x1 x2 x3 x4 : Int) : kbH (kfLc_25 x1 x2 x3 x4 μ) kbIv := by
  obtain ⟨⟨S, hC, hR⟩, -⟩ := id hI
  have hn := hR.1.2.1
  have hp := kbP2_in hn
  obtain ⟨c, hc⟩ : ∃ c : Int, c = (if 0 ≤ x1 ∧ x1 < kbP2 S.1.1 then 0 else 2) := ⟨_, rfl⟩
  unfold kfLc_25
  refine kbTry (P := kbK μ) (lc := kbC1 c) (v := kbLm S.1 x1) (fun x => x) ?_ (fun μ1 h1 => ?_)
  · unfold kfL_loops kfX12_loops
    have hno : ¬ (0 ≤ x1 ∧ x1 < kbP2 S.1.1) → kbH (Option.bind (some ((2 : Int), (0 : Int), μ)) (fun q1 => if q1.1 = 0 then some ((0 : Int), (knUp q1.2.2 159 0 q1.2.1)) else if q1.1 = 2 then some (1, q1.2.2) else none)) (fun r => r.1 = kbC1 c ∧ (kbC1 c = 0 → r.2 159 0 = kbLm S.1 x1) ∧ kbK μ r.2) := by
      intro h
      rw [if_neg h] at hc
      rw [Option.bind_some, if_neg (show ¬ (2 : Int) = 0 by omega), if_pos rfl, hc]
      exact kbH_some.mpr ⟨rfl, fun h => absurd (kbC1_0 h) (by omega), kbK.rf⟩
    by_cases g1 : x1 < 0
    · simp only [if_pos g1]
      exact hno (by omega)
    · simp only [if_neg g1]
      unfold kfX5_sets
      rw [Option.bind_some, show μ 2 3 = S.1.1 from hC.1.1, show knShl 1 S.1.1 = kbP2 S.1.1 from rfl]
      by_cases g2 : x1 < kbP2 S.1.1
      · rw [if_pos g2]
        rw [if_pos (by omega)] at hc
        refine kbH.bind (P := fun q => q.1 = 0 ∧ q.2.1 = kbLm S.1 x1 ∧ kbK μ q.2.2) ?_ (fun q ⟨q1, q2, q3⟩ => ?_)
        · refine (kb2_loopsOf hC.1 hR.B (by omega)).bind (fun q ⟨a1, a2⟩ => kbH_some.mpr ⟨rfl, a1, a2.K (Or.inr (Or.inl ⟨by omega, by omega⟩))⟩)
        · rw [if_pos q1, hc]
          exact kbH_some.mpr ⟨rfl, fun _ => (kbUpS q.2.2 159 0 _).trans q2, q3.up (by omega)⟩
      · rw [if_neg g2]
        exact hno (by omega)
  · have hI1 := hI.K h1
    have hW : kbW (knUp μ1 142 0 0 143) S.1 := by rw [kbUp3, h1.1 143 (by omega)]; exact hR.1
    unfold kfX13_loops
    rw [kbGd (by omega), hW.1, show knShl 1 S.1.1 = kbP2 S.1.1 from rfl, knW_id (by omega), kb13_between, Option.bind_some]
    by_cases g : 0 ≤ x1 ∧ x1 < kbP2 S.1.1
    · rw [if_pos g] at hc
      rw [if_pos (show 0 ≤ x1 ∧ x1 ≤ kbP2 S.1.1 - 1 by omega), if_neg (show ¬ (1 : Int) = 0 by omega), hc]
      refine (kb13_loads hW).bind (fun q7 ⟨a1, f1⟩ => ?_)
      refine (kb13_loopsOf a1 (by omega)).bind (fun q ⟨b1, b2⟩ => kbH_some.mpr ⟨?_, fun _ => b1, ?_, hI1.K ((kbK.l f1).1.trans (b2.K (Or.inr (Or.inr ⟨by omega, by omega⟩))))⟩)
      · show q.2 142 0 = 0
        rw [b2 142 (by omega)]; exact (kbK.l f1).2.1
      · show q.2 159 = μ1 159
        rw [b2 159 (by omega)]; exact (kbK.l f1).2.2
    · rw [if_neg g] at hc
      rw [if_neg (show ¬ (0 ≤ x1 ∧ x1 ≤ kbP2 S.1.1 - 1) by omega), if_pos rfl, hc]
      exact (kbQf (c := 1) (fun x => x) hI1 (kbK0 kbK.rf) (kbUp9 _)).mono (fun r ⟨r1, r2, r3⟩ => ⟨r1, fun h => absurd (kbC1_0 h) (by omega), r2, r3⟩)
