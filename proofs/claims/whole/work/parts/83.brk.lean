/-! The reference's bracket, both normal polynomials; their cases. -/
theorem kbAndBi {s c : Int} : knAnd (knShr s c) 1 = kbBi s c := rfl
/-- the reference's rows have changed, of its fields only those of no weight -/
def kbFb (μ μ' : knMem) : Prop := (∀ o : Int, o < 147 ∨ 155 < o → o ≠ 142 → μ' o = μ o) ∧ ∀ i : Int, i ≠ 8 → μ' 142 i = μ 142 i
theorem kbFb.trans {μ μ1 μ2 : knMem} (h : kbFb μ μ1) (h2 : kbFb μ1 μ2) : kbFb μ μ2 := ⟨fun o a b => (h2.1 o a b).trans (h.1 o a b), fun i a => (h2.2 i a).trans (h.2 i a)⟩
theorem kbFz.b {μ μ' : knMem} (h : kbFz μ μ') : kbFb μ μ' := ⟨fun o a b => h.1 o (by omega) b, h.2⟩
theorem kbFr.b {lo hi : Int} {μ μ' : knMem} (h : kbFr lo hi μ μ') (hh : 147 ≤ lo ∧ hi ≤ 155) : kbFb μ μ' := ⟨fun o a b => h o (by omega), fun i _ => by rw [h 142 (by omega)]⟩
theorem kbFb.K {μ μ' : knMem} (h : kbFb μ μ') : kbK μ μ' := ⟨fun o ho => h.1 o (by omega) (by omega), fun i _ i8 _ _ _ => h.2 i i8, by rw [h.1 137 (by omega) (by omega)]⟩
theorem kb13_exp {μ : knMem} {D : kbD} (hL : kbL μ D) {s : Int} (hs : 0 ≤ s ∧ s < 128) {kc : Int → Option knMem} {Q : knMem → Prop} (hk : kbH (kc (kbXp D s)) Q) : kbH (kfX13_findsBracket_l41 s μ kc knF 0 0) Q := by
  have hn := hL.2.1
  refine kbLoop (fun n i (x : Int) => kfX13_findsBracket_l41 s μ kc n x i) (fun i x => 0 ≤ i ∧ x = kbSm (fun c => if kbBi s c = D.2.2.2 c then 1 else -1) i.toNat) D.1 _ ?_ ?_ _ _ _ (by omega) (by rw [kbF]; omega) ⟨by omega, rfl⟩
  · intro n i x hi ⟨i0, hx⟩ kk
    have ha := hL.2.2.1 i i0 hi
    have h9 := kbSm_le (f := fun c => if kbBi s c = D.2.2.2 c then 1 else -1) (b := 1) i.toNat (fun k _ _ => by split <;> omega)
    simp only [kfX13_findsBracket_l41, kbH_ite, kbH_gd]
    have eb : (if knAnd (knShr s i) 1 = D.2.2.2 i then 1 else -1 : Int) = (if kbBi s i = D.2.2.2 i then 1 else -1) := rfl
    rw [hL.1, ha.2.2.1, eb, knW_id (x := i + 1) (by omega), knW_id (by split <;> omega)]
    refine ⟨fun h => by omega, fun _ => ⟨by omega, kk _ ⟨by omega, ?_⟩⟩⟩
    have e : (i + 1).toNat = i.toNat + 1 := by omega
    have e2 : ((i.toNat : Nat) : Int) = i := by omega
    rw [e, kbSm, ← hx]
    simp only [e2]
  · intro n x ⟨i0, hx⟩
    simp only [kfX13_findsBracket_l41, kbH_ite, hL.1]
    exact ⟨fun _ => by rw [hx]; exact hk, fun h => by omega⟩
theorem kbL.fb {μ μ' : knMem} {D : kbD} (h : kbL μ D) (hf : kbFr 150 155 μ μ') : kbL μ' D := ⟨by rw [hf 142 (by omega)]; exact h.1, by rw [hf 147 (by omega), hf 148 (by omega), hf 149 (by omega)]; exact h.2⟩
theorem kb13_findsBracket {μ : knMem} {D : kbD} (hW : kbW (μ 143) D) : kbH (kfX13_findsBracket μ) (fun μ' => (∀ i : Int, 0 ≤ i → i ≤ 100 → μ' 152 i = kbBk2 D i (kbP2 D.1).toNat) ∧ kbL μ' D ∧ kbFb μ μ') := by
  have hn := hW.2.1
  have hR := hW.2
  have hp := kbP2_in hn
  unfold kfX13_findsBracket
  refine (kb13_loads hW).bind (fun μ1 ⟨a1, f1⟩ => ?_)
  refine kbLoop (fun n i s => kfX13_findsBracket_l6 (fun w6 => kfX13_findsBracket_l27 (fun w58 => some w58) knF 0 w6) n i s) (fun i s => 0 ≤ i ∧ (∀ j : Int, 0 ≤ j → j < i → s 152 j = 0) ∧ kbFr 150 155 μ1 s) 101 _ ?_ ?_ _ _ _ (by omega) (by rw [kbF]; omega) ⟨by omega, fun j _ _ => by omega, kbFr.rf⟩
  · intro n i s hi ⟨i0, hr, hf⟩ kk
    simp only [kfX13_findsBracket_l6, kbH_ite, kbH_gd]
    rw [knW_id (by omega)]
    refine ⟨fun h => by omega, fun _ => ⟨by omega, kk _ ⟨by omega, fun j j0 j1 => ?_, hf.up (by omega)⟩⟩⟩
    by_cases h : j = i
    · subst h; exact kbUpS s 152 j 0
    · rw [kbUp, if_neg (by omega)]; exact hr j j0 (by omega)
  · intro n s ⟨i0, hr, hf⟩
    simp only [kfX13_findsBracket_l6, kbH_ite]
    refine ⟨fun _ => ?_, fun h => by omega⟩
    refine kbLoop (fun n i m => kfX13_findsBracket_l27 (fun w58 => some w58) n i m) (fun i m => 0 ≤ i ∧ (∀ j : Int, 0 ≤ j → j ≤ 100 → m 152 j = kbBk2 D j i.toNat) ∧ kbFr 150 155 μ1 m) (kbP2 D.1) _ ?_ ?_ _ _ _ (by omega) (by rw [kbF]; omega) ⟨by omega, fun j j0 j1 => hr j j0 (by omega), hf⟩
    · intro n i m hi ⟨i0, hr, hf⟩ kk
      have hLm := a1.fb hf
      have hl := kbLm_le hR i
      have hx := kbXp_in hn (s := i)
      simp only [kfX13_findsBracket_l27, kbH_ite]
      rw [hLm.1, show knShl 1 D.1 = kbP2 D.1 from rfl]
      refine ⟨fun h => by omega, fun _ => ?_⟩
      refine kb13_exp hLm (by omega) ?_
      refine kbLoop (fun n j m => kfX13_findsBracket_l79 i (kbXp D i) _ n j m) (fun j m' => 0 ≤ j ∧ (∀ k : Int, 0 ≤ k → k < j → m' 154 k = kbG 0 (k - 50 - kbXp D i)) ∧ m' 152 = m 152 ∧ kbFr 150 155 m m') 101 _ ?_ ?_ _ _ _ (by omega) (by rw [kbF]; omega) ⟨by omega, fun k _ _ => by omega, rfl, kbFr.rf⟩
      · intro n1 j m1 hj ⟨j0, hq, he, hg⟩ kk1
        simp only [kfX13_findsBracket_l79, kbH_ite, kbH_gd]
        rw [knW_id (x := j + 1) (by omega), knW_id (x := 50 + kbXp D i) (by omega)]
        refine ⟨fun h => by omega, fun _ => ⟨by omega, kk1 _ ⟨by omega, fun k k0 k1 => ?_, by rw [knUp_ne (by omega)]; exact he, hg.up (by omega)⟩⟩⟩
        by_cases h : k = j
        · subst h
          rw [kbUpS]
          unfold kbG
          by_cases g : k = 50 + kbXp D i
          · rw [if_pos g, if_pos (by omega)]
          · rw [if_neg g, if_neg (by omega)]
        · rw [kbUp, if_neg (by omega)]; exact hq k k0 (by omega)
      · intro n1 m1 ⟨j0, hq, he, hg⟩
        simp only [kfX13_findsBracket_l79, kbH_ite]
        refine ⟨fun _ => ?_, fun h => by omega⟩
        refine (kb13_loopsOf (hLm.fb hg) (by omega)).bind (fun q ⟨b1, b2⟩ => ?_)
        rw [b1]
        refine kbLoopM (fun n2 (p : Int × knMem) => kfX13_findsBracket_l116 i _ n2 p.1 p.2) (fun p => (1 ≤ p.1 ∧ p.1 ≤ kbLm D i) ∧ (∀ k : Int, 0 ≤ k → k ≤ 100 → p.2 154 k = kbG (kbLm D i - p.1).toNat (k - 50 - kbXp D i)) ∧ p.2 152 = m 152 ∧ kbFr 150 155 m p.2) (fun p => p.1) _ ?_ knF (kbLm D i, q.2) ⟨⟨hl.1, Int.le_refl _⟩, fun k k0 k1 => ?_, ?_, hg.trans (b2.wd (by omega) (by omega))⟩ (by show 0 ≤ kbLm D i; omega) (by rw [kbF]; show kbLm D i < 4096; omega)
        · rintro n2 ⟨t, m2⟩ ⟨ht, hq2, he2, hg2⟩ _ kk2
          dsimp only at ht hq2 he2 hg2 kk2 ⊢
          unfold kfX13_findsBracket_l116
          by_cases g : t ≤ 1
          · rw [if_pos g]
            have ht1 : t = 1 := by omega
            subst ht1
            refine kbLoop (fun n j m => kfX13_findsBracket_l133 i _ n j m) (fun j m' => 0 ≤ j ∧ (∀ k : Int, 0 ≤ k → k ≤ 100 → m' 152 k = (if k < j then m 152 k + kbFt D k i else m 152 k)) ∧ m' 154 = m2 154 ∧ kbFr 150 155 m m') 101 _ ?_ ?_ _ _ _ (by omega) (by rw [kbF]; omega) ⟨by omega, fun k _ _ => by rw [if_neg (by omega), he2], rfl, hg2⟩
            · intro n3 j m3 hj ⟨j0, hq3, he3, hg3⟩ kk3
              simp only [kfX13_findsBracket_l133, kbH_ite, kbH_gd]
              have h3 := hq3 j j0 (by omega)
              rw [if_neg (by omega), hr j j0 (by omega)] at h3
              have h4 := kbBk2_in hR (i := j) (by omega) i.toNat
              have h5 := kbFt_in hR (i := j) (s := i) (by omega)
              have h6 := hq2 j j0 (by omega)
              have h7 : kbG (kbLm D i - 1).toNat (j - 50 - kbXp D i) = kbFt D j i := rfl
              rw [h7] at h6
              rw [knW_id (x := j + 1) (by omega), he3, h6, h3, knW_id (x := kbBk2 D j i.toNat + kbFt D j i) (by omega)]
              refine ⟨fun h => by omega, fun _ => ⟨by omega, kk3 _ ⟨by omega, fun k k0 k1 => ?_, by rw [knUp_ne (by omega)]; exact he3, hg3.up (by omega)⟩⟩⟩
              by_cases h : k = j
              · subst h
                rw [kbUpS, if_pos (by omega), hr k k0 k1]
              · rw [kbUp, if_neg (by omega), hq3 k k0 k1]
                by_cases g9 : k < j
                · rw [if_pos g9, if_pos (by omega)]
                · rw [if_neg g9, if_neg (by omega)]
            · intro n3 m3 ⟨j0, hq3, he3, hg3⟩
              simp only [kfX13_findsBracket_l133, kbH_ite]
              refine ⟨fun _ => ?_, fun h => by omega⟩
              rw [knW_id (x := i + 1) (by omega)]
              refine kk m3 ⟨by omega, fun k k0 k1 => ?_, hf.trans hg3⟩
              rw [hq3 k k0 k1, if_pos (by omega), hr k k0 k1, show (i + 1).toNat = i.toNat + 1 by omega]
              show _ = kbSm (fun s => kbFt D k s) i.toNat + kbFt D k ((i.toNat : Nat) : Int)
              rw [show ((i.toNat : Nat) : Int) = i by omega]
              rfl
          · rw [if_neg g, knW_id (x := t + -1) (by omega)]
            refine (kb13_multiplies (x := kbXp D i) (m := (kbLm D i - t).toNat) (by omega) (by omega) hq2).bind (fun m3 ⟨c1, c2⟩ => ?_)
            have h6 := kk2 (t + -1, m3) ⟨by dsimp only; omega, fun k k0 k1 => ?_, ?_, hg2.trans (c2.wd (by omega) (by omega))⟩ (by dsimp only; omega) (by dsimp only; omega)
            · cases n2 <;> exact h6
            · dsimp only
              rw [c1 k k0 k1]
              congr 1
              omega
            · dsimp only
              rw [c2 152 (by omega)]; exact he2
        · show q.2 154 k = kbG (kbLm D i - kbLm D i).toNat (k - 50 - kbXp D i)
          rw [Int.sub_self, b2 154 (by omega)]
          exact hq k k0 (by omega)
        · show q.2 152 = m 152
          rw [b2 152 (by omega)]; exact he
    · intro n m ⟨i0, hr, hf⟩
      simp only [kfX13_findsBracket_l27, kbH_ite]
      rw [(a1.fb hf).1, show knShl 1 D.1 = kbP2 D.1 from rfl]
      exact ⟨fun _ => kbH_some.mpr ⟨hr, a1.fb hf, f1.b.trans (hf.b (by omega))⟩, fun h => by omega⟩
/-- the normal polynomial -/
def kbNo (D : kbD) (i : Int) : Int := if kbWr D % 2 = 0 then (if 0 ≤ i + 3 * kbWr D ∧ i + 3 * kbWr D ≤ 100 then kbBk2 D (i + 3 * kbWr D) (kbP2 D.1).toNat else 0) else -(if 0 ≤ i + 3 * kbWr D ∧ i + 3 * kbWr D ≤ 100 then kbBk2 D (i + 3 * kbWr D) (kbP2 D.1).toNat else 0)
theorem kbRm2 : ∀ k : Nat, k < 15 → (knRem ((k : Int) - 7) 2 = 0 ↔ ((k : Int) - 7) % 2 = 0) := by decide +kernel
theorem kbRem2 {w : Int} (hw : -7 ≤ w ∧ w ≤ 7) : knRem w 2 = 0 ↔ w % 2 = 0 := by
  have h := kbRm2 (w + 7).toNat (by omega)
  rw [show (((w + 7).toNat : Nat) : Int) - 7 = w by omega] at h
  exact h
theorem kb12_valueAt {μ : knMem} {r e : Int} (hl : knLn r = 101) (he : -1000 ≤ e ∧ e ≤ 1000) : kfX12_valueAt r e μ = some (if 0 ≤ e + 50 ∧ e + 50 ≤ 100 then μ r (e + 50) else 0) := by
  unfold kfX12_valueAt
  rw [hl, knW_id (by omega)]
  simp only
  by_cases g1 : e + 50 < 0
  · rw [if_pos g1, if_neg (by omega)]
  · by_cases g2 : e + 50 < 101
    · rw [if_neg g1, if_pos g2, kbGd (by omega), if_pos (by omega)]
    · rw [if_neg g1, if_neg g2, if_neg (by omega)]
theorem kb2_normalize {μ : knMem} {D : kbD} {of vr sg : Int → Int} (hA : kbA μ 2 D) (hR : kbR D of vr sg) : kbH (kfX2_normalize 2 μ) (fun μ' => (∀ i : Int, 0 ≤ i → i ≤ 100 → μ' 122 i = kbNo D i) ∧ (∀ o : Int, o ≠ 120 → o ≠ 122 → o ≠ 124 → μ' o = μ o)) := by
  have hn := hR.1
  have hw := kbWr_in (D := D) hn
  have hp := kbP2_in hn
  unfold kfX2_normalize
  refine (kb2_sumStates hA hR).bind (fun q1 ⟨a1, a2⟩ => ?_)
  have hA1 : kbA q1 2 D := by
    refine ⟨by rw [a2 2 (by omega) (by omega)]; exact hA.1, fun k k0 k1 => ?_⟩
    rw [a2 (2 + 1) (by omega) (by omega), a2 (2 + 2) (by omega) (by omega), a2 (2 + 3) (by omega) (by omega)]
    exact hA.2 k k0 k1
  rw [kb5_signSum hA1 hR.B, Option.bind_some]
  refine kbLoop (fun n i m => kfX2_normalize_l25 (kbWr D) (if knRem (kbWr D) 2 = 0 then 1 else -1 : Int) (fun w15 => some w15) n i m) (fun i m => 0 ≤ i ∧ (∀ j : Int, 0 ≤ j → j < i → m 122 j = kbNo D j) ∧ ∀ o : Int, o ≠ 122 → m o = q1 o) 101 _ ?_ ?_ _ _ _ (by omega) (by rw [kbF]; omega) ⟨by omega, fun j _ _ => by omega, fun _ _ => rfl⟩
  · intro n i m hi ⟨i0, hr, hf⟩ kk
    simp only [kfX2_normalize_l25, kbH_ite]
    rw [knW_id (x := i - 50) (by omega), knW_id (x := 3 * kbWr D) (by omega), knW_id (x := i - 50 + 3 * kbWr D) (by omega), kb12_valueAt kbLn101.1 (by omega), Option.bind_some, kbH_gd, knW_id (x := i + 1) (by omega), show i - 50 + 3 * kbWr D + 50 = i + 3 * kbWr D by omega, hf 120 (by omega)]
    refine ⟨fun h => by omega, fun _ => ⟨by omega, kk _ ⟨by omega, fun j j0 j1 => ?_, fun o ho => by rw [knUp_ne ho]; exact hf o ho⟩⟩⟩
    by_cases h : j = i
    · subst h
      rw [kbUpS]
      unfold kbNo
      by_cases g : 0 ≤ j + 3 * kbWr D ∧ j + 3 * kbWr D ≤ 100
      · have hb := kbBk2_in hR (i := j + 3 * kbWr D) g (kbP2 D.1).toNat
        rw [if_pos g, a1 _ g.1 g.2, if_pos g]
        by_cases g2 : kbWr D % 2 = 0
        · rw [if_pos ((kbRem2 (by omega)).mpr g2), if_pos g2, Int.one_mul, knW_id (by omega)]
        · rw [if_neg (fun h => g2 ((kbRem2 (by omega)).mp h)), if_neg g2, Int.neg_one_mul, knW_id (by omega)]
      · rw [if_neg g, if_neg g, Int.mul_zero]
        split <;> rfl
    · rw [kbUp, if_neg (by omega)]; exact hr j j0 (by omega)
  · intro n m ⟨i0, hr, hf⟩
    simp only [kfX2_normalize_l25, kbH_ite]
    refine ⟨fun _ => kbH_some.mpr ⟨fun i i0 i1 => hr i i0 (by omega), fun o o1 o2 o3 => ?_⟩, fun h => by omega⟩
    rw [hf o o2]; exact a2 o o1 o3
theorem kb13_findsNormal {μ : knMem} {D : kbD} (hW : kbW (μ 143) D) : kbH (kfX13_findsNormal μ) (fun μ' => (∀ i : Int, 0 ≤ i → i ≤ 100 → μ' 153 i = kbNo D i) ∧ kbFb μ μ') := by
  have hn := hW.2.1
  have hw := kbWr_in (D := D) hn
  have hp := kbP2_in hn
  unfold kfX13_findsNormal
  refine (kb13_findsBracket hW).bind (fun q1 ⟨a1, aL, a2⟩ => ?_)
  rw [kb13_turns aL, Option.bind_some, knW_id (by omega)]
  refine kbLoop (fun n i m => kfX13_findsNormal_l13 (3 * kbWr D) (fun w35 => some w35) n i m) (fun i m => 0 ≤ i ∧ (∀ j : Int, 0 ≤ j → j < i → m 153 j = kbNo D j) ∧ ∀ o : Int, o ≠ 153 → m o = q1 o) 101 _ ?_ ?_ _ _ _ (by omega) (by rw [kbF]; omega) ⟨by omega, fun j _ _ => by omega, fun _ _ => rfl⟩
  · intro n i m hi ⟨i0, hr, hf⟩ kk
    have hLm : kbL m D := ⟨by rw [hf 142 (by omega)]; exact aL.1, by rw [hf 147 (by omega), hf 148 (by omega), hf 149 (by omega)]; exact aL.2⟩
    simp only [kfX13_findsNormal_l13, kbH_ite, kb13_between, Option.bind_some]
    rw [knW_id (x := i + 3 * kbWr D) (by omega), knW_id (x := i + 1) (by omega)]
    refine ⟨fun h => by omega, fun _ => ?_⟩
    have ev : (if (if 0 ≤ i + 3 * kbWr D ∧ i + 3 * kbWr D ≤ 100 then 1 else 0 : Int) = 0 then some 0 else knGd (0 ≤ i + 3 * kbWr D ∧ i + 3 * kbWr D < 101) (some (m 152 (i + 3 * kbWr D))) : Option Int) = some (if 0 ≤ i + 3 * kbWr D ∧ i + 3 * kbWr D ≤ 100 then kbBk2 D (i + 3 * kbWr D) (kbP2 D.1).toNat else 0) := by
      by_cases g : 0 ≤ i + 3 * kbWr D ∧ i + 3 * kbWr D ≤ 100
      · rw [if_pos g, if_neg (by omega), kbGd (by omega), if_pos g, hf 152 (by omega), a1 _ g.1 g.2]
      · rw [if_neg g, if_pos rfl, if_neg g]
    rw [ev, Option.bind_some, kb13_turns hLm, Option.bind_some, kbH_gd]
    refine ⟨by omega, kk _ ⟨by omega, fun j j0 j1 => ?_, fun o ho => by rw [knUp_ne ho]; exact hf o ho⟩⟩
    by_cases h : j = i
    · subst h
      rw [kbUpS]
      unfold kbNo
      have hb : -4480 ≤ (if 0 ≤ j + 3 * kbWr D ∧ j + 3 * kbWr D ≤ 100 then kbBk2 D (j + 3 * kbWr D) (kbP2 D.1).toNat else 0) ∧ (if 0 ≤ j + 3 * kbWr D ∧ j + 3 * kbWr D ≤ 100 then kbBk2 D (j + 3 * kbWr D) (kbP2 D.1).toNat else 0) ≤ 4480 := by
        by_cases g : 0 ≤ j + 3 * kbWr D ∧ j + 3 * kbWr D ≤ 100
        · have hb := kbBk2_in hW.2 (i := j + 3 * kbWr D) g (kbP2 D.1).toNat
          rw [if_pos g]; omega
        · rw [if_neg g]; omega
      by_cases g2 : kbWr D % 2 = 0
      · rw [if_pos ((kbRem2 (by omega)).mpr g2), if_pos g2]
      · rw [if_neg (fun h => g2 ((kbRem2 (by omega)).mp h)), if_neg g2, knW_id (by omega)]
    · rw [kbUp, if_neg (by omega)]; exact hr j j0 (by omega)
  · intro n m ⟨i0, hr, hf⟩
    simp only [kfX13_findsNormal_l13, kbH_ite]
    refine ⟨fun _ => kbH_some.mpr ⟨fun i i0 i1 => hr i i0 (by omega), a2.trans ⟨fun o h1 h2 => hf o (by omega), fun i _ => by rw [hf 142 (by omega)]⟩⟩, fun h => by omega⟩
