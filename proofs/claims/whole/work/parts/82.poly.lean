/-! The factor of a state; the bracket. -/
def kbG : Nat → Int → Int
  | 0, j => if j = 0 then 1 else 0
  | m + 1, j => -(kbG m (j - 2)) - kbG m (j + 2)
def kbBn : Nat → Nat → Nat
  | _, 0 => 1
  | 0, _ + 1 => 0
  | n + 1, k + 1 => kbBn n k + kbBn n (k + 1)
def kbTm (m c : Nat) : Int := (if m % 2 = 0 then 1 else -1) * (kbBn m c : Int)
theorem kbG_b : ∀ m : Nat, m < 8 → ∀ k : Nat, k < 115 → -35 ≤ kbG m ((k : Int) - 57) ∧ kbG m ((k : Int) - 57) ≤ 35 := by decide +kernel
theorem kbG_T : ∀ m : Nat, m < 8 → ∀ c : Nat, c < 8 → c ≤ m → kbTm m c = kbG m (4 * (c : Int) - 2 * (m : Int)) := by decide +kernel
theorem kbG_0 : ∀ m : Nat, m < 8 → ∀ k : Nat, k < 115 → ((((k : Int) - 57 + 2 * (m : Int)) % 4 = 0 ∧ 0 ≤ (k : Int) - 57 + 2 * (m : Int) ∧ (k : Int) - 57 + 2 * (m : Int) < 4 * ((m : Int) + 1)) ∨ kbG m ((k : Int) - 57) = 0) := by decide +kernel
theorem kbTm_s : ∀ m : Nat, m < 8 → ∀ c : Nat, c < 8 → c ≤ m → knDiv (knW (kbTm m c * knW ((m : Int) - (c : Int)))) (knW ((c : Int) + 1)) = kbTm m (c + 1) := by decide +kernel
theorem kbTm_0 : ∀ m : Nat, m < 8 → (if knRem (m : Int) 2 = 0 then 1 else -1 : Int) = kbTm m 0 := by decide +kernel
theorem kbG_in {m : Nat} (hm : m < 8) {j : Int} (hj : -57 ≤ j ∧ j ≤ 57) : -35 ≤ kbG m j ∧ kbG m j ≤ 35 := by
  have h := kbG_b m hm (j + 57).toNat (by omega)
  rw [show (((j + 57).toNat : Nat) : Int) - 57 = j by omega] at h
  exact h
theorem kbG_z {m : Nat} (hm : m < 8) {j : Int} (hj : -57 ≤ j ∧ j ≤ 57) (h : ¬ ((j + 2 * (m : Int)) % 4 = 0 ∧ 0 ≤ j + 2 * (m : Int) ∧ j + 2 * (m : Int) < 4 * ((m : Int) + 1))) : kbG m j = 0 := by
  have h1 := kbG_0 m hm (j + 57).toNat (by omega)
  rw [show (((j + 57).toNat : Nat) : Int) - 57 = j by omega] at h1
  exact h1.resolve_left h
theorem kbLn101 : knLn 120 = 101 ∧ knLn 121 = 101 ∧ knLn 122 = 101 := by decide +kernel
theorem kb2_addFactor {μ : knMem} {r x : Int} {m : Nat} (hr : r = 120 ∨ r = 121) (hx : -7 ≤ x ∧ x ≤ 7) (hm : m < 8) (hb : ∀ i : Int, 0 ≤ i → i ≤ 100 → -100000 ≤ μ r i ∧ μ r i ≤ 100000) : kbH (kfX2_addFactor r x m μ) (fun μ' => (∀ i : Int, 0 ≤ i → i ≤ 100 → μ' r i = μ r i + kbG m (i - 50 - x)) ∧ kbFr r r μ μ') := by
  have hl : knLn r = 101 := by rcases hr with h | h <;> rw [h]; exact kbLn101.1; exact kbLn101.2.1
  unfold kfX2_addFactor
  rw [kbTm_0 m hm]
  refine kbLoop (fun n i (p : Int × knMem) => kfX2_addFactor_l15 r x m (fun w17 => some w17) n p.1 i p.2) (fun i p => 0 ≤ i ∧ p.1 = kbTm m i.toNat ∧ (∀ j : Int, 0 ≤ j → j ≤ 100 → p.2 r j = μ r j + (if (j - 50 - x + 2 * (m : Int)) % 4 = 0 ∧ 0 ≤ j - 50 - x + 2 * (m : Int) ∧ j - 50 - x + 2 * (m : Int) < 4 * i then kbG m (j - 50 - x) else 0)) ∧ kbFr r r μ p.2) ((m : Int) + 1) _ ?_ ?_ knF 0 (kbTm m 0, μ) (by omega) (by rw [kbF]; omega) ⟨by omega, rfl, fun j _ _ => ?_, kbFr.rf⟩
  · rintro n i ⟨t, s⟩ hi ⟨i0, ht, hj, hf⟩ kk
    dsimp only at ht hj hf kk ⊢
    unfold kfX2_addFactor_l15
    have hg : kbTm m i.toNat = kbG m (4 * i - 2 * (m : Int)) := by
      have := kbG_T m hm i.toNat (by omega) (by omega)
      rw [show ((i.toNat : Nat) : Int) = i by omega] at this
      exact this
    have hgb := kbG_in hm (j := 4 * i - 2 * (m : Int)) (by omega)
    have hst := kbTm_s m hm i.toNat (by omega) (by omega)
    rw [show ((i.toNat : Nat) : Int) = i by omega] at hst
    rw [if_neg (by omega), knW_id (x := 4 * i) (by omega), knW_id (x := x + 4 * i) (by omega), knW_id (x := 2 * (m : Int)) (by omega), knW_id (x := x + 4 * i - 2 * (m : Int)) (by omega), knW_id (x := x + 4 * i - 2 * (m : Int) + 50) (by omega), hl, if_neg (by omega), if_neg (by omega), kbGd (by omega), Option.bind_some, ht, hst, knW_id (x := i + 1) (by omega), kbGd (by omega)]
    have hq := hj (x + 4 * i - 2 * (m : Int) + 50) (by omega) (by omega)
    have hqb := hb (x + 4 * i - 2 * (m : Int) + 50) (by omega) (by omega)
    rw [if_neg (by omega)] at hq
    refine kk (kbTm m (i.toNat + 1), knUp s r (x + 4 * i - 2 * (m : Int) + 50) (knW (s r (x + 4 * i - 2 * (m : Int) + 50) + kbTm m i.toNat))) ⟨by omega, by dsimp only; rw [show (i + 1).toNat = i.toNat + 1 by omega], fun j j0 j1 => ?_, hf.up (by omega)⟩
    dsimp only
    rw [hq, Int.add_zero, hg, knW_id (by omega), kbUp]
    by_cases he : j = x + 4 * i - 2 * (m : Int) + 50
    · rw [if_pos ⟨rfl, he⟩, if_pos (by omega), he]
      congr 2
      omega
    · rw [if_neg (by omega), hj j j0 j1]
      by_cases g : (j - 50 - x + 2 * (m : Int)) % 4 = 0 ∧ 0 ≤ j - 50 - x + 2 * (m : Int) ∧ j - 50 - x + 2 * (m : Int) < 4 * i
      · rw [if_pos g, if_pos (by omega)]
      · rw [if_neg g, if_neg (by omega)]
  · rintro n ⟨t, s⟩ ⟨i0, ht, hj, hf⟩
    dsimp only at ht hj hf ⊢
    unfold kfX2_addFactor_l15
    rw [if_pos (by omega)]
    refine kbH_some.mpr ⟨fun i i0 i1 => ?_, hf⟩
    rw [hj i i0 i1]
    split
    · rfl
    · rename_i g
      rw [kbG_z hm (by omega) g]
  · rw [if_neg (by omega), Int.add_zero]
/-- a state's exponent -/
def kbXp (D : kbD) (s : Int) : Int := kbSm (fun c => if kbBi s c = D.2.2.2 c then 1 else -1) D.1.toNat
theorem kbXp_in {D : kbD} (hn : 0 ≤ D.1 ∧ D.1 ≤ 7) {s : Int} : -D.1 ≤ kbXp D s ∧ kbXp D s ≤ D.1 := by
  have h := kbSm_le (f := fun c => if kbBi s c = D.2.2.2 c then 1 else -1) (b := 1) D.1.toNat (fun k _ _ => by split <;> omega)
  unfold kbXp
  omega
def kbFt (D : kbD) (i s : Int) : Int := kbG (kbLm D s - 1).toNat (i - 50 - kbXp D s)
/-- the states' factors added up -/
def kbBk2 (D : kbD) (i : Int) (n : Nat) : Int := kbSm (fun s => kbFt D i s) n
theorem kbFt_in {D : kbD} {of vr sg : Int → Int} (hR : kbR D of vr sg) {i s : Int} (hi : 0 ≤ i ∧ i ≤ 100) : -35 ≤ kbFt D i s ∧ kbFt D i s ≤ 35 := by
  have hn := hR.1
  have hl := kbLm_le hR s
  have hx := kbXp_in hn (s := s)
  exact kbG_in (by omega) (by omega)
theorem kbBk2_in {D : kbD} {of vr sg : Int → Int} (hR : kbR D of vr sg) {i : Int} (hi : 0 ≤ i ∧ i ≤ 100) (n : Nat) : -(35 * n) ≤ kbBk2 D i n ∧ kbBk2 D i n ≤ 35 * n :=
  kbSm_le n (fun s _ _ => kbFt_in hR hi)
theorem kb7_fill {μ : knMem} {a v n : Int} (hl : knLn a = n) (hn : 0 ≤ n ∧ n ≤ 200) : kbH (kfJ7_fill_53178 a v μ) (fun μ' => (∀ i : Int, 0 ≤ i → i < n → μ' a i = v) ∧ kbFr a a μ μ') := by
  unfold kfJ7_fill_53178
  rw [hl]
  refine kbLoop (fun n1 i m => kfJ7_fill_53178_l5 a v n (fun w3 => some w3) n1 i m) (fun i m => 0 ≤ i ∧ (∀ j : Int, 0 ≤ j → j < i → m a j = v) ∧ kbFr a a μ m) n _ ?_ ?_ _ _ _ (by omega) (by rw [kbF]; omega) ⟨by omega, fun j _ _ => by omega, kbFr.rf⟩
  · intro n1 i m hi ⟨i0, hr, hf⟩ kk
    simp only [kfJ7_fill_53178_l5, kbH_ite, kbH_gd, hl]
    rw [knW_id (by omega)]
    refine ⟨fun h => by omega, fun _ => ⟨by omega, kk _ ⟨by omega, fun j j0 j1 => ?_, hf.up (by omega)⟩⟩⟩
    by_cases h : j = i
    · subst h; exact kbUpS m a j v
    · rw [kbUp, if_neg (by omega)]; exact hr j j0 (by omega)
  · intro n1 m ⟨i0, hr, hf⟩
    simp only [kfJ7_fill_53178_l5, kbH_ite, kbH_some]
    exact ⟨fun _ => ⟨hr, hf⟩, fun h => by omega⟩
theorem kb2_exp {μ : knMem} {D : kbD} (hA : kbA μ 2 D) (hB : kbB D) {s : Int} (hs : 0 ≤ s ∧ s < 128) {kc : Int → Option knMem} {Q : knMem → Prop} (hk : kbH (kc (kbXp D s)) Q) : kbH (kfX2_sumStates_l23 2 s μ kc knF 0 0) Q := by
  have hn := hB.1
  refine kbLoop (fun n i (x : Int) => kfX2_sumStates_l23 2 s μ kc n x i) (fun i x => 0 ≤ i ∧ x = kbSm (fun c => if kbBi s c = D.2.2.2 c then 1 else -1) i.toNat) D.1 _ ?_ ?_ _ _ _ (by omega) (by rw [kbF]; omega) ⟨by omega, rfl⟩
  · intro n i x hi ⟨i0, hx⟩ kk
    have ha := hA.2 i i0 hi
    have hbz := kbBi_z hs (k := i) (by omega)
    have h9 := kbSm_le (f := fun c => if kbBi s c = D.2.2.2 c then 1 else -1) (b := 1) i.toNat (fun k _ _ => by split <;> omega)
    have et : (if kbBi s i = 1 then 1 else 0 : Int) = kbBi s i := by rcases hbz with h | h <;> rw [h] <;> rfl
    simp only [kfX2_sumStates_l23, kbH_ite, kb12_isInSet, Option.bind_some, kbH_gd]
    rw [hA.1, et, show μ (2 + 3) i = D.2.2.2 i from ha.2.2, knW_id (x := i + 1) (by omega), knW_id (by split <;> omega)]
    refine ⟨fun h => by omega, fun _ => ⟨by omega, kk _ ⟨by omega, ?_⟩⟩⟩
    have e : (i + 1).toNat = i.toNat + 1 := by omega
    have e2 : ((i.toNat : Nat) : Int) = i := by omega
    rw [e, kbSm, ← hx]
    simp only [e2]
  · intro n x ⟨i0, hx⟩
    simp only [kfX2_sumStates_l23, kbH_ite, hA.1]
    exact ⟨fun _ => by rw [hx]; exact hk, fun h => by omega⟩
theorem kb2_sumStates {μ : knMem} {D : kbD} {of vr sg : Int → Int} (hA : kbA μ 2 D) (hR : kbR D of vr sg) : kbH (kfX2_sumStates 2 μ) (fun μ' => (∀ i : Int, 0 ≤ i → i ≤ 100 → μ' 120 i = kbBk2 D i (kbP2 D.1).toNat) ∧ (∀ o : Int, o ≠ 120 → o ≠ 124 → μ' o = μ o)) := by
  have hn := hR.1
  have hB := hR.B
  have hp := kbP2_in hn
  unfold kfX2_sumStates
  refine (kb7_fill (a := 120) (v := 0) kbLn101.1 (by omega)).bind (fun q1 ⟨a1, a2⟩ => ?_)
  refine kbLoop (fun n i m => kfX2_sumStates_l10 2 (fun w32 => some w32) n i m) (fun i m => 0 ≤ i ∧ (∀ j : Int, 0 ≤ j → j ≤ 100 → m 120 j = kbBk2 D j i.toNat) ∧ (∀ o : Int, o ≠ 120 → o ≠ 124 → m o = μ o)) (kbP2 D.1) _ ?_ ?_ _ _ _ (by omega) (by rw [kbF]; omega) ⟨by omega, fun j j0 j1 => a1 j j0 (by omega), fun o o1 _ => a2 o (by omega)⟩
  · intro n i m hi ⟨i0, hr, hf⟩ kk
    have hA1 : kbA m 2 D := by
      refine ⟨by rw [hf 2 (by omega) (by omega)]; exact hA.1, fun k k0 k1 => ?_⟩
      rw [hf (2 + 1) (by omega) (by omega), hf (2 + 2) (by omega) (by omega), hf (2 + 3) (by omega) (by omega)]
      exact hA.2 k k0 k1
    have hl := kbLm_le hR i
    have hx := kbXp_in hn (s := i)
    simp only [kfX2_sumStates_l10, kfX5_sets, Option.bind_some, kbH_ite]
    rw [hA1.1, show knShl 1 D.1 = kbP2 D.1 from rfl]
    refine ⟨fun h => by omega, fun _ => ?_⟩
    refine kb2_exp hA1 hB (by omega) ?_
    refine (kb2_loopsOf hA1 hB (by omega)).bind (fun q2 ⟨b1, b2⟩ => ?_)
    have hb120 : q2.2 120 = m 120 := b2 120 (by omega)
    rw [b1, knW_id (x := kbLm D i - 1) (by omega), show kbLm D i - 1 = (((kbLm D i - 1).toNat : Nat) : Int) by omega, knW_id (x := i + 1) (by omega)]
    refine (kb2_addFactor (r := 120) (x := kbXp D i) (m := (kbLm D i - 1).toNat) (Or.inl rfl) (by omega) (by omega) (fun j j0 j1 => ?_)).bind (fun q3 ⟨c1, c2⟩ => kk q3 ⟨by omega, fun j j0 j1 => ?_, fun o o1 o2 => ?_⟩)
    · rw [hb120, hr j j0 j1]
      have := kbBk2_in hR (i := j) (by omega) i.toNat
      omega
    · rw [c1 j j0 j1, hb120, hr j j0 j1, show (i + 1).toNat = i.toNat + 1 by omega]
      show _ = kbSm (fun s => kbFt D j s) i.toNat + kbFt D j ((i.toNat : Nat) : Int)
      rw [show ((i.toNat : Nat) : Int) = i by omega]
      rfl
    · rw [c2 o (by omega), b2 o (by omega)]
      exact hf o o1 o2
  · intro n m ⟨i0, hr, hf⟩
    simp only [kfX2_sumStates_l10, kfX5_sets, Option.bind_some, kbH_ite]
    rw [hf 2 (by omega) (by omega), hA.1, show knShl 1 D.1 = kbP2 D.1 from rfl]
    exact ⟨fun _ => kbH_some.mpr ⟨hr, hf⟩, fun h => by omega⟩
/-! The reference's bracket. -/
theorem kbG_s : ∀ m : Nat, ∀ j : Int, (j < -(2 * (m : Int)) ∨ 2 * (m : Int) < j) → kbG m j = 0
  | 0, j, h => by unfold kbG; rw [if_neg (by omega)]
  | m + 1, j, h => by
    unfold kbG
    rw [kbG_s m (j - 2) (by omega), kbG_s m (j + 2) (by omega)]
    rfl
theorem kb13_multiplies {μ : knMem} {x : Int} {m : Nat} (hx : -7 ≤ x ∧ x ≤ 7) (hm : m < 8) (h : ∀ i : Int, 0 ≤ i → i ≤ 100 → μ 154 i = kbG m (i - 50 - x)) : kbH (kfX13_multiplies μ) (fun μ' => (∀ i : Int, 0 ≤ i → i ≤ 100 → μ' 154 i = kbG (m + 1) (i - 50 - x)) ∧ kbFr 154 155 μ μ') := by
  unfold kfX13_multiplies
  refine kbLoop (fun n i s => kfX13_multiplies_l2 (fun w3 => kfX13_multiplies_l23 (fun w12 => kfX13_multiplies_l71 (fun w16 => some w16) knF 0 w12) knF 2 w3) n i s) (fun i s => 0 ≤ i ∧ (∀ j : Int, 0 ≤ j → j < i → s 155 j = 0) ∧ s 154 = μ 154 ∧ kbFr 154 155 μ s) 101 _ ?_ ?_ _ _ _ (by omega) (by rw [kbF]; omega) ⟨by omega, fun j _ _ => by omega, rfl, kbFr.rf⟩
  · intro n i s hi ⟨i0, hr, he, hf⟩ kk
    simp only [kfX13_multiplies_l2, kbH_ite, kbH_gd]
    rw [knW_id (by omega)]
    refine ⟨fun h => by omega, fun _ => ⟨by omega, kk _ ⟨by omega, fun j j0 j1 => ?_, by rw [knUp_ne (by omega)]; exact he, hf.up (by omega)⟩⟩⟩
    by_cases h : j = i
    · subst h; exact kbUpS s 155 j 0
    · rw [kbUp, if_neg (by omega)]; exact hr j j0 (by omega)
  · intro n s ⟨i0, hr, he, hf⟩
    simp only [kfX13_multiplies_l2, kbH_ite]
    refine ⟨fun _ => ?_, fun h => by omega⟩
    refine kbLoop (fun n i s => kfX13_multiplies_l23 (fun w12 => kfX13_multiplies_l71 (fun w16 => some w16) knF 0 w12) n i s) (fun i s => 2 ≤ i ∧ (∀ j : Int, 0 ≤ j → j ≤ 100 → s 155 j = -(if 2 ≤ j - 2 ∧ j - 2 < i then kbG m (j - 2 - 50 - x) else 0) - (if 2 ≤ j + 2 ∧ j + 2 < i then kbG m (j + 2 - 50 - x) else 0)) ∧ s 154 = μ 154 ∧ kbFr 154 155 μ s) 99 _ ?_ ?_ _ _ _ (by omega) (by rw [kbF]; omega) ⟨by omega, fun j j0 j1 => ?_, he, hf⟩
    · intro n i s hi ⟨i0, hr, he, hf⟩ kk
      simp only [kfX13_multiplies_l23, kbH_ite, kbH_gd]
      rw [knW_id (x := i + 2) (by omega), knW_id (x := i - 2) (by omega), knW_id (x := i + 1) (by omega)]
      have e1 : ∀ v : Int, knUp s 155 (i + 2) v 154 i = kbG m (i - 50 - x) := fun v => by rw [knUp_ne (by omega), he]; exact h i (by omega) (by omega)
      have e2 : s 154 i = kbG m (i - 50 - x) := by rw [he]; exact h i (by omega) (by omega)
      have e3 : ∀ v : Int, knUp s 155 (i + 2) v 155 (i - 2) = s 155 (i - 2) := fun v => by rw [kbUp, if_neg (by omega)]
      rw [e1, e2, e3]
      have hg := kbG_in hm (j := i - 50 - x) (by omega)
      have r1 := hr (i + 2) (by omega) (by omega)
      have r2 := hr (i - 2) (by omega) (by omega)
      rw [if_neg (by omega), if_neg (by omega)] at r1
      rw [if_neg (show ¬ (2 ≤ i - 2 + 2 ∧ i - 2 + 2 < i) by omega)] at r2
      have g2 : -35 ≤ (if 2 ≤ i - 2 - 2 ∧ i - 2 - 2 < i then kbG m (i - 2 - 2 - 50 - x) else 0) ∧ (if 2 ≤ i - 2 - 2 ∧ i - 2 - 2 < i then kbG m (i - 2 - 2 - 50 - x) else 0) ≤ 35 := by
        split
        · exact kbG_in hm (by omega)
        · omega
      refine ⟨fun h => by omega, fun _ => ⟨by omega, by omega, by omega, kk _ ⟨by omega, fun j j0 j1 => ?_, by rw [knUp_ne (by omega), knUp_ne (by omega)]; exact he, (hf.up (by omega)).up (by omega)⟩⟩⟩
      rw [knW_id (x := s 155 (i + 2) - kbG m (i - 50 - x)) (by omega), knW_id (x := s 155 (i - 2) - kbG m (i - 50 - x)) (by omega)]
      by_cases g3 : j = i + 2
      · rw [kbUp, if_neg (by omega), kbUp, if_pos ⟨rfl, g3⟩, r1, if_pos (by omega), if_neg (by omega), show j - 2 - 50 - x = i - 50 - x by omega]
        omega
      · by_cases g4 : j = i - 2
        · rw [kbUp, if_pos ⟨rfl, g4⟩, r2, if_pos (show 2 ≤ j + 2 ∧ j + 2 < i + 1 by omega), show j + 2 - 50 - x = i - 50 - x by omega, g4]
          by_cases g5 : 2 ≤ i - 2 - 2
          · rw [if_pos (by omega), if_pos (by omega)]; omega
          · rw [if_neg (by omega), if_neg (by omega)]; omega
        · rw [kbUp, if_neg (by omega), kbUp, if_neg (by omega), hr j j0 j1]
          have c1 : (if 2 ≤ j - 2 ∧ j - 2 < i then kbG m (j - 2 - 50 - x) else 0) = (if 2 ≤ j - 2 ∧ j - 2 < i + 1 then kbG m (j - 2 - 50 - x) else 0) := by
            by_cases g5 : 2 ≤ j - 2 ∧ j - 2 < i
            · rw [if_pos g5, if_pos (by omega)]
            · rw [if_neg g5, if_neg (by omega)]
          have c2 : (if 2 ≤ j + 2 ∧ j + 2 < i then kbG m (j + 2 - 50 - x) else 0) = (if 2 ≤ j + 2 ∧ j + 2 < i + 1 then kbG m (j + 2 - 50 - x) else 0) := by
            by_cases g5 : 2 ≤ j + 2 ∧ j + 2 < i
            · rw [if_pos g5, if_pos (by omega)]
            · rw [if_neg g5, if_neg (by omega)]
          rw [c1, c2]
    · intro n s ⟨i0, hr, he, hf⟩
      simp only [kfX13_multiplies_l23, kbH_ite]
      refine ⟨fun _ => ?_, fun h => by omega⟩
      have hr2 : ∀ j : Int, 0 ≤ j → j ≤ 100 → s 155 j = kbG (m + 1) (j - 50 - x) := by
        intro j j0 j1
        rw [hr j j0 j1]
        show _ = -(kbG m (j - 50 - x - 2)) - kbG m (j - 50 - x + 2)
        have c1 : (if 2 ≤ j - 2 ∧ j - 2 < 99 then kbG m (j - 2 - 50 - x) else 0) = kbG m (j - 50 - x - 2) := by
          rw [show j - 50 - x - 2 = j - 2 - 50 - x by omega]
          split
          · rfl
          · exact (kbG_s m _ (by omega)).symm
        have c2 : (if 2 ≤ j + 2 ∧ j + 2 < 99 then kbG m (j + 2 - 50 - x) else 0) = kbG m (j - 50 - x + 2) := by
          rw [show j - 50 - x + 2 = j + 2 - 50 - x by omega]
          split
          · rfl
          · exact (kbG_s m _ (by omega)).symm
        rw [c1, c2]
      refine kbLoop (fun n i m => kfX13_multiplies_l71 (fun w16 => some w16) n i m) (fun i m' => 0 ≤ i ∧ (∀ j : Int, 0 ≤ j → j < i → m' 154 j = kbG (m + 1) (j - 50 - x)) ∧ m' 155 = s 155 ∧ kbFr 154 155 μ m') 101 _ ?_ ?_ _ _ _ (by omega) (by rw [kbF]; omega) ⟨by omega, fun j _ _ => by omega, rfl, hf⟩
      · intro n i m' hi ⟨i0, hq, he, hf⟩ kk
        simp only [kfX13_multiplies_l71, kbH_ite, kbH_gd]
        rw [knW_id (by omega)]
        refine ⟨fun h => by omega, fun _ => ⟨by omega, kk _ ⟨by omega, fun j j0 j1 => ?_, by rw [knUp_ne (by omega)]; exact he, hf.up (by omega)⟩⟩⟩
        by_cases h : j = i
        · subst h; rw [kbUpS, he]; exact hr2 j j0 (by omega)
        · rw [kbUp, if_neg (by omega)]; exact hq j j0 (by omega)
      · intro n m' ⟨i0, hq, he, hf⟩
        simp only [kfX13_multiplies_l71, kbH_ite, kbH_some]
        exact ⟨fun _ => ⟨fun i i0 i1 => hq i i0 (by omega), hf⟩, fun h => by omega⟩
    · rw [hr j j0 (by omega), if_neg (by omega), if_neg (by omega)]
      rfl
