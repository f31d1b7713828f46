/-! The class counts colourings by elimination. -/
abbrev kbAo (D : kbD) (c : Int) : Int := kbAc D (D.2.1 c)
abbrev kbAe (D : kbD) (c : Int) : Int := kbAc D (kbBf D.1 (D.2.2.1 c))
abbrev kbAb (D : kbD) (c : Int) : Int := kbAc D (D.2.2.1 c)
def kbMe (D : kbD) (p c a : Int) : Int := (if a = kbAo D c then 2 else 0) + (if a = kbAe D c then p - 1 else 0) + (if a = kbAb D c then p - 1 else 0)
def kbMx (D : kbD) (p : Int) : Int → Int → Int := fun c a => kbMe D p c a % p
theorem kbAr_in {D : kbD} (hn : 0 ≤ D.1) (q : Int) : 0 ≤ kbAr D q ∧ kbAr D q ≤ D.1 := by
  have h1 := kbSm_nn (f := fun k => if q < D.2.2.1 k then 0 else 1) D.1.toNat (fun k _ _ => by split <;> omega)
  have h2 := kbSm_mono (f := fun k => if q < D.2.2.1 k then 0 else 1) (g := fun _ => 1) D.1.toNat (fun k _ _ => by split <;> omega)
  rw [kbSm_c] at h2
  unfold kbAr
  omega
theorem kbAc_in {D : kbD} (hn : 0 < D.1) (q : Int) : 0 ≤ kbAc D q ∧ kbAc D q < D.1 := by
  have h := kbAr_in (by omega) (D := D) q
  unfold kbAc
  split <;> omega
theorem kbMx_in {D : kbD} {p : Nat} (hp : p = 3 ∨ p = 5 ∨ p = 7) (c a : Int) : 0 ≤ kbMx D p c a ∧ kbMx D p c a < p := ⟨Int.emod_nonneg _ (by omega), Int.emod_lt_of_pos _ (by omega)⟩
/-- how many colourings -/
noncomputable def kbCv (D : kbD) (p : Nat) : Int := if D.1 = 0 then (p : Int) else kbTc p D.1.toNat D.1.toNat (fun x => kbId (kbSat p (kbMx D p) D.1.toNat 0 x)) (fun _ => 0)
def kbRa (μ : knMem) (D : kbD) : Prop := μ 106 5 = D.1 ∧ ∀ c : Int, 0 ≤ c → c < D.1 → μ 107 c = kbAo D c ∧ μ 108 c = kbAe D c ∧ μ 109 c = kbAb D c
theorem kb3_readArcs {μ : knMem} {D : kbD} (hA : kbA μ 2 D) (hB : kbB D) : kbH (kfX3_readArcs 2 μ) (fun μ' => kbRa μ' D ∧ kbFr 106 109 μ μ') := by
  have hn := hB.1
  unfold kfX3_readArcs
  refine kbLoop (fun n i s => kfX3_readArcs_l10 2 (fun w19 => some w19) n i s) (fun i s => 0 ≤ i ∧ s 106 5 = D.1 ∧ (∀ c : Int, 0 ≤ c → c < i → s 107 c = kbAo D c ∧ s 108 c = kbAe D c ∧ s 109 c = kbAb D c) ∧ kbFr 106 109 μ s) D.1 _ ?_ ?_ _ _ _ (by omega) (by rw [kbF]; omega) ⟨by omega, by rw [kbUpS]; exact hA.1, fun c _ _ => by omega, kbFr.rf.up (by omega)⟩
  · intro n i s hi ⟨i0, h5, hr, hf⟩ kk
    have ha := hA.2 i i0 hi
    have hb := hB.2 i i0 hi
    have hA1 : ∀ m : knMem, kbFr 106 109 μ m → kbA m 2 D := fun m h => hA.fr h (by omega)
    simp only [kfX3_readArcs_l10, kbH_ite, kbH_gd]
    rw [h5, hf (2 + 1) (by omega), hf (2 + 2) (by omega), ha.1, ha.2.1, kb5_arcOf (hA1 s hf) hn, Option.bind_some, kb5_before (hA1 _ (hf.up (by omega))) hn (by omega), Option.bind_some, kb5_arcOf (hA1 _ (hf.up (by omega))) hn, Option.bind_some, kb5_arcOf (hA1 _ ((hf.up (by omega)).up (by omega))) hn, Option.bind_some, knW_id (by omega)]
    refine ⟨fun h => by omega, fun _ => ⟨by omega, kk _ ⟨by omega, ?_, fun c c0 c1 => ?_, ((hf.up (by omega)).up (by omega)).up (by omega)⟩⟩⟩
    · rw [knUp_ne (by omega), knUp_ne (by omega), knUp_ne (by omega)]; exact h5
    · by_cases hc : c = i
      · subst hc
        simp (disch := omega) only [kbUp, if_pos, if_neg, and_true, true_and, if_true]
      · simp (disch := omega) only [kbUp, if_neg]
        exact hr c c0 (by omega)
  · intro n s ⟨i0, h5, hr, hf⟩
    simp only [kfX3_readArcs_l10, kbH_ite, kbH_some, h5]
    exact ⟨fun _ => ⟨⟨h5, fun c c0 c1 => hr c c0 c1⟩, hf⟩, fun h => by omega⟩
theorem kbLn7A : ∀ k : Nat, k < 7 → knLn (111 + (k : Int)) = 7 := by decide +kernel
theorem kbLn7 {c : Int} (h : 0 ≤ c ∧ c < 7) : knLn (111 + c) = 7 := by
  have h1 := kbLn7A c.toNat (by omega)
  rw [show ((c.toNat : Nat) : Int) = c by omega] at h1
  exact h1
def kbMm (μ : knMem) (n : Int) (M : Int → Int → Int) : Prop := ∀ i j : Int, 0 ≤ i → i < n → 0 ≤ j → j < n → μ (111 + i) j = M i j
theorem kb3_fillRows {μ : knMem} {D : kbD} {p : Nat} (hp : p = 3 ∨ p = 5 ∨ p = 7) (hR : kbRa μ D) (hn : 0 ≤ D.1 ∧ D.1 ≤ 7) : kbH (kfX3_fillRows p μ) (fun μ' => kbMm μ' D.1 (kbMx D p) ∧ kbFr 111 117 μ μ') := by
  obtain ⟨h5, h6⟩ := hR
  unfold kfX3_fillRows
  refine kbLoop (fun n i s => kfX3_fillRows_l2 p (fun w25 => some w25) n i s) (fun i s => 0 ≤ i ∧ (∀ c a : Int, 0 ≤ c → c < i → 0 ≤ a → a < D.1 → s (111 + c) a = kbMx D p c a) ∧ kbFr 111 117 μ s) D.1 _ ?_ ?_ _ _ _ (by omega) (by rw [kbF]; omega) ⟨by omega, fun c a _ _ => by omega, kbFr.rf⟩
  · intro n i s hi ⟨i0, hr, hf⟩ kk
    have h9 := h6 i i0 hi
    have r1 : 0 ≤ kbAo D i ∧ kbAo D i < D.1 := kbAc_in (D := D) (by omega) (D.2.1 i)
    have r2 : 0 ≤ kbAe D i ∧ kbAe D i < D.1 := kbAc_in (D := D) (by omega) (kbBf D.1 (D.2.2.1 i))
    have r3 : 0 ≤ kbAb D i ∧ kbAb D i < D.1 := kbAc_in (D := D) (by omega) (D.2.2.1 i)
    simp only [kfX3_fillRows_l2, kbH_ite, kbH_gd]
    rw [hf 106 (by omega), h5]
    refine ⟨fun h => by omega, fun _ => ⟨by omega, ?_⟩⟩
    refine (kb7_fill (a := 111 + i) (v := 0) (kbLn7 (by omega)) (by omega)).bind (fun q ⟨a1, a2⟩ => ?_)
    have e107 : q 107 i = kbAo D i := by rw [a2 107 (by omega), hf 107 (by omega)]; exact h9.1
    have e108 : ∀ (k v : Int), knUp q (111 + i) k v 108 i = kbAe D i := fun k v => by rw [knUp_ne (by omega), a2 108 (by omega), hf 108 (by omega)]; exact h9.2.1
    have e109 : ∀ (k v k' v' : Int), knUp (knUp q (111 + i) k v) (111 + i) k' v' 109 i = kbAb D i := fun k v k' v' => by rw [knUp_ne (by omega), knUp_ne (by omega), a2 109 (by omega), hf 109 (by omega)]; exact h9.2.2
    rw [e107, e108, e109, kbGd (by omega), kbGd (by omega), kbGd (by omega), knW_id (x := (p : Int) - 1) (by omega), a1 (kbAo D i) r1.1 (by omega), knW_id (x := 0 + 2) (by omega)]
    have v1 : knUp q (111 + i) (kbAo D i) (0 + 2) (111 + i) (kbAe D i) = if kbAe D i = kbAo D i then 2 else 0 := by
      rw [kbUp]
      by_cases g : kbAe D i = kbAo D i
      · rw [if_pos ⟨rfl, g⟩, if_pos g]; rfl
      · rw [if_neg (fun h => g h.2), if_neg g]; exact a1 _ r2.1 (by omega)
    rw [v1, knW_id (x := (if kbAe D i = kbAo D i then 2 else 0) + ((p : Int) - 1)) (by split <;> omega)]
    obtain ⟨q2, hq2⟩ : ∃ q2 : knMem, q2 = knUp (knUp q (111 + i) (kbAo D i) (0 + 2)) (111 + i) (kbAe D i) ((if kbAe D i = kbAo D i then 2 else 0) + ((p : Int) - 1)) := ⟨_, rfl⟩
    rw [← hq2]
    have v2 : ∀ a : Int, 0 ≤ a → a < D.1 → q2 (111 + i) a = (if a = kbAo D i then 2 else 0) + (if a = kbAe D i then (p : Int) - 1 else 0) := by
      intro a a0 a1'
      rw [hq2, kbUp]
      by_cases g : a = kbAe D i
      · rw [if_pos ⟨rfl, g⟩, if_pos g, g]
      · rw [if_neg (fun h => g h.2), if_neg g, kbUp]
        by_cases g2 : a = kbAo D i
        · rw [if_pos ⟨rfl, g2⟩, if_pos g2]; omega
        · rw [if_neg (fun h => g2 h.2), if_neg g2]; exact a1 a a0 (by omega)
    have hv3 := v2 _ r3.1 r3.2
    have b3 : 0 ≤ q2 (111 + i) (kbAb D i) ∧ q2 (111 + i) (kbAb D i) ≤ 100 := by rw [hv3]; split <;> split <;> omega
    rw [knW_id (x := q2 (111 + i) (kbAb D i) + ((p : Int) - 1)) (by omega)]
    obtain ⟨q3, hq3⟩ : ∃ q3 : knMem, q3 = knUp q2 (111 + i) (kbAb D i) (q2 (111 + i) (kbAb D i) + ((p : Int) - 1)) := ⟨_, rfl⟩
    rw [← hq3]
    have v3 : ∀ a : Int, 0 ≤ a → a < D.1 → q3 (111 + i) a = kbMe D p i a := by
      intro a a0 a1'
      rw [hq3, kbUp]
      unfold kbMe
      by_cases g : a = kbAb D i
      · rw [if_pos ⟨rfl, g⟩, if_pos g, ← g, v2 a a0 a1']
      · rw [if_neg (fun h => g h.2), if_neg g, v2 a a0 a1', Int.add_zero]
    have f3 : kbFr (111 + i) (111 + i) s q3 := by
      rw [hq3, hq2]
      exact ((a2.up (by omega)).up (by omega)).up (by omega)
    refine kbLoop (fun n j m => kfX3_fillRows_l77 p i (fun w24 => kfX3_fillRows_l2 p (fun w25 => some w25) _ (knW (i + 1)) w24) n j m) (fun j m => 0 ≤ j ∧ (∀ a : Int, 0 ≤ a → a < j → m (111 + i) a = kbMx D p i a) ∧ (∀ a : Int, j ≤ a → a < D.1 → m (111 + i) a = kbMe D p i a) ∧ kbFr (111 + i) (111 + i) s m) D.1 _ ?_ ?_ _ _ _ (by omega) (by rw [kbF]; omega) ⟨by omega, fun a _ _ => by omega, fun a a0 a1 => v3 a a0 a1, f3⟩
    · intro n1 j m hj ⟨j0, hlo, hhi, hg⟩ kk1
      have hmj := hhi j (Int.le_refl _) hj
      have hbj : 0 ≤ kbMe D p i j ∧ kbMe D p i j ≤ 100 := by unfold kbMe; split <;> split <;> split <;> omega
      simp only [kfX3_fillRows_l77, kbH_ite, kbH_gd]
      rw [hg 106 (by omega), hf 106 (by omega), h5, hmj, kb9_floorMod (by omega) (by omega), Option.bind_some, knW_id (x := j + 1) (by omega)]
      refine ⟨fun h => by omega, fun _ => ⟨by omega, by omega, kk1 _ ⟨by omega, fun a a0 a1 => ?_, fun a a0 a1 => ?_, hg.up (by omega)⟩⟩⟩
      · by_cases h : a = j
        · subst h; exact kbUpS m (111 + i) a _
        · rw [kbUp, if_neg (by omega)]; exact hlo a a0 (by omega)
      · rw [kbUp, if_neg (by omega)]; exact hhi a (by omega) a1
    · intro n1 m ⟨j0, hlo, hhi, hg⟩
      simp only [kfX3_fillRows_l77, kbH_ite]
      rw [hg 106 (by omega), hf 106 (by omega), h5, knW_id (x := i + 1) (by omega)]
      refine ⟨fun _ => kk m ⟨by omega, fun c a c0 c1 a0 a1 => ?_, hf.trans (hg.wd (by omega) (by omega))⟩, fun h => by omega⟩
      by_cases h : c = i
      · rw [h]; exact hlo a a0 a1
      · rw [hg (111 + c) (by omega)]; exact hr c a c0 (by omega) a0 a1
  · intro n s ⟨i0, hr, hf⟩
    simp only [kfX3_fillRows_l2, kbH_ite, kbH_some]
    rw [hf 106 (by omega), h5]
    exact ⟨fun _ => ⟨fun c a c0 c1 a0 a1 => hr c a c0 c1 a0 a1, hf⟩, fun h => by omega⟩
/-- the first row from lo that isn't 0 there, n if there is none -/
def kbPv (M : Int → Int → Int) (n lo col q : Int) : Prop := (lo ≤ q ∧ q < n ∧ M q col ≠ 0 ∧ ∀ i : Int, lo ≤ i → i < q → M i col = 0) ∨ (q = n ∧ ∀ i : Int, lo ≤ i → i < n → M i col = 0)
theorem kbPv_ex {M : Int → Int → Int} {n lo col : Int} (h : lo ≤ n) : ∃ q : Int, kbPv M n lo col q ∧ lo ≤ q ∧ q ≤ n := by
  by_cases g : ∃ i : Int, 0 ≤ i ∧ i < ((n - lo).toNat : Nat) ∧ M (lo + i) col ≠ 0
  · obtain ⟨i, i0, i1, i2⟩ := kbLeast (P := fun i => M (lo + i) col ≠ 0) _ g
    refine ⟨lo + i, Or.inl ⟨by omega, by omega, i1, fun j j0 j1 => ?_⟩, by omega, by omega⟩
    have h9 := i2 (j - lo) (by omega) (by omega)
    rw [show lo + (j - lo) = j by omega] at h9
    exact Classical.not_not.mp h9
  · refine ⟨n, Or.inr ⟨rfl, fun i i0 i1 => ?_⟩, h, Int.le_refl n⟩
    refine Classical.byContradiction (fun h9 => g ⟨i - lo, by omega, by omega, ?_⟩)
    rw [show lo + (i - lo) = i by omega]
    exact h9
theorem kb3_pivotRow {μ : knMem} {n lo col q : Int} {M : Int → Int → Int} (h5 : μ 106 5 = n) (hn : 0 ≤ n ∧ n ≤ 7) (hM : kbMm μ n M) (hl : 0 ≤ lo ∧ lo ≤ n) (hc : 0 ≤ col ∧ col < n) (hq : kbPv M n lo col q) : kfX3_pivotRow lo col μ = some q := by
  have key : kbH (kfX3_pivotRow lo col μ) (fun r => r = q) := by
    unfold kfX3_pivotRow
    rw [h5]
    rcases hq with ⟨q0, q1, q2, q3⟩ | ⟨q0, q1⟩
    · refine kbLoop (fun n1 i (_ : Unit) => kfX3_pivotRow_l2 col μ (fun _ => some n) n1 i) (fun i _ => lo ≤ i) q _ ?_ ?_ _ _ () q0 (by rw [kbF]; omega) (Int.le_refl _)
      · intro n1 i _ hi i0 kk
        simp only [kfX3_pivotRow_l2, kbH_ite, kbH_gd]
        rw [h5, hM i col (by omega) (by omega) hc.1 hc.2, knW_id (by omega)]
        exact ⟨fun h => by omega, fun _ => ⟨by omega, by omega, fun _ => kk () (by omega), fun h => absurd (q3 i i0 hi) h⟩⟩
      · intro n1 _ _
        simp only [kfX3_pivotRow_l2, kbH_ite, kbH_gd]
        rw [h5, hM q col (by omega) (by omega) hc.1 hc.2]
        exact ⟨fun h => by omega, fun _ => ⟨by omega, by omega, fun h => absurd h q2, fun _ => kbH_some.mpr rfl⟩⟩
    · refine kbLoop (fun n1 i (_ : Unit) => kfX3_pivotRow_l2 col μ (fun _ => some n) n1 i) (fun i _ => lo ≤ i) n _ ?_ ?_ _ _ () hl.2 (by rw [kbF]; omega) (Int.le_refl _)
      · intro n1 i _ hi i0 kk
        simp only [kfX3_pivotRow_l2, kbH_ite, kbH_gd]
        rw [h5, hM i col (by omega) (by omega) hc.1 hc.2, knW_id (by omega)]
        exact ⟨fun h => by omega, fun _ => ⟨by omega, by omega, fun _ => kk () (by omega), fun h => absurd (q1 i i0 hi) h⟩⟩
      · intro n1 _ _
        simp only [kfX3_pivotRow_l2, kbH_ite, h5]
        exact ⟨fun _ => kbH_some.mpr q0.symm, fun h => absurd (Int.le_refl n) h⟩
  obtain ⟨r, h2, h3⟩ := key
  rw [h2, h3]
theorem kb3_exchangeRows {μ : knMem} {n r q : Int} {M : Int → Int → Int} (h5 : μ 106 5 = n) (hn : 0 ≤ n ∧ n ≤ 7) (hM : kbMm μ n M) (hr : 0 ≤ r ∧ r < n) (hq : 0 ≤ q ∧ q < n) : kbH (kfX3_exchangeRows r q μ) (fun μ' => kbMm μ' n (kbEx2 r q M) ∧ kbFr 111 117 μ μ') := by
  unfold kfX3_exchangeRows
  refine kbLoop (fun n1 i s => kfX3_exchangeRows_l2 r q (fun w8 => some w8) n1 i s) (fun i s => 0 ≤ i ∧ (∀ c a : Int, 0 ≤ c → c < n → 0 ≤ a → a < n → s (111 + c) a = if a < i then kbEx2 r q M c a else M c a) ∧ kbFr 111 117 μ s) n _ ?_ ?_ _ _ _ (by omega) (by rw [kbF]; omega) ⟨by omega, fun c a c0 c1 a0 a1 => by rw [if_neg (by omega)]; exact hM c a c0 c1 a0 a1, kbFr.rf⟩
  · intro n1 i s hi ⟨i0, hs, hf⟩ kk
    simp only [kfX3_exchangeRows_l2, kbH_ite, kbH_gd]
    rw [hf 106 (by omega), h5, knW_id (by omega)]
    refine ⟨fun h => by omega, fun _ => ⟨by omega, by omega, by omega, kk _ ⟨by omega, fun c a c0 c1 a0 a1 => ?_, (hf.up (by omega)).up (by omega)⟩⟩⟩
    have s1 := hs r i hr.1 hr.2 i0 hi
    have s2 := hs q i hq.1 hq.2 i0 hi
    have s3 := hs c a c0 c1 a0 a1
    rw [if_neg (by omega)] at s1 s2
    by_cases ha : a = i
    · subst ha
      rw [if_pos (by omega)]
      unfold kbEx2
      by_cases g1 : c = q
      · rw [kbUp, if_pos ⟨by omega, rfl⟩, s1]
        by_cases g2 : c = r
        · rw [if_pos g2, ← g1, g2]
        · rw [if_neg g2, if_pos g1]
      · rw [kbUp, if_neg (by omega), kbUp]
        by_cases g2 : c = r
        · rw [if_pos ⟨by omega, rfl⟩, if_pos g2, s2]
        · rw [if_neg (by omega), if_neg g2, if_neg g1, s3, if_neg (by omega)]
    · rw [kbUp, if_neg (by omega), kbUp, if_neg (by omega), s3]
      by_cases g : a < i
      · rw [if_pos g, if_pos (by omega)]
      · rw [if_neg g, if_neg (by omega)]
  · intro n1 s ⟨i0, hs, hf⟩
    simp only [kfX3_exchangeRows_l2, kbH_ite, kbH_some]
    rw [hf 106 (by omega), h5]
    exact ⟨fun _ => ⟨fun c a c0 c1 a0 a1 => by rw [hs c a c0 c1 a0 a1, if_pos a1], hf⟩, fun h => absurd (Int.le_refl n) h⟩
/-- the rows below r, up to hi, cancelled at col -/
def kbCl (p : Int) (r col hi : Int) (M : Int → Int → Int) : Int → Int → Int := fun i c => if r < i ∧ i < hi then (M i c * M r col - M r c * M i col) % p else M i c
theorem kb3_cancel {μ : knMem} {n r col i : Int} {p : Nat} (hp : p = 3 ∨ p = 5 ∨ p = 7) {M : Int → Int → Int} (h5 : μ 106 5 = n) (hn : 0 ≤ n ∧ n ≤ 7) (hM : kbMm μ n (kbCl p r col i M)) (hMb : ∀ i j : Int, 0 ≤ i → i < n → 0 ≤ j → j < n → 0 ≤ M i j ∧ M i j < p) (hr : 0 ≤ r ∧ r < i) (hi : i < n) (hc : 0 ≤ col ∧ col < n) : kbH (kfX3_cancel i r col p μ) (fun μ' => kbMm μ' n (kbCl p r col (i + 1) M) ∧ kbFr 111 117 μ μ') := by
  have er : ∀ c : Int, kbCl p r col i M r c = M r c := fun c => if_neg (by omega)
  have ei : ∀ c : Int, kbCl p r col i M i c = M i c := fun c => if_neg (by omega)
  unfold kfX3_cancel
  rw [kbGd (by omega), kbGd (by omega), kbGd (by omega), hM r col (by omega) (by omega) hc.1 hc.2, hM i col (by omega) hi hc.1 hc.2, er, ei]
  have b1 := hMb r col (by omega) (by omega) hc.1 hc.2
  have b2 := hMb i col (by omega) hi hc.1 hc.2
  refine kbLoop (fun n1 j s => kfX3_cancel_l23 i r p (M r col) (M i col) (fun w16 => some w16) n1 j s) (fun j s => 0 ≤ j ∧ (∀ c a : Int, 0 ≤ c → c < n → 0 ≤ a → a < n → s (111 + c) a = if c = i ∧ a < j then (M i a * M r col - M r a * M i col) % p else kbCl p r col i M c a) ∧ kbFr 111 117 μ s) n _ ?_ ?_ _ _ _ (by omega) (by rw [kbF]; omega) ⟨by omega, fun c a c0 c1 a0 a1 => by rw [if_neg (by omega)]; exact hM c a c0 c1 a0 a1, kbFr.rf⟩
  · intro n1 j s hj ⟨j0, hs, hf⟩ kk
    have s1 := hs i j (by omega) hi j0 hj
    have s2 := hs r j (by omega) (by omega) j0 hj
    rw [if_neg (by omega), ei] at s1
    rw [if_neg (by omega), er] at s2
    have b3 := hMb i j (by omega) hi j0 hj
    have b4 := hMb r j (by omega) (by omega) j0 hj
    have m1 : 0 ≤ M i j * M r col ∧ M i j * M r col ≤ 36 := ⟨Int.mul_nonneg b3.1 b1.1, by
      have := Int.mul_le_mul (show M i j ≤ 6 by omega) (show M r col ≤ 6 by omega) b1.1 (by omega); omega⟩
    have m2 : 0 ≤ M r j * M i col ∧ M r j * M i col ≤ 36 := ⟨Int.mul_nonneg b4.1 b2.1, by
      have := Int.mul_le_mul (show M r j ≤ 6 by omega) (show M i col ≤ 6 by omega) b2.1 (by omega); omega⟩
    simp only [kfX3_cancel_l23, kbH_ite, kbH_gd]
    rw [hf 106 (by omega), h5, s1, s2, knW_id (x := M i j * M r col) (by omega), knW_id (x := M r j * M i col) (by omega), knW_id (x := M i j * M r col - M r j * M i col) (by omega), kb9_floorMod (by omega) (by omega), Option.bind_some, knW_id (x := j + 1) (by omega)]
    refine ⟨fun h => by omega, fun _ => ⟨by omega, by omega, by omega, kk _ ⟨by omega, fun c a c0 c1 a0 a1 => ?_, hf.up (by omega)⟩⟩⟩
    rw [kbUp]
    by_cases g : c = i ∧ a = j
    · rw [if_pos (by omega), if_pos (by omega), g.2]
    · rw [if_neg (by omega), hs c a c0 c1 a0 a1]
      by_cases g2 : c = i ∧ a < j
      · rw [if_pos g2, if_pos (by omega)]
      · rw [if_neg g2, if_neg (by omega)]
  · intro n1 s ⟨j0, hs, hf⟩
    simp only [kfX3_cancel_l23, kbH_ite, kbH_some]
    rw [hf 106 (by omega), h5]
    refine ⟨fun _ => ⟨fun c a c0 c1 a0 a1 => ?_, hf⟩, fun h => absurd (Int.le_refl n) h⟩
    rw [hs c a c0 c1 a0 a1]
    unfold kbCl
    by_cases g : c = i
    · rw [if_pos ⟨g, a1⟩, if_pos (by omega), g]
    · rw [if_neg (fun h => g h.1)]
      by_cases g2 : r < c ∧ c < i
      · rw [if_pos g2, if_pos (by omega)]
      · rw [if_neg g2, if_neg (by omega)]
theorem kbDvdM (p e : Int) : p ∣ e % p - e := ⟨-(e / p), by rw [Int.emod_def, Int.mul_neg]; omega⟩
theorem kbCl_el {p n : Nat} (hp : p = 3 ∨ p = 5 ∨ p = 7) {N : Int} {M : Int → Int → Int} {r col : Nat} {q : Int} (h : kbEl p n N M r col) (hc : col < n) (hq : (r : Int) ≤ q ∧ q < n ∧ M q col ≠ 0) : kbEl p n N (kbCl p r col n (kbEx2 r q M)) (r + 1) (col + 1) := by
  obtain ⟨h1, h2, h3, h4⟩ := id h
  have hrn : (r : Int) < n := by omega
  have hEb : ∀ i j : Int, 0 ≤ i → i < n → 0 ≤ j → j < n → 0 ≤ kbEx2 r q M i j ∧ kbEx2 r q M i j < p := by
    intro i j i0 i1 j0 j1
    unfold kbEx2
    split
    · exact h3 q j (by omega) hq.2.1 j0 j1
    · split
      · exact h3 r j (by omega) hrn j0 j1
      · exact h3 i j i0 i1 j0 j1
  have hEz : ∀ i j : Int, (r : Int) ≤ i → i < n → 0 ≤ j → j < col → kbEx2 r q M i j = 0 := by
    intro i j i0 i1 j0 j1
    unfold kbEx2
    split
    · exact h2 q j hq.1 hq.2.1 j0 j1
    · split
      · exact h2 r j (Int.le_refl _) hrn j0 j1
      · exact h2 i j i0 i1 j0 j1
  have hpv : kbEx2 r q M r col = M q col := by unfold kbEx2; rw [if_pos rfl]
  have hpb := hEb r col (by omega) hrn (by omega) (by omega)
  have hCr : kbCl p r col n (kbEx2 r q M) r = kbEx2 r q M r := funext fun c => if_neg (by omega)
  refine h.yes hp hc (fun x => (kbSat_ex ⟨hq.1, hq.2.1⟩ x).trans (kbSat_el hp hCr (fun i i0 i1 => ⟨kbEx2 r q M r col, -(kbEx2 r q M i col), ?_, fun c c0 c1 => ?_⟩) hrn x)) (fun i j i0 i1 j0 j1 => ?_) (fun i i0 i1 => ?_) ?_ (fun i j i0 i1 j0 j1 => ?_)
  · rw [hpv] at hpb ⊢; omega
  · have e : kbCl p r col n (kbEx2 r q M) i c = (kbEx2 r q M i c * kbEx2 r q M r col - kbEx2 r q M r c * kbEx2 r q M i col) % p := if_pos ⟨i0, i1⟩
    have e2 : kbEx2 r q M r col * kbEx2 r q M i c + -(kbEx2 r q M i col) * kbEx2 r q M r c = kbEx2 r q M i c * kbEx2 r q M r col - kbEx2 r q M r c * kbEx2 r q M i col := by
      rw [Int.neg_mul, Int.mul_comm (kbEx2 r q M i col), Int.mul_comm (kbEx2 r q M r col)]; omega
    rw [e, e2]
    exact kbDvdM _ _
  · unfold kbCl
    split
    · rw [hEz i j i0 i1 j0 j1, hEz r j (Int.le_refl _) hrn j0 j1, Int.zero_mul, Int.zero_mul]; rfl
    · exact hEz i j i0 i1 j0 j1
  · have e : kbCl p r col n (kbEx2 r q M) i col = (kbEx2 r q M i col * kbEx2 r q M r col - kbEx2 r q M r col * kbEx2 r q M i col) % p := if_pos ⟨by omega, i1⟩
    rw [e, Int.mul_comm, Int.sub_self]; rfl
  · rw [hCr, hpv]; exact hq.2.2
  · unfold kbCl
    split
    · exact ⟨Int.emod_nonneg _ (by omega), Int.emod_lt_of_pos _ (by omega)⟩
    · exact hEb i j i0 i1 j0 j1
theorem kb3_eliminate {μ : knMem} {D : kbD} {p : Nat} (hp : p = 3 ∨ p = 5 ∨ p = 7) (h5 : μ 106 5 = D.1) (hn : 0 ≤ D.1 ∧ D.1 ≤ 7) (hM : kbMm μ D.1 (kbMx D p)) :
    kbH (kfX3_eliminate p μ) (fun q => ∃ r : Nat, q.1 = r ∧ r ≤ D.1.toNat ∧ kbTc p D.1.toNat D.1.toNat (fun x => kbId (kbSat p (kbMx D p) D.1.toNat 0 x)) (fun _ => 0) = (p : Int) ^ (D.1.toNat - r) ∧ kbFr 111 117 μ q.2) := by
  obtain ⟨N0, hN0⟩ : ∃ N0 : Int, N0 = kbTc p D.1.toNat D.1.toNat (fun x => kbId (kbSat p (kbMx D p) D.1.toNat 0 x)) (fun _ => 0) := ⟨_, rfl⟩
  rw [← hN0]
  have eD : ((D.1.toNat : Nat) : Int) = D.1 := by omega
  unfold kfX3_eliminate
  refine kbLoop (fun n i (s : Int × knMem) => kfX3_eliminate_l4 p (fun w24 => some (w24.1, w24.2)) n s.1 i s.2) (fun i s => 0 ≤ i ∧ kbFr 111 117 μ s.2 ∧ ∃ (r : Nat) (M : Int → Int → Int), s.1 = r ∧ kbMm s.2 D.1 M ∧ kbEl p D.1.toNat N0 M r i.toNat) D.1 _ ?_ ?_ knF 0 (0, μ) (by omega) (by rw [kbF]; omega) ⟨by omega, kbFr.rf, 0, kbMx D p, rfl, hM, ?_⟩
  · rintro n i ⟨x, s⟩ hi ⟨i0, hf, r, M, hx, hm, hel⟩ kk
    dsimp only at hf hx hm kk ⊢
    subst hx
    obtain ⟨q, hq, q0, q1⟩ := kbPv_ex (M := M) (n := D.1) (lo := r) (col := i) (by have := hel.1; omega)
    have s5 : s 106 5 = D.1 := by rw [hf 106 (by omega)]; exact h5
    have hri := hel.1.1
    have ei : ((i.toNat : Nat) : Int) = i := by omega
    have ei1 : (i + 1).toNat = i.toNat + 1 := by omega
    unfold kfX3_eliminate_l4
    rw [s5, if_neg (by omega), kb3_pivotRow s5 hn hm (by omega) ⟨i0, hi⟩ hq, Option.bind_some, knW_id (x := i + 1) (by omega)]
    dsimp only
    rcases hq with ⟨a0, a1, a2, a3⟩ | ⟨a0, a1⟩
    · rw [if_neg (by omega)]
      refine (kb3_exchangeRows s5 hn hm (by omega) (by omega)).bind (fun s1 ⟨b1, b2⟩ => ?_)
      have hEb : ∀ c a : Int, 0 ≤ c → c < D.1 → 0 ≤ a → a < D.1 → 0 ≤ kbEx2 r q M c a ∧ kbEx2 r q M c a < p := by
        intro c a c0 c1 a0' a1'
        unfold kbEx2
        split
        · exact hel.2.2.1 q a (by omega) (by omega) a0' (by omega)
        · split
          · exact hel.2.2.1 r a (by omega) (by omega) a0' (by omega)
          · exact hel.2.2.1 c a c0 (by omega) a0' (by omega)
      rw [knW_id (x := (r : Int) + 1) (by omega)]
      refine kbLoop (fun n1 j m => kfX3_eliminate_l41 p r i (fun w23 => kfX3_eliminate_l4 p (fun w24 => some (w24.1, w24.2)) n ((r : Int) + 1) (i + 1) w23) n1 j m) (fun j m => (r : Int) + 1 ≤ j ∧ kbFr 111 117 μ m ∧ kbMm m D.1 (kbCl p r i j (kbEx2 r q M))) D.1 _ ?_ ?_ _ _ _ (by omega) (by rw [kbF]; omega) ⟨Int.le_refl _, hf.trans b2, fun c a c0 c1 a0' a1' => ?_⟩
      · intro n1 j m hj ⟨j0, hg, hm1⟩ kk1
        have m5 : m 106 5 = D.1 := by rw [hg 106 (by omega)]; exact h5
        simp only [kfX3_eliminate_l41, kbH_ite]
        rw [m5, knW_id (x := j + 1) (by omega)]
        refine ⟨fun h => by omega, fun _ => ?_⟩
        exact (kb3_cancel hp m5 hn hm1 hEb (by omega) hj ⟨i0, hi⟩).bind (fun m2 ⟨c1, c2⟩ => kk1 m2 ⟨by omega, hg.trans c2, c1⟩)
      · intro n1 m ⟨j0, hg, hm1⟩
        have m5 : m 106 5 = D.1 := by rw [hg 106 (by omega)]; exact h5
        simp only [kfX3_eliminate_l41, kbH_ite]
        rw [m5]
        refine ⟨fun _ => kk ((r : Int) + 1, m) ⟨by omega, hg, r + 1, _, by dsimp only; omega, hm1, ?_⟩, fun h => absurd (Int.le_refl _) h⟩
        have h9 := kbCl_el hp hel (by omega) (q := q) ⟨a0, by omega, by rw [ei]; exact a2⟩
        rw [ei, eD] at h9
        rw [ei1]
        exact h9
      · have e : kbCl p r i ((r : Int) + 1) (kbEx2 r q M) c a = kbEx2 r q M c a := if_neg (by omega)
        rw [e]
        exact b1 c a c0 c1 a0' a1'
    · rw [if_pos (by omega)]
      refine kk (r, s) ⟨by omega, hf, r, M, rfl, hm, ?_⟩
      rw [ei1]
      exact hel.no (by omega) (fun c c0 c1 => by rw [ei]; exact a1 c c0 (by omega))
  · rintro n ⟨x, s⟩ ⟨i0, hf, r, M, hx, hm, hel⟩
    dsimp only at hf hx hm ⊢
    have s5 : s 106 5 = D.1 := by rw [hf 106 (by omega)]; exact h5
    unfold kfX3_eliminate_l4
    rw [s5, if_pos (by omega)]
    exact kbH_some.mpr ⟨r, hx, hel.1.1, hel.fin, hf⟩
  · rw [hN0]
    exact kbEl_0 (fun i j _ _ _ _ => kbMx_in hp i j)
theorem kbPwA : ∀ p : Nat, p < 8 → ∀ k : Nat, k < 8 → p ^ k ≤ 823543 := by decide +kernel
theorem kb3_count {μ : knMem} {D : kbD} {p : Nat} (hp : p = 3 ∨ p = 5 ∨ p = 7) (hA : kbA μ 2 D) (hB : kbB D) : kbH (kfX3_countByElimination 2 p μ) (fun q => q.1 = kbCv D p ∧ kbFr 106 117 μ q.2) := by
  have hn := hB.1
  unfold kfX3_countByElimination
  refine (kb3_readArcs hA hB).bind (fun q1 ⟨a1, a2⟩ => ?_)
  refine (kb3_fillRows hp a1 hn).bind (fun q2 ⟨b1, b2⟩ => ?_)
  have hA2 : kbA q2 2 D := (hA.fr a2 (by omega)).fr b2 (by omega)
  have q25 : q2 106 5 = D.1 := by rw [b2 106 (by omega)]; exact a1.1
  unfold kfX5_arcs
  rw [Option.bind_some, hA2.1]
  refine (kb3_eliminate hp q25 hn b1).bind (fun q3 ⟨r, c1, c2, c3, c4⟩ => ?_)
  obtain ⟨k, hk⟩ : ∃ k : Nat, (k : Int) = (if D.1 = 0 then 1 else D.1) - r := ⟨((if D.1 = 0 then 1 else D.1) - (r : Int)).toNat, by split <;> omega⟩
  have hk8 : k < 8 := by split at hk <;> omega
  rw [c1, knW_id (by split <;> omega), ← hk]
  have hv : (p : Int) ^ k = kbCv D p := by
    unfold kbCv
    by_cases hz : D.1 = 0
    · rw [if_pos hz] at hk ⊢
      have : k = 1 := by omega
      rw [this, Int.pow_succ, Int.pow_zero, Int.one_mul]
    · rw [if_neg hz] at hk ⊢
      rw [c3]
      congr 1
      omega
  refine kbLoop (fun n i (x : Int) => kfX3_countByElimination_l27 p k q3.2 (fun w14 => some (w14, q3.2)) n x i) (fun i x => 0 ≤ i ∧ x = (p : Int) ^ i.toNat) k _ ?_ ?_ knF 0 1 (by omega) (by rw [kbF]; omega) ⟨by omega, rfl⟩
  · intro n i x hi ⟨i0, hx⟩ kk
    have h9 := kbPwA p (by omega) (i.toNat + 1) (by omega)
    have e : x * (p : Int) = ((p ^ (i.toNat + 1) : Nat) : Int) := by rw [hx, Int.natCast_pow, Int.pow_succ]
    simp only [kfX3_countByElimination_l27, kbH_ite]
    rw [knW_id (x := i + 1) (by omega), knW_id (x := x * (p : Int)) (by omega)]
    refine ⟨fun h => by omega, fun _ => kk _ ⟨by omega, ?_⟩⟩
    rw [e, show (i + 1).toNat = i.toNat + 1 by omega, Int.natCast_pow]
  · intro n x ⟨i0, hx⟩
    simp only [kfX3_countByElimination_l27, kbH_ite]
    refine ⟨fun _ => kbH_some.mpr ⟨?_, ((a2.wd (by omega) (by omega)).trans (b2.wd (by omega) (by omega))).trans (c4.wd (by omega) (by omega))⟩, fun h => absurd (Int.le_refl _) h⟩
    rw [← hv, hx, Int.toNat_natCast]
