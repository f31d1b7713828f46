/-! The cases: errors, output, typing. Text. -/
theorem kbChr : ∀ n : Nat, n < 127 → knNc (n : Int) = n ∧ knI2c (n : Int) = n := by decide +kernel
theorem kbCh {x : Int} (h : 0 ≤ x ∧ x < 127) : knNc x = x ∧ knI2c x = x := by
  have h1 := kbChr x.toNat (by omega)
  have e : ((x.toNat : Nat) : Int) = x := by omega
  rw [e] at h1
  exact h1
theorem kbLk_53 {μ : knMem} (hI : kbIv μ) (x1 x2 x3 x4 : Int) : kbH (kfLc_53 x1 x2 x3 x4 μ) kbIv := by
  obtain ⟨-, -, -, -, -, ⟨he1, he2⟩, -⟩ := id hI
  unfold kfLc_53
  refine kbTry (P := kbK μ) (lc := kbC1 (if μ 0 12 = -1 then 5 else 0)) (v := μ 0 12) (fun x => x) ?_ (fun μ1 h1 => ?_)
  · unfold kfL_errorPosition kfX12_errorPosition
    refine kbQ1 (a := 5) (fun x => x) (c := if μ 0 12 = -1 then 5 else 0) (v := if μ 0 12 = -1 then 0 else μ 0 12) ?_ (by split <;> omega) (by omega) (fun h => ?_)
    · split <;> rfl
    · split at h
      · omega
      · rename_i h9; rw [if_neg h9]
  · have hI1 := hI.K h1
    have e : knUp μ1 142 0 0 142 23 = μ 0 12 := by rw [kbUp, if_neg (by omega), h1.2.1 23 (by omega) (by omega) (by omega) (by omega) (by omega), he1]
    unfold kfX13_errorPosition
    rw [e]
    by_cases h : μ 0 12 = -1
    · rw [if_pos h, if_neg (by omega)]
      refine kbH.bind (kbQf (c := 1) (fun x => x) hI1 (kbK0 kbK.rf) (kbUp9 _)) (fun r ⟨r1, r2, r3⟩ => kbH_some.mpr ⟨r1, fun h => absurd (kbC1_0 h) (by omega), r2, r3⟩)
    · rw [if_neg h, if_pos (by omega), Option.bind_some]
      exact kbH_some.mpr ⟨kbUp0 μ1, fun _ => rfl, kbUp9 μ1, hI1.K (kbK0 kbK.rf)⟩
theorem kbLk_54 {μ : knMem} (hI : kbIv μ) (x1 x2 x3 x4 : Int) : kbH (kfLc_54 x1 x2 x3 x4 μ) kbIv := by
  obtain ⟨-, -, -, -, -, -, ⟨he1, he2⟩⟩ := id hI
  unfold kfLc_54
  refine kbTry (P := kbK μ) (lc := kbC1 (if μ 0 13 = -1 then 5 else 0)) (v := μ 0 13) (fun x => x) ?_ (fun μ1 h1 => ?_)
  · unfold kfL_failedCommand kfX12_failedCommand
    refine kbQ1 (a := 5) (fun x => x) (c := if μ 0 13 = -1 then 5 else 0) (v := if μ 0 13 = -1 then 0 else μ 0 13) ?_ (by split <;> omega) (by omega) (fun h => ?_)
    · split <;> rfl
    · split at h
      · omega
      · rename_i h9; rw [if_neg h9]
  · have hI1 := hI.K h1
    have e : knUp μ1 142 0 0 142 24 = μ 0 13 := by rw [kbUp, if_neg (by omega), h1.2.1 24 (by omega) (by omega) (by omega) (by omega) (by omega), he1]
    unfold kfX13_failedCommand
    rw [e]
    by_cases h : μ 0 13 = -1
    · rw [if_pos h, if_neg (by omega)]
      refine kbH.bind (kbQf (c := 1) (fun x => x) hI1 (kbK0 kbK.rf) (kbUp9 _)) (fun r ⟨r1, r2, r3⟩ => kbH_some.mpr ⟨r1, fun h => absurd (kbC1_0 h) (by omega), r2, r3⟩)
    · rw [if_neg h, if_pos (by omega), Option.bind_some]
      exact kbH_some.mpr ⟨kbUp0 μ1, fun _ => rfl, kbUp9 μ1, hI1.K (kbK0 kbK.rf)⟩
theorem kbLk_50 {μ : knMem} (hI : kbIv μ) (x1 x2 x3 x4 : Int) : kbH (kfLc_50 x1 x2 x3 x4 μ) kbIv := by
  obtain ⟨-, -, -, -, ⟨ho1, ho2, ho3⟩, -⟩ := id hI
  obtain ⟨c, hc⟩ : ∃ c : Int, c = (if 0 ≤ x1 ∧ x1 < μ 140 1 then 0 else 1) := ⟨_, rfl⟩
  unfold kfLc_50
  refine kbTry (P := kbK μ) (lc := kbC1 c) (v := μ 141 x1) (fun x => x) ?_ (fun μ1 h1 => ?_)
  · unfold kfL_outputAt kfX12_outputAt
    refine kbQ1 (a := 1) (fun x => x) (c := c) (v := if 0 ≤ x1 ∧ x1 < μ 140 1 then μ 141 x1 else 0) ?_ (by rw [hc]; split <;> omega) (by omega) (fun h => ?_)
    · rw [hc]
      by_cases g1 : x1 < 0
      · simp only [if_pos g1]
        rw [if_neg (by omega), if_neg (by omega)]
      · by_cases g2 : x1 < μ 140 1
        · simp only [if_neg g1, if_pos g2]
          rw [kbGd (by omega), if_pos (by omega), if_pos (by omega)]
        · simp only [if_neg g1, if_neg g2]
          rw [if_neg (by omega), if_neg (by omega)]
    · rw [hc] at h
      split at h
      · rename_i h9; rw [if_pos h9]
      · omega
  · have hI1 := hI.K h1
    have e : knUp μ1 142 0 0 142 19 = μ 140 1 := by rw [kbUp, if_neg (by omega), h1.2.1 19 (by omega) (by omega) (by omega) (by omega) (by omega), ho2]
    unfold kfX13_outputAt
    rw [e, knW_id (by omega), kb13_between, Option.bind_some]
    by_cases h : 0 ≤ x1 ∧ x1 < μ 140 1
    · rw [if_pos (show 0 ≤ x1 ∧ x1 ≤ μ 140 1 - 1 by omega), if_neg (show ¬ (1 : Int) = 0 by omega), kbGd (by omega)]
      rw [if_pos h] at hc
      rw [hc]
      refine kbH_some.mpr ⟨kbUp0 μ1, fun _ => ?_, kbUp9 μ1, hI1.K (kbK0 kbK.rf)⟩
      show knUp μ1 142 0 0 156 x1 = μ 141 x1
      rw [knUp_ne (by omega), h1.1 156 (by omega)]
      exact ho3 x1 h.1 h.2
    · rw [if_neg (show ¬ (0 ≤ x1 ∧ x1 ≤ μ 140 1 - 1) by omega), if_pos rfl]
      rw [if_neg h] at hc
      rw [hc]
      exact (kbQf (c := 1) knI2c hI1 (kbK0 kbK.rf) (kbUp9 _)).mono (fun r ⟨r1, r2, r3⟩ => ⟨r1, fun h => absurd (kbC1_0 h) (by omega), r2, r3⟩)
theorem kbLk_51 {μ : knMem} (hI : kbIv μ) (x1 x2 x3 x4 : Int) : kbH (kfLc_51 x1 x2 x3 x4 μ) kbIv := by
  obtain ⟨⟨S, hC, hR⟩, hH, hs, ⟨ht1, ht2, ht3⟩, ho, he, hf⟩ := id hI
  unfold kfLc_51
  obtain ⟨a, ha⟩ : ∃ a : Int, a = knI2c x1 := ⟨_, rfl⟩
  rw [← ha]
  by_cases g1 : 32 ≤ a ∧ a ≤ 126
  · by_cases g2 : μ 137 2 < 60
    · have hn := (kbCh (x := a) (by omega)).1
      refine kbTry (P := fun m => m 137 2 = μ 137 2 + 1 ∧ (∀ k : Int, m 138 k = if k = μ 137 2 then a else μ 138 k) ∧ ∀ o : Int, o ≠ 137 → o ≠ 138 → o ≠ 159 → m o = μ o) (lc := 0) (v := μ 137 2 + 1) (fun x => x) ?_ (fun μ1 ⟨h1, h2, h3⟩ => ?_)
      · unfold kfL_type kfX12_type kfX9_append
        simp only
        have e1 : ∀ v : Int, knUp μ 138 (μ 137 2) v 137 2 = μ 137 2 := fun v => by rw [knUp_ne (by omega)]
        rw [if_neg (by omega), if_pos (by omega), if_pos g2, if_neg (by omega), kbGd (by omega), hn, e1, knW_id (by omega)]
        simp only [Option.bind_some, if_true, kbUpS]
        rw [kbH_some]
        dsimp only
        refine ⟨rfl, fun _ => kbUpS _ _ _ _, ?_, fun k => ?_, fun o o1 o2 o3 => ?_⟩
        · rw [knUp_ne (by omega), kbUpS]
        · rw [knUp_ne (by omega), knUp_ne (by omega), kbUp]
          by_cases hk : k = μ 137 2
          · rw [if_pos ⟨rfl, hk⟩, if_pos hk]
          · rw [if_neg (by omega), if_neg hk]
        · rw [knUp_ne o3, knUp_ne o1, knUp_ne o2]
      · have e21 : knUp μ1 142 0 0 142 21 = μ 137 2 := by rw [kbUp, if_neg (by omega), h3 142 (by omega) (by omega) (by omega), ht2]
        unfold kfX13_type
        rw [kb13_between, if_pos g1, Option.bind_some, if_neg (by omega), e21, if_neg (by omega), kbGd (by omega), hn]
        have e2 : ∀ v : Int, knUp (knUp μ1 142 0 0) 157 (μ 137 2) v 142 21 = μ 137 2 := fun v => by rw [knUp_ne (by omega)]; exact e21
        rw [e2, knW_id (by omega), kbH_some]
        dsimp only
        have g142 : ∀ i : Int, i ≠ 0 → i ≠ 21 → knUp (knUp (knUp μ1 142 0 0) 157 (μ 137 2) a) 142 21 (μ 137 2 + 1) 142 i = μ 142 i := fun i h0 h9 => by rw [kbUp, if_neg (by omega), knUp_ne (by omega), kbUp, if_neg (by omega), h3 142 (by omega) (by omega) (by omega)]
        have gx : ∀ o : Int, o ≠ 142 → o ≠ 157 → knUp (knUp (knUp μ1 142 0 0) 157 (μ 137 2) a) 142 21 (μ 137 2 + 1) o = μ1 o := fun o h1 h2 => by rw [knUp_ne h1, knUp_ne h2, knUp_ne h1]
        have gy : ∀ o : Int, o ≠ 142 → o ≠ 157 → o ≠ 137 → o ≠ 138 → o ≠ 159 → knUp (knUp (knUp μ1 142 0 0) 157 (μ 137 2) a) 142 21 (μ 137 2 + 1) o = μ o := fun o h1 h2 h4 h5 h6 => (gx o h1 h2).trans (h3 o h4 h5 h6)
        refine ⟨?_, fun _ => kbUpS _ _ _ _, gx 159 (by omega) (by omega), ?_⟩
        · rw [kbUp, if_neg (by omega), knUp_ne (by omega), kbUp0]
        · refine ⟨⟨S, hC.sm (fun o _ _ => gy o (by omega) (by omega) (by omega) (by omega) (by omega)), by rw [gy 143 (by omega) (by omega) (by omega) (by omega) (by omega)]; exact hR⟩, hH.sm (fun o _ _ => gy o (by omega) (by omega) (by omega) (by omega) (by omega)) (by rw [gy 23 (by omega) (by omega) (by omega) (by omega) (by omega)]) (by rw [gy 23 (by omega) (by omega) (by omega) (by omega) (by omega)]) (g142 5 (by omega) (by omega)) (g142 6 (by omega) (by omega)) (gy 144 (by omega) (by omega) (by omega) (by omega) (by omega)), ?_, ?_, ?_, ?_, ?_⟩
          · rw [gy 0 (by omega) (by omega) (by omega) (by omega) (by omega), g142 7 (by omega) (by omega), gy 145 (by omega) (by omega) (by omega) (by omega) (by omega)]
            rcases hs with hs | ⟨a1, a2, T, t1, t2⟩
            · exact Or.inl hs
            · exact Or.inr ⟨a1, a2, T, t1.sm (fun o _ _ => gy o (by omega) (by omega) (by omega) (by omega) (by omega)), t2⟩
          · rw [gx 137 (by omega) (by omega), h1, gx 138 (by omega) (by omega)]
            refine ⟨by omega, kbUpS _ _ _ _, fun k k0 k1 => ?_⟩
            rw [h2 k, knUp_ne (by omega), kbUp]
            by_cases hk : k = μ 137 2
            · rw [if_pos ⟨rfl, hk⟩, if_pos hk]; exact ⟨rfl, g1⟩
            · rw [if_neg (by omega), if_neg hk, knUp_ne (by omega), h3 157 (by omega) (by omega) (by omega)]
              exact ht3 k k0 (by omega)
          · rw [gy 140 (by omega) (by omega) (by omega) (by omega) (by omega), gy 156 (by omega) (by omega) (by omega) (by omega) (by omega), gy 141 (by omega) (by omega) (by omega) (by omega) (by omega), g142 19 (by omega) (by omega)]; exact ho
          · rw [gy 0 (by omega) (by omega) (by omega) (by omega) (by omega), g142 23 (by omega) (by omega)]; exact he
          · rw [gy 0 (by omega) (by omega) (by omega) (by omega) (by omega), g142 24 (by omega) (by omega)]; exact hf
    · refine kbTry (P := kbK μ) (lc := 2) (v := 0) (fun x => x) ?_ (fun μ1 h1 => ?_)
      · unfold kfL_type kfX12_type
        simp only
        rw [if_neg (by omega), if_pos (by omega), if_neg g2, Option.bind_some, if_neg (show ¬ (3 : Int) = 0 by omega), if_neg (show ¬ (3 : Int) = 2 by omega), if_pos rfl]
        exact kbH_some.mpr ⟨rfl, fun h => absurd h (by decide), kbK.rf⟩
      · have hI1 := hI.K h1
        have e21 : knUp μ1 142 0 0 142 21 = 60 := by rw [kbUp, if_neg (by omega), h1.2.1 21 (by omega) (by omega) (by omega) (by omega) (by omega), ht2]; omega
        unfold kfX13_type
        rw [kb13_between, if_pos g1, Option.bind_some, if_neg (by omega), if_pos e21]
        exact (kbQf (c := 2) (fun x => x) hI1 (kbK0 kbK.rf) (kbUp9 _)).mono (fun r ⟨r1, r2, r3⟩ => ⟨r1, fun h => absurd h (by decide), r2, r3⟩)
  · refine kbTry (P := kbK μ) (lc := 1) (v := 0) (fun x => x) ?_ (fun μ1 h1 => ?_)
    · unfold kfL_type kfX12_type
      simp only
      have hno : kbH (Option.bind (some ((2 : Int), (0 : Int), μ)) (fun q1 => if q1.1 = 0 then some ((0 : Int), (knUp q1.2.2 159 0 q1.2.1)) else if q1.1 = 2 then some (1, q1.2.2) else if q1.1 = 3 then some (2, q1.2.2) else none)) (fun r => r.1 = 1 ∧ ((1 : Int) = 0 → r.2 159 0 = 0) ∧ kbK μ r.2) := by
        rw [Option.bind_some, if_neg (show ¬ (2 : Int) = 0 by omega), if_pos rfl]
        exact kbH_some.mpr ⟨rfl, fun h => absurd h (by decide), kbK.rf⟩
      by_cases g3 : a < 32
      · rw [if_pos g3]; exact hno
      · rw [if_neg g3, if_neg (by omega)]; exact hno
    · have hI1 := hI.K h1
      unfold kfX13_type
      rw [kb13_between, if_neg g1, Option.bind_some, if_pos rfl]
      exact (kbQf (c := 1) (fun x => x) hI1 (kbK0 kbK.rf) (kbUp9 _)).mono (fun r ⟨r1, r2, r3⟩ => ⟨r1, fun h => absurd h (by decide), r2, r3⟩)
/-! Text put and written. -/
def kbTt (row : Int → Int) (len : Int) (t : List Int) : Prop := len = t.length ∧ ∀ k : Nat, k < t.length → row k = t.getD k 0
theorem kbTt.add {row : Int → Int} {len : Int} {t : List Int} (h : kbTt row len t) (a : Int) {row' : Int → Int} (hr : ∀ k : Int, row' k = if k = len then a else row k) : kbTt row' (len + 1) (t ++ [a]) := by
  obtain ⟨h1, h2⟩ := h
  refine ⟨by rw [h1, List.length_append]; simp, fun k hk => ?_⟩
  rw [List.length_append] at hk
  have hk : k < t.length + 1 := hk
  rw [hr, List.getD_eq_getElem?_getD]
  by_cases h9 : k = t.length
  · rw [if_pos (by omega), h9, List.getElem?_append_right (Nat.le_refl _), Nat.sub_self]
    rfl
  · rw [if_neg (by omega), List.getElem?_append_left (by omega), ← List.getD_eq_getElem?_getD]
    exact h2 k (by omega)
/-- nothing of the class has changed but its text; of the reference -/
def kbT7 (μ μ' : knMem) : Prop := ∀ o : Int, o ≠ 140 → o ≠ 141 → μ' o = μ o
def kbT13 (μ μ' : knMem) : Prop := (∀ o : Int, o ≠ 142 → o ≠ 156 → μ' o = μ o) ∧ ∀ i : Int, i ≠ 19 → μ' 142 i = μ 142 i
theorem kbT7.trans {μ μ1 μ2 : knMem} (h : kbT7 μ μ1) (h2 : kbT7 μ1 μ2) : kbT7 μ μ2 := fun o a b => (h2 o a b).trans (h o a b)
theorem kbT13.trans {μ μ1 μ2 : knMem} (h : kbT13 μ μ1) (h2 : kbT13 μ1 μ2) : kbT13 μ μ2 := ⟨fun o a b => (h2.1 o a b).trans (h.1 o a b), fun i a => (h2.2 i a).trans (h.2 i a)⟩
theorem kbT7.rf {μ : knMem} : kbT7 μ μ := fun _ _ _ => rfl
theorem kbT13.rf {μ : knMem} : kbT13 μ μ := ⟨fun _ _ _ => rfl, fun _ _ => rfl⟩
abbrev kbX7 (μ : knMem) (t : List Int) : Prop := kbTt (μ 141) (μ 140 1) t
abbrev kbX13 (μ : knMem) (t : List Int) : Prop := kbTt (μ 156) (μ 142 19) t
theorem kb7_put {μ : knMem} {t : List Int} {a : Int} (h : kbX7 μ t) (hl : t.length < 256) : kbH (kfX7_put a μ) (fun μ' => kbX7 μ' (t ++ [knNc a]) ∧ kbT7 μ μ') := by
  have h1 := h.1
  unfold kfX7_put
  have e1 : ∀ v : Int, knUp μ 141 (μ 140 1) v 140 1 = μ 140 1 := fun v => by rw [knUp_ne (by omega)]
  rw [if_neg (by omega), kbGd (by omega), Option.bind_some, kbH_some, e1, knW_id (by omega)]
  refine ⟨?_, fun o o1 o2 => by rw [knUp_ne o1, knUp_ne o2]⟩
  unfold kbX7
  rw [kbUpS, knUp_ne (by omega)]
  refine h.add _ (fun k => ?_)
  rw [kbUp]
  by_cases hk : k = μ 140 1
  · rw [if_pos ⟨rfl, hk⟩, if_pos hk]
  · rw [if_neg (by omega), if_neg hk]
theorem kb13_writes {μ : knMem} {t : List Int} {a : Int} (h : kbX13 μ t) (hl : t.length < 300) : kbH (kfX13_writes a μ) (fun μ' => kbX13 μ' (t ++ [knNc (knI2c a)]) ∧ kbT13 μ μ') := by
  have h1 := h.1
  unfold kfX13_writes
  have e1 : ∀ v : Int, knUp μ 156 (μ 142 19) v 142 19 = μ 142 19 := fun v => by rw [knUp_ne (by omega)]
  rw [kbGd (by omega), kbH_some, e1, knW_id (by omega)]
  refine ⟨?_, fun o o1 o2 => by rw [knUp_ne o1, knUp_ne o2], fun i hi => by rw [kbUp, if_neg (by omega), knUp_ne (by omega)]⟩
  unfold kbX13
  rw [kbUpS, knUp_ne (by omega)]
  refine h.add _ (fun k => ?_)
  rw [kbUp]
  by_cases hk : k = μ 142 19
  · rw [if_pos ⟨rfl, hk⟩, if_pos hk]
  · rw [if_neg (by omega), if_neg hk]
/-- a number's digits, a number -/
def kbDg (x : Int) : List Int := (if 1000 ≤ x then [48 + x / 1000 % 10] else []) ++ (if 100 ≤ x then [48 + x / 100 % 10] else []) ++ (if 10 ≤ x then [48 + x / 10 % 10] else []) ++ [48 + x % 10]
def kbNu (v : Int) : List Int := if 0 ≤ v then kbDg v else 45 :: kbDg (-v)
theorem kbDg_le (x : Int) : (kbDg x).length ≤ 4 := by
  unfold kbDg
  split <;> split <;> split <;> simp
theorem kbNu_le (v : Int) : (kbNu v).length ≤ 5 := by
  unfold kbNu
  split
  · have := kbDg_le v; omega
  · have := kbDg_le (-v)
    show (kbDg (-v)).length + 1 ≤ 5
    omega
theorem kb7_digits {μ : knMem} {t : List Int} {x : Int} (hx : 0 ≤ x ∧ x ≤ 9999) (h : kbX7 μ t) (hl : t.length < 250) (n : Nat) : kbH (kfX7_putNumber_l18 x (fun w32 => some w32) (n + 11) 1000000000 μ) (fun μ' => kbX7 μ' (t ++ kbDg x) ∧ kbT7 μ μ') := by
  have d1 : knDiv 1000000000 10 = 100000000 := by decide
  have d2 : knDiv 100000000 10 = 10000000 := by decide
  have d3 : knDiv 10000000 10 = 1000000 := by decide
  have d4 : knDiv 1000000 10 = 100000 := by decide
  have d5 : knDiv 100000 10 = 10000 := by decide
  have d6 : knDiv 10000 10 = 1000 := by decide
  have d7 : knDiv 1000 10 = 100 := by decide
  have d8 : knDiv 100 10 = 10 := by decide
  have d9 : knDiv 10 10 = 1 := by decide
  have d10 : knDiv 1 10 = 0 := by decide
  have st : ∀ (m : Nat) (u : Int) (s : knMem), 9999 < u → kfX7_putNumber_l18 x (fun w32 => some w32) (m + 1) u s = kfX7_putNumber_l18 x (fun w32 => some w32) m (knDiv u 10) s := by
    intro m u s hu
    unfold kfX7_putNumber_l18
    rw [if_neg (by omega), if_neg (by omega), if_neg (by omega), Option.bind_some]
    cases m <;> rfl
  have dv : ∀ u : Int, u = 1000 ∨ u = 100 ∨ u = 10 ∨ u = 1 → knNc (knI2c (knW (48 + knRem (knDiv x u) 10))) = 48 + x / u % 10 := by
    intro u hu
    have hq : 0 ≤ x / u ∧ x / u ≤ 9999 := by rcases hu with rfl | rfl | rfl | rfl <;> omega
    rw [kbDv (by omega) (by omega), kbRe (by omega) (by omega), knW_id (by omega), (kbCh (by omega)).2, (kbCh (by omega)).1]
  /- one unit -/
  have pt : ∀ (m : Nat) (u : Int) (s : knMem) (q : List Int) (Q : knMem → Prop), (u = 1000 ∨ u = 100 ∨ u = 10 ∨ u = 1) → kbX7 s q → q.length < 256 → (∀ s' : knMem, kbX7 s' (q ++ (if u ≤ x ∨ u = 1 then [48 + x / u % 10] else [])) → kbT7 s s' → kbH (kfX7_putNumber_l18 x (fun w32 => some w32) m (knDiv u 10) s') Q) → kbH (kfX7_putNumber_l18 x (fun w32 => some w32) (m + 1) u s) Q := by
    intro m u s q Q hu hq hl2 kk
    have hu1 : 0 < u := by omega
    unfold kfX7_putNumber_l18
    rw [if_neg (by omega)]
    by_cases g : u ≤ x
    · rw [if_pos g, kbGd (by omega)]
      rw [if_pos (Or.inl g)] at kk
      refine kbH.bind (P := fun s' => kbX7 s' (q ++ [48 + x / u % 10]) ∧ kbT7 s s') ?_ (fun s' ⟨a1, a2⟩ => kk s' a1 a2)
      refine (kb7_put hq hl2).bind (fun s' ⟨a1, a2⟩ => kbH_some.mpr ⟨by rw [dv u hu] at a1; exact a1, a2⟩)
    · rw [if_neg g]
      by_cases g2 : u = 1
      · rw [if_pos g2, kbGd (by omega)]
        rw [if_pos (Or.inr g2)] at kk
        refine kbH.bind (P := fun s' => kbX7 s' (q ++ [48 + x / u % 10]) ∧ kbT7 s s') ?_ (fun s' ⟨a1, a2⟩ => kk s' a1 a2)
        refine (kb7_put hq hl2).bind (fun s' ⟨a1, a2⟩ => kbH_some.mpr ⟨by rw [dv u hu] at a1; exact a1, a2⟩)
      · rw [if_neg g2, Option.bind_some]
        rw [if_neg (by omega), List.append_nil] at kk
        exact kk s hq kbT7.rf
  rw [st _ _ _ (by omega), d1, st _ _ _ (by omega), d2, st _ _ _ (by omega), d3, st _ _ _ (by omega), d4, st _ _ _ (by omega), d5, st _ _ _ (by omega), d6]
  refine pt _ 1000 μ t _ (by omega) h (by omega) (fun s1 a1 b1 => ?_)
  rw [d7]
  refine pt _ 100 s1 _ _ (by omega) a1 (by split <;> simp <;> omega) (fun s2 a2 b2 => ?_)
  rw [d8]
  refine pt _ 10 s2 _ _ (by omega) a2 (by split <;> split <;> simp <;> omega) (fun s3 a3 b3 => ?_)
  rw [d9]
  refine pt _ 1 s3 _ _ (by omega) a3 (by split <;> split <;> split <;> simp <;> omega) (fun s4 a4 b4 => ?_)
  rw [d10]
  unfold kfX7_putNumber_l18
  rw [if_pos (by omega), kbH_some]
  refine ⟨?_, ((b1.trans b2).trans b3).trans b4⟩
  have e : t ++ kbDg x = t ++ (if (1000 : Int) ≤ x ∨ (1000 : Int) = 1 then [48 + x / 1000 % 10] else []) ++ (if (100 : Int) ≤ x ∨ (100 : Int) = 1 then [48 + x / 100 % 10] else []) ++ (if (10 : Int) ≤ x ∨ (10 : Int) = 1 then [48 + x / 10 % 10] else []) ++ (if (1 : Int) ≤ x ∨ (1 : Int) = 1 then [48 + x / 1 % 10] else []) := by
    unfold kbDg
    rw [Int.ediv_one]
    simp
  rw [e]
  exact a4
theorem kb7_putNumber {μ : knMem} {t : List Int} {v : Int} (hv : -9999 ≤ v ∧ v ≤ 9999) (h : kbX7 μ t) (hl : t.length < 249) : kbH (kfX7_putNumber v μ) (fun μ' => kbX7 μ' (t ++ kbNu v) ∧ kbT7 μ μ') := by
  unfold kfX7_putNumber kfJ9_abs_0f7a4 kbNu
  rw [Option.bind_some]
  by_cases h0 : 0 ≤ v
  · rw [if_pos h0, if_pos h0, Option.bind_some, if_pos h0]
    exact kb7_digits ⟨h0, hv.2⟩ h (by omega) 4085
  · rw [if_neg h0, if_neg h0, if_neg h0, knW_id (by omega)]
    refine kbH.bind (P := fun s' => kbX7 s' (t ++ [45]) ∧ kbT7 μ s') ?_ (fun s' ⟨a1, a2⟩ => ?_)
    · refine (kb7_put h (by omega)).bind (fun s' ⟨a1, a2⟩ => kbH_some.mpr ⟨by rw [(kbCh (x := 45) (by omega)).1] at a1; exact a1, a2⟩)
    · refine (kb7_digits (x := -v) (by omega) a1 (by simp; omega) 4085).mono (fun s2 ⟨b1, b2⟩ => ⟨?_, a2.trans b2⟩)
      rw [List.append_assoc] at b1
      exact b1
theorem kb13_digits {μ : knMem} {t : List Int} {x : Int} (hx : 0 ≤ x ∧ x ≤ 9999) (h : kbX13 μ t) (hl : t.length < 290) (n : Nat) : kbH (kfX13_writesNumber_l23 x μ (fun w11 => kfX13_writesNumber_l42 x (fun w17 => some w17) (n + 6) w11 μ) (n + 6) 1) (fun μ' => kbX13 μ' (t ++ kbDg x) ∧ kbT13 μ μ') := by
  have d7 : knDiv 1000 10 = 100 := by decide
  have d8 : knDiv 100 10 = 10 := by decide
  have d9 : knDiv 10 10 = 1 := by decide
  have d10 : knDiv 1 10 = 0 := by decide
  have dv : ∀ u : Int, u = 1000 ∨ u = 100 ∨ u = 10 ∨ u = 1 → knNc (knI2c (knW (48 + knRem (knDiv x u) 10))) = 48 + x / u % 10 := by
    intro u hu
    have hq : 0 ≤ x / u ∧ x / u ≤ 9999 := by rcases hu with rfl | rfl | rfl | rfl <;> omega
    rw [kbDv (by omega) (by omega), kbRe (by omega) (by omega), knW_id (by omega), (kbCh (by omega)).2, (kbCh (by omega)).1]
  have pt : ∀ (m : Nat) (u : Int) (s : knMem) (q : List Int) (Q : knMem → Prop), (u = 1000 ∨ u = 100 ∨ u = 10 ∨ u = 1) → kbX13 s q → q.length < 300 → (∀ s' : knMem, kbX13 s' (q ++ [48 + x / u % 10]) → kbT13 s s' → kbH (kfX13_writesNumber_l42 x (fun w17 => some w17) m (knDiv u 10) s') Q) → kbH (kfX13_writesNumber_l42 x (fun w17 => some w17) (m + 1) u s) Q := by
    intro m u s q Q hu hq hl2 kk
    unfold kfX13_writesNumber_l42
    rw [if_neg (by omega), kbGd (by omega)]
    refine (kb13_writes hq hl2).bind (fun s' ⟨a1, a2⟩ => kk s' ?_ a2)
    rw [← dv u hu]
    have e : knNc (knI2c (knW (48 + knRem (knDiv x u) 10))) = knNc (knI2c (knW (48 + knRem (knDiv x u) 10))) := rfl
    exact a1
  have en : ∀ (m : Nat) (s : knMem) (Q : knMem → Prop), Q s → kbH (kfX13_writesNumber_l42 x (fun w17 => some w17) (m + 1) (knDiv 1 10) s) Q := by
    intro m s Q hQ
    rw [d10]
    unfold kfX13_writesNumber_l42
    rw [if_pos (by omega)]
    exact kbH_some.mpr hQ
  have l3 : ∀ (m : Nat) (u : Int) (kc : Int → Option knMem), (u = 1000 ∨ u = 100 ∨ u = 10 ∨ u = 1) → x / u ≤ 9 → kfX13_writesNumber_l23 x μ kc (m + 1) u = kc u := by
    intro m u kc hu h9
    unfold kfX13_writesNumber_l23
    rw [kbGd (by omega), kbDv (by omega) (by omega), if_pos h9]
  have l4 : ∀ (m : Nat) (u : Int) (kc : Int → Option knMem), (u = 100 ∨ u = 10 ∨ u = 1) → ¬ x / u ≤ 9 → kfX13_writesNumber_l23 x μ kc (m + 1) u = kfX13_writesNumber_l23 x μ kc m (u * 10) := by
    intro m u kc hu h9
    unfold kfX13_writesNumber_l23
    rw [kbGd (by omega), kbDv (by omega) (by omega), if_neg h9, knW_id (by omega)]
    cases m <;> rfl
  unfold kbDg
  by_cases g1 : x < 10
  · rw [l3 _ 1 _ (by omega) (by omega), if_neg (by omega), if_neg (by omega), if_neg (by omega)]
    refine pt _ 1 μ t _ (by omega) h (by omega) (fun s1 a1 b1 => en _ _ _ ⟨?_, b1⟩)
    rw [Int.ediv_one] at a1
    exact a1
  · rw [l4 _ 1 _ (by omega) (by omega), show (1 : Int) * 10 = 10 from rfl]
    by_cases g2 : x < 100
    · rw [l3 _ 10 _ (by omega) (by omega), if_neg (by omega), if_neg (by omega), if_pos (by omega)]
      refine pt _ 10 μ t _ (by omega) h (by omega) (fun s1 a1 b1 => ?_)
      rw [d9]
      refine pt _ 1 s1 _ _ (by omega) a1 (by simp; omega) (fun s2 a2 b2 => en _ _ _ ⟨?_, b1.trans b2⟩)
      rw [Int.ediv_one, List.append_assoc] at a2
      exact a2
    · rw [l4 _ 10 _ (by omega) (by omega), show (10 : Int) * 10 = 100 from rfl]
      by_cases g3 : x < 1000
      · rw [l3 _ 100 _ (by omega) (by omega), if_neg (by omega), if_pos (by omega), if_pos (by omega)]
        refine pt _ 100 μ t _ (by omega) h (by omega) (fun s1 a1 b1 => ?_)
        rw [d8]
        refine pt _ 10 s1 _ _ (by omega) a1 (by simp; omega) (fun s2 a2 b2 => ?_)
        rw [d9]
        refine pt _ 1 s2 _ _ (by omega) a2 (by simp; omega) (fun s3 a3 b3 => en _ _ _ ⟨?_, (b1.trans b2).trans b3⟩)
        rw [Int.ediv_one] at a3
        simp only [List.append_assoc] at a3 ⊢
        exact a3
      · rw [l4 _ 100 _ (by omega) (by omega), show (100 : Int) * 10 = 1000 from rfl, l3 _ 1000 _ (by omega) (by omega), if_pos (by omega), if_pos (by omega), if_pos (by omega)]
        refine pt _ 1000 μ t _ (by omega) h (by omega) (fun s1 a1 b1 => ?_)
        rw [d7]
        refine pt _ 100 s1 _ _ (by omega) a1 (by simp; omega) (fun s2 a2 b2 => ?_)
        rw [d8]
        refine pt _ 10 s2 _ _ (by omega) a2 (by simp; omega) (fun s3 a3 b3 => ?_)
        rw [d9]
        refine pt _ 1 s3 _ _ (by omega) a3 (by simp; omega) (fun s4 a4 b4 => en _ _ _ ⟨?_, ((b1.trans b2).trans b3).trans b4⟩)
        rw [Int.ediv_one] at a4
        simp only [List.append_assoc] at a4 ⊢
        exact a4
theorem kb13_writesNumber {μ : knMem} {t : List Int} {v : Int} (hv : -9999 ≤ v ∧ v ≤ 9999) (h : kbX13 μ t) (hl : t.length < 289) : kbH (kfX13_writesNumber v μ) (fun μ' => kbX13 μ' (t ++ kbNu v) ∧ kbT13 μ μ') := by
  unfold kfX13_writesNumber kbNu
  by_cases h0 : 0 ≤ v
  · rw [if_pos h0, if_pos h0, Option.bind_some, if_pos h0]
    exact kb13_digits ⟨h0, hv.2⟩ h (by omega) 4090
  · rw [if_neg h0, if_neg h0, if_neg h0, knW_id (by omega)]
    refine kbH.bind (P := fun s' => kbX13 s' (t ++ [45]) ∧ kbT13 μ s') ?_ (fun s' ⟨a1, a2⟩ => ?_)
    · refine (kb13_writes h (by omega)).bind (fun s' ⟨a1, a2⟩ => kbH_some.mpr ⟨by rw [(kbCh (x := 45) (by omega)).2, (kbCh (x := 45) (by omega)).1] at a1; exact a1, a2⟩)
    · refine (kb13_digits (x := -v) (by omega) a1 (by simp; omega) 4090).mono (fun s2 ⟨b1, b2⟩ => ⟨?_, a2.trans b2⟩)
      rw [List.append_assoc] at b1
      exact b1
