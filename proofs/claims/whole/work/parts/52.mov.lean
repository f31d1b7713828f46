/-! The class's moves. -/
theorem kb5_hasCrossing {μ : knMem} {d a : Int} : kfX5_hasCrossing d a μ = some (if 0 ≤ a ∧ a < μ d 3 then 1 else 0) := by
  unfold kfX5_hasCrossing
  by_cases h1 : a < 0
  · simp only [if_pos h1]
    rw [if_neg (by omega)]
  · by_cases h2 : μ d 3 ≤ a
    · simp only [if_neg h1, if_pos h2]
      rw [if_neg (by omega)]
    · simp only [if_neg h1, if_neg h2]
      rw [if_pos (by omega)]
theorem kb5_hasPlace {μ : knMem} {d a : Int} (hn : 0 ≤ μ d 3 ∧ μ d 3 ≤ 7) : kfX5_hasPlace d a μ = some (if 0 ≤ a ∧ a ≤ 2 * μ d 3 then 1 else 0) := by
  unfold kfX5_hasPlace
  rw [knW_id (by omega)]
  by_cases h1 : a < 0
  · simp only [if_pos h1]
    rw [if_neg (by omega)]
  · by_cases h2 : 2 * μ d 3 < a
    · simp only [if_neg h1, if_pos h2]
      rw [if_neg (by omega)]
    · simp only [if_neg h1, if_neg h2]
      rw [if_pos (by omega)]
theorem kb5_hasPosition {μ : knMem} {d a : Int} (hn : 0 ≤ μ d 3 ∧ μ d 3 ≤ 7) : kfX5_hasPosition d a μ = some (if 0 ≤ a ∧ a < 2 * μ d 3 then 1 else 0) := by
  unfold kfX5_hasPosition
  rw [knW_id (by omega)]
  by_cases h1 : a < 0
  · simp only [if_pos h1]
    rw [if_neg (by omega)]
  · by_cases h2 : 2 * μ d 3 ≤ a
    · simp only [if_neg h1, if_pos h2]
      rw [if_neg (by omega)]
    · simp only [if_neg h1, if_neg h2]
      rw [if_pos (by omega)]
/-- a crossing switched -/
def kbSw (c : Int) (D : kbD) : kbD := (D.1, fun k => if k = c then D.2.2.1 k else D.2.1 k, fun k => if k = c then D.2.1 k else D.2.2.1 k, fun k => if k = c then 1 - D.2.2.2 k else D.2.2.2 k)
theorem kb5_exchange {μ : knMem} {d c : Int} {D : kbD} (hA : kbA μ d D) (hB : kbB D) (hc : 0 ≤ c ∧ c < D.1) : kbH (kfX5_exchange d c μ) (fun μ' => kbA μ' d (kbSw c D) ∧ kbFr d (d + 3) μ μ') := by
  obtain ⟨h0, h1⟩ := hA
  have hn := hB.1
  have hk := h1 c hc.1 hc.2
  have hz := (hB.2 c hc.1 hc.2).2.2
  unfold kfX5_exchange
  rw [kbH_gd, kbH_some]
  refine ⟨by omega, ⟨?_, fun k k0 k1 => ?_⟩, ((kbFr.rf.up (by omega)).up (by omega)).up (by omega)⟩
  · show _ = D.1
    simp (disch := omega) only [kbUp, if_pos, if_neg, and_true, true_and, if_true]
    exact h0
  · have k1 : k < D.1 := k1
    have h2 := h1 k k0 k1
    have hz2 : knNz (if D.2.2.2 c = 0 then 1 else 0) = 1 - D.2.2.2 c := by
      rcases hz with hz | hz
      · rw [hz]; rfl
      · rw [hz]; rfl
    by_cases hki : k = c
    · subst hki
      simp (disch := omega) only [kbUp, if_pos, if_neg, and_true, true_and, if_true, kbSw, hk.1, hk.2.1, hk.2.2, hz2, and_self]
    · simp (disch := omega) only [kbUp, if_pos, if_neg, and_true, true_and, if_true, kbSw]
      exact h2
/-- all crossings below c switched -/
def kbSb (c : Int) (D : kbD) : kbD := (D.1, fun k => if k < c then D.2.2.1 k else D.2.1 k, fun k => if k < c then D.2.1 k else D.2.2.1 k, fun k => if k < c then 1 - D.2.2.2 k else D.2.2.2 k)
theorem kbB_sw {D : kbD} {c : Int} (h : kbB D) : kbB (kbSw c D) := by
  refine ⟨h.1, fun k h0 h1 => ?_⟩
  have h2 := h.2 k h0 h1
  by_cases hk : k = c
  · simp only [kbSw, if_pos hk]; exact ⟨h2.2.1, h2.1, by omega⟩
  · simp only [kbSw, if_neg hk]; exact h2
theorem kbB_sb {D : kbD} {c : Int} (h : kbB D) : kbB (kbSb c D) := by
  refine ⟨h.1, fun k h0 h1 => ?_⟩
  have h2 := h.2 k h0 h1
  by_cases hk : k < c
  · simp only [kbSb, if_pos hk]; exact ⟨h2.2.1, h2.1, by omega⟩
  · simp only [kbSb, if_neg hk]; exact h2
/-- equal as far as they go -/
def kbE (D E : kbD) : Prop := D.1 = E.1 ∧ ∀ k : Int, 0 ≤ k → k < D.1 → D.2.1 k = E.2.1 k ∧ D.2.2.1 k = E.2.2.1 k ∧ D.2.2.2 k = E.2.2.2 k
theorem kbA.eq {μ : knMem} {d : Int} {D E : kbD} (h : kbA μ d D) (he : kbE D E) : kbA μ d E := by
  refine ⟨h.1.trans he.1, fun k h0 h1 => ?_⟩
  have h2 := h.2 k h0 (by rw [he.1]; exact h1)
  have h3 := he.2 k h0 (by rw [he.1]; exact h1)
  exact ⟨h2.1.trans h3.1, h2.2.1.trans h3.2.1, h2.2.2.trans h3.2.2⟩
theorem kb5_switchAll {μ : knMem} {d : Int} {D : kbD} (hA : kbA μ d D) (hB : kbB D) : kbH (kfX5_switchAll d μ) (fun r => r.1 = 0 ∧ kbA r.2 d (kbSb D.1 D) ∧ kbFr d (d + 3) μ r.2) := by
  have hn := hB.1
  unfold kfX5_switchAll
  refine kbLoop (fun n i s => kfX5_switchAll_l2 d (fun w6 => some (0, w6)) n i s) (fun i s => 0 ≤ i ∧ kbA s d (kbSb i D) ∧ kbFr d (d + 3) μ s) D.1 _ ?_ ?_ _ _ _ (by omega) (by rw [kbF]; omega) ?_
  · intro n i s hi ⟨i0, hc, hf⟩ kk
    have hc0 : s d 3 = D.1 := hc.1
    simp only [kfX5_switchAll_l2, kbH_ite]
    refine ⟨fun h => by omega, fun _ => ?_⟩
    rw [knW_id (by omega)]
    refine (kb5_exchange hc (kbB_sb hB) ⟨i0, hi⟩).bind (fun s' ⟨h2, h3⟩ => kk s' ⟨by omega, h2.eq ⟨rfl, fun k k0 k1 => ?_⟩, hf.trans h3⟩)
    simp only [kbSw, kbSb]
    by_cases hk : k = i
    · subst hk
      have : k < k + 1 := by omega
      simp [this]
    · by_cases hk2 : k < i
      · have : k < i + 1 := by omega
        simp [hk, hk2, this]
      · have : ¬ k < i + 1 := by omega
        simp [hk, hk2, this]
  · intro n s ⟨i0, hc, hf⟩
    have hc0 : s d 3 = D.1 := hc.1
    simp only [kfX5_switchAll_l2, kbH_ite, kbH_some]
    exact ⟨fun _ => ⟨trivial, hc, hf⟩, fun h => by omega⟩
  · refine ⟨by omega, hA.eq ⟨rfl, fun k k0 k1 => ?_⟩, kbFr.rf⟩
    have : ¬ k < 0 := by omega
    simp [kbSb, this]
/-- positive crossings less negative ones -/
def kbSm (f : Int → Int) : Nat → Int
  | 0 => 0
  | n + 1 => kbSm f n + f n
theorem kbSm_le {f : Int → Int} {b : Int} (n : Nat) (h : ∀ k : Int, 0 ≤ k → k < n → -b ≤ f k ∧ f k ≤ b) : -(b * n) ≤ kbSm f n ∧ kbSm f n ≤ b * n := by
  induction n with
  | zero => simp [kbSm]
  | succ n ih =>
    have h1 := ih (fun k h0 h1 => h k h0 (by omega))
    have h2 := h n (by omega) (by omega)
    unfold kbSm
    have e : b * ((n + 1 : Nat) : Int) = b * n + b := by rw [Int.natCast_add, Int.mul_add]; simp
    rw [e]
    omega
def kbWr (D : kbD) : Int := kbSm (fun k => if D.2.2.2 k = 0 then -1 else 1) D.1.toNat
theorem kb5_signSum {μ : knMem} {d : Int} {D : kbD} (hA : kbA μ d D) (hB : kbB D) : kfX5_signSum d μ = some (kbWr D) := by
  obtain ⟨h0, h1⟩ := hA
  have hn := hB.1
  have key : kbH (kfX5_signSum d μ) (fun r => r = kbWr D) := by
    unfold kfX5_signSum
    refine kbLoop (fun n i (x : Int) => kfX5_signSum_l4 d μ (fun w9 => some w9) n x i) (fun i x => 0 ≤ i ∧ x = kbSm (fun k => if D.2.2.2 k = 0 then -1 else 1) i.toNat) D.1 _ ?_ ?_ _ _ _ (by omega) (by rw [kbF]; omega) ⟨by omega, rfl⟩
    · intro n i x hi ⟨i0, hx⟩ kk
      simp only [kfX5_signSum_l4, kbH_ite, kbH_gd]
      refine ⟨fun h => by omega, fun _ => ⟨by omega, ?_⟩⟩
      have hb := kbSm_le (f := fun k => if D.2.2.2 k = 0 then -1 else 1) (b := 1) i.toNat (fun k _ _ => by split <;> omega)
      rw [(h1 i i0 hi).2.2, knW_id (x := i + 1) (by omega), knW_id (by split <;> omega)]
      refine kk _ ⟨by omega, ?_⟩
      have e : (i + 1).toNat = i.toNat + 1 := by omega
      rw [e, kbSm, hx]
      have e2 : ((i.toNat : Nat) : Int) = i := by omega
      simp only [e2]
    · intro n x ⟨i0, hx⟩
      simp only [kfX5_signSum_l4, kbH_ite, kbH_some]
      exact ⟨fun _ => hx, fun h => by omega⟩
  obtain ⟨a, h2, h3⟩ := key
  rw [h2, h3]
/-- a diagram turned round -/
def kbBk (D : kbD) : kbD := (D.1, fun k => 2 * D.1 - 1 - D.2.1 k, fun k => 2 * D.1 - 1 - D.2.2.1 k, D.2.2.2)
theorem kb5_turnBack {μ : knMem} {d : Int} {D : kbD} (hA : kbA μ d D) (hB : kbB D) : kbH (kfX5_turnBack d μ) (fun r => r.1 = 0 ∧ kbA r.2 d (kbBk D) ∧ kbFr d (d + 3) μ r.2) := by
  obtain ⟨h0, h1⟩ := hA
  obtain ⟨⟨hn0, hn7⟩, hb⟩ := hB
  unfold kfX5_turnBack
  rw [h0, knW_id (x := 2 * D.1) (by omega), knW_id (x := 2 * D.1 - 1) (by omega)]
  refine kbLoop (fun n i s => kfX5_turnBack_l11 d (2 * D.1 - 1) (fun w7 => some (0, w7)) n i s) (fun i s => 0 ≤ i ∧ s d 3 = D.1 ∧ (∀ k : Int, 0 ≤ k → k < i → s (d + 1) k = (kbBk D).2.1 k ∧ s (d + 2) k = (kbBk D).2.2.1 k) ∧ (∀ k : Int, i ≤ k → k < D.1 → s (d + 1) k = D.2.1 k ∧ s (d + 2) k = D.2.2.1 k) ∧ (∀ k : Int, 0 ≤ k → k < D.1 → s (d + 3) k = D.2.2.2 k) ∧ kbFr d (d + 3) μ s) D.1 _ ?_ ?_ _ _ _ (by omega) (by rw [kbF]; omega) ?_
  · intro n i s hi ⟨i0, hc, hr, hr2, hp, hf⟩ kk
    have hbi := hb i i0 hi
    have hri := hr2 i (by omega) hi
    have e1 : ∀ v : Int, knUp s (d + 1) i v (d + 2) i = D.2.2.1 i := fun v => by rw [kbUp, if_neg (by omega)]; exact hri.2
    simp only [kfX5_turnBack_l11, kbH_ite, kbH_gd, e1, hri.1]
    refine ⟨fun h => by omega, fun _ => ⟨by omega, ?_⟩⟩
    rw [knW_id (x := i + 1) (by omega), knW_id (x := 2 * D.1 - 1 - D.2.1 i) (by omega), knW_id (x := 2 * D.1 - 1 - D.2.2.1 i) (by omega)]
    refine kk _ ⟨by omega, ?_, ?_, ?_, ?_, (hf.up (by omega)).up (by omega)⟩
    · simp (disch := omega) only [kbUp, if_pos, if_neg, and_true, true_and, if_true]
      exact hc
    · intro k k0 k1
      by_cases hki : k = i
      · subst hki
        simp (disch := omega) only [kbUp, if_pos, if_neg, and_true, true_and, if_true, kbBk, and_self]
      · simp (disch := omega) only [kbUp, if_pos, if_neg, and_true, true_and, if_true]
        exact hr k k0 (by omega)
    · intro k k0 k1
      simp (disch := omega) only [kbUp, if_pos, if_neg, and_true, true_and, if_true]
      exact hr2 k (by omega) k1
    · intro k k0 k1
      simp (disch := omega) only [kbUp, if_pos, if_neg, and_true, true_and, if_true]
      exact hp k k0 k1
  · intro n s ⟨i0, hc, hr, _, hp, hf⟩
    simp only [kfX5_turnBack_l11, kbH_ite, kbH_some]
    exact ⟨fun _ => ⟨trivial, ⟨hc, fun k a1 a2 => ⟨(hr k a1 a2).1, (hr k a1 a2).2, hp k a1 a2⟩⟩, hf⟩, fun h => by omega⟩
  · exact ⟨by omega, h0, fun k _ _ => by omega, fun k k0 k1 => ⟨(h1 k k0 k1).1, (h1 k k0 k1).2.1⟩, fun k k0 k1 => (h1 k k0 k1).2.2, kbFr.rf⟩
/-- room for two passes -/
def kbWi (p : Int) (D : kbD) : kbD := (D.1, fun k => D.2.1 k + (if D.2.1 k < p then 0 else 2), fun k => D.2.2.1 k + (if D.2.2.1 k < p then 0 else 2), D.2.2.2)
theorem kb5_widen {μ : knMem} {d p : Int} {D : kbD} (hA : kbA μ d D) (hn : 0 ≤ D.1 ∧ D.1 ≤ 7) (hb : ∀ k : Int, 0 ≤ k → k < D.1 → (0 ≤ D.2.1 k ∧ D.2.1 k < 100) ∧ (0 ≤ D.2.2.1 k ∧ D.2.2.1 k < 100)) : kbH (kfX5_widen d p μ) (fun μ' => kbA μ' d (kbWi p D) ∧ kbFr d (d + 3) μ μ') := by
  obtain ⟨h0, h1⟩ := hA
  unfold kfX5_widen
  refine kbLoop (fun n i s => kfX5_widen_l2 d p (fun w16 => some w16) n i s) (fun i s => 0 ≤ i ∧ s d 3 = D.1 ∧ (∀ k : Int, 0 ≤ k → k < i → s (d + 1) k = (kbWi p D).2.1 k ∧ s (d + 2) k = (kbWi p D).2.2.1 k) ∧ (∀ k : Int, i ≤ k → k < D.1 → s (d + 1) k = D.2.1 k ∧ s (d + 2) k = D.2.2.1 k) ∧ (∀ k : Int, 0 ≤ k → k < D.1 → s (d + 3) k = D.2.2.2 k) ∧ kbFr d (d + 3) μ s) D.1 _ ?_ ?_ _ _ _ (by omega) (by rw [kbF]; omega) ?_
  · intro n i s hi ⟨i0, hc, hr, hr2, hp, hf⟩ kk
    have hbi := hb i i0 hi
    have hri := hr2 i (by omega) hi
    have e1 : ∀ v : Int, knUp s (d + 1) i v (d + 2) i = D.2.2.1 i := fun v => by rw [kbUp, if_neg (by omega)]; exact hri.2
    simp only [kfX5_widen_l2, kbH_ite, kbH_gd, e1, hri.1]
    refine ⟨fun h => by omega, fun _ => ⟨by omega, ?_⟩⟩
    rw [knW_id (x := i + 1) (by omega), knW_id (x := D.2.1 i + _) (by split <;> omega), knW_id (x := D.2.2.1 i + _) (by split <;> omega)]
    refine kk _ ⟨by omega, ?_, ?_, ?_, ?_, (hf.up (by omega)).up (by omega)⟩
    · simp (disch := omega) only [kbUp, if_pos, if_neg, and_true, true_and, if_true]
      exact hc
    · intro k k0 k1
      by_cases hki : k = i
      · subst hki
        simp (disch := omega) only [kbUp, if_pos, if_neg, and_true, true_and, if_true, kbWi, and_self]
      · simp (disch := omega) only [kbUp, if_pos, if_neg, and_true, true_and, if_true]
        exact hr k k0 (by omega)
    · intro k k0 k1
      simp (disch := omega) only [kbUp, if_pos, if_neg, and_true, true_and, if_true]
      exact hr2 k (by omega) k1
    · intro k k0 k1
      simp (disch := omega) only [kbUp, if_pos, if_neg, and_true, true_and, if_true]
      exact hp k k0 k1
  · intro n s ⟨i0, hc, hr, _, hp, hf⟩
    simp only [kfX5_widen_l2, kbH_ite, kbH_some]
    exact ⟨fun _ => ⟨⟨hc, fun k a1 a2 => ⟨(hr k a1 a2).1, (hr k a1 a2).2, hp k a1 a2⟩⟩, hf⟩, fun h => by omega⟩
  · exact ⟨by omega, h0, fun k _ _ => by omega, fun k k0 k1 => ⟨(h1 k k0 k1).1, (h1 k k0 k1).2.1⟩, fun k k0 k1 => (h1 k k0 k1).2.2, kbFr.rf⟩
/-- a crossing more -/
def kbAp (o u s : Int) (D : kbD) : kbD := (D.1 + 1, fun k => if k = D.1 then o else D.2.1 k, fun k => if k = D.1 then u else D.2.2.1 k, fun k => if k = D.1 then s else D.2.2.2 k)
theorem kb5_append {μ : knMem} {d o u s : Int} {D : kbD} (hA : kbA μ d D) (hn : 0 ≤ D.1 ∧ D.1 < 7) (hs : s = 0 ∨ s = 1) : kbH (kfX5_append d o u s μ) (fun μ' => kbA μ' d (kbAp o u s D) ∧ kbFr d (d + 3) μ μ') := by
  obtain ⟨h0, h1⟩ := hA
  unfold kfX5_append
  have e1 : ∀ v : Int, knUp μ (d + 1) D.1 v d 3 = D.1 := fun v => by rw [kbUp, if_neg (by omega)]; exact h0
  have e2 : ∀ v w : Int, knUp (knUp μ (d + 1) D.1 v) (d + 2) D.1 w d 3 = D.1 := fun v w => by rw [kbUp, if_neg (by omega), kbUp, if_neg (by omega)]; exact h0
  have e3 : ∀ v w x : Int, knUp (knUp (knUp μ (d + 1) D.1 v) (d + 2) D.1 w) (d + 3) D.1 x d 3 = D.1 := fun v w x => by rw [kbUp, if_neg (by omega), kbUp, if_neg (by omega), kbUp, if_neg (by omega)]; exact h0
  simp only [h0, e1, e2, e3, knNz_id (show knZ s from hs)]
  rw [kbH_gd, kbH_gd, kbH_gd, kbH_some, knW_id (by omega)]
  refine ⟨by omega, by omega, by omega, ⟨?_, fun k k0 k1 => ?_⟩, (((kbFr.rf.up (by omega)).up (by omega)).up (by omega)).up (by omega)⟩
  · show _ = D.1 + 1
    simp (disch := omega) only [kbUp, if_pos, if_neg, and_true, true_and, if_true]
  · have k1 : k < D.1 + 1 := k1
    by_cases hk : k = D.1
    · simp (disch := omega) only [kbUp, if_pos, if_neg, and_true, true_and, if_true, kbAp, and_self]
    · simp (disch := omega) only [kbUp, if_pos, if_neg, and_true, true_and, if_true, kbAp]
      exact h1 k k0 (by omega)
