/-! The cases of the moves. -/
theorem kbUpS (μ : knMem) (o k v : Int) : knUp μ o k v o k = v := by rw [kbUp, if_pos ⟨rfl, rfl⟩]
theorem kbRb.sm {w w' : Int → Int} {B : kbY} (h : kbRb w B) (hB : 0 ≤ B.1) (hm : B.1 ≤ 4) (he : ∀ i : Int, 1 ≤ i → i ≤ 14 → w' i = w i) : kbRb w' B := by
  obtain ⟨b0, b1, b2, b3⟩ := h
  refine ⟨by rw [he 1 (by omega) (by omega)]; exact b0, by rw [he 2 (by omega) (by omega)]; exact b1, fun k k0 k1 => ?_, fun k k0 k1 => ?_⟩
  · rw [he (3 + k) (by omega) (by omega), he (11 + k) (by omega) (by omega), he (7 + k) (by omega) (by omega)]
    exact b2 k k0 k1
  · rw [he (11 + k) (by omega) (by omega)]
    exact b3 k k0 k1
/-- the diagram moved, the bets as they were -/
theorem kbRs.d {w w' : Int → Int} {S : kbZ} {E : kbD} (h : kbRs w S) (hE : kbW w' E) (he : ∀ i : Int, 1 ≤ i → i ≤ 14 → w' i = w i) : kbRs w' (E, S.2) := ⟨hE, h.2.1.sm h.2.2.1.1 h.2.2.1.2 he, h.2.2⟩
theorem kbT1 {q : Int × Int × knMem} {μ : knMem} {S S' : kbZ} {c a v : Int} {g : Int → Int} (h1 : q.1 = c) (hc : c = 0 ∨ c = a) (ha : a ≠ 0) (h2 : c = 0 → g q.2.1 = v) (h3 : kbPost μ q.2.2 S S' c) :
    kbH (if q.1 = 0 then some ((0 : Int), knUp q.2.2 159 0 (g q.2.1)) else if q.1 = a then some (1, q.2.2) else none) (fun r => (r.1 = if c = 0 then 0 else 1) ∧ (c = 0 → r.2 159 0 = v) ∧ kbPost μ r.2 S S' c) := by
  rw [h1]
  by_cases h0 : c = 0
  · rw [if_pos h0]
    exact kbH_some.mpr ⟨by rw [if_pos h0], fun _ => (kbUpS q.2.2 159 0 _).trans (h2 h0), h3.out⟩
  · rw [if_neg h0, if_pos (by omega)]
    exact kbH_some.mpr ⟨by rw [if_neg h0], fun h => absurd h h0, h3⟩
theorem kbT2 {q : Int × Int × knMem} {μ : knMem} {S S' : kbZ} {c a b v : Int} (h1 : q.1 = c) (hc : c = 0 ∨ c = a ∨ c = b) (ha : a ≠ 0) (hb : b ≠ 0) (hab : b ≠ a) (h2 : c = 0 → q.2.1 = v) (h3 : kbPost μ q.2.2 S S' c) :
    kbH (if q.1 = 0 then some ((0 : Int), knUp q.2.2 159 0 q.2.1) else if q.1 = a then some (1, q.2.2) else if q.1 = b then some (2, q.2.2) else none) (fun r => (r.1 = if c = 0 then 0 else if c = a then 1 else 2) ∧ (c = 0 → r.2 159 0 = v) ∧ kbPost μ r.2 S S' c) := by
  rw [h1]
  by_cases h0 : c = 0
  · rw [if_pos h0]
    exact kbH_some.mpr ⟨by rw [if_pos h0], fun _ => (kbUpS q.2.2 159 0 _).trans (h2 h0), h3.out⟩
  · by_cases h4 : c = a
    · rw [if_neg h0, if_pos h4]
      exact kbH_some.mpr ⟨by rw [if_neg h0, if_pos h4], fun h => absurd h h0, h3⟩
    · rw [if_neg h0, if_neg h4, if_pos (by omega)]
      exact kbH_some.mpr ⟨by rw [if_neg h0, if_neg h4], fun h => absurd h h0, h3⟩
/-- kept: with what value -/
theorem kbT0 {q : Int × knMem} {μ : knMem} {S S' : kbZ} {c v : Int} {x : Option Int} (h1 : q.1 = c) (h3 : kbPost μ q.2 S S' c) (hx : c = 0 → x = some v) :
    kbH (if q.1 = 0 then Option.bind x (fun y => some ((0 : Int), y, q.2)) else some (q.1, 0, q.2)) (fun r => r.1 = c ∧ (c = 0 → r.2.1 = v) ∧ kbPost μ r.2.2 S S' c) := by
  rw [h1]
  by_cases h0 : c = 0
  · rw [if_pos h0, hx h0, Option.bind_some]
    exact kbH_some.mpr ⟨h0.symm, fun _ => rfl, h3⟩
  · rw [if_neg h0]
    exact kbH_some.mpr ⟨rfl, fun h => absurd h h0, h3⟩
theorem kbT00 {q : Int × knMem} {μ : knMem} {S S' : kbZ} {c v x : Int} (h1 : q.1 = c) (h3 : kbPost μ q.2 S S' c) (hx : c = 0 → x = v) :
    kbH (if q.1 = 0 then some ((0 : Int), x, q.2) else some (q.1, 0, q.2)) (fun r => r.1 = c ∧ (c = 0 → r.2.1 = v) ∧ kbPost μ r.2.2 S S' c) := kbT0 (x := some x) h1 h3 (fun h => by rw [hx h])
theorem kb13_between {a b c : Int} {μ : knMem} : kfX13_isBetween a b c μ = some (if b ≤ a ∧ a ≤ c then 1 else 0) := by
  unfold kfX13_isBetween
  by_cases h1 : a < b
  · simp only [if_pos h1]
    rw [if_neg (by omega)]
  · by_cases h2 : c < a
    · simp only [if_neg h1, if_pos h2]
      rw [if_neg (by omega)]
    · simp only [if_neg h1, if_neg h2]
      rw [if_pos (by omega)]
theorem kb13_isCrossing {μ : knMem} {c n : Int} (h : μ 143 0 = n) (hn : 0 ≤ n ∧ n ≤ 7) : kfX13_isCrossing c μ = some (if 0 ≤ c ∧ c < n then 1 else 0) := by
  unfold kfX13_isCrossing
  rw [kbGd (by omega), kb13_between, Option.bind_some, h, knW_id (by omega)]
  congr 1
  split <;> split <;> omega
theorem kb13_isPass {μ : knMem} {c n : Int} (h : μ 143 0 = n) (hn : 0 ≤ n ∧ n ≤ 7) : kfX13_isPass c μ = some (if 0 ≤ c ∧ c < 2 * n then 1 else 0) := by
  unfold kfX13_isPass
  rw [kbGd (by omega), kb13_between, Option.bind_some, h, knW_id (x := 2 * n) (by omega), knW_id (by omega)]
  congr 1
  split <;> split <;> omega
theorem kb13_notCurl {μ : knMem} {p n : Int} (h : μ 143 0 = n) (hn : 0 ≤ n ∧ n ≤ 7) : kfX13_notCurl p μ = some (if 0 ≤ p ∧ p ≤ 2 * n then (if n ≤ 6 then 0 else 2) else 1) := by
  unfold kfX13_notCurl
  rw [kbGd (by omega), kb13_between, Option.bind_some, h, knW_id (by omega)]
  by_cases h1 : 0 ≤ p ∧ p ≤ 2 * n
  · rw [if_pos h1, if_neg (by omega), if_pos h1]
    congr 1
    split <;> split <;> omega
  · rw [if_neg h1, if_pos rfl, if_neg h1]
theorem kb13_notPoke {μ : knMem} {a b n : Int} (h : μ 143 0 = n) (hn : 0 ≤ n ∧ n ≤ 7) : kfX13_notPoke a b μ = some (if (0 ≤ a ∧ a ≤ 2 * n) ∧ (0 ≤ b ∧ b ≤ 2 * n) then (if n ≤ 5 then 0 else 2) else 1) := by
  unfold kfX13_notPoke
  rw [kbGd (by omega), kb13_between, Option.bind_some, h, knW_id (by omega)]
  by_cases h1 : 0 ≤ a ∧ a ≤ 2 * n
  · rw [if_pos h1]
    simp only [kb13_between, Option.bind_some]
    rw [if_neg (by omega)]
    by_cases h2 : 0 ≤ b ∧ b ≤ 2 * n
    · rw [if_pos h2, if_neg (show ¬ (1 : Int) = 0 by omega), if_pos (show (0 ≤ a ∧ a ≤ 2 * n) ∧ 0 ≤ b ∧ b ≤ 2 * n from ⟨h1, h2⟩)]
    · rw [if_neg h2, if_pos rfl, if_neg (fun h => h2 h.2)]
  · rw [if_neg h1]
    simp only [if_true]
    rw [if_neg (fun h => h1 h.1)]
/-- the reference's half of a change that is done -/
theorem kbPost.does {μ μ1 q : knMem} {S S' : kbZ} {v : Int} {A : knMem → Option (Int × knMem)} (g : Int → Int) (hI : kbIv μ) (hR : kbRs (μ 143) S) (h : kbPost μ μ1 S S' 0) (h2 : kbK μ1 q) (h3 : q 142 0 = 0) (h4 : q 159 = μ1 159)
    (hA : ∀ q5 : knMem, kbRs (q5 143) S → kbH (A q5) (fun r => g r.1 = v ∧ kbRs (r.2 143) S' ∧ kbFw q5 r.2)) :
    kbH (Option.bind (kfX13_remembers q) (fun q5 => Option.bind (A q5) (fun q8 => some (g q8.1, q8.2)))) (fun r => r.2 142 0 = 0 ∧ r.1 = v ∧ r.2 159 = μ1 159 ∧ kbIv r.2) := by
  refine (h.yes hI hR h2).bind (fun q5 ⟨a1, a2, a3, a4⟩ => ?_)
  refine (hA q5 a1).bind (fun r ⟨r1, r2, r3⟩ => kbH_some.mpr ⟨?_, r1, ?_, a4 _ r3 r2⟩)
  · rw [r3.2 0 (by omega), a2, h3]
  · rw [r3.1 159 (by omega) (by omega) (by omega), a3, h4]
/-- .. refused -/
theorem kbPost.fails {μ μ1 q : knMem} {S : kbZ} {k c : Int} (g : Int → Int) (hI : kbIv μ) (hR : kbRs (μ 143) S) (h : kbPost μ μ1 S S k) (hk : k ≠ 0) (h2 : kbK μ1 q) (h4 : q 159 = μ1 159) :
    kbH (Option.bind (kfX13_fails c q) (fun q19 => some (g q19.1, q19.2))) (fun r => r.2 142 0 = c ∧ r.2 159 = μ1 159 ∧ kbIv r.2) := by
  unfold kfX13_fails
  rw [Option.bind_some]
  refine kbH_some.mpr ⟨?_, ?_, kbPost.no hI hR h hk (h2.up (by omega))⟩
  · show knUp q 142 0 c 142 0 = c
    rw [kbUp, if_pos (by omega)]
  · show knUp q 142 0 c 159 = μ1 159
    rw [knUp_ne (by omega), h4]
theorem kbK0 {μ μ1 : knMem} (h : kbK μ μ1) : kbK μ (knUp μ1 142 0 0) := h.up (by omega)
theorem kbUp0 (μ : knMem) : knUp μ 142 0 0 142 0 = 0 := by rw [kbUp, if_pos (by omega)]
theorem kbUp9 (μ : knMem) : knUp μ 142 0 0 159 = μ 159 := knUp_ne (by omega)
theorem kbUp3 (μ : knMem) : knUp μ 142 0 0 143 = μ 143 := knUp_ne (by omega)
theorem kbPost.w {μ μ1 : knMem} {S S' : kbZ} {k : Int} (h : kbPost μ μ1 S S' k) : μ1 143 = μ 143 := h.1.1 143 (by omega)
theorem kbMc_c {p s f : Int} {D : kbD} : (kbMc p s f D).1 = (if 0 ≤ p ∧ p ≤ 2 * D.1 then (if D.1 ≤ 6 then 0 else 3) else 1) := by
  unfold kbMc
  split
  · split <;> rfl
  · rfl
theorem kbMc_n {p s f : Int} {D : kbD} (h : (kbMc p s f D).1 ≠ 0) : (kbMc p s f D).2 = D := by
  unfold kbMc at h ⊢
  split
  · split
    · rename_i h1 h2; rw [if_pos h1, if_pos h2] at h; exact absurd rfl h
    · rfl
  · rfl
/-- the law's number of what the class throws -/
def kbC1 (c : Int) : Int := if c = 0 then 0 else 1
def kbC2 (a c : Int) : Int := if c = 0 then 0 else if c = a then 1 else 2
theorem kbC1_0 {c : Int} (h : kbC1 c = 0) : c = 0 := by unfold kbC1 at h; split at h <;> omega
theorem kbC2_0 {a c : Int} (h : kbC2 a c = 0) : c = 0 := by unfold kbC2 at h; split at h <;> (try split at h) <;> omega
/-- class and reference, one after the other -/
theorem kbTry {P : knMem → Prop} {lc v : Int} {X : Option (Int × knMem)} {Y : knMem → Option (Int × knMem)} (g : Int → Int)
    (hA : kbH X (fun r => r.1 = lc ∧ (lc = 0 → r.2 159 0 = v) ∧ P r.2)) (hB : ∀ μ1 : knMem, P μ1 → kbH (Y μ1) (fun r => r.2 142 0 = lc ∧ (lc = 0 → g r.1 = v) ∧ r.2 159 = μ1 159 ∧ kbIv r.2)) :
    kbH (Option.bind X (fun q7 => Option.bind (Y q7.2) (fun q16 => Option.bind (kfX13_thrown q16.2) (fun q19 => if q19 = q7.1 then (fun (k14 : Unit → Option knMem) => if q7.1 = 0 then if knLcmp (q16.2 159 0) (g q16.1) = 0 then k14 () else none else k14 ()) (fun _ => some q16.2) else none)))) kbIv := by
  refine hA.bind (fun q7 ⟨a1, a2, a3⟩ => (hB q7.2 a3).bind (fun q16 ⟨b1, b2, b3, b4⟩ => ?_))
  rw [a1]
  exact kbEnd b1 (fun h => by rw [b3, a2 h, b2 h]) b4
theorem kbLk_0 {μ : knMem} (hI : kbIv μ) (x1 x2 x3 x4 : Int) : kbH (kfLc_0 x1 x2 x3 x4 μ) kbIv := by
  obtain ⟨⟨S, hC, hR⟩, hH, -⟩ := id hI
  obtain ⟨s, hs⟩ : ∃ s : Int, s = (if x2 = 0 then 0 else 1 : Int) := ⟨_, rfl⟩
  obtain ⟨f, hf⟩ : ∃ f : Int, f = (if x3 = 0 then 0 else 1 : Int) := ⟨_, rfl⟩
  have hs2 : s = 0 ∨ s = 1 := by rw [hs]; split <;> omega
  have hf2 : f = 0 ∨ f = 1 := by rw [hf]; split <;> omega
  have hn := hR.1.2.1
  have ec := kbMc_c (p := x1) (s := s) (f := f) (D := S.1)
  obtain ⟨c, hc⟩ : ∃ c : Int, c = (kbMc x1 s f S.1).1 := ⟨_, rfl⟩
  rw [← hc] at ec
  have hc3 : c = 0 ∨ c = 1 ∨ c = 3 := by rw [ec]; split <;> (try split) <;> omega
  have hd : c = 0 → (0 ≤ x1 ∧ x1 ≤ 2 * S.1.1) ∧ S.1.1 ≤ 6 := by
    intro h0
    rw [ec] at h0
    split at h0
    · rename_i g1
      split at h0
      · rename_i g2; exact ⟨g1, g2⟩
      · omega
    · omega
  unfold kfLc_0
  rw [← hs, ← hf]
  refine kbTry (P := fun m => kbPost μ m S ((kbMc x1 s f S.1).2, S.2) c) (lc := kbC2 1 c) (v := S.1.1) (fun x => x) ?_ (fun μ1 h1 => ?_)
  · unfold kfL_addCurl kfX12_addCurl
    refine kbH.bind (P := fun r => r.1 = c ∧ (c = 0 → r.2.1 = S.1.1) ∧ kbPost μ r.2.2 S ((kbMc x1 s f S.1).2, S.2) c) ?_ (fun q ⟨a1, a2, a3⟩ => (kbT2 a1 hc3 (by omega) (by omega) (by omega) a2 a3).mono (fun r ⟨r1, r2, r3⟩ => ⟨r1, fun h => r2 (kbC2_0 h), r3⟩))
    refine kb12_chg (S' := ((kbMc x1 s f S.1).2, S.2)) (M := fun q1 => kfX5_putCurl 2 x1 s f q1) hC hR.B hR.2.2.1 hH (fun q1 h => (kb5_putCurl (d := 2) h.1 hR.B hs2).mono (fun r ⟨r1, r2, r3⟩ => ⟨by rw [r1, hc], ⟨r2, h.2.fr r3 (by omega)⟩, r3.wd (by omega) (by omega)⟩)) (by omega) (fun q7 a1 a2 => kbT00 a1 a2 (fun h0 => ?_))
    obtain ⟨g1, g2⟩ := hd h0
    have e3 : q7.2 2 3 = S.1.1 + 1 := a2.2.1.1.1.trans (by unfold kbMc; rw [if_pos g1, if_pos g2]; rfl)
    rw [e3, knW_id (by omega)]
    omega
  · unfold kfX13_addCurl
    rw [kb13_notCurl (n := S.1.1) (by rw [kbUp3, h1.w]; exact hR.1.1) hn, Option.bind_some]
    rw [show (if s = 0 then 0 else 1 : Int) = s by split <;> omega, show (if f = 0 then 0 else 1 : Int) = f by split <;> omega]
    by_cases h0 : c = 0
    · obtain ⟨hp, hn6⟩ := hd h0
      rw [if_pos hp, if_pos hn6, if_pos rfl]
      rw [h0] at h1
      refine (kbPost.does (S := S) (S' := ((kbMc x1 s f S.1).2, S.2)) (v := S.1.1) (A := fun q5 => kfX13_addsCurl x1 s f q5) (fun x => x) hI hR h1 (kbK0 kbK.rf) (kbUp0 _) (kbUp9 _) (fun q5 h5 => ?_)).mono (fun r ⟨r1, r2, r3, r4⟩ => ⟨by rw [r1, h0]; rfl, fun _ => r2, r3, r4⟩)
      exact (kb13_addsCurl h5.1 hp hn6 hs2 hf2).mono (fun r ⟨b1, b2, b3, b4⟩ => ⟨b1, h5.d b2 b3, b4⟩)
    · have hx : (if 0 ≤ x1 ∧ x1 ≤ 2 * S.1.1 then (if S.1.1 ≤ 6 then 0 else 2) else 1 : Int) = kbC2 1 c := by
        unfold kbC2
        rw [if_neg h0, ec]
        rw [ec] at h0
        split
        · split
          · rename_i g1 g2; rw [if_pos g1, if_pos g2] at h0; omega
          · rfl
        · rfl
      have hz : kbC2 1 c ≠ 0 := fun h => h0 (kbC2_0 h)
      rw [hx, if_neg hz]
      rw [show ((kbMc x1 s f S.1).2, S.2) = S from by rw [kbMc_n (by rw [← hc]; exact h0)]] at h1
      exact (kbPost.fails (fun x => x) hI hR h1 h0 (kbK0 kbK.rf) (kbUp9 _)).mono (fun r ⟨r1, r3, r4⟩ => ⟨r1, fun h => absurd h hz, r3, r4⟩)
