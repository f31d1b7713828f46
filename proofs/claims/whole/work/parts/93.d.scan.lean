/-! Both parsers over the whole text. -/
def kpSame (q q' : kpQ) : Prop := q.1 = q'.1 ∧ q.2.1 = q'.2.1 ∧ q.2.2.1 = q'.2.2.1 ∧ kpRel q'.2.2.1 q'.2.2.2 q.2.2.2
theorem kpGv_same {v n : Int} {x y : Int → Int} (h : kpRel n x y) : (kpGv v n y).1 = (kpGv v n x).1 ∧ kpRel (kpGv v n x).1 (kpGv v n x).2 (kpGv v n y).2 := by
  unfold kpGv
  by_cases g : 4 ≤ n
  · rw [if_pos g, if_pos g]; exact ⟨rfl, h⟩
  · rw [if_neg g, if_neg g]; exact ⟨rfl, h.up⟩
theorem kpPt_same {a : Int} {nc : Int → Int} {c n : Int} {x y : Int → Int} (h : kpRel n x y) : kpSame (kpPt a nc c n y) (kpPt a nc c n x) := by
  have gv : ∀ c' v : Int, kpSame (1, c', kpGv v n y) (1, c', kpGv v n x) := fun c' v => ⟨rfl, rfl, (kpGv_same h).1, (kpGv_same h).2⟩
  have nv : ∀ k c' : Int, kpSame (k, c', n, y) (k, c', n, x) := fun k c' => ⟨rfl, rfl, rfl, h⟩
  have ch : ∀ a b : Int, kpSame (kpCh a b nc c n y) (kpCh a b nc c n x) := by
    intro a b
    unfold kpCh
    by_cases g1 : nc c = a
    · rw [if_pos g1, if_pos g1]; exact gv _ _
    · rw [if_neg g1, if_neg g1]
      by_cases g2 : nc c = b
      · rw [if_pos g2, if_pos g2]; exact gv _ _
      · rw [if_neg g2, if_neg g2]; exact nv _ _
  unfold kpPt
  by_cases g1 : a = 110
  · rw [if_pos g1, if_pos g1]
    unfold kpNu
    by_cases g : kpDg (nc c)
    · rw [if_pos g, if_pos g]
      by_cases g' : kpDg (nc (c + 1))
      · rw [if_pos g', if_pos g']; exact gv _ _
      · rw [if_neg g', if_neg g']; exact gv _ _
    · rw [if_neg g, if_neg g]; exact nv _ _
  · rw [if_neg g1, if_neg g1]
    by_cases g2 : a = 100
    · rw [if_pos g2, if_pos g2]
      unfold kpDi
      by_cases g : kpDg (nc c)
      · rw [if_pos g, if_pos g]; exact gv _ _
      · rw [if_neg g, if_neg g]; exact nv _ _
    · rw [if_neg g2, if_neg g2]
      by_cases g3 : a = 115
      · rw [if_pos g3, if_pos g3]; exact ch 43 45
      · rw [if_neg g3, if_neg g3]
        by_cases g4 : a = 112
        · rw [if_pos g4, if_pos g4]; exact ch 111 117
        · rw [if_neg g4, if_neg g4]
          by_cases g5 : a = 119
          · rw [if_pos g5, if_pos g5]; exact ch 61 120
          · rw [if_neg g5, if_neg g5]
            unfold kpLi
            by_cases g : nc c = a
            · rw [if_pos g, if_pos g]; exact nv _ _
            · rw [if_neg g, if_neg g]; exact nv _ _
theorem kpPts_same {nc : Int → Int} : ∀ (f : List Int) (q q' : kpQ), kpSame q q' → kpSame (kpPts nc f q) (kpPts nc f q')
  | [], _, _, h => h
  | a :: f, q, q', h => by
    have h1 := kpPt_same (a := a) (nc := nc) (c := q'.2.1) (n := q'.2.2.1) h.2.2.2
    rw [kpPts, kpPts, h.2.1, h.2.2.1]
    by_cases g : (kpPt a nc q'.2.1 q'.2.2.1 q'.2.2.2).1 = 0
    · rw [if_pos (h1.1.trans g), if_pos g]; exact h1
    · rw [if_neg (fun h9 => g (h1.1.symm.trans h9)), if_neg g]
      exact kpPts_same f _ _ h1
theorem kpCd_same {nc : Int → Int} {w c : Int} (x y : Int → Int) : kpSame (kpCd nc w c y) (kpCd nc w c x) := by
  unfold kpCd
  rw [kpFw_eq, kpFw_eq]
  by_cases g : kpLc nc (kpWd w) c = (kpWd w).length
  · rw [if_pos g, if_pos g]
    exact kpPts_same _ _ _ ⟨rfl, rfl, rfl, kpRel0⟩
  · rw [if_neg g, if_neg g]
    exact ⟨rfl, rfl, rfl, kpRel0⟩
/-- a command, read the same way by both -/
def kpC (nc : Int → Int) (w c : Int) : kpQ := kpCd nc w c (fun _ => 0)
def kpBoth (nc : Int → Int) (L c w : Int) : Prop := kpAt nc c w ∧ ∀ (μ : knMem) (s : Int) (y : Int → Int), kpTr μ nc L → kbH (kfX13_readsCommand (kpMr μ c s y)) (kpPr μ (kpSo w) (kpC nc w c))
theorem kpBoth_ex {nc : Int → Int} {L c : Int} (hT : kpTk nc L) (hc : 0 ≤ c) : ∃ w : Int, kpBoth nc L c w := by
  obtain ⟨w, h1, h2⟩ := kp13_cmd hT hc
  exact ⟨w, h1, fun μ s y h => h2 μ s (fun _ => 0) y h⟩
theorem kpC_in {nc : Int → Int} {L w c : Int} (hT : kpTk nc L) (hw : 0 ≤ w ∧ w < 12) (hc : 0 ≤ c ∧ c ≤ L) : ((kpC nc w c).1 = 0 ∨ (kpC nc w c).1 = 1) ∧ (c ≤ (kpC nc w c).2.1 ∧ (kpC nc w c).2.1 ≤ L) ∧ ((kpC nc w c).1 ≠ 0 → c < (kpC nc w c).2.1) := kpCd_in hT hw hc
/-- the class's command, said like the reference's -/
theorem kp9_cmd2 {μ : knMem} {nc : Int → Int} {L w0 w c n : Int} {y : Int → Int} (hT : kpTk nc L) (h : kpTc μ nc L) (hc : 0 ≤ c ∧ c ≤ L) (hA : kpAt nc c w) :
    kbH (kfX9_readCommand (kpMc μ w0 c n y)) (fun r => r.1 = (kpC nc w c).1 ∧ ∃ (w' n' : Int) (y' : Int → Int), r.2 = kpMc μ w' (kpC nc w c).2.1 n' y' ∧ ((kpC nc w c).1 ≠ 0 → w' = w) ∧ kpRel (kpC nc w c).2.2.1 (kpC nc w c).2.2.2 y') := by
  have hs := kpCd_same (nc := nc) (w := w) (c := c) (fun _ => 0) y
  refine (kp9_cmd (w0 := w0) (n := n) (y := y) hT h hc hA).mono (fun r ⟨w', e, h1⟩ => ?_)
  subst e
  refine ⟨hs.1, w', (kpCd nc w c y).2.2.1, (kpCd nc w c y).2.2.2, ?_, fun h9 => h1 (fun h8 => h9 (hs.1.symm.trans h8)), hs.2.2.2⟩
  show kpMc μ w' (kpCd nc w c y).2.1 (kpCd nc w c y).2.2.1 (kpCd nc w c y).2.2.2 = _
  rw [hs.2.1]
  rfl
/-- the text from c on is a script -/
def kpVa (nc : Int → Int) (L : Int) : Nat → Int → Prop
  | 0, _ => False
  | m + 1, c => ∃ w : Int, kpBoth nc L c w ∧ (kpC nc w c).1 = 1 ∧ ((kpC nc w c).2.1 = L ∨ (nc (kpC nc w c).2.1 = 59 ∧ kpVa nc L m ((kpC nc w c).2.1 + 1)))
theorem kp13_next2 {m : knMem} {nc : Int → Int} {L c a : Int} (hT : kpTk nc L) (h : kpTr m nc L) (h22 : m 142 22 = c) (hc : 0 ≤ c) (ha : a ≠ -1) : kfX13_reads a m = some (if nc c = a then (1, knUp m 142 22 (c + 1)) else (0, m)) := by
  have e := kp13_reads (μ := m) (c := c) (s := m 142 26) (y := m 158) (a := a) hT h hc ha
  have e2 : kpMr m c (m 142 26) (m 158) = m := by rw [← h22]; exact kpMr_id m
  have e3 : kpMr m (c + 1) (m 142 26) (m 158) = knUp m 142 22 (c + 1) := by
    have := kpMr_up22 (μ := m) (c := c) (s := m 142 26) (y := m 158) (v := c + 1)
    rw [e2] at this
    exact this.symm
  rw [e2, e3] at e
  exact e
theorem kpScan {nc : Int → Int} {L : Int} (hT : kpTk nc L) : ∀ (m : Nat) (c : Int), 0 ≤ c → c ≤ L → L - c < m → ∃ e : Int, ((e = -1 ∧ kpVa nc L m c) ∨ (0 ≤ e ∧ e ≤ L)) ∧
    (∀ (μ : knMem) (kc : knMem → Option (Int × knMem)) (w n : Int) (y : Int → Int) (fuel : Nat) (i : Int), kpTc μ nc L → m ≤ fuel → 0 ≤ i → i ≤ c → kbH (kfX9_firstError_l7 kc fuel i (kpMc μ w c n y)) (fun q => q.1 = e ∧ ∃ (w' c' n' : Int) (y' : Int → Int), q.2 = kpMc μ w' c' n' y')) ∧
    (∀ (μ : knMem) (s : Int) (y : Int → Int) (fuel : Nat), kpTr μ nc L → m < fuel → kbH (kfX13_readsAll_l7 (fun w9 => some ((if (w9 142 22) = (w9 142 21) then 1 else 0 : Int), w9)) fuel 1 (kpMr μ c s y)) (fun q => ((e = -1 ∧ q.1 = 1) ∨ (e ≠ -1 ∧ q.1 = 0 ∧ q.2 142 22 = e)) ∧ ∃ (c' s' : Int) (y' : Int → Int), q.2 = kpMr μ c' s' y'))
  | 0, c, h0, h1, h2 => absurd h2 (by omega)
  | m + 1, c, h0, h1, h2 => by
    have hl := hT.1
    obtain ⟨w, hB⟩ := kpBoth_ex (L := L) hT h0
    have hw := hB.1.1
    have hC := kpC_in hT hw ⟨h0, h1⟩
    by_cases g : (kpC nc w c).1 = 0
    · refine ⟨(kpC nc w c).2.1, Or.inr ⟨by omega, by omega⟩, fun μ kc w0 n y fuel i hc hf i0 i1 => ?_, fun μ s y fuel hr hf => ?_⟩
      · obtain ⟨fuel, rfl⟩ : ∃ k : Nat, fuel = k + 1 := ⟨fuel - 1, by omega⟩
        rw [kfX9_firstError_l7, if_neg (by omega)]
        refine (kp9_cmd2 hT hc ⟨h0, h1⟩ hB.1).bind (fun q2 ⟨a1, w', n', y', a2, _⟩ => ?_)
        rw [if_pos (a1.trans g), a2, kpMc_4]
        exact kbH_some.mpr ⟨rfl, w', _, n', y', rfl⟩
      · obtain ⟨fuel, rfl⟩ : ∃ k : Nat, fuel = k + 1 := ⟨fuel - 1, by omega⟩
        rw [kfX13_readsAll_l7, if_neg (show ¬ (1 : Int) = 0 by omega)]
        refine (hB.2 μ s y hr).bind (fun q2 ⟨a1, s', y', a2, _⟩ => ?_)
        rw [if_pos (a1.trans g), a2]
        exact kbH_some.mpr ⟨Or.inr ⟨by omega, rfl, kpMr_22 (μ := μ) (s := s') (y := y')⟩, _, s', y', rfl⟩
    · have g1 : (kpC nc w c).1 = 1 := by omega
      have hcc := hC.2.2 g
      obtain ⟨d, hd⟩ : ∃ d : Int, d = (kpC nc w c).2.1 := ⟨_, rfl⟩
      rw [← hd] at hC hcc
      by_cases gL : d = L
      · refine ⟨-1, Or.inl ⟨rfl, w, hB, g1, Or.inl (hd.symm.trans gL)⟩, fun μ kc w0 n y fuel i hc hf i0 i1 => ?_, fun μ s y fuel hr hf => ?_⟩
        · obtain ⟨fuel, rfl⟩ : ∃ k : Nat, fuel = k + 1 := ⟨fuel - 1, by omega⟩
          rw [kfX9_firstError_l7, if_neg (by omega)]
          refine (kp9_cmd2 hT hc ⟨h0, h1⟩ hB.1).bind (fun q2 ⟨a1, w', n', y', a2, _⟩ => ?_)
          rw [if_neg (show ¬ q2.1 = 0 by omega), a2, kpMc_4, kpMc_2, hc.1, if_pos (hd.symm.trans gL)]
          exact kbH_some.mpr ⟨rfl, w', _, n', y', rfl⟩
        · obtain ⟨fuel, rfl⟩ : ∃ k : Nat, fuel = k + 1 + 1 := ⟨fuel - 2, by omega⟩
          rw [kfX13_readsAll_l7, if_neg (show ¬ (1 : Int) = 0 by omega)]
          refine (hB.2 μ s y hr).bind (fun q2 ⟨a1, s', y', a2, _⟩ => ?_)
          have h3 := hT.2 d (by omega)
          rw [if_neg (show ¬ q2.1 = 0 by omega), a2, ← hd, kp13_reads hT hr (by omega) (by omega), if_neg (by omega), Option.bind_some, kfX13_readsAll_l7, if_pos rfl]
          dsimp only
          rw [if_pos (show kpMr μ d s' y' 142 22 = kpMr μ d s' y' 142 21 by rw [kpMr_22, kpMr_i (by omega) (by omega), hr.1]; exact gL)]
          exact kbH_some.mpr ⟨Or.inl ⟨rfl, rfl⟩, _, s', y', rfl⟩
      · have h3 := hT.2 d (by omega)
        by_cases gs : nc d = 59
        · obtain ⟨e, e1, e2, e3⟩ := kpScan hT m (d + 1) (by omega) (by omega) (by omega)
          refine ⟨e, ?_, fun μ kc w0 n y fuel i hc hf i0 i1 => ?_, fun μ s y fuel hr hf => ?_⟩
          · rcases e1 with ⟨e1, e4⟩ | e1
            · exact Or.inl ⟨e1, w, hB, g1, Or.inr ⟨by rw [← hd]; exact gs, by rw [← hd]; exact e4⟩⟩
            · exact Or.inr e1
          · obtain ⟨fuel, rfl⟩ : ∃ k : Nat, fuel = k + 1 := ⟨fuel - 1, by omega⟩
            rw [kfX9_firstError_l7, if_neg (by omega)]
            refine (kp9_cmd2 hT hc ⟨h0, h1⟩ hB.1).bind (fun q2 ⟨a1, w', n', y', a2, _⟩ => ?_)
            rw [if_neg (show ¬ q2.1 = 0 by omega), a2, ← hd, kpMc_4, kpMc_2, hc.1, if_neg gL, kp9_lit hT hc (by omega) (by omega), Option.bind_some]
            unfold kpMq kpLi
            rw [if_pos gs]
            dsimp only
            rw [if_neg (show ¬ (1 : Int) = 0 by omega), knW_id (by omega)]
            exact e2 μ kc w' n' y' fuel (i + 1) hc (by omega) (by omega) (by omega)
          · obtain ⟨fuel, rfl⟩ : ∃ k : Nat, fuel = k + 1 := ⟨fuel - 1, by omega⟩
            rw [kfX13_readsAll_l7, if_neg (show ¬ (1 : Int) = 0 by omega)]
            refine (hB.2 μ s y hr).bind (fun q2 ⟨a1, s', y', a2, _⟩ => ?_)
            rw [if_neg (show ¬ q2.1 = 0 by omega), a2, ← hd, kp13_reads hT hr (by omega) (by omega), if_pos gs, Option.bind_some]
            exact e3 μ s' y' fuel hr (by omega)
        · refine ⟨d, Or.inr ⟨by omega, by omega⟩, fun μ kc w0 n y fuel i hc hf i0 i1 => ?_, fun μ s y fuel hr hf => ?_⟩
          · obtain ⟨fuel, rfl⟩ : ∃ k : Nat, fuel = k + 1 := ⟨fuel - 1, by omega⟩
            rw [kfX9_firstError_l7, if_neg (by omega)]
            refine (kp9_cmd2 hT hc ⟨h0, h1⟩ hB.1).bind (fun q2 ⟨a1, w', n', y', a2, _⟩ => ?_)
            rw [if_neg (show ¬ q2.1 = 0 by omega), a2, ← hd, kpMc_4, kpMc_2, hc.1, if_neg gL, kp9_lit hT hc (by omega) (by omega), Option.bind_some]
            unfold kpMq kpLi
            rw [if_neg gs]
            dsimp only
            rw [if_pos rfl, kpMc_4]
            exact kbH_some.mpr ⟨rfl, w', _, n', y', rfl⟩
          · obtain ⟨fuel, rfl⟩ : ∃ k : Nat, fuel = k + 1 + 1 := ⟨fuel - 2, by omega⟩
            rw [kfX13_readsAll_l7, if_neg (show ¬ (1 : Int) = 0 by omega)]
            refine (hB.2 μ s y hr).bind (fun q2 ⟨a1, s', y', a2, _⟩ => ?_)
            rw [if_neg (show ¬ q2.1 = 0 by omega), a2, ← hd, kp13_reads hT hr (by omega) (by omega), if_neg gs, Option.bind_some, kfX13_readsAll_l7, if_pos rfl]
            dsimp only
            rw [if_neg (show ¬ kpMr μ d s' y' 142 22 = kpMr μ d s' y' 142 21 by rw [kpMr_22, kpMr_i (by omega) (by omega), hr.1]; exact gL)]
            exact kbH_some.mpr ⟨Or.inr ⟨by omega, rfl, kpMr_22 (μ := μ) (s := s') (y := y')⟩, _, s', y', rfl⟩
