/-! One command done by both. -/
def kpFe (μ μ' : knMem) : Prop := ∀ o : Int, (o = 0 ∨ (10 ≤ o ∧ o < 132) ∨ 136 < o) → μ' o = μ o
def kpArg (y : Int → Int) : List Int → Int → Prop
  | [], _ => True
  | v :: vs, k => y k = v ∧ kpArg y vs (k + 1)
def kpCl (S : kbZ) (w : Int) (vs : List Int) (code : Int) (S' : kbZ) : Prop := ∀ m : knMem, kbCs m 1 S → kpArg (m 139) vs 0 → kbH (kfX12_execute w 139 m) (fun r => r.1 = code ∧ (code = 0 → kbCs r.2 1 S') ∧ kpFe m r.2)
def kpRf (S : kbZ) (w : Int) (vs : List Int) (code : Int) (S' : kbZ) : Prop := ∀ m : knMem, kbRs (m 143) S → m 142 26 = kpSo w → kpArg (m 158) vs 0 → kbH (kfX13_notNow m) (fun q => (q.1 = 0 ↔ code = 0) ∧ kbFz m q.2 ∧ (code = 0 → kbH (kfX13_doesNow q.2) (fun r => kbRs (r.2 143) S' ∧ kbFw q.2 r.2)))
def kpDo (S : kbZ) (w : Int) (vs : List Int) : Prop := ∃ (code : Int) (S' : kbZ), kpCl S w vs code S' ∧ kpRf S w vs code S'
def kpV (S : kbZ) : Prop := ∃ row : Int → Int, kbRs row S
theorem kpRf_of {S S' : kbZ} {w code : Int} {vs : List Int} (h1 : ∀ m : knMem, kbRs (m 143) S → m 142 26 = kpSo w → kpArg (m 158) vs 0 → kbH (kfX13_notNow m) (fun q => (q.1 = 0 ↔ code = 0) ∧ kbFz m q.2))
    (h2 : ∀ m : knMem, kbRs (m 143) S → m 142 26 = kpSo w → kpArg (m 158) vs 0 → code = 0 → kbH (kfX13_doesNow m) (fun r => kbRs (r.2 143) S' ∧ kbFw m r.2)) : kpRf S w vs code S' := by
  intro m hR hs hA
  refine (h1 m hR hs hA).mono (fun q ⟨a1, a2⟩ => ⟨a1, a2, fun h0 => h2 q.2 ?_ ?_ ?_ h0⟩)
  · rw [a2.1 143 (by omega) (by omega)]; exact hR
  · rw [a2.2 26 (by omega)]; exact hs
  · rw [a2.1 158 (by omega) (by omega)]; exact hA
theorem kpLn139 : knLn 139 = 4 := by decide +kernel
theorem kpIff3 {P Q : Prop} [Decidable P] [Decidable Q] {a b c d : Int} (ha : a ≠ 0) (hb : b ≠ 0) (hc : c ≠ 0) (hd : d ≠ 0) : ((if P then (if Q then 0 else a) else b) = 0) ↔ ((if P then (if Q then 0 else c) else d) = 0) := by
  by_cases g1 : P
  · by_cases g2 : Q
    · rw [if_pos g1, if_pos g2, if_pos g1, if_pos g2]
    · rw [if_pos g1, if_neg g2, if_pos g1, if_neg g2]
      exact ⟨fun h => absurd h ha, fun h => absurd h hc⟩
  · rw [if_neg g1, if_neg g1]
    exact ⟨fun h => absurd h hb, fun h => absurd h hd⟩
theorem kpIf3 {P Q : Prop} [Decidable P] [Decidable Q] {a b : Int} (ha : a ≠ 0) (hb : b ≠ 0) (h : (if P then (if Q then 0 else a) else b) = 0) : P ∧ Q := by
  by_cases g1 : P
  · by_cases g2 : Q
    · exact ⟨g1, g2⟩
    · rw [if_pos g1, if_neg g2] at h; exact absurd h ha
  · rw [if_neg g1] at h; exact absurd h hb
theorem kpIf2 {P : Prop} [Decidable P] {a : Int} (ha : a ≠ 0) (h : (if P then 0 else a) = 0) : P := by
  by_cases g1 : P
  · exact g1
  · rw [if_neg g1] at h; exact absurd h ha
theorem kpZ1 {b : Int} (hb : b = 0 ∨ b = 1) : (if b = 1 then 1 else 0 : Int) = b := by rcases hb with rfl | rfl <;> rfl
theorem kpMem (D : kbD) : ∃ m : knMem, kbA m 2 D := ⟨fun o => if o = 2 then fun _ => D.1 else if o = 3 then D.2.1 else if o = 4 then D.2.2.1 else D.2.2.2, rfl, fun k _ _ => ⟨rfl, rfl, rfl⟩⟩
theorem kpDo_0 {S : kbZ} {a b d : Int} (hV : kpV S) (hb : b = 0 ∨ b = 1) (hd : d = 0 ∨ d = 1) : kpDo S 0 [a, b, d] := by
  obtain ⟨row, hR⟩ := hV
  have hn := hR.1.2.1
  have ec := kbMc_c (p := a) (s := b) (f := d) (D := S.1)
  refine ⟨(kbMc a b d S.1).1, ((kbMc a b d S.1).2, S.2), fun m hC hA => ?_, kpRf_of (fun m h hs hA => ?_) (fun m h hs hA h0 => ?_)⟩
  · obtain ⟨a0, a1, a2, -⟩ := hA
    unfold kfX12_execute
    rw [if_neg (show ¬ (0 : Int) < 0 by omega), kbGd (show (0 : Int) ≤ 0 ∧ (0 : Int) < 12 by omega), if_pos (show (0 : Int) + 1 = 1 by omega)]
    rw [kbGd (show (0 : Int) ≤ 0 ∧ (0 : Int) < knLn 139 by rw [kpLn139]; omega), kbGd (show (0 : Int) ≤ 1 ∧ (1 : Int) < knLn 139 by rw [kpLn139]; omega), kbGd (show (0 : Int) ≤ 2 ∧ (2 : Int) < knLn 139 by rw [kpLn139]; omega), show m 139 0 = a from a0, show m 139 1 = b from a1, show m 139 2 = d from a2]
    rw [kpZ1 hb, kpZ1 hd]
    exact (kb5_putCurl (d := 2) hC.1 hR.B hb).bind (fun r ⟨r1, r2, r3⟩ => kbH_some.mpr ⟨r1, fun _ => ⟨r2, hC.2.fr r3 (by omega)⟩, fun o ho => r3 o (by omega)⟩)
  · obtain ⟨a0, a1, a2, -⟩ := hA
    rw [show kpSo 0 = 99 from rfl] at hs
    unfold kfX13_notNow
    rw [kbGd (by omega), kbGd (by omega), hs, if_neg (show ¬ (99 : Int) = 98 by omega), if_pos (show (99 : Int) = 99 from rfl)]
    rw [show m 158 0 = a from a0, kb13_notCurl h.1.1 hn, Option.bind_some, ec]
    exact kbH_some.mpr ⟨kpIff3 (by omega) (by omega) (by omega) (by omega), kbFz.rf⟩
  · obtain ⟨a0, a1, a2, -⟩ := hA
    rw [show kpSo 0 = 99 from rfl] at hs
    unfold kfX13_doesNow
    rw [kbGd (by omega), kbGd (by omega), hs, if_neg (show ¬ (99 : Int) = 98 by omega), if_pos (show (99 : Int) = 99 from rfl)]
    rw [ec] at h0
    have h1 := kpIf3 (by omega) (by omega) h0
    rw [kbGd (by omega), show m 158 0 = a from a0, show m 158 1 = b from a1, show m 158 2 = d from a2]
    exact (kb13_addsCurl h.1 h1.1 h1.2 hb hd).bind (fun r ⟨_, b2, b3, b4⟩ => kbH_some.mpr ⟨h.d b2 b3, b4⟩)
theorem kpDo_1 {S : kbZ} {a : Int} (hV : kpV S) : kpDo S 1 [a] := by
  obtain ⟨row, hR⟩ := hV
  have hn := hR.1.2.1
  have ec := kbMu_c (x := a) (D := S.1)
  refine ⟨(kbMu a S.1).1, ((kbMu a S.1).2, S.2), fun m hC hA => ?_, kpRf_of (fun m h hs hA => ?_) (fun m h hs hA h0 => ?_)⟩
  · obtain ⟨a0, -⟩ := hA
    unfold kfX12_execute
    rw [if_neg (show ¬ (1 : Int) < 0 by omega), kbGd (show (0 : Int) ≤ 1 ∧ (1 : Int) < 12 by omega), if_neg (show ¬ (1 : Int) + 1 = 1 by omega), if_pos (show (1 : Int) + 1 = 2 by omega)]
    rw [kbGd (show (0 : Int) ≤ 0 ∧ (0 : Int) < knLn 139 by rw [kpLn139]; omega), show m 139 0 = a from a0]
    exact (kb5_takeCurl (d := 2) hC.1 hR.B).bind (fun r ⟨r1, r2, r3⟩ => kbH_some.mpr ⟨r1, fun _ => ⟨r2, hC.2.fr r3 (by omega)⟩, fun o ho => r3 o (by omega)⟩)
  · obtain ⟨a0, -⟩ := hA
    rw [show kpSo 1 = 117 from rfl] at hs
    unfold kfX13_notNow
    rw [kbGd (by omega), kbGd (by omega), hs, if_neg (show ¬ (117 : Int) = 98 by omega), if_neg (show ¬ (117 : Int) = 99 by omega), if_neg (show ¬ (117 : Int) = 101 by omega), if_neg (show ¬ (117 : Int) = 108 by omega), if_neg (show ¬ (117 : Int) = 112 by omega), if_neg (show ¬ (117 : Int) = 115 by omega), if_neg (show ¬ (117 : Int) = 116 by omega), if_pos (show (117 : Int) = 117 from rfl)]
    rw [show m 158 0 = a from a0, ec]
    refine (kb13_notUncurl h.1).bind (fun q ⟨q1, q2⟩ => kbH_some.mpr ⟨?_, q2⟩)
    rw [q1]
    exact kpIff3 (by omega) (by omega) (by omega) (by omega)
  · obtain ⟨a0, -⟩ := hA
    rw [show kpSo 1 = 117 from rfl] at hs
    unfold kfX13_doesNow
    rw [kbGd (by omega), kbGd (by omega), hs, if_neg (show ¬ (117 : Int) = 98 by omega), if_neg (show ¬ (117 : Int) = 99 by omega), if_neg (show ¬ (117 : Int) = 100 by omega), if_neg (show ¬ (117 : Int) = 108 by omega), if_neg (show ¬ (117 : Int) = 109 by omega), if_neg (show ¬ (117 : Int) = 112 by omega), if_neg (show ¬ (117 : Int) = 114 by omega), if_neg (show ¬ (117 : Int) = 115 by omega), if_neg (show ¬ (117 : Int) = 116 by omega), if_pos (show (117 : Int) = 117 from rfl)]
    rw [ec] at h0
    have h1 := kpIf3 (by omega) (by omega) h0
    rw [show m 158 0 = a from a0]
    have e : (kbMu a S.1).2 = kbRm a S.1 := by unfold kbMu; rw [if_pos h1.1, if_pos h1.2]
    rw [e]
    exact (kb13_uncurls h.1 h1.1).bind (fun r ⟨_, b2, b3, b4⟩ => kbH_some.mpr ⟨h.d b2 b3, b4⟩)
theorem kpDo_2 {S : kbZ} {a b q s : Int} (hV : kpV S) (hq : q = 0 ∨ q = 1) (hs1 : s = 0 ∨ s = 1) : kpDo S 2 [a, b, q, s] := by
  obtain ⟨row, hR⟩ := hV
  have hn := hR.1.2.1
  have ec := kbMp_c (a := a) (b := b) (q := q) (s := s) (D := S.1)
  refine ⟨(kbMp a b q s S.1).1, ((kbMp a b q s S.1).2, S.2), fun m hC hA => ?_, kpRf_of (fun m h hs hA => ?_) (fun m h hs hA h0 => ?_)⟩
  · obtain ⟨a0, a1, a2, a3, -⟩ := hA
    unfold kfX12_execute
    rw [if_neg (show ¬ (2 : Int) < 0 by omega), kbGd (show (0 : Int) ≤ 2 ∧ (2 : Int) < 12 by omega), if_neg (show ¬ (2 : Int) + 1 = 1 by omega), if_neg (show ¬ (2 : Int) + 1 = 2 by omega), if_pos (show (2 : Int) + 1 = 3 by omega)]
    rw [kbGd (show (0 : Int) ≤ 0 ∧ (0 : Int) < knLn 139 by rw [kpLn139]; omega), kbGd (show (0 : Int) ≤ 1 ∧ (1 : Int) < knLn 139 by rw [kpLn139]; omega), kbGd (show (0 : Int) ≤ 2 ∧ (2 : Int) < knLn 139 by rw [kpLn139]; omega), kbGd (show (0 : Int) ≤ 3 ∧ (3 : Int) < knLn 139 by rw [kpLn139]; omega), show m 139 0 = a from a0, show m 139 1 = b from a1, show m 139 2 = q from a2, show m 139 3 = s from a3]
    rw [kpZ1 hq, kpZ1 hs1]
    exact (kb5_putPoke (d := 2) hC.1 hR.B hs1).bind (fun r ⟨r1, r2, r3⟩ => kbH_some.mpr ⟨r1, fun _ => ⟨r2, hC.2.fr r3 (by omega)⟩, fun o ho => r3 o (by omega)⟩)
  · obtain ⟨a0, a1, a2, a3, -⟩ := hA
    rw [show kpSo 2 = 112 from rfl] at hs
    unfold kfX13_notNow
    rw [kbGd (by omega), kbGd (by omega), hs, if_neg (show ¬ (112 : Int) = 98 by omega), if_neg (show ¬ (112 : Int) = 99 by omega), if_neg (show ¬ (112 : Int) = 101 by omega), if_neg (show ¬ (112 : Int) = 108 by omega), if_pos (show (112 : Int) = 112 from rfl)]
    rw [show m 158 0 = a from a0, show m 158 1 = b from a1, kb13_notPoke h.1.1 hn, Option.bind_some, ec]
    exact kbH_some.mpr ⟨kpIff3 (by omega) (by omega) (by omega) (by omega), kbFz.rf⟩
  · obtain ⟨a0, a1, a2, a3, -⟩ := hA
    rw [show kpSo 2 = 112 from rfl] at hs
    unfold kfX13_doesNow
    rw [kbGd (by omega), kbGd (by omega), hs, if_neg (show ¬ (112 : Int) = 98 by omega), if_neg (show ¬ (112 : Int) = 99 by omega), if_neg (show ¬ (112 : Int) = 100 by omega), if_neg (show ¬ (112 : Int) = 108 by omega), if_neg (show ¬ (112 : Int) = 109 by omega), if_pos (show (112 : Int) = 112 from rfl)]
    rw [ec] at h0
    have h1 := kpIf3 (by omega) (by omega) h0
    rw [kbGd (by omega), kbGd (by omega), show m 158 0 = a from a0, show m 158 1 = b from a1, show m 158 2 = q from a2, show m 158 3 = s from a3]
    exact (kb13_addsPoke h.1 h1.1.1 h1.1.2 h1.2 hs1 hq).bind (fun r ⟨_, b2, b3, b4⟩ => kbH_some.mpr ⟨h.d b2 b3, b4⟩)
theorem kpDo_3 {S : kbZ} {a b : Int} (hV : kpV S) : kpDo S 3 [a, b] := by
  obtain ⟨row, hR⟩ := hV
  have hn := hR.1.2.1
  have ec := kbMq_c (a := a) (b := b) (D := S.1)
  refine ⟨(kbMq a b S.1).1, ((kbMq a b S.1).2, S.2), fun m hC hA => ?_, kpRf_of (fun m h hs hA => ?_) (fun m h hs hA h0 => ?_)⟩
  · obtain ⟨a0, a1, -⟩ := hA
    unfold kfX12_execute
    rw [if_neg (show ¬ (3 : Int) < 0 by omega), kbGd (show (0 : Int) ≤ 3 ∧ (3 : Int) < 12 by omega), if_neg (show ¬ (3 : Int) + 1 = 1 by omega), if_neg (show ¬ (3 : Int) + 1 = 2 by omega), if_neg (show ¬ (3 : Int) + 1 = 3 by omega), if_pos (show (3 : Int) + 1 = 4 by omega)]
    rw [kbGd (show (0 : Int) ≤ 0 ∧ (0 : Int) < knLn 139 by rw [kpLn139]; omega), kbGd (show (0 : Int) ≤ 1 ∧ (1 : Int) < knLn 139 by rw [kpLn139]; omega), show m 139 0 = a from a0, show m 139 1 = b from a1]
    exact (kb5_takePoke (d := 2) hC.1 hR.V).bind (fun r ⟨r1, r2, r3⟩ => kbH_some.mpr ⟨r1, fun _ => ⟨r2, hC.2.fr r3 (by omega)⟩, fun o ho => r3 o (by omega)⟩)
  · obtain ⟨a0, a1, -⟩ := hA
    rw [show kpSo 3 = 118 from rfl] at hs
    unfold kfX13_notNow
    rw [kbGd (by omega), kbGd (by omega), hs, if_neg (show ¬ (118 : Int) = 98 by omega), if_neg (show ¬ (118 : Int) = 99 by omega), if_neg (show ¬ (118 : Int) = 101 by omega), if_neg (show ¬ (118 : Int) = 108 by omega), if_neg (show ¬ (118 : Int) = 112 by omega), if_neg (show ¬ (118 : Int) = 115 by omega), if_neg (show ¬ (118 : Int) = 116 by omega), if_neg (show ¬ (118 : Int) = 117 by omega), if_pos (show (118 : Int) = 118 from rfl)]
    rw [show m 158 0 = a from a0, show m 158 1 = b from a1, ec]
    refine (kb13_notUnpoke h.1).bind (fun q ⟨q1, q2⟩ => kbH_some.mpr ⟨?_, q2⟩)
    rw [q1]
    exact kpIff3 (by omega) (by omega) (by omega) (by omega)
  · obtain ⟨a0, a1, -⟩ := hA
    rw [show kpSo 3 = 118 from rfl] at hs
    unfold kfX13_doesNow
    rw [kbGd (by omega), kbGd (by omega), hs, if_neg (show ¬ (118 : Int) = 98 by omega), if_neg (show ¬ (118 : Int) = 99 by omega), if_neg (show ¬ (118 : Int) = 100 by omega), if_neg (show ¬ (118 : Int) = 108 by omega), if_neg (show ¬ (118 : Int) = 109 by omega), if_neg (show ¬ (118 : Int) = 112 by omega), if_neg (show ¬ (118 : Int) = 114 by omega), if_neg (show ¬ (118 : Int) = 115 by omega), if_neg (show ¬ (118 : Int) = 116 by omega), if_neg (show ¬ (118 : Int) = 117 by omega), if_pos (show (118 : Int) = 118 from rfl)]
    rw [ec] at h0
    have h1 := kpIf3 (by omega) (by omega) h0
    rw [show m 158 0 = a from a0, show m 158 1 = b from a1]
    have e : (kbMq a b S.1).2 = kbRm (if b < a then b else a) (kbRm (if a < b then b else a) S.1) := by unfold kbMq; rw [if_pos h1.1, if_pos h1.2]
    rw [e]
    exact (kb13_unpokes h.1 h1.1.1 h1.1.2 (kbPk_ne h1.2)).bind (fun r ⟨_, b2, b3, b4⟩ => kbH_some.mpr ⟨h.d b2 b3, b4⟩)
theorem kpDo_4 {S : kbZ} {a : Int} (hV : kpV S) : kpDo S 4 [a] := by
  obtain ⟨row, hR⟩ := hV
  have hn := hR.1.2.1
  have ec := kbMs_c (x := a) (D := S.1)
  refine ⟨(kbMs a S.1).1, ((kbMs a S.1).2, S.2), fun m hC hA => ?_, kpRf_of (fun m h hs hA => ?_) (fun m h hs hA h0 => ?_)⟩
  · obtain ⟨a0, -⟩ := hA
    unfold kfX12_execute
    rw [if_neg (show ¬ (4 : Int) < 0 by omega), kbGd (show (0 : Int) ≤ 4 ∧ (4 : Int) < 12 by omega), if_neg (show ¬ (4 : Int) + 1 = 1 by omega), if_neg (show ¬ (4 : Int) + 1 = 2 by omega), if_neg (show ¬ (4 : Int) + 1 = 3 by omega), if_neg (show ¬ (4 : Int) + 1 = 4 by omega), if_pos (show (4 : Int) + 1 = 5 by omega)]
    rw [kbGd (show (0 : Int) ≤ 0 ∧ (0 : Int) < knLn 139 by rw [kpLn139]; omega), show m 139 0 = a from a0]
    exact (kb5_switchOne (d := 2) hC.1 hR.B).bind (fun r ⟨r1, r2, r3⟩ => kbH_some.mpr ⟨r1, fun _ => ⟨r2, hC.2.fr r3 (by omega)⟩, fun o ho => r3 o (by omega)⟩)
  · obtain ⟨a0, -⟩ := hA
    rw [show kpSo 4 = 115 from rfl] at hs
    unfold kfX13_notNow
    rw [kbGd (by omega), kbGd (by omega), hs, if_neg (show ¬ (115 : Int) = 98 by omega), if_neg (show ¬ (115 : Int) = 99 by omega), if_neg (show ¬ (115 : Int) = 101 by omega), if_neg (show ¬ (115 : Int) = 108 by omega), if_neg (show ¬ (115 : Int) = 112 by omega), if_pos (show (115 : Int) = 115 from rfl)]
    rw [show m 158 0 = a from a0, kb13_notSwitch h.1.1 hn, Option.bind_some, ec]
    exact kbH_some.mpr ⟨Iff.rfl, kbFz.rf⟩
  · obtain ⟨a0, -⟩ := hA
    rw [show kpSo 4 = 115 from rfl] at hs
    unfold kfX13_doesNow
    rw [kbGd (by omega), kbGd (by omega), hs, if_neg (show ¬ (115 : Int) = 98 by omega), if_neg (show ¬ (115 : Int) = 99 by omega), if_neg (show ¬ (115 : Int) = 100 by omega), if_neg (show ¬ (115 : Int) = 108 by omega), if_neg (show ¬ (115 : Int) = 109 by omega), if_neg (show ¬ (115 : Int) = 112 by omega), if_neg (show ¬ (115 : Int) = 114 by omega), if_pos (show (115 : Int) = 115 from rfl)]
    rw [ec] at h0
    have h1 := kpIf2 (by omega) h0
    rw [show m 158 0 = a from a0]
    have e : (kbMs a S.1).2 = kbSw a S.1 := by unfold kbMs; rw [if_pos h1]
    rw [e]
    exact (kb13_switchesOne h.1 h1).bind (fun r ⟨_, b2, b3, b4⟩ => kbH_some.mpr ⟨h.d b2 b3, b4⟩)
theorem kpDo_5 {S : kbZ} (hV : kpV S) : kpDo S 5 [] := by
  obtain ⟨row, hR⟩ := hV
  have hn := hR.1.2.1
  refine ⟨0, (kbSb S.1.1 S.1, S.2), fun m hC hA => ?_, kpRf_of (fun m h hs hA => ?_) (fun m h hs hA h0 => ?_)⟩
  · unfold kfX12_execute
    rw [if_neg (show ¬ (5 : Int) < 0 by omega), kbGd (show (0 : Int) ≤ 5 ∧ (5 : Int) < 12 by omega), if_neg (show ¬ (5 : Int) + 1 = 1 by omega), if_neg (show ¬ (5 : Int) + 1 = 2 by omega), if_neg (show ¬ (5 : Int) + 1 = 3 by omega), if_neg (show ¬ (5 : Int) + 1 = 4 by omega), if_neg (show ¬ (5 : Int) + 1 = 5 by omega), if_pos (show (5 : Int) + 1 = 6 by omega)]
    exact (kb5_switchAll (d := 2) hC.1 hR.B).bind (fun r ⟨r1, r2, r3⟩ => kbH_some.mpr ⟨r1, fun _ => ⟨r2, hC.2.fr r3 (by omega)⟩, fun o ho => r3 o (by omega)⟩)
  · rw [show kpSo 5 = 109 from rfl] at hs
    unfold kfX13_notNow
    rw [kbGd (by omega), kbGd (by omega), hs, if_neg (show ¬ (109 : Int) = 98 by omega), if_neg (show ¬ (109 : Int) = 99 by omega), if_neg (show ¬ (109 : Int) = 101 by omega), if_neg (show ¬ (109 : Int) = 108 by omega), if_neg (show ¬ (109 : Int) = 112 by omega), if_neg (show ¬ (109 : Int) = 115 by omega), if_neg (show ¬ (109 : Int) = 116 by omega), if_neg (show ¬ (109 : Int) = 117 by omega), if_neg (show ¬ (109 : Int) = 118 by omega)]
    exact kbH_some.mpr ⟨Iff.rfl, kbFz.rf⟩
  · rw [show kpSo 5 = 109 from rfl] at hs
    unfold kfX13_doesNow
    rw [kbGd (by omega), kbGd (by omega), hs, if_neg (show ¬ (109 : Int) = 98 by omega), if_neg (show ¬ (109 : Int) = 99 by omega), if_neg (show ¬ (109 : Int) = 100 by omega), if_neg (show ¬ (109 : Int) = 108 by omega), if_pos (show (109 : Int) = 109 from rfl)]
    exact (kb13_mirrors h.1).bind (fun r ⟨_, b2, b3, b4⟩ => kbH_some.mpr ⟨h.d b2 b3, b4⟩)
theorem kpDo_6 {S : kbZ} (hV : kpV S) : kpDo S 6 [] := by
  obtain ⟨row, hR⟩ := hV
  have hn := hR.1.2.1
  refine ⟨0, (kbBk S.1, S.2), fun m hC hA => ?_, kpRf_of (fun m h hs hA => ?_) (fun m h hs hA h0 => ?_)⟩
  · unfold kfX12_execute
    rw [if_neg (show ¬ (6 : Int) < 0 by omega), kbGd (show (0 : Int) ≤ 6 ∧ (6 : Int) < 12 by omega), if_neg (show ¬ (6 : Int) + 1 = 1 by omega), if_neg (show ¬ (6 : Int) + 1 = 2 by omega), if_neg (show ¬ (6 : Int) + 1 = 3 by omega), if_neg (show ¬ (6 : Int) + 1 = 4 by omega), if_neg (show ¬ (6 : Int) + 1 = 5 by omega), if_neg (show ¬ (6 : Int) + 1 = 6 by omega), if_pos (show (6 : Int) + 1 = 7 by omega)]
    exact (kb5_turnBack (d := 2) hC.1 hR.B).bind (fun r ⟨r1, r2, r3⟩ => kbH_some.mpr ⟨r1, fun _ => ⟨r2, hC.2.fr r3 (by omega)⟩, fun o ho => r3 o (by omega)⟩)
  · rw [show kpSo 6 = 114 from rfl] at hs
    unfold kfX13_notNow
    rw [kbGd (by omega), kbGd (by omega), hs, if_neg (show ¬ (114 : Int) = 98 by omega), if_neg (show ¬ (114 : Int) = 99 by omega), if_neg (show ¬ (114 : Int) = 101 by omega), if_neg (show ¬ (114 : Int) = 108 by omega), if_neg (show ¬ (114 : Int) = 112 by omega), if_neg (show ¬ (114 : Int) = 115 by omega), if_neg (show ¬ (114 : Int) = 116 by omega), if_neg (show ¬ (114 : Int) = 117 by omega), if_neg (show ¬ (114 : Int) = 118 by omega)]
    exact kbH_some.mpr ⟨Iff.rfl, kbFz.rf⟩
  · rw [show kpSo 6 = 114 from rfl] at hs
    unfold kfX13_doesNow
    rw [kbGd (by omega), kbGd (by omega), hs, if_neg (show ¬ (114 : Int) = 98 by omega), if_neg (show ¬ (114 : Int) = 99 by omega), if_neg (show ¬ (114 : Int) = 100 by omega), if_neg (show ¬ (114 : Int) = 108 by omega), if_neg (show ¬ (114 : Int) = 109 by omega), if_neg (show ¬ (114 : Int) = 112 by omega), if_pos (show (114 : Int) = 114 from rfl)]
    exact (kb13_reverses h.1).bind (fun r ⟨_, b2, b3, b4⟩ => kbH_some.mpr ⟨h.d b2 b3, b4⟩)
theorem kpDo_7 {S : kbZ} {a : Int} (hV : kpV S) : kpDo S 7 [a] := by
  obtain ⟨row, hR⟩ := hV
  have hn := hR.1.2.1
  have ec := kbMt_c (x := a) (D := S.1)
  refine ⟨(kbMt a S.1).1, ((kbMt a S.1).2, S.2), fun m hC hA => ?_, kpRf_of (fun m h hs hA => ?_) (fun m h hs hA h0 => ?_)⟩
  · obtain ⟨a0, -⟩ := hA
    unfold kfX12_execute
    rw [if_neg (show ¬ (7 : Int) < 0 by omega), kbGd (show (0 : Int) ≤ 7 ∧ (7 : Int) < 12 by omega), if_neg (show ¬ (7 : Int) + 1 = 1 by omega), if_neg (show ¬ (7 : Int) + 1 = 2 by omega), if_neg (show ¬ (7 : Int) + 1 = 3 by omega), if_neg (show ¬ (7 : Int) + 1 = 4 by omega), if_neg (show ¬ (7 : Int) + 1 = 5 by omega), if_neg (show ¬ (7 : Int) + 1 = 6 by omega), if_neg (show ¬ (7 : Int) + 1 = 7 by omega), if_pos (show (7 : Int) + 1 = 8 by omega)]
    rw [kbGd (show (0 : Int) ≤ 0 ∧ (0 : Int) < knLn 139 by rw [kpLn139]; omega), show m 139 0 = a from a0]
    exact (kb5_turn (d := 2) hC.1 hR.B).bind (fun r ⟨r1, r2, r3⟩ => kbH_some.mpr ⟨r1, fun _ => ⟨r2, hC.2.fr r3 (by omega)⟩, fun o ho => r3 o (by omega)⟩)
  · obtain ⟨a0, -⟩ := hA
    rw [show kpSo 7 = 116 from rfl] at hs
    unfold kfX13_notNow
    rw [kbGd (by omega), kbGd (by omega), hs, if_neg (show ¬ (116 : Int) = 98 by omega), if_neg (show ¬ (116 : Int) = 99 by omega), if_neg (show ¬ (116 : Int) = 101 by omega), if_neg (show ¬ (116 : Int) = 108 by omega), if_neg (show ¬ (116 : Int) = 112 by omega), if_neg (show ¬ (116 : Int) = 115 by omega), if_pos (show (116 : Int) = 116 from rfl)]
    rw [show m 158 0 = a from a0, kb13_notTurn h.1.1 hn, Option.bind_some, ec]
    exact kbH_some.mpr ⟨Iff.rfl, kbFz.rf⟩
  · obtain ⟨a0, -⟩ := hA
    rw [show kpSo 7 = 116 from rfl] at hs
    unfold kfX13_doesNow
    rw [kbGd (by omega), kbGd (by omega), hs, if_neg (show ¬ (116 : Int) = 98 by omega), if_neg (show ¬ (116 : Int) = 99 by omega), if_neg (show ¬ (116 : Int) = 100 by omega), if_neg (show ¬ (116 : Int) = 108 by omega), if_neg (show ¬ (116 : Int) = 109 by omega), if_neg (show ¬ (116 : Int) = 112 by omega), if_neg (show ¬ (116 : Int) = 114 by omega), if_neg (show ¬ (116 : Int) = 115 by omega), if_pos (show (116 : Int) = 116 from rfl)]
    rw [ec] at h0
    have h1 := kpIf2 (by omega) h0
    rw [show m 158 0 = a from a0]
    have e : (kbMt a S.1).2 = kbTn a S.1 := by unfold kbMt; rw [if_pos h1]
    rw [e]
    exact (kb13_turnsTo h.1 h1).bind (fun r ⟨_, b2, b3, b4⟩ => kbH_some.mpr ⟨h.d b2 b3, b4⟩)
theorem kpDo_8 {S : kbZ} (hV : kpV S) : kpDo S 8 [] := by
  obtain ⟨row, hR⟩ := hV
  have hn := hR.1.2.1
  obtain ⟨m0, hm0⟩ := kpMem S.1
  obtain ⟨E, hE⟩ : ∃ E : kbD, kbRx S.1 E := by
    obtain ⟨r, _, _, E, e1, _⟩ := kb5_simplify (d := 2) hm0 hR.V
    exact ⟨E, e1⟩
  refine ⟨0, (E, S.2), fun m hC hA => ?_, kpRf_of (fun m h hs hA => ?_) (fun m h hs hA h0 => ?_)⟩
  · unfold kfX12_execute
    rw [if_neg (show ¬ (8 : Int) < 0 by omega), kbGd (show (0 : Int) ≤ 8 ∧ (8 : Int) < 12 by omega), if_neg (show ¬ (8 : Int) + 1 = 1 by omega), if_neg (show ¬ (8 : Int) + 1 = 2 by omega), if_neg (show ¬ (8 : Int) + 1 = 3 by omega), if_neg (show ¬ (8 : Int) + 1 = 4 by omega), if_neg (show ¬ (8 : Int) + 1 = 5 by omega), if_neg (show ¬ (8 : Int) + 1 = 6 by omega), if_neg (show ¬ (8 : Int) + 1 = 7 by omega), if_neg (show ¬ (8 : Int) + 1 = 8 by omega), if_pos (show (8 : Int) + 1 = 9 by omega)]
    refine (kb5_simplify (d := 2) hC.1 hR.V).bind (fun r ⟨r1, E2, e1, _, _, r2, r3⟩ => ?_)
    rw [e1.det hE] at r2
    exact kbH_some.mpr ⟨r1, fun _ => ⟨r2, hC.2.fr r3 (by omega)⟩, fun o ho => r3 o (by omega)⟩
  · rw [show kpSo 8 = 100 from rfl] at hs
    unfold kfX13_notNow
    rw [kbGd (by omega), kbGd (by omega), hs, if_neg (show ¬ (100 : Int) = 98 by omega), if_neg (show ¬ (100 : Int) = 99 by omega), if_neg (show ¬ (100 : Int) = 101 by omega), if_neg (show ¬ (100 : Int) = 108 by omega), if_neg (show ¬ (100 : Int) = 112 by omega), if_neg (show ¬ (100 : Int) = 115 by omega), if_neg (show ¬ (100 : Int) = 116 by omega), if_neg (show ¬ (100 : Int) = 117 by omega), if_neg (show ¬ (100 : Int) = 118 by omega)]
    exact kbH_some.mpr ⟨Iff.rfl, kbFz.rf⟩
  · rw [show kpSo 8 = 100 from rfl] at hs
    unfold kfX13_doesNow
    rw [kbGd (by omega), kbGd (by omega), hs, if_neg (show ¬ (100 : Int) = 98 by omega), if_neg (show ¬ (100 : Int) = 99 by omega), if_pos (show (100 : Int) = 100 from rfl)]
    refine (kb13_reducesAll h.1).bind (fun r ⟨E2, e1, _, b2, b3, b4⟩ => ?_)
    rw [e1.det hE] at b2
    exact kbH_some.mpr ⟨h.d b2 b3, b4⟩
theorem kpDo_9 {S : kbZ} (hV : kpV S) : kpDo S 9 [] := by
  obtain ⟨row, hR⟩ := hV
  have hn := hR.1.2.1
  have hm := hR.2.2.1
  have ec : (kbEn S.2).1 = if S.2.1 < 4 then 0 else 3 := by unfold kbEn; split <;> rfl
  refine ⟨(kbEn S.2).1, (S.1, (kbEn S.2).2), fun m hC hA => ?_, kpRf_of (fun m h hs hA => ?_) (fun m h hs hA h0 => ?_)⟩
  · unfold kfX12_execute
    rw [if_neg (show ¬ (9 : Int) < 0 by omega), kbGd (show (0 : Int) ≤ 9 ∧ (9 : Int) < 12 by omega), if_neg (show ¬ (9 : Int) + 1 = 1 by omega), if_neg (show ¬ (9 : Int) + 1 = 2 by omega), if_neg (show ¬ (9 : Int) + 1 = 3 by omega), if_neg (show ¬ (9 : Int) + 1 = 4 by omega), if_neg (show ¬ (9 : Int) + 1 = 5 by omega), if_neg (show ¬ (9 : Int) + 1 = 6 by omega), if_neg (show ¬ (9 : Int) + 1 = 7 by omega), if_neg (show ¬ (9 : Int) + 1 = 8 by omega), if_neg (show ¬ (9 : Int) + 1 = 9 by omega), if_pos (show (9 : Int) + 1 = 10 by omega)]
    exact (kb1_enter (b := 6) hC.2 hR.2.2).bind (fun r ⟨r1, r2, r3⟩ => kbH_some.mpr ⟨r1, fun _ => ⟨hC.1.fr r3 (by omega), r2⟩, fun o ho => r3 o (by omega)⟩)
  · rw [show kpSo 9 = 108 from rfl] at hs
    unfold kfX13_notNow
    rw [kbGd (by omega), kbGd (by omega), hs, if_neg (show ¬ (108 : Int) = 98 by omega), if_neg (show ¬ (108 : Int) = 99 by omega), if_neg (show ¬ (108 : Int) = 101 by omega), if_pos (show (108 : Int) = 108 from rfl)]
    unfold kfX13_notPlayer
    rw [kbGd (by omega), Option.bind_some, h.2.1.1, ec]
    refine kbH_some.mpr ⟨?_, kbFz.rf⟩
    by_cases g : S.2.1 < 4
    · rw [if_pos g, if_neg (show ¬ S.2.1 = 4 by omega)]
    · rw [if_neg g, if_pos (show S.2.1 = 4 by omega)]
      exact ⟨fun h => absurd h (by omega), fun h => absurd h (by omega)⟩
  · rw [show kpSo 9 = 108 from rfl] at hs
    unfold kfX13_doesNow
    rw [kbGd (by omega), kbGd (by omega), hs, if_neg (show ¬ (108 : Int) = 98 by omega), if_neg (show ¬ (108 : Int) = 99 by omega), if_neg (show ¬ (108 : Int) = 100 by omega), if_pos (show (108 : Int) = 108 from rfl)]
    rw [ec] at h0
    have h1 := kpIf2 (by omega) h0
    exact (kb13_addsPlayer h h1).bind (fun r ⟨_, b2, b3⟩ => kbH_some.mpr ⟨b2, b3⟩)
theorem kpDo_10 {S : kbZ} {p g s : Int} (hV : kpV S) : kpDo S 10 [p, g, s] := by
  obtain ⟨row, hR⟩ := hV
  have hn := hR.1.2.1
  refine ⟨(kbWg p g s S.2).1, (S.1, (kbWg p g s S.2).2), fun m hC hA => ?_, kpRf_of (fun m h hs hA => ?_) (fun m h hs hA h0 => ?_)⟩
  · obtain ⟨a0, a1, a2, -⟩ := hA
    unfold kfX12_execute
    rw [if_neg (show ¬ (10 : Int) < 0 by omega), kbGd (show (0 : Int) ≤ 10 ∧ (10 : Int) < 12 by omega), if_neg (show ¬ (10 : Int) + 1 = 1 by omega), if_neg (show ¬ (10 : Int) + 1 = 2 by omega), if_neg (show ¬ (10 : Int) + 1 = 3 by omega), if_neg (show ¬ (10 : Int) + 1 = 4 by omega), if_neg (show ¬ (10 : Int) + 1 = 5 by omega), if_neg (show ¬ (10 : Int) + 1 = 6 by omega), if_neg (show ¬ (10 : Int) + 1 = 7 by omega), if_neg (show ¬ (10 : Int) + 1 = 8 by omega), if_neg (show ¬ (10 : Int) + 1 = 9 by omega), if_neg (show ¬ (10 : Int) + 1 = 10 by omega), if_pos (show (10 : Int) + 1 = 11 by omega)]
    rw [kbGd (show (0 : Int) ≤ 0 ∧ (0 : Int) < knLn 139 by rw [kpLn139]; omega), kbGd (show (0 : Int) ≤ 1 ∧ (1 : Int) < knLn 139 by rw [kpLn139]; omega), kbGd (show (0 : Int) ≤ 2 ∧ (2 : Int) < knLn 139 by rw [kpLn139]; omega), show m 139 0 = p from a0, show m 139 1 = g from a1, show m 139 2 = s from a2]
    exact (kb1_wager (b := 6) hC.2 hR.2.2).bind (fun r ⟨r1, r2, r3⟩ => kbH_some.mpr ⟨r1, fun _ => ⟨hC.1.fr r3 (by omega), r2⟩, fun o ho => r3 o (by omega)⟩)
  · obtain ⟨a0, a1, a2, -⟩ := hA
    rw [show kpSo 10 = 98 from rfl] at hs
    unfold kfX13_notNow
    rw [kbGd (by omega), kbGd (by omega), hs, if_pos (show (98 : Int) = 98 from rfl)]
    rw [kbGd (by omega), show m 158 0 = p from a0, show m 158 1 = g from a1, show m 158 2 = s from a2, kb13_notBet h.2.1 hR.2.2, Option.bind_some]
    exact kbH_some.mpr ⟨Iff.rfl, kbFz.rf⟩
  · obtain ⟨a0, a1, a2, -⟩ := hA
    rw [show kpSo 10 = 98 from rfl] at hs
    unfold kfX13_doesNow
    rw [kbGd (by omega), kbGd (by omega), hs, if_pos (show (98 : Int) = 98 from rfl)]
    rw [kbGd (by omega), show m 158 0 = p from a0, show m 158 1 = g from a1, show m 158 2 = s from a2]
    exact (kb13_bets h h0).bind (fun r ⟨_, b2, b3⟩ => kbH_some.mpr ⟨b2, b3⟩)
theorem kpDo_11 {S : kbZ} (hV : kpV S) : kpDo S 11 [] := by
  obtain ⟨row, hR⟩ := hV
  have hn := hR.1.2.1
  obtain ⟨m0, hm0⟩ := kpMem S.1
  obtain ⟨b, hb⟩ := kbBs_ex hm0 hR.V
  have hbr := kbBs_r hn hb
  have ec := kbPa_c (z := kbSz b) (B := S.2)
  refine ⟨(kbPa (kbSz b) S.2).1, (S.1, (kbPa (kbSz b) S.2).2), fun m hC hA => ?_, kpRf_of (fun m h hs hA => ?_) (fun m h hs hA h0 => ?_)⟩
  · unfold kfX12_execute
    rw [if_neg (show ¬ (11 : Int) < 0 by omega), kbGd (show (0 : Int) ≤ 11 ∧ (11 : Int) < 12 by omega), if_neg (show ¬ (11 : Int) + 1 = 1 by omega), if_neg (show ¬ (11 : Int) + 1 = 2 by omega), if_neg (show ¬ (11 : Int) + 1 = 3 by omega), if_neg (show ¬ (11 : Int) + 1 = 4 by omega), if_neg (show ¬ (11 : Int) + 1 = 5 by omega), if_neg (show ¬ (11 : Int) + 1 = 6 by omega), if_neg (show ¬ (11 : Int) + 1 = 7 by omega), if_neg (show ¬ (11 : Int) + 1 = 8 by omega), if_neg (show ¬ (11 : Int) + 1 = 9 by omega), if_neg (show ¬ (11 : Int) + 1 = 10 by omega), if_neg (show ¬ (11 : Int) + 1 = 11 by omega), if_pos (show (11 : Int) + 1 = 12 by omega)]
    refine (kb11_fewest hC.1 hR.V).bind (fun q1 ⟨b', c1, c2, _, c4⟩ => ?_)
    rw [kbBs_det c1 hb] at c2
    rw [c2]
    have hC1 : kbCs q1.2 1 S := hC.sm (fun o _ _ => c4 o (by omega))
    exact (kb1_pay (b := 6) hC1.2 hR.2.2).bind (fun r ⟨r1, r2, r3⟩ => kbH_some.mpr ⟨r1, fun _ => ⟨hC1.1.fr r3 (by omega), r2⟩, fun o ho => (r3 o (by omega)).trans (c4 o (by omega))⟩)
  · rw [show kpSo 11 = 101 from rfl] at hs
    unfold kfX13_notNow
    rw [kbGd (by omega), kbGd (by omega), hs, if_neg (show ¬ (101 : Int) = 98 by omega), if_neg (show ¬ (101 : Int) = 99 by omega), if_pos (show (101 : Int) = 101 from rfl)]
    refine (kb13_notSettle h hb).bind (fun q1 ⟨r1, r2⟩ => kbH_some.mpr ⟨?_, r2⟩)
    rw [r1, ec]
    by_cases g1 : kbSm S.2.2.2.2.2 S.2.1.toNat = 0
    · rw [if_pos g1, if_pos g1]
      exact ⟨fun h => absurd h (by omega), fun h => absurd h (by omega)⟩
    · rw [if_neg g1, if_neg g1]
      by_cases g2 : b = -1
      · rw [if_pos g2, if_pos ((kbSz_1 hbr).mpr g2)]
        exact ⟨fun h => absurd h (by omega), fun h => absurd h (by omega)⟩
      · rw [if_neg g2, if_neg (fun h => g2 ((kbSz_1 hbr).mp h))]
  · rw [show kpSo 11 = 101 from rfl] at hs
    unfold kfX13_doesNow
    rw [kbGd (by omega), kbGd (by omega), hs, if_neg (show ¬ (101 : Int) = 98 by omega), if_neg (show ¬ (101 : Int) = 99 by omega), if_neg (show ¬ (101 : Int) = 100 by omega), if_neg (show ¬ (101 : Int) = 108 by omega), if_neg (show ¬ (101 : Int) = 109 by omega), if_neg (show ¬ (101 : Int) = 112 by omega), if_neg (show ¬ (101 : Int) = 114 by omega), if_neg (show ¬ (101 : Int) = 115 by omega), if_neg (show ¬ (101 : Int) = 116 by omega), if_neg (show ¬ (101 : Int) = 117 by omega), if_neg (show ¬ (101 : Int) = 118 by omega)]
    rw [ec] at h0
    have g1 : ¬ kbSm S.2.2.2.2.2 S.2.1.toNat = 0 := fun h9 => by rw [if_pos h9] at h0; omega
    have g2 : ¬ kbSz b = -1 := fun h9 => by rw [if_neg g1, if_pos h9] at h0; omega
    have e : (kbPa (kbSz b) S.2).2 = kbSt S.2 (kbSz b) := by unfold kbPa; rw [if_neg g1, if_neg g2]
    rw [e]
    exact (kb13_settles h hb (fun h9 => g2 ((kbSz_1 hbr).mpr h9))).bind (fun r ⟨_, b2, b3⟩ => kbH_some.mpr ⟨b2, b3⟩)
