/-! A script run by both. -/
theorem kpInvL {nc : Int → Int} {a c n : Int} {f : List Int} {x : Int → Int} (ha : a = 32 ∨ a = 58) (h : (kpPts nc (a :: f) (1, c, n, x)).1 = 1) : ∃ c' : Int, kpPts nc (a :: f) (1, c, n, x) = kpPts nc f (1, c', n, x) := by
  have e : kpPt a nc c n x = kpLi a nc c n x := by rcases ha with rfl | rfl <;> rfl
  rw [kpPts] at h ⊢
  dsimp only at h ⊢
  rw [e] at h ⊢
  unfold kpLi at h ⊢
  by_cases g : nc c = a
  · rw [if_pos g, if_neg (show ¬ (1 : Int) = 0 by omega)]
    exact ⟨c + 1, rfl⟩
  · rw [if_neg g, if_pos rfl] at h
    exact absurd h (show ¬ (0 : Int) = 1 by omega)
theorem kpInvU {nc : Int → Int} {a c n : Int} {f : List Int} {x : Int → Int} (ha : a = 110 ∨ a = 100) (hn : n < 4) (h : (kpPts nc (a :: f) (1, c, n, x)).1 = 1) : ∃ c' v : Int, kpPts nc (a :: f) (1, c, n, x) = kpPts nc f (1, c', n + 1, kbPu x n v) := by
  rw [kpPts] at h ⊢
  dsimp only at h ⊢
  rcases ha with rfl | rfl
  · rw [show kpPt 110 nc c n x = kpNu nc c n x from rfl] at h ⊢
    unfold kpNu at h ⊢
    by_cases g : kpDg (nc c)
    · rw [if_pos g]
      by_cases g2 : kpDg (nc (c + 1))
      · rw [if_pos g2, if_neg (show ¬ (1 : Int) = 0 by omega), kpGv_lt hn]
        exact ⟨_, _, rfl⟩
      · rw [if_neg g2, if_neg (show ¬ (1 : Int) = 0 by omega), kpGv_lt hn]
        exact ⟨_, _, rfl⟩
    · rw [if_neg g, if_pos rfl] at h
      exact absurd h (show ¬ (0 : Int) = 1 by omega)
  · rw [show kpPt 100 nc c n x = kpDi nc c n x from rfl] at h ⊢
    unfold kpDi at h ⊢
    by_cases g : kpDg (nc c)
    · rw [if_pos g, if_neg (show ¬ (1 : Int) = 0 by omega), kpGv_lt hn]
      exact ⟨_, _, rfl⟩
    · rw [if_neg g, if_pos rfl] at h
      exact absurd h (show ¬ (0 : Int) = 1 by omega)
theorem kpInvO {nc : Int → Int} {a c n a1 a2 : Int} {f : List Int} {x : Int → Int} (he : kpPt a nc c n x = kpCh a1 a2 nc c n x) (hn : n < 4) (h : (kpPts nc (a :: f) (1, c, n, x)).1 = 1) : ∃ c' v : Int, (v = 0 ∨ v = 1) ∧ kpPts nc (a :: f) (1, c, n, x) = kpPts nc f (1, c', n + 1, kbPu x n v) := by
  rw [kpPts] at h ⊢
  dsimp only at h ⊢
  rw [he] at h ⊢
  unfold kpCh at h ⊢
  by_cases g : nc c = a1
  · rw [if_pos g, if_neg (show ¬ (1 : Int) = 0 by omega), kpGv_lt hn]
    exact ⟨_, 1, Or.inr rfl, rfl⟩
  · rw [if_neg g] at h ⊢
    by_cases g2 : nc c = a2
    · rw [if_pos g2, if_neg (show ¬ (1 : Int) = 0 by omega), kpGv_lt hn]
      exact ⟨_, 0, Or.inl rfl, rfl⟩
    · rw [if_neg g2, if_pos rfl] at h
      exact absurd h (show ¬ (0 : Int) = 1 by omega)
theorem kpC_ok {nc : Int → Int} {w c : Int} (h : (kpC nc w c).1 = 1) : ∃ c' : Int, kpC nc w c = kpPts nc (kpFm w) (1, c', 0, fun _ => 0) := by
  unfold kpC kpCd at h ⊢
  rw [kpFw_eq] at h ⊢
  by_cases g : kpLc nc (kpWd w) c = (kpWd w).length
  · rw [if_pos g]
    exact ⟨_, rfl⟩
  · rw [if_neg g] at h
    exact absurd h (show ¬ (0 : Int) = 1 by omega)
theorem kpCan {nc : Int → Int} {w c : Int} {S : kbZ} (hw : 0 ≤ w ∧ w < 12) (h : (kpC nc w c).1 = 1) (hV : kpV S) : ∃ vs : List Int, kpArg (kpC nc w c).2.2.2 vs 0 ∧ (kpC nc w c).2.2.1 = (vs.length : Int) ∧ kpDo S w vs := by
  obtain ⟨c0, e0⟩ := kpC_ok h
  rw [e0] at h ⊢
  have hc : w = 0 ∨ w = 1 ∨ w = 2 ∨ w = 3 ∨ w = 4 ∨ w = 5 ∨ w = 6 ∨ w = 7 ∨ w = 8 ∨ w = 9 ∨ w = 10 ∨ w = 11 := by omega
  rcases hc with rfl | rfl | rfl | rfl | rfl | rfl | rfl | rfl | rfl | rfl | rfl | rfl
  · rw [show kpFm 0 = [110, 115, 112] from rfl] at h ⊢
    obtain ⟨c1, v1, e1⟩ := kpInvU (Or.inl rfl) (by omega) h
    rw [e1] at h ⊢
    obtain ⟨c2, v2, k2, e2⟩ := kpInvO (a1 := 43) (a2 := 45) rfl (by omega) h
    rw [e2] at h ⊢
    obtain ⟨c3, v3, k3, e3⟩ := kpInvO (a1 := 111) (a2 := 117) rfl (by omega) h
    rw [e3]
    exact ⟨[v1, v2, v3], ⟨rfl, rfl, rfl, trivial⟩, rfl, kpDo_0 hV k2 k3⟩
  · rw [show kpFm 1 = [100] from rfl] at h ⊢
    obtain ⟨c1, v1, e1⟩ := kpInvU (Or.inr rfl) (by omega) h
    rw [e1]
    exact ⟨[v1], ⟨rfl, trivial⟩, rfl, kpDo_1 hV⟩
  · rw [show kpFm 2 = [110, 32, 110, 119, 115] from rfl] at h ⊢
    obtain ⟨c1, v1, e1⟩ := kpInvU (Or.inl rfl) (by omega) h
    rw [e1] at h ⊢
    obtain ⟨c9, e9⟩ := kpInvL (Or.inl rfl) h
    rw [e9] at h ⊢
    obtain ⟨c2, v2, e2⟩ := kpInvU (Or.inl rfl) (by omega) h
    rw [e2] at h ⊢
    obtain ⟨c3, v3, k3, e3⟩ := kpInvO (a1 := 61) (a2 := 120) rfl (by omega) h
    rw [e3] at h ⊢
    obtain ⟨c4, v4, k4, e4⟩ := kpInvO (a1 := 43) (a2 := 45) rfl (by omega) h
    rw [e4]
    exact ⟨[v1, v2, v3, v4], ⟨rfl, rfl, rfl, rfl, trivial⟩, rfl, kpDo_2 hV k3 k4⟩
  · rw [show kpFm 3 = [100, 32, 100] from rfl] at h ⊢
    obtain ⟨c1, v1, e1⟩ := kpInvU (Or.inr rfl) (by omega) h
    rw [e1] at h ⊢
    obtain ⟨c9, e9⟩ := kpInvL (Or.inl rfl) h
    rw [e9] at h ⊢
    obtain ⟨c2, v2, e2⟩ := kpInvU (Or.inr rfl) (by omega) h
    rw [e2]
    exact ⟨[v1, v2], ⟨rfl, rfl, trivial⟩, rfl, kpDo_3 hV⟩
  · rw [show kpFm 4 = [100] from rfl] at h ⊢
    obtain ⟨c1, v1, e1⟩ := kpInvU (Or.inr rfl) (by omega) h
    rw [e1]
    exact ⟨[v1], ⟨rfl, trivial⟩, rfl, kpDo_4 hV⟩
  · exact ⟨[], trivial, rfl, kpDo_5 hV⟩
  · exact ⟨[], trivial, rfl, kpDo_6 hV⟩
  · rw [show kpFm 7 = [110] from rfl] at h ⊢
    obtain ⟨c1, v1, e1⟩ := kpInvU (Or.inl rfl) (by omega) h
    rw [e1]
    exact ⟨[v1], ⟨rfl, trivial⟩, rfl, kpDo_7 hV⟩
  · exact ⟨[], trivial, rfl, kpDo_8 hV⟩
  · exact ⟨[], trivial, rfl, kpDo_9 hV⟩
  · rw [show kpFm 10 = [100, 32, 100, 58, 110] from rfl] at h ⊢
    obtain ⟨c1, v1, e1⟩ := kpInvU (Or.inr rfl) (by omega) h
    rw [e1] at h ⊢
    obtain ⟨c8, e8⟩ := kpInvL (Or.inl rfl) h
    rw [e8] at h ⊢
    obtain ⟨c2, v2, e2⟩ := kpInvU (Or.inr rfl) (by omega) h
    rw [e2] at h ⊢
    obtain ⟨c9, e9⟩ := kpInvL (Or.inr rfl) h
    rw [e9] at h ⊢
    obtain ⟨c3, v3, e3⟩ := kpInvU (Or.inl rfl) (by omega) h
    rw [e3]
    exact ⟨[v1, v2, v3], ⟨rfl, rfl, rfl, trivial⟩, rfl, kpDo_10 hV⟩
  · exact ⟨[], trivial, rfl, kpDo_11 hV⟩
theorem kpArg.rel {x y : Int → Int} : ∀ (vs : List Int) (k : Int), kpArg x vs k → (∀ j : Int, k ≤ j → j < k + vs.length → y j = x j) → kpArg y vs k
  | [], _, _, _ => trivial
  | v :: vs, k, h, he => by
    rw [List.length_cons] at he
    exact ⟨(he k (by omega) (by omega)).trans h.1, kpArg.rel vs (k + 1) h.2 (fun j j0 j1 => he j (by omega) (by omega))⟩
theorem kpV_step {S S' : kbZ} {w code : Int} {vs : List Int} {x : Int → Int} (hV : kpV S) (hA : kpArg x vs 0) (h : kpRf S w vs code S') (h0 : code = 0) : kpV S' := by
  obtain ⟨row, hR⟩ := hV
  obtain ⟨q, _, a1, a2, a3⟩ := h (fun o => if o = 143 then row else if o = 158 then x else fun _ => kpSo w) hR rfl hA
  obtain ⟨r, _, b1, _⟩ := a3 h0
  exact ⟨_, b1⟩
/-- what the class's loop leaves alone, what the reference's -/
def kpFq (μ μ' : knMem) : Prop := (∀ o : Int, (o = 0 ∨ (10 ≤ o ∧ o < 132) ∨ 136 < o) → o ≠ 137 → o ≠ 139 → μ' o = μ o) ∧ μ' 137 2 = μ 137 2
def kpFr (μ μ' : knMem) : Prop := (∀ o : Int, o ≠ 142 → o ≠ 143 → (o < 147 ∨ 149 < o) → o ≠ 158 → μ' o = μ o) ∧ ∀ i : Int, i ≠ 8 → i ≠ 22 → i ≠ 26 → i ≠ 27 → μ' 142 i = μ 142 i
theorem kpFq.trans {a b c : knMem} (h : kpFq a b) (h2 : kpFq b c) : kpFq a c := ⟨fun o h1 h3 h4 => (h2.1 o h1 h3 h4).trans (h.1 o h1 h3 h4), h2.2.trans h.2⟩
theorem kpFr.trans {a b c : knMem} (h : kpFr a b) (h2 : kpFr b c) : kpFr a c := ⟨fun o h1 h3 h4 h5 => (h2.1 o h1 h3 h4 h5).trans (h.1 o h1 h3 h4 h5), fun i h1 h3 h4 h5 => (h2.2 i h1 h3 h4 h5).trans (h.2 i h1 h3 h4 h5)⟩
theorem kpFq_m {μ : knMem} {w c n : Int} {y : Int → Int} : kpFq μ (kpMc μ w c n y) := ⟨fun o _ h1 h2 => kpMc_o h1 h2, kpMc_2⟩
theorem kpFe.q {μ μ' : knMem} (h : kpFe μ μ') : kpFq μ μ' := ⟨fun o h1 _ _ => h o h1, by rw [h 137 (by omega)]⟩
theorem kpFq.t {μ μ' : knMem} {nc : Int → Int} {L : Int} (h : kpFq μ μ') (h2 : kpTc μ nc L) : kpTc μ' nc L := ⟨h.2.trans h2.1, fun k k0 k1 => by rw [h.1 138 (by omega) (by omega) (by omega)]; exact h2.2 k k0 k1⟩
theorem kpFr.t {μ μ' : knMem} {nc : Int → Int} {L : Int} (h : kpFr μ μ') (h2 : kpTr μ nc L) : kpTr μ' nc L := ⟨(h.2 21 (by omega) (by omega) (by omega) (by omega)).trans h2.1, fun k k0 k1 => by rw [h.1 157 (by omega) (by omega) (by omega) (by omega)]; exact h2.2 k k0 k1⟩
theorem kpFr_m {μ : knMem} {c s : Int} {y : Int → Int} : kpFr μ (kpMr μ c s y) := ⟨fun o h1 _ _ h2 => kpMr_o h1 h2, fun i _ h1 h2 _ => kpMr_i h1 h2⟩
theorem kbFz.r {μ μ' : knMem} (h : kbFz μ μ') : kpFr μ μ' := ⟨fun o h1 _ h3 _ => h.1 o h3 h1, fun i h1 _ _ _ => h.2 i h1⟩
theorem kbFw.r {μ μ' : knMem} (h : kbFw μ μ') : kpFr μ μ' := ⟨fun o h1 h2 h3 _ => h.1 o h1 h2 h3, fun i h1 _ _ _ => h.2 i h1⟩
theorem kpFr_u {μ : knMem} {k v : Int} (hk : k = 22 ∨ k = 27) : kpFr μ (knUp μ 142 k v) := ⟨fun o h1 _ _ _ => knUp_ne h1, fun i _ h1 _ h3 => by rw [kbUp, if_neg (by omega)]⟩
/-- the class goes to the next command -/
theorem kp9_adv {μ : knMem} {nc : Int → Int} {L c w : Int} (hT : kpTk nc L) (h : kpTc μ nc L) (hc : 0 ≤ c ∧ c < L) (hw : kpAt nc c w) (hk : (kpC nc w c).1 = 1) (hp : (c = 0 ∧ μ 137 4 = 0) ∨ (0 < μ 137 4 ∧ μ 137 4 = c - 1 ∧ nc (c - 1) = 59)) :
    kbH (kfX9_advance μ) (fun r => r.1 = 1 ∧ ∃ (n' : Int) (y' : Int → Int), r.2 = kpMc μ w (kpC nc w c).2.1 n' y' ∧ kpRel (kpC nc w c).2.2.1 (kpC nc w c).2.2.2 y') := by
  have key : ∀ (w0 n : Int) (y : Int → Int), kbH (Option.bind (kfX9_readCommand (kpMc μ w0 c n y)) (fun q35 => if q35.1 = 0 then some ((0 : Int), q35.2) else some (1, q35.2))) (fun r => r.1 = 1 ∧ ∃ (n' : Int) (y' : Int → Int), r.2 = kpMc μ w (kpC nc w c).2.1 n' y' ∧ kpRel (kpC nc w c).2.2.1 (kpC nc w c).2.2.2 y') := by
    intro w0 n y
    refine (kp9_cmd2 (w0 := w0) (n := n) (y := y) hT h ⟨hc.1, by omega⟩ hw).bind (fun q ⟨a1, w', n', y', a2, a3, a4⟩ => ?_)
    rw [if_neg (show ¬ q.1 = 0 by omega)]
    have e := a3 (by omega)
    subst e
    exact kbH_some.mpr ⟨rfl, n', y', a2, a4⟩
  unfold kfX9_advance
  dsimp only
  rw [h.1]
  rcases hp with ⟨hp, h4⟩ | ⟨h5, h4, h59⟩
  · rw [if_neg (by omega), if_pos h4]
    have e : kpMc μ (μ 137 3) c (μ 137 5) (μ 139) = μ := by
      have := kpMc_id μ
      rw [h4, ← hp] at this
      exact this
    have k := key (μ 137 3) (μ 137 5) (μ 139)
    rw [e] at k
    exact k
  · rw [if_neg (by omega), if_neg (by omega)]
    have e : kpMc μ (μ 137 3) (c - 1) (μ 137 5) (μ 139) = μ := by
      have := kpMc_id μ
      rw [h4] at this
      exact this
    have k := kp9_lit (w := μ 137 3) (n := μ 137 5) (y := μ 139) (a := 59) hT h (c := c - 1) (by omega) (by omega)
    rw [e] at k
    rw [k, Option.bind_some]
    unfold kpMq kpLi
    rw [if_pos h59]
    dsimp only
    rw [if_neg (show ¬ (1 : Int) = 0 by omega), show c - 1 + 1 = c by omega]
    exact key _ _ _
theorem kpRun {nc : Int → Int} {L : Int} (hT : kpTk nc L) : ∀ (m : Nat) (c i : Int) (S : kbZ), kpVa nc L m c → (0 ≤ c ∧ c ≤ L) → (0 ≤ i ∧ i ≤ c) → kpV S → ∃ (ok k : Int) (S' : kbZ), (ok = 0 ∨ ok = 1) ∧ 0 ≤ k ∧ kpV S' ∧
    (∀ (μ : knMem) (kc : Int × knMem → Option (Int × Int × knMem)) (P : Int × Int × knMem → Prop) (fuel : Nat), kpTc μ nc L → kbCs μ 1 S → ((c = 0 ∧ μ 137 4 = 0) ∨ (0 < μ 137 4 ∧ μ 137 4 = c - 1 ∧ nc (c - 1) = 59)) → m < fuel →
      (ok = 1 → ∀ mem : knMem, kbCs mem 1 S' → kpFq μ mem → kbH (kc (k, mem)) P) →
      (ok = 0 → ∀ mem : knMem, kpFq μ mem → kbH (Option.bind (kfX9_clear (knUp mem 0 13 k)) (fun q21 => Option.bind (kfX6_staged q21) (fun q24 => Option.bind (kfX10_copyFrom 1 q24 q21) (fun q27 => some ((3 : Int), (0 : Int), q27))))) P) →
      kbH (kfX12_runScript_l56 kc fuel i μ) P) ∧
    (∀ (μ : knMem) (kc : knMem → Option (Int × knMem)) (P : Int × knMem → Prop) (fuel : Nat), kpTr μ nc L → kbRs (μ 143) S → μ 142 22 = c → μ 142 27 = i → m < fuel →
      (ok = 1 → ∀ mem : knMem, kbRs (mem 143) S' → mem 142 27 = k → kpFr μ mem → kbH (kc mem) P) →
      (ok = 0 → ∀ mem : knMem, mem 142 27 = k → kpFr μ mem → P (0, mem)) →
      kbH (kfX13_doesAll_l12 kc fuel 1 μ) P)
  | 0, _, _, _, h, _, _, _ => h.elim
  | m + 1, c, i, S, hva, hcL, hi, hV => by
    obtain ⟨w, hB, hk, hnext⟩ := hva
    have hl := hT.1
    have hw := hB.1.1
    have hin := kpC_in hT hw hcL
    have hcd := hin.2.2 (by omega)
    obtain ⟨d, hd⟩ : ∃ d : Int, d = (kpC nc w c).2.1 := ⟨_, rfl⟩
    rw [← hd] at hin hcd hnext
    obtain ⟨vs, hA, hlen, code, S1, hcl, hrf⟩ := kpCan hw hk hV
    -- the class's turn
    have cls : ∀ (μ : knMem) (kc : Int × knMem → Option (Int × Int × knMem)) (P : Int × Int × knMem → Prop) (fuel : Nat), kpTc μ nc L → kbCs μ 1 S → ((c = 0 ∧ μ 137 4 = 0) ∨ (0 < μ 137 4 ∧ μ 137 4 = c - 1 ∧ nc (c - 1) = 59)) →
        (∀ r : knMem, (code = 0 → kbCs r 1 S1) → kpFq μ r → r 137 4 = d → kbH (if code = 0 then kfX12_runScript_l56 kc fuel (i + 1) r else Option.bind (kfX9_clear (knUp r 0 13 i)) (fun q21 => Option.bind (kfX6_staged q21) (fun q24 => Option.bind (kfX10_copyFrom 1 q24 q21) (fun q27 => some ((3 : Int), (0 : Int), q27))))) P) →
        kbH (kfX12_runScript_l56 kc (fuel + 1) i μ) P := by
      intro μ kc P fuel h1 h2 h3 h4
      rw [kfX12_runScript_l56, if_neg (by omega)]
      refine (kp9_adv hT h1 ⟨hcL.1, by omega⟩ hB.1 hk h3).bind (fun q12 ⟨a1, n', y', a2, a3⟩ => ?_)
      rw [if_neg (show ¬ q12.1 = 0 by omega), a2, kpMc_3, kbGd (by omega), ← hd]
      have hCm : kbCs (kpMc μ w d n' y') 1 S := h2.sm (fun o _ _ => kpMc_o (by omega) (by omega))
      refine (hcl (kpMc μ w d n' y') hCm (by rw [kpMc_139]; exact hA.rel vs 0 (fun j j0 j1 => a3 j j0 (by omega)))).bind (fun r ⟨b1, b2, b3⟩ => ?_)
      rw [b1, knW_id (by omega)]
      exact h4 r.2 b2 (kpFq_m.trans b3.q) (by rw [b3 137 (by omega), kpMc_4])
    -- the reference's
    have ref : ∀ (μ : knMem) (kc : knMem → Option (Int × knMem)) (P : Int × knMem → Prop) (fuel : Nat), kpTr μ nc L → kbRs (μ 143) S → μ 142 22 = c → μ 142 27 = i →
        (code ≠ 0 → ∀ mem : knMem, mem 142 27 = i → kpFr μ mem → P (0, mem)) →
        (code = 0 → ∀ mem : knMem, kbRs (mem 143) S1 → mem 142 27 = i + 1 → mem 142 22 = d → kpFr μ mem → kbH (Option.bind (kfX13_reads 59 mem) (fun q13 => kfX13_doesAll_l12 kc fuel q13.1 q13.2)) P) →
        kbH (kfX13_doesAll_l12 kc (fuel + 1) 1 μ) P := by
      intro μ kc P fuel h1 h2 h3 h4 h5 h6
      have e : kpMr μ c (μ 142 26) (μ 158) = μ := by
        have := kpMr_id μ
        rw [h3] at this
        exact this
      have hcmd := hB.2 μ (μ 142 26) (μ 158) h1
      rw [e] at hcmd
      rw [kfX13_doesAll_l12, if_neg (show ¬ (1 : Int) = 0 by omega)]
      refine hcmd.bind (fun q2 ⟨a1, s', y', a2, a3⟩ => ?_)
      obtain ⟨a4, a5⟩ := a3 (by omega)
      rw [a2, ← hd]
      refine (hrf (kpMr μ d s' y') (by rw [kpMr_o (by omega) (by omega)]; exact h2) (by rw [kpMr_26]; exact a4) (by rw [kpMr_158]; exact hA.rel vs 0 (fun j j0 j1 => a5 j j0 (by omega)))).bind (fun q5 ⟨b1, b2, b3⟩ => ?_)
      have f5 : kpFr μ q5.2 := kpFr_m.trans b2.r
      have g5 : q5.2 142 27 = i := (b2.2 27 (by omega)).trans ((kpMr_i (by omega) (by omega)).trans h4)
      by_cases h0 : code = 0
      · rw [if_pos (b1.mpr h0)]
        refine (b3 h0).bind (fun r ⟨c1, c2⟩ => ?_)
        have g6 : r.2 142 27 = i := (c2.2 27 (by omega)).trans g5
        have g7 : r.2 142 22 = d := (c2.2 22 (by omega)).trans ((b2.2 22 (by omega)).trans kpMr_22)
        rw [g6, knW_id (by omega)]
        refine h6 h0 _ ?_ (kbUpS _ _ _ _) ?_ (f5.trans (c2.r.trans (kpFr_u (Or.inr rfl))))
        · rw [knUp_ne (by omega)]; exact c1
        · rw [kbUp, if_neg (by omega)]; exact g7
      · rw [if_neg (fun h9 => h0 (b1.mp h9))]
        exact kbH_some.mpr (h5 h0 _ g5 f5)
    by_cases h0 : code = 0
    · have hV1 := kpV_step hV hA hrf h0
      by_cases gL : d = L
      · refine ⟨1, i + 1, S1, Or.inr rfl, by omega, hV1, fun μ kc P fuel h1 h2 h3 hf k1 k2 => ?_, fun μ kc P fuel h1 h2 h3 h4 hf k1 k2 => ?_⟩
        · obtain ⟨fuel, rfl⟩ : ∃ k : Nat, fuel = k + 1 + 1 := ⟨fuel - 2, by omega⟩
          refine cls μ kc P (fuel + 1) h1 h2 h3 (fun r r1 r2 r3 => ?_)
          rw [if_pos h0, kfX12_runScript_l56]
          by_cases g60 : 60 ≤ i + 1
          · rw [if_pos g60]
            exact k1 rfl r (r1 h0) r2
          · rw [if_neg g60]
            have ea : kfX9_advance r = some (0, r) := by
              unfold kfX9_advance
              dsimp only
              rw [r2.2, h1.1, r3, if_pos (by omega)]
            rw [ea, Option.bind_some, if_pos rfl]
            exact k1 rfl r (r1 h0) r2
        · obtain ⟨fuel, rfl⟩ : ∃ k : Nat, fuel = k + 1 + 1 := ⟨fuel - 2, by omega⟩
          refine ref μ kc P (fuel + 1) h1 h2 h3 h4 (fun h9 => absurd h0 h9) (fun _ mem m1 m2 m3 m4 => ?_)
          have h9 := hT.2 d (by omega)
          rw [kp13_next2 hT (m4.t h1) m3 (by omega) (by omega), if_neg (by omega), Option.bind_some, kfX13_doesAll_l12, if_pos rfl]
          exact k1 rfl mem m1 m2 m4
      · obtain ⟨g59, hva2⟩ : nc d = 59 ∧ kpVa nc L m (d + 1) := by
          rcases hnext with h9 | h9
          · exact absurd h9 gL
          · exact h9
        have h9 := hT.2 d (by omega)
        obtain ⟨ok, k, S', o1, o2, o3, o4, o5⟩ := kpRun hT m (d + 1) (i + 1) S1 hva2 ⟨by omega, by omega⟩ ⟨by omega, by omega⟩ hV1
        refine ⟨ok, k, S', o1, o2, o3, fun μ kc P fuel h1 h2 h3 hf k1 k2 => ?_, fun μ kc P fuel h1 h2 h3 h4 hf k1 k2 => ?_⟩
        · obtain ⟨fuel, rfl⟩ : ∃ k : Nat, fuel = k + 1 := ⟨fuel - 1, by omega⟩
          refine cls μ kc P fuel h1 h2 h3 (fun r r1 r2 r3 => ?_)
          rw [if_pos h0]
          exact o4 r kc P fuel (r2.t h1) (r1 h0) (Or.inr ⟨by omega, by omega, by rw [show d + 1 - 1 = d by omega]; exact g59⟩) (by omega) (fun z mem z1 z2 => k1 z mem z1 (r2.trans z2)) (fun z mem z2 => k2 z mem (r2.trans z2))
        · obtain ⟨fuel, rfl⟩ : ∃ k : Nat, fuel = k + 1 := ⟨fuel - 1, by omega⟩
          refine ref μ kc P fuel h1 h2 h3 h4 (fun h9 => absurd h0 h9) (fun _ mem m1 m2 m3 m4 => ?_)
          rw [kp13_next2 hT (m4.t h1) m3 (by omega) (by omega), if_pos g59, Option.bind_some]
          have f6 : kpFr μ (knUp mem 142 22 (d + 1)) := m4.trans (kpFr_u (Or.inl rfl))
          exact o5 (knUp mem 142 22 (d + 1)) kc P fuel (f6.t h1) (by rw [knUp_ne (by omega)]; exact m1) (kbUpS _ _ _ _) (by rw [kbUp, if_neg (by omega)]; exact m2) (by omega) (fun z mem2 z1 z2 z3 => k1 z mem2 z1 z2 (f6.trans z3)) (fun z mem2 z2 z3 => k2 z mem2 z2 (f6.trans z3))
    · refine ⟨0, i, S, Or.inl rfl, hi.1, hV, fun μ kc P fuel h1 h2 h3 hf k1 k2 => ?_, fun μ kc P fuel h1 h2 h3 h4 hf k1 k2 => ?_⟩
      · obtain ⟨fuel, rfl⟩ : ∃ k : Nat, fuel = k + 1 := ⟨fuel - 1, by omega⟩
        refine cls μ kc P fuel h1 h2 h3 (fun r r1 r2 r3 => ?_)
        rw [if_neg h0]
        exact k2 rfl r r2
      · obtain ⟨fuel, rfl⟩ : ∃ k : Nat, fuel = k + 1 := ⟨fuel - 1, by omega⟩
        exact ref μ kc P fuel h1 h2 h3 h4 (fun _ mem m1 m2 => k2 rfl mem m1 m2) (fun h9 => absurd h9 h0)
