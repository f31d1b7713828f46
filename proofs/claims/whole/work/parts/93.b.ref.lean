/-! The reference's parser. -/
def kpTr (μ : knMem) (nc : Int → Int) (L : Int) : Prop := μ 142 21 = L ∧ ∀ k : Int, 0 ≤ k → k < L → μ 157 k = nc k
/-- the reference's memory with its parser's cursor, sort, numbers -/
def kpMr (μ : knMem) (c s : Int) (y : Int → Int) : knMem := fun o => if o = 142 then (fun i => if i = 22 then c else if i = 26 then s else μ 142 i) else if o = 158 then y else μ o
theorem kpMr_o {μ : knMem} {c s : Int} {y : Int → Int} {o : Int} (h : o ≠ 142) (h2 : o ≠ 158) : kpMr μ c s y o = μ o := by
  unfold kpMr
  rw [if_neg h, if_neg h2]
theorem kpMr_158 {μ : knMem} {c s : Int} {y : Int → Int} : kpMr μ c s y 158 = y := by
  unfold kpMr
  rw [if_neg (by omega), if_pos rfl]
theorem kpMr_142 {μ : knMem} {c s : Int} {y : Int → Int} (i : Int) : kpMr μ c s y 142 i = if i = 22 then c else if i = 26 then s else μ 142 i := by
  unfold kpMr
  rw [if_pos rfl]
theorem kpMr_i {μ : knMem} {c s : Int} {y : Int → Int} {i : Int} (h : i ≠ 22) (h2 : i ≠ 26) : kpMr μ c s y 142 i = μ 142 i := by
  rw [kpMr_142, if_neg h, if_neg h2]
theorem kpMr_22 {μ : knMem} {c s : Int} {y : Int → Int} : kpMr μ c s y 142 22 = c := by
  rw [kpMr_142, if_pos rfl]
theorem kpMr_26 {μ : knMem} {c s : Int} {y : Int → Int} : kpMr μ c s y 142 26 = s := by
  rw [kpMr_142, if_neg (by omega), if_pos rfl]
theorem kpMr_id (μ : knMem) : kpMr μ (μ 142 22) (μ 142 26) (μ 158) = μ := by
  funext o i
  by_cases h : o = 142
  · subst h
    rw [kpMr_142]
    by_cases h3 : i = 22
    · rw [if_pos h3, h3]
    · by_cases h4 : i = 26
      · rw [if_neg h3, if_pos h4, h4]
      · rw [if_neg h3, if_neg h4]
  · by_cases h9 : o = 158
    · subst h9; rw [kpMr_158]
    · rw [kpMr_o h h9]
theorem kpMr_up22 {μ : knMem} {c s v : Int} {y : Int → Int} : knUp (kpMr μ c s y) 142 22 v = kpMr μ v s y := by
  funext o i
  by_cases h : o = 142
  · subst h
    rw [kbUp, kpMr_142, kpMr_142]
    by_cases h4 : i = 22
    · rw [if_pos ⟨rfl, h4⟩, if_pos h4]
    · rw [if_neg (fun h => h4 h.2), if_neg h4, if_neg h4]
  · rw [knUp_ne h]
    unfold kpMr
    rw [if_neg h, if_neg h]
theorem kpMr_up26 {μ : knMem} {c s v : Int} {y : Int → Int} : knUp (kpMr μ c s y) 142 26 v = kpMr μ c v y := by
  funext o i
  by_cases h : o = 142
  · subst h
    rw [kbUp, kpMr_142, kpMr_142]
    by_cases h4 : i = 26
    · rw [if_pos ⟨rfl, h4⟩, if_neg (by omega), if_pos h4]
    · rw [if_neg (fun h => h4 h.2), if_neg h4, if_neg h4]
  · rw [knUp_ne h]
    unfold kpMr
    rw [if_neg h, if_neg h]
theorem kpMr_upy {μ : knMem} {c s k v : Int} {y : Int → Int} : knUp (kpMr μ c s y) 158 k v = kpMr μ c s (kbPu y k v) := by
  funext o i
  by_cases h : o = 158
  · subst h
    rw [kbUp, kpMr_158, kpMr_158]
    unfold kbPu
    by_cases h4 : i = k
    · rw [if_pos ⟨rfl, h4⟩, if_pos h4]
    · rw [if_neg (fun h => h4 h.2), if_neg h4]
  · rw [knUp_ne h]
    by_cases h7 : o = 142
    · subst h7; rw [kpMr_142, kpMr_142]
    · rw [kpMr_o h7 h, kpMr_o h7 h]
theorem kp13_next {μ : knMem} {nc : Int → Int} {L c s : Int} {y : Int → Int} (hT : kpTk nc L) (h : kpTr μ nc L) (hc : 0 ≤ c) : kfX13_nextChar (kpMr μ c s y) = some (nc c) := by
  have h2 := hT.2 c hc
  have hl := hT.1
  unfold kfX13_nextChar
  rw [kpMr_i (by omega) (by omega), kpMr_22, h.1]
  by_cases g : L ≤ c
  · rw [if_pos g, Option.bind_some, show nc c = -1 by omega]
  · rw [if_neg g, kbGd (by omega), Option.bind_some, kpMr_o (by omega) (by omega), h.2 c hc (by omega)]
theorem kp13_reads {μ : knMem} {nc : Int → Int} {L c s a : Int} {y : Int → Int} (hT : kpTk nc L) (h : kpTr μ nc L) (hc : 0 ≤ c) (ha : a ≠ -1) : kfX13_reads a (kpMr μ c s y) = some (if nc c = a then (1, kpMr μ (c + 1) s y) else (0, kpMr μ c s y)) := by
  have h2 := hT.2 c hc
  have hl := hT.1
  unfold kfX13_reads
  rw [kp13_next hT h hc, Option.bind_some]
  by_cases g : nc c = a
  · rw [if_pos g, if_pos g, kpMr_22, knW_id (by omega), kpMr_up22]
  · rw [if_neg g, if_neg g]
theorem kp13_digit {μ : knMem} {nc : Int → Int} {L c s i : Int} {y : Int → Int} (hT : kpTk nc L) (h : kpTr μ nc L) (hc : 0 ≤ c) (hi : 0 ≤ i ∧ i < 4) : kfX13_readsDigit i (kpMr μ c s y) = some (if kpDg (nc c) then (1, kpMr μ (c + 1) s (kbPu y i (nc c - 48))) else (0, kpMr μ c s y)) := by
  have h2 := hT.2 c hc
  have hl := hT.1
  unfold kfX13_readsDigit
  rw [kp13_next hT h hc, Option.bind_some, kb13_between, Option.bind_some]
  by_cases g : kpDg (nc c)
  · rw [if_pos g, if_neg (by omega), if_pos g, Option.bind_some, kbGd hi, kpMr_upy, kpMr_22, knW_id (x := c + 1) (by omega), kpMr_up22, knW_id (by omega)]
  · rw [if_neg g, if_pos rfl, if_neg g]
theorem kp13_number {μ : knMem} {nc : Int → Int} {L c s i : Int} {y : Int → Int} (hT : kpTk nc L) (h : kpTr μ nc L) (hc : 0 ≤ c) (hi : 0 ≤ i ∧ i < 4) : kfX13_readsNumber i (kpMr μ c s y) = some (if kpDg (nc c) then (if kpDg (nc (c + 1)) then (1, kpMr μ (c + 2) s (kbPu (kbPu y i (nc c - 48)) i (10 * (nc c - 48) + (nc (c + 1) - 48)))) else (1, kpMr μ (c + 1) s (kbPu y i (nc c - 48)))) else (0, kpMr μ c s y)) := by
  have h2 := hT.2 c hc
  have h3 := hT.2 (c + 1) (by omega)
  have hl := hT.1
  unfold kfX13_readsNumber
  rw [kp13_digit hT h hc hi, Option.bind_some]
  by_cases g : kpDg (nc c)
  · rw [if_pos g, if_pos g]
    dsimp only
    rw [if_neg (by omega), kp13_next hT h (by omega), Option.bind_some, kb13_between, Option.bind_some]
    by_cases g2 : kpDg (nc (c + 1))
    · rw [if_pos g2, if_neg (by omega), if_pos g2, kbGd hi, Option.bind_some, kpMr_upy, kpMr_22, knW_id (x := c + 1 + 1) (by omega), kpMr_up22, kpMr_158, show kbPu y i (nc c - 48) i = nc c - 48 by unfold kbPu; rw [if_pos rfl], knW_id (x := 10 * (nc c - 48)) (by omega), knW_id (x := 10 * (nc c - 48) + nc (c + 1)) (by omega), knW_id (by omega), show c + 1 + 1 = c + 2 by omega, show 10 * (nc c - 48) + nc (c + 1) - 48 = 10 * (nc c - 48) + (nc (c + 1) - 48) by omega]
    · rw [if_neg g2, if_pos rfl, if_neg g2]
  · rw [if_neg g, if_neg g]
    dsimp only
    rw [if_pos rfl]
theorem kp13_one {μ : knMem} {nc : Int → Int} {L c s i a b : Int} {y : Int → Int} (hT : kpTk nc L) (h : kpTr μ nc L) (hc : 0 ≤ c) (hi : 0 ≤ i ∧ i < 4) (ha : a ≠ -1) (hb : b ≠ -1) : kfX13_readsOne i a b (kpMr μ c s y) = some (if nc c = a then (1, kpMr μ (c + 1) s (kbPu y i 1)) else if nc c = b then (1, kpMr μ (c + 1) s (kbPu y i 0)) else (0, kpMr μ c s (kbPu y i 0))) := by
  unfold kfX13_readsOne
  rw [kp13_next hT h hc, Option.bind_some, kbGd hi, kpMr_upy, kp13_reads hT h hc ha, Option.bind_some]
  dsimp only
  by_cases g : nc c = a
  · rw [if_pos g, if_pos g, if_pos g]
    dsimp only
    rw [if_neg (by omega)]
  · rw [if_neg g, if_neg g, if_neg g]
    dsimp only
    rw [if_pos rfl, kp13_reads hT h hc hb, Option.bind_some]
    by_cases g2 : nc c = b
    · rw [if_pos g2]
      dsimp only
      rw [if_neg (by omega)]
    · rw [if_neg g2]
      dsimp only
      rw [if_pos rfl]
/-- what a command's end says -/
def kpPr (μ : knMem) (so : Int) (r : kpQ) (q : Int × knMem) : Prop := q.1 = r.1 ∧ ∃ (s' : Int) (y' : Int → Int), q.2 = kpMr μ r.2.1 s' y' ∧ (r.1 ≠ 0 → s' = so ∧ ∀ k : Int, 0 ≤ k → k < r.2.2.1 → y' k = r.2.2.2 k)
def kpRel (n : Int) (x y : Int → Int) : Prop := ∀ k : Int, 0 ≤ k → k < n → y k = x k
theorem kpFail {μ : knMem} {so c s n : Int} {x y : Int → Int} {r : kpQ} (hr : r = (0, c, n, x)) : kbH (some (0, kpMr μ c s y)) (kpPr μ so r) := by
  subst hr
  exact kbH_some.mpr ⟨rfl, s, y, rfl, fun h => absurd rfl h⟩
theorem kpEnd {nc : Int → Int} {μ : knMem} {so c s n : Int} {x y : Int → Int} {r : kpQ} (hr : r = kpPts nc [] (1, c, n, x)) (hs : s = so) (hxy : kpRel n x y) : kbH (some (1, kpMr μ c s y)) (kpPr μ so r) := by
  subst hr
  exact kbH_some.mpr ⟨rfl, s, y, rfl, fun _ => ⟨hs, hxy⟩⟩
section
variable {μ : knMem} {nc : Int → Int} {L c s a n : Int} {x y : Int → Int} {A B : Int × knMem → Option (Int × knMem)} {P : Int × knMem → Prop} {r : kpQ} {w f : List Int}
theorem kpRN (hT : kpTk nc L) (h : kpTr μ nc L) (hc : 0 ≤ c) (ha : a ≠ -1) (g : nc c ≠ a) (hA : kbH (A (0, kpMr μ c s y)) P) : kbH (Option.bind (kfX13_reads a (kpMr μ c s y)) (fun q => if q.1 = 0 then A q else B q)) P := by
  rw [kp13_reads hT h hc ha, if_neg g, Option.bind_some, if_pos rfl]
  exact hA
theorem kpRY (hT : kpTk nc L) (h : kpTr μ nc L) (hc : 0 ≤ c) (ha : a ≠ -1) (g : nc c = a) (hB : kbH (B (1, kpMr μ (c + 1) s y)) P) : kbH (Option.bind (kfX13_reads a (kpMr μ c s y)) (fun q => if q.1 = 0 then A q else B q)) P := by
  rw [kp13_reads hT h hc ha, if_pos g, Option.bind_some, if_neg (show ¬ (1 : Int) = 0 by omega)]
  exact hB
theorem kpFwY (hr : r = kpFw nc (a :: w) f (1, c, n, x)) (g : nc c = a) : r = kpFw nc w f (1, c + 1, n, x) := by
  rw [hr, kpFw, if_pos g]
theorem kpFwN (hr : r = kpFw nc (a :: w) f (1, c, n, x)) (g : nc c ≠ a) : r = (0, c, n, x) := by
  rw [hr, kpFw, if_neg g]
/-- a letter of the word -/
theorem kpRC (hT : kpTk nc L) (h : kpTr μ nc L) (hr : r = kpFw nc (a :: w) f (1, c, n, x)) (hc : 0 ≤ c) (ha : a ≠ -1) (hN : r = (0, c, n, x) → kbH (A (0, kpMr μ c s y)) P) (hY : r = kpFw nc w f (1, c + 1, n, x) → kbH (B (1, kpMr μ (c + 1) s y)) P) : kbH (Option.bind (kfX13_reads a (kpMr μ c s y)) (fun q => if q.1 = 0 then A q else B q)) P := by
  by_cases g : nc c = a
  · exact kpRY hT h hc ha g (hY (kpFwY hr g))
  · exact kpRN hT h hc ha g (hN (kpFwN hr g))
/-- a sign that the form asks -/
theorem kpRL (hT : kpTk nc L) (h : kpTr μ nc L) (hr : r = kpPts nc (a :: f) (1, c, n, x)) (ha : a = 32 ∨ a = 58) (hc : 0 ≤ c) (hN : r = (0, c, n, x) → kbH (A (0, kpMr μ c s y)) P) (hY : r = kpPts nc f (1, c + 1, n, x) → kbH (B (1, kpMr μ (c + 1) s y)) P) : kbH (Option.bind (kfX13_reads a (kpMr μ c s y)) (fun q => if q.1 = 0 then A q else B q)) P := by
  have e : kpPt a nc c n x = kpLi a nc c n x := by rcases ha with rfl | rfl <;> rfl
  rw [kpPts] at hr
  dsimp only at hr
  rw [e] at hr
  unfold kpLi at hr
  by_cases g : nc c = a
  · rw [if_pos g, if_neg (show ¬ (1 : Int) = 0 by omega)] at hr
    exact kpRY hT h hc (by omega) g (hY hr)
  · rw [if_neg g, if_pos rfl] at hr
    exact kpRN hT h hc (by omega) g (hN hr)
theorem kpGv_lt {v n : Int} {x : Int → Int} (h : n < 4) : kpGv v n x = (n + 1, kbPu x n v) := by
  unfold kpGv
  rw [if_neg (by omega)]
theorem kpRel.up {v : Int} (h : kpRel n x y) : kpRel (n + 1) (kbPu x n v) (kbPu y n v) := by
  intro k k0 k1
  unfold kbPu
  by_cases g : k = n
  · rw [if_pos g, if_pos g]
  · rw [if_neg g, if_neg g]
    exact h k k0 (by omega)
theorem kbPu_2 {y : Int → Int} {k u v : Int} : kbPu (kbPu y k u) k v = kbPu y k v := by
  funext i
  unfold kbPu
  by_cases g : i = k
  · rw [if_pos g, if_pos g]
  · rw [if_neg g, if_neg g, if_neg g]
theorem kpRD (hT : kpTk nc L) (h : kpTr μ nc L) (hr : r = kpPts nc (100 :: f) (1, c, n, x)) (hxy : kpRel n x y) (hn : 0 ≤ n ∧ n < 4) (hc : 0 ≤ c) (hN : r = (0, c, n, x) → kbH (A (0, kpMr μ c s y)) P)
    (hY : ∀ (c' : Int) (x' y' : Int → Int), 0 ≤ c' → r = kpPts nc f (1, c', n + 1, x') → kpRel (n + 1) x' y' → kbH (B (1, kpMr μ c' s y')) P) : kbH (Option.bind (kfX13_readsDigit n (kpMr μ c s y)) (fun q => if q.1 = 0 then A q else B q)) P := by
  rw [kpPts, show kpPt 100 nc c n x = kpDi nc c n x from rfl] at hr
  unfold kpDi at hr
  rw [kp13_digit hT h hc hn]
  by_cases g : kpDg (nc c)
  · rw [if_pos g, if_neg (show ¬ (1 : Int) = 0 by omega), kpGv_lt hn.2] at hr
    rw [if_pos g, Option.bind_some, if_neg (show ¬ (1 : Int) = 0 by omega)]
    exact hY _ _ _ (by omega) hr hxy.up
  · rw [if_neg g, if_pos rfl] at hr
    rw [if_neg g, Option.bind_some, if_pos rfl]
    exact hN hr
theorem kpRU (hT : kpTk nc L) (h : kpTr μ nc L) (hr : r = kpPts nc (110 :: f) (1, c, n, x)) (hxy : kpRel n x y) (hn : 0 ≤ n ∧ n < 4) (hc : 0 ≤ c) (hN : r = (0, c, n, x) → kbH (A (0, kpMr μ c s y)) P)
    (hY : ∀ (c' : Int) (x' y' : Int → Int), 0 ≤ c' → r = kpPts nc f (1, c', n + 1, x') → kpRel (n + 1) x' y' → kbH (B (1, kpMr μ c' s y')) P) : kbH (Option.bind (kfX13_readsNumber n (kpMr μ c s y)) (fun q => if q.1 = 0 then A q else B q)) P := by
  rw [kpPts, show kpPt 110 nc c n x = kpNu nc c n x from rfl] at hr
  unfold kpNu at hr
  rw [kp13_number hT h hc hn]
  by_cases g : kpDg (nc c)
  · rw [if_pos g]
    rw [if_pos g] at hr
    by_cases g2 : kpDg (nc (c + 1))
    · rw [if_pos g2, if_neg (show ¬ (1 : Int) = 0 by omega), kpGv_lt hn.2] at hr
      rw [if_pos g2, Option.bind_some, if_neg (show ¬ (1 : Int) = 0 by omega), kbPu_2]
      exact hY _ _ _ (by omega) hr hxy.up
    · rw [if_neg g2, if_neg (show ¬ (1 : Int) = 0 by omega), kpGv_lt hn.2] at hr
      rw [if_neg g2, Option.bind_some, if_neg (show ¬ (1 : Int) = 0 by omega)]
      exact hY _ _ _ (by omega) hr hxy.up
  · rw [if_neg g, if_pos rfl] at hr
    rw [if_neg g, Option.bind_some, if_pos rfl]
    exact hN hr
theorem kpRO {a1 a2 : Int} (hT : kpTk nc L) (h : kpTr μ nc L) (hr : r = kpPts nc (a :: f) (1, c, n, x)) (he : kpPt a nc c n x = kpCh a1 a2 nc c n x) (h1 : a1 ≠ -1) (h2 : a2 ≠ -1) (hxy : kpRel n x y) (hn : 0 ≤ n ∧ n < 4) (hc : 0 ≤ c) (hN : r = (0, c, n, x) → ∀ y' : Int → Int, kbH (A (0, kpMr μ c s y')) P)
    (hY : ∀ (c' : Int) (x' y' : Int → Int), 0 ≤ c' → r = kpPts nc f (1, c', n + 1, x') → kpRel (n + 1) x' y' → kbH (B (1, kpMr μ c' s y')) P) : kbH (Option.bind (kfX13_readsOne n a1 a2 (kpMr μ c s y)) (fun q => if q.1 = 0 then A q else B q)) P := by
  rw [kpPts, he] at hr
  unfold kpCh at hr
  rw [kp13_one hT h hc hn h1 h2]
  by_cases g : nc c = a1
  · rw [if_pos g, if_neg (show ¬ (1 : Int) = 0 by omega), kpGv_lt hn.2] at hr
    rw [if_pos g, Option.bind_some, if_neg (show ¬ (1 : Int) = 0 by omega)]
    exact hY _ _ _ (by omega) hr hxy.up
  · rw [if_neg g]
    rw [if_neg g] at hr
    by_cases g2 : nc c = a2
    · rw [if_pos g2, if_neg (show ¬ (1 : Int) = 0 by omega), kpGv_lt hn.2] at hr
      rw [if_pos g2, Option.bind_some, if_neg (show ¬ (1 : Int) = 0 by omega)]
      exact hY _ _ _ (by omega) hr hxy.up
    · rw [if_neg g2, if_pos rfl] at hr
      rw [if_neg g2, Option.bind_some, if_pos rfl]
      exact hN hr _
end
/-! which word -/
def kpHd (v : Int) : Int := (kpWd v).getD 0 0
def kpH2 (v : Int) : Int := (kpWd v).getD 1 0
def kpH3 (v : Int) : Int := (kpWd v).getD 2 0
theorem kpHd_all : ∀ v : Nat, v < 12 → kpWd v = kpHd v :: kpH2 v :: kpH3 v :: (kpWd v).drop 3 ∧ 3 < (kpWd v).length := by decide +kernel
theorem kpHd_is {v : Int} (h : 0 ≤ v ∧ v < 12) : kpWd v = kpHd v :: kpH2 v :: kpH3 v :: (kpWd v).drop 3 ∧ 3 < (kpWd v).length := by
  have h1 := kpHd_all v.toNat (by omega)
  rw [show ((v.toNat : Nat) : Int) = v by omega] at h1
  exact h1
theorem kpLc_0 {nc : Int → Int} {c v : Int} (hv : 0 ≤ v ∧ v < 12) (h : nc c ≠ kpHd v) : kpLc nc (kpWd v) c ≤ 0 := by
  rw [(kpHd_is hv).1, kpLc, if_neg h]
  omega
theorem kpLc_1 {nc : Int → Int} {c v : Int} (hv : 0 ≤ v ∧ v < 12) (h : nc (c + 1) ≠ kpH2 v) : kpLc nc (kpWd v) c ≤ 1 := by
  rw [(kpHd_is hv).1, kpLc, kpLc, if_neg h]
  split <;> omega
theorem kpLc_2 {nc : Int → Int} {c v : Int} (hv : 0 ≤ v ∧ v < 12) (h : nc (c + 1 + 1) ≠ kpH3 v) : kpLc nc (kpWd v) c ≤ 2 := by
  rw [(kpHd_is hv).1, kpLc, kpLc, kpLc, if_neg h]
  split <;> (try split) <;> omega
theorem kpLc_g1 {nc : Int → Int} {c v : Int} (hv : 0 ≤ v ∧ v < 12) (h : nc c = kpHd v) : 1 ≤ kpLc nc (kpWd v) c := by
  have h3 := kpLc_in (nc := nc) (kpH2 v :: kpH3 v :: (kpWd v).drop 3) (c + 1)
  rw [(kpHd_is hv).1, kpLc, if_pos h]
  omega
theorem kpLc_g2 {nc : Int → Int} {c v : Int} (hv : 0 ≤ v ∧ v < 12) (h : nc c = kpHd v) (h2 : nc (c + 1) = kpH2 v) : 2 ≤ kpLc nc (kpWd v) c := by
  have h3 := kpLc_in (nc := nc) (kpH3 v :: (kpWd v).drop 3) (c + 1 + 1)
  rw [(kpHd_is hv).1, kpLc, if_pos h, kpLc, if_pos h2]
  omega
theorem kpAt_of {nc : Int → Int} {c w m : Int} (hw : 0 ≤ w ∧ w < 12) (hm : m ≤ 2) (ho : m ≤ kpLc nc (kpWd w) c) (h : ∀ v : Int, 0 ≤ v → v < 12 → v ≠ w → kpLc nc (kpWd v) c ≤ m) : kpAt nc c w :=
  ⟨hw, fun v v0 v1 hv => by
    have h1 := h v v0 v1 hv
    have h2 := (kpHd_is ⟨v0, v1⟩).2
    exact ⟨by omega, by omega⟩⟩
theorem kpHd_t : ∀ v : Nat, v < 12 → (kpHd (v : Int) = 99 ∧ (v : Int) = 0) ∨ (kpHd (v : Int) = 117 ∧ ((v : Int) = 1 ∨ (v : Int) = 3)) ∨ (kpHd (v : Int) = 112 ∧ ((v : Int) = 2 ∨ (v : Int) = 9)) ∨ (kpHd (v : Int) = 115 ∧ ((v : Int) = 4 ∨ (v : Int) = 11)) ∨ (kpHd (v : Int) = 109 ∧ (v : Int) = 5) ∨ (kpHd (v : Int) = 114 ∧ ((v : Int) = 6 ∨ (v : Int) = 8)) ∨ (kpHd (v : Int) = 116 ∧ (v : Int) = 7) ∨ (kpHd (v : Int) = 98 ∧ (v : Int) = 10) := by decide +kernel
theorem kpHd_s {v : Int} (h : 0 ≤ v ∧ v < 12) : (kpHd v = 99 ∧ v = 0) ∨ (kpHd v = 117 ∧ (v = 1 ∨ v = 3)) ∨ (kpHd v = 112 ∧ (v = 2 ∨ v = 9)) ∨ (kpHd v = 115 ∧ (v = 4 ∨ v = 11)) ∨ (kpHd v = 109 ∧ v = 5) ∨ (kpHd v = 114 ∧ (v = 6 ∨ v = 8)) ∨ (kpHd v = 116 ∧ v = 7) ∨ (kpHd v = 98 ∧ v = 10) := by
  have h1 := kpHd_t v.toNat (by omega)
  rw [show ((v.toNat : Nat) : Int) = v by omega] at h1
  exact h1
/-- one word with this letter -/
theorem kpAt_1 {nc : Int → Int} {c w : Int} (hw : 0 ≤ w ∧ w < 12) (h : ∀ v : Int, 0 ≤ v → v < 12 → kpHd v = nc c → v = w) : kpAt nc c w :=
  kpAt_of (m := 0) hw (by omega) (kpLc_in _ _).1 (fun v v0 v1 hv => kpLc_0 ⟨v0, v1⟩ (fun h9 => hv (h v v0 v1 h9.symm)))
/-- two words with this letter -/
theorem kpAt_2 {nc : Int → Int} {c w u m : Int} (hw : 0 ≤ w ∧ w < 12) (h : ∀ v : Int, 0 ≤ v → v < 12 → kpHd v = nc c → v = w ∨ v = u) (hm : 0 ≤ m ∧ m ≤ 2) (ho : m ≤ kpLc nc (kpWd w) c) (hu : kpLc nc (kpWd u) c ≤ m) : kpAt nc c w :=
  kpAt_of (m := m) hw hm.2 ho (fun v v0 v1 hv => by
    by_cases e : kpHd v = nc c
    · rcases h v v0 v1 e with e2 | e2
      · exact absurd e2 hv
      · rw [e2]; exact hu
    · have := kpLc_0 (nc := nc) (c := c) ⟨v0, v1⟩ (fun h9 => e h9.symm)
      omega)
def kpSo (w : Int) : Int := [99, 117, 112, 118, 115, 109, 114, 116, 100, 108, 98, 101].getD w.toNat 0
