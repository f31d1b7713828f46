/-! The script: its text, the class's parser. -/
/-- a text: its characters, -1 behind its end -/
def kpTk (nc : Int → Int) (L : Int) : Prop := (0 ≤ L ∧ L ≤ 60) ∧ ∀ k : Int, 0 ≤ k → (L ≤ k ∧ nc k = -1) ∨ (k < L ∧ 32 ≤ nc k ∧ nc k ≤ 126)
def kpTc (μ : knMem) (nc : Int → Int) (L : Int) : Prop := μ 137 2 = L ∧ ∀ k : Int, 0 ≤ k → k < L → μ 138 k = nc k
/-- the class's memory with its parser's word, cursor, count, arguments -/
def kpMc (μ : knMem) (w c n : Int) (y : Int → Int) : knMem := fun o => if o = 137 then (fun i => if i = 3 then w else if i = 4 then c else if i = 5 then n else μ 137 i) else if o = 139 then y else μ o
theorem kpMc_o {μ : knMem} {w c n : Int} {y : Int → Int} {o : Int} (h : o ≠ 137) (h2 : o ≠ 139) : kpMc μ w c n y o = μ o := by
  unfold kpMc
  rw [if_neg h, if_neg h2]
theorem kpMc_139 {μ : knMem} {w c n : Int} {y : Int → Int} : kpMc μ w c n y 139 = y := by
  unfold kpMc
  rw [if_neg (by omega), if_pos rfl]
theorem kpMc_137 {μ : knMem} {w c n : Int} {y : Int → Int} (i : Int) : kpMc μ w c n y 137 i = if i = 3 then w else if i = 4 then c else if i = 5 then n else μ 137 i := by
  unfold kpMc
  rw [if_pos rfl]
theorem kpMc_2 {μ : knMem} {w c n : Int} {y : Int → Int} : kpMc μ w c n y 137 2 = μ 137 2 := by
  rw [kpMc_137, if_neg (by omega), if_neg (by omega), if_neg (by omega)]
theorem kpMc_3 {μ : knMem} {w c n : Int} {y : Int → Int} : kpMc μ w c n y 137 3 = w := by
  rw [kpMc_137, if_pos rfl]
theorem kpMc_4 {μ : knMem} {w c n : Int} {y : Int → Int} : kpMc μ w c n y 137 4 = c := by
  rw [kpMc_137, if_neg (by omega), if_pos rfl]
theorem kpMc_5 {μ : knMem} {w c n : Int} {y : Int → Int} : kpMc μ w c n y 137 5 = n := by
  rw [kpMc_137, if_neg (by omega), if_neg (by omega), if_pos rfl]
theorem kpMc_id (μ : knMem) : kpMc μ (μ 137 3) (μ 137 4) (μ 137 5) (μ 139) = μ := by
  funext o i
  by_cases h : o = 137
  · subst h
    rw [kpMc_137]
    by_cases h3 : i = 3
    · rw [if_pos h3, h3]
    · by_cases h4 : i = 4
      · rw [if_neg h3, if_pos h4, h4]
      · by_cases h5 : i = 5
        · rw [if_neg h3, if_neg h4, if_pos h5, h5]
        · rw [if_neg h3, if_neg h4, if_neg h5]
  · by_cases h9 : o = 139
    · subst h9; rw [kpMc_139]
    · rw [kpMc_o h h9]
theorem kpMc_up4 {μ : knMem} {w c n v : Int} {y : Int → Int} : knUp (kpMc μ w c n y) 137 4 v = kpMc μ w v n y := by
  funext o i
  by_cases h : o = 137
  · subst h
    rw [kbUp, kpMc_137, kpMc_137]
    by_cases h4 : i = 4
    · rw [if_pos ⟨rfl, h4⟩, if_neg (by omega), if_pos h4]
    · rw [if_neg (fun h => h4 h.2), if_neg h4, if_neg h4]
  · rw [knUp_ne h]
    unfold kpMc
    rw [if_neg h, if_neg h]
theorem kpMc_up5 {μ : knMem} {w c n v : Int} {y : Int → Int} : knUp (kpMc μ w c n y) 137 5 v = kpMc μ w c v y := by
  funext o i
  by_cases h : o = 137
  · subst h
    rw [kbUp, kpMc_137, kpMc_137]
    by_cases h4 : i = 5
    · rw [if_pos ⟨rfl, h4⟩, if_neg (by omega), if_neg (by omega), if_pos h4]
    · rw [if_neg (fun h => h4 h.2), if_neg h4, if_neg h4]
  · rw [knUp_ne h]
    unfold kpMc
    rw [if_neg h, if_neg h]
theorem kpMc_up3 {μ : knMem} {w c n v : Int} {y : Int → Int} : knUp (kpMc μ w c n y) 137 3 v = kpMc μ v c n y := by
  funext o i
  by_cases h : o = 137
  · subst h
    rw [kbUp, kpMc_137, kpMc_137]
    by_cases h4 : i = 3
    · rw [if_pos ⟨rfl, h4⟩, if_pos h4]
    · rw [if_neg (fun h => h4 h.2), if_neg h4, if_neg h4]
  · rw [knUp_ne h]
    unfold kpMc
    rw [if_neg h, if_neg h]
theorem kpMc_upy {μ : knMem} {w c n k v : Int} {y : Int → Int} : knUp (kpMc μ w c n y) 139 k v = kpMc μ w c n (kbPu y k v) := by
  funext o i
  by_cases h : o = 139
  · subst h
    rw [kbUp, kpMc_139, kpMc_139]
    unfold kbPu
    by_cases h4 : i = k
    · rw [if_pos ⟨rfl, h4⟩, if_pos h4]
    · rw [if_neg (fun h => h4 h.2), if_neg h4]
  · rw [knUp_ne h]
    by_cases h7 : o = 137
    · subst h7; rw [kpMc_137, kpMc_137]
    · rw [kpMc_o h7 h, kpMc_o h7 h]
theorem kpTc.m {μ : knMem} {nc : Int → Int} {L w c n : Int} {y : Int → Int} (h : kpTc μ nc L) : kpTc (kpMc μ w c n y) nc L := ⟨by rw [kpMc_2]; exact h.1, fun k k0 k1 => by rw [kpMc_o (by omega) (by omega)]; exact h.2 k k0 k1⟩
theorem kp9_sign {m : knMem} {nc : Int → Int} {L k a : Int} (hT : kpTk nc L) (h : kpTc m nc L) (hk : 0 ≤ k) (ha : a ≠ -1) : kfX9_isSignAt k a m = some (if nc k = a then 1 else 0) := by
  have h2 := hT.2 k hk
  have hl := hT.1
  unfold kfX9_isSignAt
  dsimp only
  rw [if_neg (by omega), h.1]
  by_cases g : L ≤ k
  · rw [if_pos g, if_neg (by omega)]
  · rw [if_neg g, kbGd (by omega), h.2 k hk (by omega)]
    split <;> rfl
abbrev kpDg (x : Int) : Prop := 48 ≤ x ∧ x ≤ 57
theorem kp9_digit {m : knMem} {nc : Int → Int} {L k : Int} (hT : kpTk nc L) (h : kpTc m nc L) (hk : 0 ≤ k) : kfX9_isDigitAt k m = some (if kpDg (nc k) then 1 else 0) := by
  have h2 := hT.2 k hk
  have hl := hT.1
  unfold kfX9_isDigitAt
  dsimp only
  rw [if_neg (by omega), h.1]
  by_cases g : L ≤ k
  · rw [if_pos g, if_neg (by omega)]
  · rw [if_neg g, kbGd (by omega), h.2 k hk (by omega)]
    by_cases g1 : nc k < 48
    · rw [if_pos g1, if_neg (by omega)]
    · rw [if_neg g1]
      by_cases g2 : 57 < nc k
      · rw [if_pos g2, if_neg (by omega)]
      · rw [if_neg g2, if_pos (by omega)]
theorem kp9_dat {m : knMem} {nc : Int → Int} {L k : Int} (hT : kpTk nc L) (h : kpTc m nc L) (hk : 0 ≤ k) (hd : kpDg (nc k)) : kfX9_digitAt k m = some (nc k - 48) := by
  have h2 := hT.2 k hk
  have hl := hT.1
  unfold kfX9_digitAt
  rw [kp9_digit hT h hk, Option.bind_some, if_pos hd, if_neg (by omega), kbGd (by omega), h.2 k hk (by omega), knW_id (by omega), Option.bind_some]
def kpGv (v n : Int) (y : Int → Int) : Int × (Int → Int) := if 4 ≤ n then (n, y) else (n + 1, kbPu y n v)
theorem kp9_give {μ : knMem} {w c n v : Int} {y : Int → Int} (hn : 0 ≤ n) : kfX9_give v (kpMc μ w c n y) = some (kpMc μ w c (kpGv v n y).1 (kpGv v n y).2) := by
  unfold kfX9_give kpGv
  rw [kpMc_5]
  by_cases g : 4 ≤ n
  · rw [if_pos g, if_pos g, Option.bind_some]
  · rw [if_neg g, if_neg g, kbGd (by omega), kpMc_upy, kpMc_5, knW_id (by omega), kpMc_up5, Option.bind_some]
/-- ok, cursor, count, arguments -/
abbrev kpQ : Type := Int × Int × Int × (Int → Int)
def kpNu (nc : Int → Int) (c n : Int) (y : Int → Int) : kpQ := if kpDg (nc c) then (if kpDg (nc (c + 1)) then (1, c + 2, kpGv (10 * (nc c - 48) + (nc (c + 1) - 48)) n y) else (1, c + 1, kpGv (nc c - 48) n y)) else (0, c, n, y)
def kpDi (nc : Int → Int) (c n : Int) (y : Int → Int) : kpQ := if kpDg (nc c) then (1, c + 1, kpGv (nc c - 48) n y) else (0, c, n, y)
def kpCh (a b : Int) (nc : Int → Int) (c n : Int) (y : Int → Int) : kpQ := if nc c = a then (1, c + 1, kpGv 1 n y) else if nc c = b then (1, c + 1, kpGv 0 n y) else (0, c, n, y)
def kpLi (a : Int) (nc : Int → Int) (c n : Int) (y : Int → Int) : kpQ := if nc c = a then (1, c + 1, n, y) else (0, c, n, y)
def kpPt (a : Int) (nc : Int → Int) (c n : Int) (y : Int → Int) : kpQ := if a = 110 then kpNu nc c n y else if a = 100 then kpDi nc c n y else if a = 115 then kpCh 43 45 nc c n y else if a = 112 then kpCh 111 117 nc c n y else if a = 119 then kpCh 61 120 nc c n y else kpLi a nc c n y
/-- memory out of what a parser says -/
def kpMq (μ : knMem) (w : Int) (r : kpQ) : Int × knMem := (r.1, kpMc μ w r.2.1 r.2.2.1 r.2.2.2)
theorem kp9_num {μ : knMem} {nc : Int → Int} {L w c n : Int} {y : Int → Int} (hT : kpTk nc L) (h : kpTc μ nc L) (hc : 0 ≤ c) (hn : 0 ≤ n) : kfX9_readNumber (kpMc μ w c n y) = some (kpMq μ w (kpNu nc c n y)) := by
  have h2 := hT.2 c hc
  have h3 := hT.2 (c + 1) (by omega)
  have hl := hT.1
  unfold kfX9_readNumber kpNu
  rw [kpMc_4, kp9_digit hT h.m hc, Option.bind_some]
  by_cases g : kpDg (nc c)
  · rw [if_pos g, if_neg (by omega), kp9_dat hT h.m hc g, Option.bind_some, if_pos g, knW_id (by omega), kpMc_up4, kpMc_4, kp9_digit hT h.m (by omega), Option.bind_some]
    by_cases g2 : kpDg (nc (c + 1))
    · rw [if_pos g2, if_neg (by omega), kp9_dat hT h.m (by omega) g2, Option.bind_some, Option.bind_some, if_pos g2]
      dsimp only
      rw [knW_id (x := 10 * (nc c - 48)) (by omega), knW_id (by omega), knW_id (by omega), kpMc_up4, kp9_give hn, Option.bind_some, show c + 1 + 1 = c + 2 by omega]
      rfl
    · rw [if_neg g2, if_pos rfl, Option.bind_some, if_neg g2]
      dsimp only
      rw [kp9_give hn, Option.bind_some]
      rfl
  · rw [if_neg g, if_pos rfl, if_neg g]
    rfl
theorem kp9_dig {μ : knMem} {nc : Int → Int} {L w c n : Int} {y : Int → Int} (hT : kpTk nc L) (h : kpTc μ nc L) (hc : 0 ≤ c) (hn : 0 ≤ n) : kfX9_readDigit (kpMc μ w c n y) = some (kpMq μ w (kpDi nc c n y)) := by
  have h2 := hT.2 c hc
  have hl := hT.1
  unfold kfX9_readDigit kpDi
  rw [kpMc_4, kp9_digit hT h.m hc, Option.bind_some]
  by_cases g : kpDg (nc c)
  · rw [if_pos g, if_neg (by omega), kp9_dat hT h.m hc g, Option.bind_some, if_pos g, kp9_give hn, Option.bind_some, kpMc_4, knW_id (by omega), kpMc_up4]
    rfl
  · rw [if_neg g, if_pos rfl, if_neg g]
    rfl
theorem kp9_lit {μ : knMem} {nc : Int → Int} {L w c n a : Int} {y : Int → Int} (hT : kpTk nc L) (h : kpTc μ nc L) (hc : 0 ≤ c) (ha : a ≠ -1) : kfX9_readSign a (kpMc μ w c n y) = some (kpMq μ w (kpLi a nc c n y)) := by
  have h2 := hT.2 c hc
  have hl := hT.1
  unfold kfX9_readSign kpLi
  rw [kpMc_4, kp9_sign hT h.m hc ha, Option.bind_some]
  by_cases g : nc c = a
  · rw [if_pos g, if_neg (by omega), if_pos g, knW_id (by omega), kpMc_up4]
    rfl
  · rw [if_neg g, if_pos rfl, if_neg g]
    rfl
theorem kp9_cho {μ : knMem} {nc : Int → Int} {L w c n a b : Int} {y : Int → Int} (hT : kpTk nc L) (h : kpTc μ nc L) (hc : 0 ≤ c) (hn : 0 ≤ n) (ha : a ≠ -1) (hb : b ≠ -1) : kfX9_readChoice a b (kpMc μ w c n y) = some (kpMq μ w (kpCh a b nc c n y)) := by
  unfold kfX9_readChoice kpCh
  rw [kp9_lit hT h hc ha, Option.bind_some]
  unfold kpMq kpLi
  by_cases g : nc c = a
  · rw [if_pos g, if_pos g]
    dsimp only
    rw [if_neg (by omega), kp9_give hn, Option.bind_some]
  · rw [if_neg g, if_neg g]
    dsimp only
    rw [if_pos rfl, kp9_lit hT h hc hb, Option.bind_some]
    unfold kpMq kpLi
    by_cases g2 : nc c = b
    · rw [if_pos g2, if_pos g2]
      dsimp only
      rw [if_neg (by omega), kp9_give hn, Option.bind_some]
    · rw [if_neg g2, if_neg g2]
      dsimp only
      rw [if_pos rfl]
theorem kp9_part {μ : knMem} {nc : Int → Int} {L w c n a : Int} {y : Int → Int} (hT : kpTk nc L) (h : kpTc μ nc L) (hc : 0 ≤ c) (hn : 0 ≤ n) (ha : a ≠ -1) : kfX9_readPart a (kpMc μ w c n y) = some (kpMq μ w (kpPt a nc c n y)) := by
  unfold kfX9_readPart kpPt
  by_cases g1 : a = 110
  · rw [if_pos g1, if_pos g1, kp9_num hT h hc hn, Option.bind_some]
  · rw [if_neg g1, if_neg g1]
    by_cases g2 : a = 100
    · rw [if_pos g2, if_pos g2, kp9_dig hT h hc hn, Option.bind_some]
    · rw [if_neg g2, if_neg g2]
      by_cases g3 : a = 115
      · rw [if_pos g3, if_pos g3, kp9_cho hT h hc hn (by omega) (by omega), Option.bind_some]
      · rw [if_neg g3, if_neg g3]
        by_cases g4 : a = 112
        · rw [if_pos g4, if_pos g4, kp9_cho hT h hc hn (by omega) (by omega), Option.bind_some]
        · rw [if_neg g4, if_neg g4]
          by_cases g5 : a = 119
          · rw [if_pos g5, if_pos g5, kp9_cho hT h hc hn (by omega) (by omega), Option.bind_some]
          · rw [if_neg g5, if_neg g5, kp9_lit hT h hc ha, Option.bind_some]
/-- a part's ends -/
theorem kpPt_in {nc : Int → Int} {L c n a : Int} {y : Int → Int} (hT : kpTk nc L) (hc : 0 ≤ c ∧ c ≤ L) (hn : 0 ≤ n) (ha : a ≠ -1) : ((kpPt a nc c n y).1 = 0 ∨ (kpPt a nc c n y).1 = 1) ∧ (c ≤ (kpPt a nc c n y).2.1 ∧ (kpPt a nc c n y).2.1 ≤ L) ∧ 0 ≤ (kpPt a nc c n y).2.2.1 := by
  have h2 := hT.2 c hc.1
  have h3 := hT.2 (c + 1) (by omega)
  have gv : ∀ v : Int, 0 ≤ (kpGv v n y).1 := fun v => by unfold kpGv; split <;> (dsimp only; omega)
  have ch : ∀ a b : Int, a ≠ -1 → b ≠ -1 → ((kpCh a b nc c n y).1 = 0 ∨ (kpCh a b nc c n y).1 = 1) ∧ (c ≤ (kpCh a b nc c n y).2.1 ∧ (kpCh a b nc c n y).2.1 ≤ L) ∧ 0 ≤ (kpCh a b nc c n y).2.2.1 := by
    intro a b ha hb
    unfold kpCh
    by_cases g1 : nc c = a
    · rw [if_pos g1]; exact ⟨Or.inr rfl, ⟨by dsimp only; omega, by dsimp only; omega⟩, gv _⟩
    · rw [if_neg g1]
      by_cases g2 : nc c = b
      · rw [if_pos g2]; exact ⟨Or.inr rfl, ⟨by dsimp only; omega, by dsimp only; omega⟩, gv _⟩
      · rw [if_neg g2]; exact ⟨Or.inl rfl, ⟨by dsimp only; omega, by dsimp only; omega⟩, hn⟩
  unfold kpPt
  by_cases g1 : a = 110
  · rw [if_pos g1]
    unfold kpNu
    by_cases g : kpDg (nc c)
    · rw [if_pos g]
      by_cases g' : kpDg (nc (c + 1))
      · rw [if_pos g']; exact ⟨Or.inr rfl, ⟨by dsimp only; omega, by dsimp only; omega⟩, gv _⟩
      · rw [if_neg g']; exact ⟨Or.inr rfl, ⟨by dsimp only; omega, by dsimp only; omega⟩, gv _⟩
    · rw [if_neg g]; exact ⟨Or.inl rfl, ⟨by dsimp only; omega, by dsimp only; omega⟩, hn⟩
  · rw [if_neg g1]
    by_cases g2 : a = 100
    · rw [if_pos g2]
      unfold kpDi
      by_cases g : kpDg (nc c)
      · rw [if_pos g]; exact ⟨Or.inr rfl, ⟨by dsimp only; omega, by dsimp only; omega⟩, gv _⟩
      · rw [if_neg g]; exact ⟨Or.inl rfl, ⟨by dsimp only; omega, by dsimp only; omega⟩, hn⟩
    · rw [if_neg g2]
      by_cases g3 : a = 115
      · rw [if_pos g3]; exact ch 43 45 (by omega) (by omega)
      · rw [if_neg g3]
        by_cases g4 : a = 112
        · rw [if_pos g4]; exact ch 111 117 (by omega) (by omega)
        · rw [if_neg g4]
          by_cases g5 : a = 119
          · rw [if_pos g5]; exact ch 61 120 (by omega) (by omega)
          · rw [if_neg g5]
            unfold kpLi
            by_cases g : nc c = a
            · rw [if_pos g]; exact ⟨Or.inr rfl, ⟨by dsimp only; omega, by dsimp only; omega⟩, hn⟩
            · rw [if_neg g]; exact ⟨Or.inl rfl, ⟨by dsimp only; omega, by dsimp only; omega⟩, hn⟩
def kpPts (nc : Int → Int) : List Int → kpQ → kpQ
  | [], q => q
  | a :: f, q => if (kpPt a nc q.2.1 q.2.2.1 q.2.2.2).1 = 0 then kpPt a nc q.2.1 q.2.2.1 q.2.2.2 else kpPts nc f (kpPt a nc q.2.1 q.2.2.1 q.2.2.2)
/-- a string constant's characters from i on -/
def kpSt (s : Int) : List Int → Int → Bool
  | [], i => decide (knSln s = i)
  | a :: f, i => decide (i < knSln s) && decide (knSch s i = a) && decide (a ≠ -1) && kpSt s f (i + 1)
theorem kpSt_c {s a i : Int} {f : List Int} (h : kpSt s (a :: f) i = true) : i < knSln s ∧ knSch s i = a ∧ a ≠ -1 ∧ kpSt s f (i + 1) = true := by
  unfold kpSt at h
  rw [Bool.and_eq_true, Bool.and_eq_true, Bool.and_eq_true, decide_eq_true_iff, decide_eq_true_iff, decide_eq_true_iff] at h
  exact ⟨h.1.1.1, h.1.1.2, h.1.2, h.2⟩
theorem kp9_parts {μ : knMem} {nc : Int → Int} {L w s : Int} (hT : kpTk nc L) (h : kpTc μ nc L) (hs : knSln s ≤ 100) {P : Int × knMem → Prop} : ∀ (f : List Int) (fuel : Nat) (i : Int) (q : kpQ), q.1 = 1 → (0 ≤ q.2.1 ∧ q.2.1 ≤ L) → 0 ≤ q.2.2.1 → 0 ≤ i → kpSt s f i = true → f.length < fuel → P (kpMq μ w (kpPts nc f q)) →
    kbH (kfX9_readCommand_l32 s (fun w13 => some (1, w13)) fuel i (kpMq μ w q).2) P
  | [], 0, _, _, _, _, _, _, _, hl, _ => absurd hl (by simp)
  | [], fuel + 1, i, q, h1, _, _, i0, hs, _, hP => by
    have e : knSln s = i := of_decide_eq_true hs
    rw [kfX9_readCommand_l32, if_pos (by omega)]
    refine kbH_some.mpr ?_
    have e2 : ((1 : Int), (kpMq μ w q).2) = kpMq μ w q := by unfold kpMq; rw [h1]
    rw [e2]
    exact hP
  | a :: f, 0, _, _, _, _, _, _, _, hl, _ => absurd hl (by simp)
  | a :: f, fuel + 1, i, q, h1, hc, hn, i0, hS, hl, hP => by
    obtain ⟨c1, c2, c3, c4⟩ := kpSt_c hS
    rw [kfX9_readCommand_l32, if_neg (by omega), kbGd (by omega), c2]
    have hp := kpPt_in (y := q.2.2.2) hT hc hn c3
    show kbH (Option.bind (kfX9_readPart a (kpMc μ w q.2.1 q.2.2.1 q.2.2.2)) _) P
    rw [kp9_part hT h hc.1 hn c3, Option.bind_some]
    unfold kpPts at hP
    by_cases g : (kpPt a nc q.2.1 q.2.2.1 q.2.2.2).1 = 0
    · rw [if_pos g] at hP
      rw [if_pos (show (kpMq μ w (kpPt a nc q.2.1 q.2.2.1 q.2.2.2)).1 = 0 from g)]
      refine kbH_some.mpr ?_
      have e2 : ((0 : Int), (kpMq μ w (kpPt a nc q.2.1 q.2.2.1 q.2.2.2)).2) = kpMq μ w (kpPt a nc q.2.1 q.2.2.1 q.2.2.2) := by unfold kpMq; rw [g]
      rw [e2]
      exact hP
    · rw [if_neg g] at hP
      rw [if_neg (show ¬ (kpMq μ w (kpPt a nc q.2.1 q.2.2.1 q.2.2.2)).1 = 0 from g), knW_id (by omega)]
      exact kp9_parts hT h hs f fuel (i + 1) _ (by omega) ⟨by omega, by omega⟩ hp.2.2 (by omega) c4 (by simp at hl; omega) hP
/-! words -/
def kpLc (nc : Int → Int) : List Int → Int → Int
  | [], _ => 0
  | a :: f, c => if nc c = a then 1 + kpLc nc f (c + 1) else 0
theorem kpLc_in {nc : Int → Int} : ∀ (f : List Int) (c : Int), 0 ≤ kpLc nc f c ∧ kpLc nc f c ≤ f.length
  | [], c => ⟨Int.le_refl 0, Int.le_refl 0⟩
  | a :: f, c => by
    have h := kpLc_in (nc := nc) f (c + 1)
    unfold kpLc
    rw [List.length_cons]
    split <;> omega
theorem kp9_match {m : knMem} {nc : Int → Int} {L c s : Int} (hT : kpTk nc L) (h : kpTc m nc L) (hc : 0 ≤ c ∧ c ≤ 100) (h4 : m 137 4 = c) (hs : knSln s ≤ 100) {kc : Int → Option Int} : ∀ (f : List Int) (fuel : Nat) (i : Int), 0 ≤ i → kpSt s f i = true → f.length < fuel →
    kfX9_matchedLength_l2 s m kc fuel i = kc (i + kpLc nc f (c + i))
  | [], 0, _, _, _, hl => absurd hl (by simp)
  | [], fuel + 1, i, i0, hS, _ => by
    have e : knSln s = i := of_decide_eq_true hS
    rw [kfX9_matchedLength_l2, if_pos (by omega), kpLc, Int.add_zero]
  | a :: f, 0, _, _, _, hl => absurd hl (by simp)
  | a :: f, fuel + 1, i, i0, hS, hl => by
    obtain ⟨c1, c2, c3, c4⟩ := kpSt_c hS
    rw [kfX9_matchedLength_l2, if_neg (by omega), kbGd (by omega), c2, h4, knW_id (by omega), kp9_sign hT h (by omega) c3, Option.bind_some, kpLc]
    by_cases g : nc (c + i) = a
    · rw [if_pos g, if_pos g, if_neg (by omega), knW_id (by omega), kp9_match hT h hc h4 hs f fuel (i + 1) (by omega) c4 (by simp at hl; omega)]
      rw [show c + (i + 1) = c + i + 1 by omega, show i + 1 + kpLc nc f (c + i + 1) = i + (1 + kpLc nc f (c + i + 1)) by omega]
    · rw [if_neg g, if_neg g, if_pos rfl, Int.add_zero]
def kpWl : List (List Int) := [[99, 117, 114, 108, 32], [117, 110, 99, 117, 114, 108, 32], [112, 111, 107, 101, 32], [117, 110, 112, 111, 107, 101, 32], [115, 119, 105, 116, 99, 104, 32], [109, 105, 114, 114, 111, 114], [114, 101, 118, 101, 114, 115, 101], [116, 117, 114, 110, 32], [114, 101, 100, 117, 99, 101], [112, 108, 97, 121, 101, 114], [98, 101, 116, 32], [115, 101, 116, 116, 108, 101]]
def kpFl : List (List Int) := [[110, 115, 112], [100], [110, 32, 110, 119, 115], [100, 32, 100], [100], [], [], [110], [], [], [100, 32, 100, 58, 110], []]
def kpWd (v : Int) : List Int := kpWl.getD v.toNat []
def kpFm (v : Int) : List Int := kpFl.getD v.toNat []
theorem kpStr_all : ∀ v : Nat, v < 12 → (kpSt (knWd v) (kpWd v) 0 = true ∧ knSln (knWd v) = (kpWd v).length ∧ knSln (knWd v) ≤ 100 ∧ (kpWd v).length < 100 ∧ 0 < (kpWd v).length) ∧ kpSt (knFm v) (kpFm v) 0 = true ∧ knSln (knFm v) ≤ 100 ∧ (kpFm v).length < 100 := by decide +kernel
theorem kpStr {v : Int} (h : 0 ≤ v ∧ v < 12) : (kpSt (knWd v) (kpWd v) 0 = true ∧ knSln (knWd v) = (kpWd v).length ∧ knSln (knWd v) ≤ 100 ∧ (kpWd v).length < 100 ∧ 0 < (kpWd v).length) ∧ kpSt (knFm v) (kpFm v) 0 = true ∧ knSln (knFm v) ≤ 100 ∧ (kpFm v).length < 100 := by
  have h1 := kpStr_all v.toNat (by omega)
  rw [show ((v.toNat : Nat) : Int) = v by omega] at h1
  exact h1
theorem kp9_matched {m : knMem} {nc : Int → Int} {L c v : Int} (hT : kpTk nc L) (h : kpTc m nc L) (hc : 0 ≤ c ∧ c ≤ 100) (h4 : m 137 4 = c) (hv : 0 ≤ v ∧ v < 12) : kfX9_matchedLength (knWd v) m = some (kpLc nc (kpWd v) c) := by
  have hs := kpStr hv
  unfold kfX9_matchedLength
  rw [kp9_match hT h hc h4 hs.1.2.2.1 (kpWd v) knF 0 (by omega) hs.1.1 (by rw [show knF = 4096 from rfl]; omega), Int.add_zero, Int.zero_add]
/-- the word w is the one that matches furthest at c, the others don't match -/
def kpAt (nc : Int → Int) (c w : Int) : Prop := (0 ≤ w ∧ w < 12) ∧ ∀ v : Int, 0 ≤ v → v < 12 → v ≠ w → kpLc nc (kpWd v) c < (kpWd v).length ∧ kpLc nc (kpWd v) c ≤ kpLc nc (kpWd w) c
theorem kp9_word {μ : knMem} {nc : Int → Int} {L w0 w c n : Int} {y : Int → Int} (hT : kpTk nc L) (h : kpTc μ nc L) (hc : 0 ≤ c ∧ c ≤ 60) (hA : kpAt nc c w) :
    kbH (kfX9_readWord (kpMc μ w0 c n y)) (fun r => r = ((if kpLc nc (kpWd w) c = (kpWd w).length then w else -1), kpMc μ w0 (c + kpLc nc (kpWd w) c) n y)) := by
  have hw := hA.1
  unfold kfX9_readWord
  rw [kpMc_4]
  have l0 := kpLc_in (nc := nc) (kpWd w) c
  refine kbLoop (fun n' i (x : Int) => kfX9_readWord_l7 (kpMc μ w0 c n y) (fun w13 => some (-1, (knUp (kpMc μ w0 c n y) 137 4 w13))) n' x i) (fun i x => 0 ≤ i ∧ (c ≤ x ∧ x ≤ c + kpLc nc (kpWd w) c) ∧ (w < i → x = c + kpLc nc (kpWd w) c ∧ kpLc nc (kpWd w) c ≠ (kpWd w).length)) 12 _ ?_ ?_ _ _ _ (by omega) (by rw [kbF]; omega) ⟨by omega, by omega, fun h => by omega⟩
  · intro n' i x hi ⟨i0, hx, hz⟩ kk
    have hs := kpStr (v := i) (by omega)
    have li := kpLc_in (nc := nc) (kpWd i) c
    simp only [kfX9_readWord_l7, kbH_ite, kbH_gd]
    refine ⟨fun h => by omega, fun _ => ⟨by omega, ?_⟩⟩
    rw [kp9_matched hT h.m (by omega) kpMc_4 (v := i) (by omega), Option.bind_some, hs.1.2.1, kpMc_4, knW_id (by omega), kpMc_up4]
    by_cases g : kpLc nc (kpWd i) c = (kpWd i).length
    · rw [if_pos g]
      have e : i = w := by
        by_cases e : i = w
        · exact e
        · have := hA.2 i i0 hi e
          omega
      subst e
      rw [if_pos g]
      exact kbH_some.mpr rfl
    · rw [if_neg g]
      unfold kfJ9_max_7cf53
      rw [Option.bind_some, knW_id (by omega)]
      by_cases e : i = w
      · subst e
        exact kk _ ⟨by omega, by split <;> omega, fun _ => ⟨by split <;> omega, g⟩⟩
      · have ho := hA.2 i i0 hi e
        refine kk _ ⟨by omega, by split <;> omega, fun h => ?_⟩
        have := hz (by omega)
        exact ⟨by split <;> omega, this.2⟩
  · intro n' x ⟨i0, hx, hz⟩
    have hz := hz (by omega)
    simp only [kfX9_readWord_l7, kbH_ite]
    refine ⟨fun _ => ?_, fun h => by omega⟩
    rw [if_neg hz.2, kpMc_up4, hz.1]
    exact kbH_some.mpr rfl
/-- the whole of a command -/
def kpFw (nc : Int → Int) : List Int → List Int → kpQ → kpQ
  | [], f, q => kpPts nc f q
  | a :: s, f, q => if nc q.2.1 = a then kpFw nc s f (1, q.2.1 + 1, q.2.2) else (0, q.2)
theorem kpFw_eq {nc : Int → Int} {f : List Int} {n : Int} {y : Int → Int} : ∀ (s : List Int) (c : Int), kpFw nc s f (1, c, n, y) = if kpLc nc s c = s.length then kpPts nc f (1, c + s.length, n, y) else (0, c + kpLc nc s c, n, y)
  | [], c => by
    rw [kpFw, kpLc, if_pos (by rfl)]
    simp
  | a :: s, c => by
    have l0 := kpLc_in (nc := nc) s (c + 1)
    rw [kpFw, kpLc, List.length_cons]
    by_cases g : nc c = a
    · rw [if_pos g, if_pos g, kpFw_eq s (c + 1)]
      by_cases g2 : kpLc nc s (c + 1) = s.length
      · rw [if_pos g2, if_pos (by omega), show c + 1 + (s.length : Int) = c + ((s.length + 1 : Nat) : Int) by omega]
      · rw [if_neg g2, if_neg (by omega), show c + 1 + kpLc nc s (c + 1) = c + (1 + kpLc nc s (c + 1)) by omega]
    · rw [if_neg g, if_neg g, if_neg (by omega), Int.add_zero]
theorem kpPts_in {nc : Int → Int} {L : Int} (hT : kpTk nc L) : ∀ (f : List Int) (q : kpQ), (q.1 = 0 ∨ q.1 = 1) → (0 ≤ q.2.1 ∧ q.2.1 ≤ L) → 0 ≤ q.2.2.1 → (∀ a : Int, a ∈ f → a ≠ -1) →
    ((kpPts nc f q).1 = 0 ∨ (kpPts nc f q).1 = 1) ∧ (q.2.1 ≤ (kpPts nc f q).2.1 ∧ (kpPts nc f q).2.1 ≤ L) ∧ 0 ≤ (kpPts nc f q).2.2.1
  | [], q, h1, h2, h3, _ => ⟨h1, ⟨Int.le_refl _, h2.2⟩, h3⟩
  | a :: f, q, h1, h2, h3, h4 => by
    have hp := kpPt_in (y := q.2.2.2) hT h2 h3 (h4 a (List.mem_cons_self ..))
    rw [kpPts]
    by_cases g : (kpPt a nc q.2.1 q.2.2.1 q.2.2.2).1 = 0
    · rw [if_pos g]; exact hp
    · rw [if_neg g]
      have h9 := kpPts_in hT f _ hp.1 ⟨by omega, hp.2.1.2⟩ hp.2.2 (fun b hb => h4 b (List.mem_cons_of_mem a hb))
      exact ⟨h9.1, ⟨by omega, h9.2.1.2⟩, h9.2.2⟩
theorem kpLc_le {nc : Int → Int} {L : Int} (hT : kpTk nc L) : ∀ (f : List Int) (c : Int), (0 ≤ c ∧ c ≤ L) → (∀ a : Int, a ∈ f → a ≠ -1) → c + kpLc nc f c ≤ L
  | [], c, h, _ => by rw [kpLc]; omega
  | a :: f, c, h, h4 => by
    have h2 := hT.2 c h.1
    have ha := h4 a (List.mem_cons_self ..)
    rw [kpLc]
    by_cases g : nc c = a
    · rw [if_pos g]
      have := kpLc_le hT f (c + 1) (by omega) (fun b hb => h4 b (List.mem_cons_of_mem a hb))
      omega
    · rw [if_neg g]; omega
theorem kpNe_all : ∀ v : Nat, v < 12 → (∀ a ∈ kpWd v, a ≠ -1) ∧ ∀ a ∈ kpFm v, a ≠ -1 := by decide +kernel
theorem kpNe {v : Int} (h : 0 ≤ v ∧ v < 12) : (∀ a ∈ kpWd v, a ≠ -1) ∧ ∀ a ∈ kpFm v, a ≠ -1 := by
  have h1 := kpNe_all v.toNat (by omega)
  rw [show ((v.toNat : Nat) : Int) = v by omega] at h1
  exact h1
/-- a command read: where the word w is the one -/
def kpCd (nc : Int → Int) (w c : Int) (y : Int → Int) : kpQ := kpFw nc (kpWd w) (kpFm w) (1, c, 0, y)
theorem kpCd_in {nc : Int → Int} {L w c : Int} {y : Int → Int} (hT : kpTk nc L) (hw : 0 ≤ w ∧ w < 12) (hc : 0 ≤ c ∧ c ≤ L) : ((kpCd nc w c y).1 = 0 ∨ (kpCd nc w c y).1 = 1) ∧ (c ≤ (kpCd nc w c y).2.1 ∧ (kpCd nc w c y).2.1 ≤ L) ∧ ((kpCd nc w c y).1 ≠ 0 → c < (kpCd nc w c y).2.1) := by
  have hs := kpStr hw
  have hx := kpNe hw
  have l1 := kpLc_in (nc := nc) (kpWd w) c
  have l2 := kpLc_le hT (kpWd w) c hc hx.1
  unfold kpCd
  rw [kpFw_eq]
  by_cases g : kpLc nc (kpWd w) c = (kpWd w).length
  · rw [if_pos g]
    have h9 := kpPts_in hT (kpFm w) (1, c + (kpWd w).length, 0, y) (Or.inr rfl) ⟨by show 0 ≤ c + ((kpWd w).length : Int); omega, by show c + ((kpWd w).length : Int) ≤ L; omega⟩ (Int.le_refl 0) hx.2
    have h10 : c + ((kpWd w).length : Int) ≤ (kpPts nc (kpFm w) (1, c + (kpWd w).length, 0, y)).2.1 := h9.2.1.1
    exact ⟨h9.1, ⟨by omega, h9.2.1.2⟩, fun _ => by omega⟩
  · rw [if_neg g]
    exact ⟨Or.inl rfl, ⟨by show c ≤ c + kpLc nc (kpWd w) c; omega, l2⟩, fun h => absurd rfl h⟩
theorem kp9_cmd {μ : knMem} {nc : Int → Int} {L w0 w c n : Int} {y : Int → Int} (hT : kpTk nc L) (h : kpTc μ nc L) (hc : 0 ≤ c ∧ c ≤ L) (hA : kpAt nc c w) :
    kbH (kfX9_readCommand (kpMc μ w0 c n y)) (fun r => ∃ w' : Int, r = kpMq μ w' (kpCd nc w c y) ∧ ((kpCd nc w c y).1 ≠ 0 → w' = w)) := by
  have hw := hA.1
  have hl := hT.1
  have hs := kpStr hw
  have hx := kpNe hw
  have l1 := kpLc_in (nc := nc) (kpWd w) c
  have l2 := kpLc_le hT (kpWd w) c hc hx.1
  unfold kfX9_readCommand
  rw [kpMc_up5]
  refine (kp9_word hT h (by omega) hA).bind (fun q1 e1 => ?_)
  subst e1
  dsimp only
  rw [kpMc_up3, kpMc_3]
  unfold kpCd
  rw [kpFw_eq]
  by_cases g : kpLc nc (kpWd w) c = (kpWd w).length
  · rw [if_pos g, if_pos g, kbGd (by omega), if_neg (by omega), kbGd (by omega), g]
    exact kp9_parts hT h hs.2.2.1 (w := w) (kpFm w) knF 0 (1, c + (kpWd w).length, 0, y) rfl ⟨by show 0 ≤ c + ((kpWd w).length : Int); omega, by show c + ((kpWd w).length : Int) ≤ L; omega⟩ (Int.le_refl 0) (Int.le_refl 0) hs.2.1 (by rw [show knF = 4096 from rfl]; omega) ⟨w, rfl, fun _ => rfl⟩
  · rw [if_neg g, if_neg g, kbGd (by omega), if_pos (by omega)]
    exact kbH_some.mpr ⟨-1, rfl, fun h => absurd rfl h⟩
