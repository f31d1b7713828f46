/-! Settling. -/
abbrev kbWn (B : kbY) (z k : Int) : Prop := 0 < B.2.2.2.2 k ∧ B.2.2.2.1 k = z
def kbWc (B : kbY) (z : Int) (n : Nat) : Int := kbSm (fun k => if kbWn B z k then 1 else 0) n
def kbSh0 (B : kbY) (z : Int) : Int := if kbWc B z B.1.toNat = 0 then 0 else kbSm B.2.2.2.2 B.1.toNat / kbWc B z B.1.toNat
/-- settled, those below n -/
def kbSt (B : kbY) (z : Int) : kbY := (B.1, B.2.1 + (kbSm B.2.2.2.2 B.1.toNat - kbWc B z B.1.toNat * kbSh0 B z), fun k => if kbWn B z k then B.2.2.1 k + kbSh0 B z else B.2.2.1 k, B.2.2.2.1, fun _ => 0)
def kbPa (z : Int) (B : kbY) : Int × kbY := if kbSm B.2.2.2.2 B.1.toNat = 0 then (3, B) else if z = -1 then (5, B) else (0, kbSt B z)
theorem kbWc_in {B : kbY} {z : Int} (n : Nat) : 0 ≤ kbWc B z n ∧ kbWc B z n ≤ n := by
  have h1 := kbSm_nn (f := fun k => if kbWn B z k then 1 else 0) n (fun k _ _ => by split <;> omega)
  have h2 := kbSm_mono (f := fun k => if kbWn B z k then 1 else 0) (g := fun _ => 1) n (fun k _ _ => by split <;> omega)
  rw [kbSm_c] at h2
  unfold kbWc
  omega
theorem kbSh0_in {B : kbY} {z : Int} (h : kbBv B) : (0 ≤ kbSh0 B z ∧ kbSh0 B z ≤ 400) ∧ 0 ≤ kbSm B.2.2.2.2 B.1.toNat - kbWc B z B.1.toNat * kbSh0 B z ∧ 0 ≤ kbWc B z B.1.toNat * kbSh0 B z := by
  have h1 := h.le.2.1
  have h2 := kbWc_in (B := B) (z := z) B.1.toNat
  have hm := h.1
  unfold kbSh0
  by_cases hz : kbWc B z B.1.toNat = 0
  · rw [if_pos hz, hz]; omega
  · rw [if_neg hz]
    have h3 : kbWc B z B.1.toNat = 1 ∨ kbWc B z B.1.toNat = 2 ∨ kbWc B z B.1.toNat = 3 ∨ kbWc B z B.1.toNat = 4 := by omega
    rcases h3 with h3 | h3 | h3 | h3 <;> rw [h3] <;> omega
theorem kbSt_v {B : kbY} {z : Int} (h : kbBv B) : kbBv (kbSt B z) := by
  have hs := kbSh0_in (z := z) h
  obtain ⟨hm, hh, hk, he⟩ := h
  refine ⟨hm, by show 0 ≤ B.2.1 + _; omega, fun k k0 k1 => ?_, ?_⟩
  · have h1 := hk k k0 k1
    refine ⟨?_, Int.le_refl 0, show (0 : Int) ≤ 99 by omega⟩
    show 0 ≤ (if kbWn B z k then B.2.2.1 k + kbSh0 B z else B.2.2.1 k)
    split <;> omega
  · show kbSm (fun k => if kbWn B z k then B.2.2.1 k + kbSh0 B z else B.2.2.1 k) B.1.toNat + kbSm (fun _ => 0) B.1.toNat + (B.2.1 + (kbSm B.2.2.2.2 B.1.toNat - kbWc B z B.1.toNat * kbSh0 B z)) = 100 * B.1
    have e : ∀ n : Nat, kbSm (fun k => if kbWn B z k then B.2.2.1 k + kbSh0 B z else B.2.2.1 k) n = kbSm B.2.2.1 n + kbWc B z n * kbSh0 B z := by
      intro n
      induction n with
      | zero => simp [kbSm, kbWc]
      | succ n ih =>
        have e1 : ∀ g : Int → Int, kbSm g (n + 1) = kbSm g n + g n := fun _ => rfl
        have e2 : kbWc B z (n + 1) = kbWc B z n + (if kbWn B z n then 1 else 0) := rfl
        rw [e1, e1, ih, e2, Int.add_mul]
        by_cases hw : kbWn B z n
        · rw [if_pos hw, if_pos hw]; omega
        · rw [if_neg hw, if_neg hw]; omega
    rw [e, kbSm_c]
    omega
theorem kbPa_v {z : Int} {B : kbY} (h : kbBv B) : kbBv (kbPa z B).2 := by
  unfold kbPa
  split
  · exact h
  · split
    · exact h
    · exact kbSt_v h
theorem kb1_wins {μ : knMem} {b p z : Int} {B : kbY} (hC : kbCb μ b B) (hB : kbBv B) (hp : 0 ≤ p ∧ p < B.1) : kfX1_wins b p z μ = some (if kbWn B z p then 1 else 0) := by
  obtain ⟨h0, h1, h2⟩ := hC
  have hm := hB.1
  have h3 := h2 p hp.1 hp.2
  unfold kfX1_wins
  rw [kbGd (by omega), h3.2.1]
  simp only
  by_cases g1 : B.2.2.2.2 p ≤ 0
  · rw [if_pos g1, if_neg (fun h => by have := h.1; omega)]
  · rw [if_neg g1, h3.2.2 (by omega)]
    by_cases g2 : B.2.2.2.1 p = z
    · rw [if_pos g2, if_pos ⟨by omega, g2⟩]
    · rw [if_neg g2, if_neg (fun h => g2 h.2)]
theorem kb1_winners {μ : knMem} {b z : Int} {B : kbY} (hC : kbCb μ b B) (hB : kbBv B) : kfX1_winners b z μ = some (kbWc B z B.1.toNat) := by
  have h0 := hC.1
  have hm := hB.1
  have key : kbH (kfX1_winners b z μ) (fun r => r = kbWc B z B.1.toNat) := by
    unfold kfX1_winners
    refine kbLoop (fun n i (x : Int) => kfX1_winners_l4 b z μ (fun w5 => some w5) n x i) (fun i x => 0 ≤ i ∧ x = kbWc B z i.toNat) B.1 _ ?_ ?_ _ _ _ (by omega) (by rw [kbF]; omega) ⟨by omega, rfl⟩
    · intro n i x hi ⟨i0, hx⟩ kk
      simp only [kfX1_winners_l4, kbH_ite]
      refine ⟨fun h => by omega, fun _ => ?_⟩
      have hw := kbWc_in (B := B) (z := z) i.toNat
      rw [kb1_wins hC hB (by omega), Option.bind_some, knW_id (x := i + 1) (by omega), knW_id (by split <;> omega)]
      refine kk _ ⟨by omega, ?_⟩
      have e : (i + 1).toNat = i.toNat + 1 := by omega
      have e2 : ((i.toNat : Nat) : Int) = i := by omega
      rw [e]
      unfold kbWc
      rw [kbSm, hx]
      unfold kbWc
      simp only [e2]
      by_cases g : kbWn B z i
      · rw [if_pos g]; rfl
      · rw [if_neg g]; rfl
    · intro n x ⟨i0, hx⟩
      simp only [kfX1_winners_l4, kbH_ite, kbH_some]
      exact ⟨fun _ => hx, fun h => by omega⟩
  obtain ⟨r, h3, h4⟩ := key
  rw [h3, h4]
theorem kb1_pay {μ : knMem} {b z : Int} {B : kbY} (hC : kbCb μ b B) (hB : kbBv B) : kbH (kfX1_pay b z μ) (fun r => r.1 = (kbPa z B).1 ∧ kbCb r.2 b (kbPa z B).2 ∧ kbFr b (b + 3) μ r.2) := by
  have hs := kbSh0_in (z := z) hB
  have hle := hB.le
  have hm := hB.1
  obtain ⟨h0, h1, h2⟩ := id hC
  unfold kfX1_pay
  rw [kb1_allStakes hC hB, Option.bind_some]
  by_cases g1 : kbSm B.2.2.2.2 B.1.toNat = 0
  · rw [if_pos g1]
    have e : kbPa z B = (3, B) := by unfold kbPa; rw [if_pos g1]
    rw [e]
    exact kbH_some.mpr ⟨rfl, hC, kbFr.rf⟩
  · rw [if_neg g1]
    by_cases g2 : z = -1
    · rw [if_pos g2]
      have e : kbPa z B = (5, B) := by unfold kbPa; rw [if_neg g1, if_pos g2]
      rw [e]
      exact kbH_some.mpr ⟨rfl, hC, kbFr.rf⟩
    · rw [if_neg g2, kb1_winners hC hB, Option.bind_some]
      have e : kbPa z B = (0, kbSt B z) := by unfold kbPa; rw [if_neg g1, if_neg g2]
      have hw := kbWc_in (B := B) (z := z) B.1.toNat
      have e3 : (if kbWc B z B.1.toNat = 0 then some 0 else knGd (kbWc B z B.1.toNat ≠ 0) (some (knDiv (kbSm B.2.2.2.2 B.1.toNat) (kbWc B z B.1.toNat))) : Option Int) = some (kbSh0 B z) := by
        unfold kbSh0
        by_cases g3 : kbWc B z B.1.toNat = 0
        · rw [if_pos g3, if_pos g3]
        · rw [if_neg g3, if_neg g3, kbGd g3, kbDv (by omega) (by omega)]
      rw [e3, Option.bind_some, e]
      obtain ⟨q, hq⟩ : ∃ q : Int, q = kbSh0 B z := ⟨_, rfl⟩
      rw [← hq]
      rw [← hq] at hs
      have hmul : ∀ n : Nat, n ≤ 4 → 0 ≤ kbWc B z n * q ∧ kbWc B z n * q ≤ 1600 := by
        intro n hn
        have h9 := kbWc_in (B := B) (z := z) n
        have h3 : kbWc B z n = 0 ∨ kbWc B z n = 1 ∨ kbWc B z n = 2 ∨ kbWc B z n = 3 ∨ kbWc B z n = 4 := by omega
        rcases h3 with h3 | h3 | h3 | h3 | h3 <;> rw [h3] <;> omega
      refine kbLoop (fun n i (p : Int × knMem) => kfX1_pay_l44 b z q (fun w27 => some (0, (knUp w27.2 b 4 (knW ((w27.2 b 4) + w27.1))))) n p.1 i p.2) (fun i p => 0 ≤ i ∧ p.1 = kbSm B.2.2.2.2 B.1.toNat - kbWc B z i.toNat * q ∧ p.2 b 3 = B.1 ∧ p.2 b 4 = B.2.1 ∧ (∀ k : Int, 0 ≤ k → k < i → p.2 (b + 1) k = (kbSt B z).2.2.1 k ∧ p.2 (b + 3) k = 0) ∧ (∀ k : Int, i ≤ k → k < B.1 → p.2 (b + 1) k = B.2.2.1 k ∧ p.2 (b + 3) k = B.2.2.2.2 k ∧ (B.2.2.2.2 k ≠ 0 → p.2 (b + 2) k = B.2.2.2.1 k)) ∧ kbFr b (b + 3) μ p.2) B.1 _ ?_ ?_ knF 0 (kbSm B.2.2.2.2 B.1.toNat, μ) (by omega) (by rw [kbF]; omega) ⟨by omega, by simp [kbWc, kbSm], h0, h1, fun k _ _ => by omega, fun k k0 k1 => h2 k k0 k1, kbFr.rf⟩
      · rintro n i ⟨x, m⟩ hi ⟨i0, hx, m3, m4, hlo, hhi, hf⟩ kk
        dsimp only at hx m3 m4 hlo hhi hf kk ⊢
        unfold kfX1_pay_l44
        have hi1 := hhi i (by omega) hi
        have hv := hB.2.2.1 i i0 hi
        have hc4 := hle.2.2.2 i i0 hi
        have hm1 := hmul i.toNat (by omega)
        have hm2 := hmul (i.toNat + 1) (by omega)
        have e2 : ((i.toNat : Nat) : Int) = i := by omega
        have ew : kbWc B z (i.toNat + 1) = kbWc B z i.toNat + (if kbWn B z i then 1 else 0) := by
          show kbSm _ _ + _ = _
          simp only [e2]
          rfl
        have hwin : kfX1_wins b i z m = some (if kbWn B z i then 1 else 0) := by
          unfold kfX1_wins
          rw [kbGd (by omega), hi1.2.1]
          simp only
          by_cases g1 : B.2.2.2.2 i ≤ 0
          · rw [if_pos g1, if_neg (fun h => by have := h.1; omega)]
          · rw [if_neg g1, hi1.2.2 (by omega)]
            by_cases g2 : B.2.2.2.1 i = z
            · rw [if_pos g2, if_pos ⟨by omega, g2⟩]
            · rw [if_neg g2, if_neg (fun h => g2 h.2)]
        rw [if_neg (by omega), hwin, Option.bind_some, knW_id (x := i + 1) (by omega)]
        have e9 : (i + 1).toNat = i.toNat + 1 := by omega
        by_cases g : kbWn B z i
        · rw [if_pos g] at ew
          rw [ew, Int.add_mul, Int.one_mul] at hm2
          rw [if_pos g, if_neg (by omega), kbGd (by omega), Option.bind_some, kbGd (by omega), hi1.1, knW_id (x := x - q) (by omega), knW_id (x := B.2.2.1 i + q) (by omega)]
          refine kk (x - q, knUp (knUp m (b + 1) i (B.2.2.1 i + q)) (b + 3) i 0) ⟨by omega, ?_, ?_, ?_, fun k k0 k1 => ?_, fun k k0 k1 => ?_, (by exact (hf.up (by omega)).up (by omega))⟩
          · dsimp only; rw [e9, ew, Int.add_mul, Int.one_mul, hx]; omega
          · dsimp only; rw [kbUp, if_neg (by omega), kbUp, if_neg (by omega)]; exact m3
          · dsimp only; rw [kbUp, if_neg (by omega), kbUp, if_neg (by omega)]; exact m4
          · dsimp only
            by_cases hk : k = i
            · subst hk
              simp (disch := omega) only [kbUp, if_pos, if_neg, and_true, true_and, if_true]
              show _ = (if kbWn B z k then B.2.2.1 k + kbSh0 B z else B.2.2.1 k)
              rw [if_pos g, hq]
            · simp (disch := omega) only [kbUp, if_neg]
              exact hlo k k0 (by omega)
          · dsimp only
            simp (disch := omega) only [kbUp, if_neg]
            exact hhi k (by omega) k1
        · rw [if_neg g] at ew
          rw [if_neg g, if_pos rfl, Option.bind_some, kbGd (by omega)]
          refine kk (x, knUp m (b + 3) i 0) ⟨by omega, ?_, ?_, ?_, fun k k0 k1 => ?_, fun k k0 k1 => ?_, (by exact hf.up (by omega))⟩
          · dsimp only; rw [e9, ew, Int.add_zero, hx]
          · dsimp only; rw [kbUp, if_neg (by omega)]; exact m3
          · dsimp only; rw [kbUp, if_neg (by omega)]; exact m4
          · dsimp only
            by_cases hk : k = i
            · subst hk
              simp (disch := omega) only [kbUp, if_pos, if_neg, and_true, true_and, if_true]
              show _ = (if kbWn B z k then B.2.2.1 k + kbSh0 B z else B.2.2.1 k)
              rw [if_neg g]
              exact hi1.1
            · simp (disch := omega) only [kbUp, if_neg]
              exact hlo k k0 (by omega)
          · dsimp only
            simp (disch := omega) only [kbUp, if_neg]
            exact hhi k (by omega) k1
      · rintro n ⟨x, m⟩ ⟨i0, hx, m3, m4, hlo, hhi, hf⟩
        dsimp only at hx m3 m4 hlo hhi hf ⊢
        unfold kfX1_pay_l44
        have hm1 := hmul B.1.toNat (by omega)
        have hh := hB.2.1
        rw [if_pos (by omega), kbH_some]
        dsimp only
        rw [m4, knW_id (by omega)]
        refine ⟨rfl, ⟨?_, ?_, fun k k0 k1 => ?_⟩, hf.up (by omega)⟩
        · rw [kbUp, if_neg (by omega)]; exact m3
        · rw [kbUpS, hx, hq]; rfl
        · have k1 : k < B.1 := k1
          simp (disch := omega) only [kbUp, if_neg]
          have h9 := hlo k k0 k1
          exact ⟨h9.1, h9.2, fun h => absurd rfl h⟩
/-- the reference settles -/
theorem kb13_settles {μ : knMem} {S : kbZ} {b : Int} (h : kbRs (μ 143) S) (hb : kbBs S.1 (kbP2 S.1.1) b) (hb1 : b ≠ -1) : kbH (kfX13_settles μ) (fun r => r.1 = kbWc S.2 (kbSz b) S.2.1.toNat ∧ kbRs (r.2 143) (S.1, kbSt S.2 (kbSz b)) ∧ kbFw μ r.2) := by
  have hn := h.1.2.1
  have hbr := kbBs_r hn hb
  have hB := h.2.2
  have hs := kbSh0_in (z := kbSz b) hB
  have hle := hB.le
  have hm := hB.1
  obtain ⟨z, hz⟩ : ∃ z : Int, z = kbSz b := ⟨_, rfl⟩
  have hzm : kbMa b = z := by rw [hz]; unfold kbSz; rw [if_neg hb1]
  rw [← hz] at hs ⊢
  unfold kfX13_settles
  refine (kb13_smallest h.1).bind (fun q1 ⟨g1, f1⟩ => ?_)
  rw [kbBs_det g1 hb, kb13_many (by omega), Option.bind_some, hzm]
  have e143 : q1.2 143 = μ 143 := f1.1 143 (by omega) (by omega)
  have h1 : kbRs (q1.2 143) S := by rw [e143]; exact h
  obtain ⟨b0, b1, b2, b3⟩ := h1.2.1
  rw [kb13_stakes h1.2.1 hB, Option.bind_some]
  have hw := kbWc_in (B := S.2) (z := z) S.2.1.toNat
  /- the count -/
  refine kbLoop (fun n i (x : Int) => kfX13_settles_l18 z (kbSm S.2.2.2.2.2 S.2.1.toNat) q1.2 (fun w25 => Option.bind (α := Int) (if w25 = 0 then some 0 else knGd (w25 ≠ 0) (some (knDiv (kbSm S.2.2.2.2.2 S.2.1.toNat) w25))) (fun q28 => kfX13_settles_l86 z (kbSm S.2.2.2.2.2 S.2.1.toNat) w25 q28 (fun w50 => knGd ((0 : Int) ≤ 2 ∧ (2 : Int) < 50) (some (w25, (knUp w50 143 2 (knW ((w50 143 2) + (knW ((kbSm S.2.2.2.2.2 S.2.1.toNat) - (knW (w25 * q28)))))))))) knF 0 q1.2)) n x i) (fun i x => 0 ≤ i ∧ x = kbWc S.2 z i.toNat) S.2.1 _ ?_ ?_ _ _ _ (by omega) (by rw [kbF]; omega) ⟨by omega, rfl⟩
  · intro n i x hi ⟨i0, hx⟩ kk
    have k2 := b2 i i0 hi
    have hwi := kbWc_in (B := S.2) (z := z) i.toNat
    have e2 : ((i.toNat : Nat) : Int) = i := by omega
    have ew : kbWc S.2 z (i.toNat + 1) = kbWc S.2 z i.toNat + (if kbWn S.2 z i then 1 else 0) := by
      show kbSm _ _ + _ = _
      simp only [e2]
      rfl
    simp only [kfX13_settles_l18, kbH_ite, kbH_gd]
    rw [knW_id (x := 11 + i) (by omega), knW_id (x := 7 + i) (by omega), k2.2.1, knW_id (x := i + 1) (by omega)]
    refine ⟨by omega, fun h => by omega, fun _ => ⟨by omega, ?_⟩⟩
    have hk2 := fun (v : Int) (hv : v = (if kbWn S.2 z i then 1 else 0)) => kk (x + v) ⟨by omega, by rw [show (i + 1).toNat = i.toNat + 1 by omega, ew, hx, hv]⟩
    by_cases g1 : S.2.2.2.2.2 i ≤ 0
    · rw [if_pos g1, Option.bind_some, knW_id (x := x + 0) (by omega)]
      exact hk2 0 (by rw [if_neg (fun h => by have := h.1; omega)])
    · rw [if_neg g1, kbGd (by omega), k2.2.2 (by omega)]
      by_cases g2 : S.2.2.2.2.1 i = z
      · rw [if_pos g2, Option.bind_some, knW_id (x := x + 1) (by omega)]
        exact hk2 1 (by rw [if_pos ⟨by omega, g2⟩])
      · rw [if_neg g2, Option.bind_some, knW_id (x := x + 0) (by omega)]
        exact hk2 0 (by rw [if_neg (fun h => g2 h.2)])
  · intro n x ⟨i0, hx⟩
    simp only [kfX13_settles_l18, kbH_ite, kbH_gd]
    refine ⟨by omega, fun _ => ?_, fun h => by omega⟩
    rw [hx]
    have e3 : (if kbWc S.2 z S.2.1.toNat = 0 then some 0 else knGd (kbWc S.2 z S.2.1.toNat ≠ 0) (some (knDiv (kbSm S.2.2.2.2.2 S.2.1.toNat) (kbWc S.2 z S.2.1.toNat))) : Option Int) = some (kbSh0 S.2 z) := by
      unfold kbSh0
      by_cases g3 : kbWc S.2 z S.2.1.toNat = 0
      · rw [if_pos g3, if_pos g3]
      · rw [if_neg g3, if_neg g3, kbGd g3, kbDv (by omega) (by omega)]
    rw [e3, Option.bind_some]
    obtain ⟨q, hq⟩ : ∃ q : Int, q = kbSh0 S.2 z := ⟨_, rfl⟩
    rw [← hq]
    rw [← hq] at hs
    refine kbLoop (fun n i (m : knMem) => kfX13_settles_l86 z (kbSm S.2.2.2.2.2 S.2.1.toNat) (kbWc S.2 z S.2.1.toNat) q (fun w50 => knGd ((0 : Int) ≤ 2 ∧ (2 : Int) < 50) (some (kbWc S.2 z S.2.1.toNat, (knUp w50 143 2 (knW ((w50 143 2) + (knW ((kbSm S.2.2.2.2.2 S.2.1.toNat) - (knW (kbWc S.2 z S.2.1.toNat * q)))))))))) n i m) (fun i m => 0 ≤ i ∧ (∀ k : Int, 0 ≤ k → k < i → m 143 (3 + k) = (kbSt S.2 z).2.2.1 k ∧ m 143 (11 + k) = 0) ∧ (∀ k : Int, i ≤ k → k < S.2.1 → m 143 (3 + k) = S.2.2.2.1 k ∧ m 143 (11 + k) = S.2.2.2.2.2 k ∧ m 143 (7 + k) = q1.2 143 (7 + k)) ∧ (∀ j : Int, j < 3 ∨ (11 + S.2.1 ≤ j) → m 143 j = q1.2 143 j) ∧ ∀ o : Int, o ≠ 143 → m o = q1.2 o) S.2.1 _ ?_ ?_ _ _ _ (by omega) (by rw [kbF]; omega) ⟨by omega, fun k _ _ => by omega, fun k k0 k1 => ⟨(b2 k k0 k1).1, (b2 k k0 k1).2.1, rfl⟩, fun _ _ => rfl, fun _ _ => rfl⟩
    · intro n i m hi ⟨i0, hlo, hhi, hj, hf⟩ kk
      have k2 := b2 i i0 hi
      have h8 := hhi i (by omega) hi
      have hv := hB.2.2.1 i i0 hi
      have hc4 := hle.2.2.2 i i0 hi
      simp only [kfX13_settles_l86, kbH_ite, kbH_gd]
      rw [knW_id (x := 11 + i) (by omega), knW_id (x := 7 + i) (by omega), knW_id (x := 3 + i) (by omega), h8.2.1, h8.1, h8.2.2, hj 1 (by omega), b0, knW_id (x := i + 1) (by omega)]
      refine ⟨by omega, fun h => by omega, fun _ => ⟨by omega, ?_⟩⟩
      refine kbH.bind (P := fun m' => (∀ k : Int, k ≠ 3 + i → m' 143 k = m 143 k) ∧ m' 143 (3 + i) = (kbSt S.2 z).2.2.1 i ∧ ∀ o : Int, o ≠ 143 → m' o = m o) ?_ (fun m' ⟨c1, c2, c3⟩ => ?_)
      · have hno : ¬ kbWn S.2 z i → kbH (some m) (fun m' => (∀ k : Int, k ≠ 3 + i → m' 143 k = m 143 k) ∧ m' 143 (3 + i) = (kbSt S.2 z).2.2.1 i ∧ ∀ o : Int, o ≠ 143 → m' o = m o) := by
          intro g
          refine kbH_some.mpr ⟨fun _ _ => rfl, ?_, fun _ _ => rfl⟩
          show _ = (if kbWn S.2 z i then S.2.2.2.1 i + kbSh0 S.2 z else S.2.2.2.1 i)
          rw [if_neg g, h8.1]
        by_cases g1 : S.2.2.2.2.2 i ≤ 0
        · rw [if_pos g1]
          exact hno (fun h => by have := h.1; omega)
        · rw [if_neg g1, kbGd (by omega), k2.2.2 (by omega)]
          by_cases g2 : S.2.2.2.2.1 i = z
          · rw [if_pos g2, kbGd (by omega), knW_id (by omega)]
            refine kbH_some.mpr ⟨fun k hk => ?_, ?_, fun o ho => knUp_ne ho⟩
            · rw [kbUp, if_neg (by omega)]
            · show _ = (if kbWn S.2 z i then S.2.2.2.1 i + kbSh0 S.2 z else S.2.2.2.1 i)
              rw [kbUpS, if_pos ⟨by omega, g2⟩, hq]
          · rw [if_neg g2]
            exact hno (fun h => g2 h.2)
      · rw [kbGd (by omega)]
        refine kk _ ⟨by omega, fun k k0 k1 => ?_, fun k k0 k1 => ?_, fun j hj2 => ?_, fun o ho => ?_⟩
        · by_cases hk : k = i
          · subst hk
            simp (disch := omega) only [kbUp, if_pos, if_neg, and_true, true_and, if_true]
            exact c2
          · simp (disch := omega) only [kbUp, if_neg]
            rw [c1 _ (by omega), c1 _ (by omega)]
            exact hlo k k0 (by omega)
        · simp (disch := omega) only [kbUp, if_neg]
          rw [c1 _ (by omega), c1 _ (by omega), c1 _ (by omega)]
          exact hhi k (by omega) k1
        · simp (disch := omega) only [kbUp, if_neg]
          rw [c1 _ (by omega)]
          exact hj j hj2
        · rw [knUp_ne ho, knUp_ne ho, c3 o ho]
          exact hf o ho
    · intro n m ⟨i0, hlo, hhi, hj, hf⟩
      simp only [kfX13_settles_l86, kbH_ite, kbH_gd]
      rw [hj 1 (by omega), b0]
      refine ⟨by omega, fun _ => ⟨by omega, ?_⟩, fun h => by omega⟩
      rw [kbH_some, hj 2 (by omega), b1]
      have hmul : kbWc S.2 z S.2.1.toNat * q ≤ 1600 := by
        have h3 : kbWc S.2 z S.2.1.toNat = 0 ∨ kbWc S.2 z S.2.1.toNat = 1 ∨ kbWc S.2 z S.2.1.toNat = 2 ∨ kbWc S.2 z S.2.1.toNat = 3 ∨ kbWc S.2 z S.2.1.toNat = 4 := by omega
        rcases h3 with h3 | h3 | h3 | h3 | h3 <;> rw [h3] <;> omega
      have hh := hB.2.1
      rw [knW_id (x := kbWc S.2 z S.2.1.toNat * q) (by omega), knW_id (x := kbSm S.2.2.2.2.2 S.2.1.toNat - kbWc S.2 z S.2.1.toNat * q) (by omega), knW_id (by omega)]
      dsimp only
      refine ⟨rfl, ⟨h1.1.sm (fun i hi => ?_), ⟨?_, ?_, fun k k0 k1 => ?_, fun k k0 k1 => ?_⟩, kbSt_v hB⟩, ⟨fun o o1 o2 o3 => ?_, fun i hi => ?_⟩⟩
      · rw [kbUp, if_neg (by omega)]; exact hj i (by omega)
      · rw [kbUp, if_neg (by omega), hj 1 (by omega)]; exact b0
      · rw [kbUpS, hq]; rfl
      · have k1 : k < S.2.1 := k1
        rw [kbUp, if_neg (by omega), kbUp, if_neg (by omega)]
        exact ⟨(hlo k k0 k1).1, (hlo k k0 k1).2, fun h => absurd rfl h⟩
      · have k0 : S.2.1 ≤ k := k0
        rw [kbUp, if_neg (by omega), hj _ (by omega)]
        exact b3 k k0 k1
      · rw [knUp_ne o2, hf o o2]; exact f1.1 o (by omega) o1
      · rw [knUp_ne (by omega), hf 142 (by omega)]; exact f1.2 i hi
theorem kbPa_c {z : Int} {B : kbY} : (kbPa z B).1 = (if kbSm B.2.2.2.2 B.1.toNat = 0 then 3 else if z = -1 then 5 else 0) := by
  unfold kbPa
  split
  · rfl
  · split <;> rfl
theorem kbPa_n {z : Int} {B : kbY} (h : (kbPa z B).1 ≠ 0) : (kbPa z B).2 = B := by
  unfold kbPa at h ⊢
  split
  · rfl
  · split
    · rfl
    · rename_i h1 h2; rw [if_neg h1, if_neg h2] at h; exact absurd rfl h
theorem kb13_notSettle {μ : knMem} {S : kbZ} {b : Int} (h : kbRs (μ 143) S) (hb : kbBs S.1 (kbP2 S.1.1) b) : kbH (kfX13_notSettle μ) (fun r => r.1 = (if kbSm S.2.2.2.2.2 S.2.1.toNat = 0 then 1 else if b = -1 then 2 else 0) ∧ kbFz μ r.2) := by
  have hbr := kbBs_r h.1.2.1 hb
  unfold kfX13_notSettle
  rw [kb13_stakes h.2.1 h.2.2, Option.bind_some]
  by_cases g1 : kbSm S.2.2.2.2.2 S.2.1.toNat = 0
  · rw [if_pos g1, if_pos g1]
    exact kbH_some.mpr ⟨rfl, kbFz.rf⟩
  · rw [if_neg g1, if_neg g1]
    refine (kb13_smallest h.1).bind (fun q ⟨h1, f1⟩ => kbH_some.mpr ⟨?_, f1⟩)
    rw [kbBs_det h1 hb]
    dsimp only
    rcases hbr with h9 | h9
    · rw [if_neg (by omega), if_pos h9]
    · rw [if_pos h9.1, if_neg (by omega)]
theorem kbSz_1 {b : Int} (hbr : b = -1 ∨ (0 ≤ b ∧ b < 128)) : kbSz b = -1 ↔ b = -1 := by
  unfold kbSz
  rcases hbr with h | h
  · simp [h]
  · have := kbMa_in h
    rw [if_neg (by omega)]
    omega
theorem kbLk_39 {μ : knMem} (hI : kbIv μ) (x1 x2 x3 x4 : Int) : kbH (kfLc_39 x1 x2 x3 x4 μ) kbIv := by
  obtain ⟨⟨S, hC, hR⟩, hH, -⟩ := id hI
  have hn := hR.1.2.1
  obtain ⟨b, hb⟩ := kbBs_ex hC.1 hR.V
  have hbr := kbBs_r hn hb
  have ec := kbPa_c (z := kbSz b) (B := S.2)
  obtain ⟨c, hc⟩ : ∃ c : Int, c = (kbPa (kbSz b) S.2).1 := ⟨_, rfl⟩
  rw [← hc] at ec
  have hc3 : c = 0 ∨ c = 3 ∨ c = 5 := by rw [ec]; split <;> (try split) <;> omega
  unfold kfLc_39
  refine kbTry (P := fun m => ∃ μ0 : knMem, kbK μ μ0 ∧ kbPost μ0 m S (S.1, (kbPa (kbSz b) S.2).2) c) (lc := kbC2 3 c) (v := kbWc S.2 (kbSz b) S.2.1.toNat) (fun x => x) ?_ (fun μ1 ⟨μ0, k0, h1⟩ => ?_)
  · unfold kfL_settle kfX12_settle
    refine kbH.bind (P := fun r => ∃ μ0 : knMem, kbK μ μ0 ∧ r.1 = c ∧ (c = 0 → r.2.1 = kbWc S.2 (kbSz b) S.2.1.toNat) ∧ kbPost μ0 r.2.2 S (S.1, (kbPa (kbSz b) S.2).2) c) ?_ (fun q ⟨μ0, k0, a1, a2, a3⟩ => (kbT2 a1 hc3 (by omega) (by omega) (by omega) a2 a3).mono (fun r ⟨r1, r2, r3⟩ => ⟨r1, fun h => r2 (kbC2_0 h), μ0, k0, r3⟩))
    refine (kb11_fewest hC.1 hR.V).bind (fun q1 ⟨b', c1, c2, c3, c4⟩ => ?_)
    rw [kbBs_det c1 hb] at c2
    have k0 : kbK μ q1.2 := c4.K3
    have hC1 : kbCs q1.2 1 S := hC.sm (fun o _ _ => k0.1 o (by omega))
    have hH1 : kbHi q1.2 := (hI.K k0).2.1
    rw [c2, kb1_winners (b := 6) hC1.2 hR.2.2, Option.bind_some]
    refine kb12_chg (c := c) (S' := (S.1, (kbPa (kbSz b) S.2).2)) (M := fun q7 => kfX1_pay 6 (kbSz b) q7) hC1 hR.B hR.2.2.1 hH1 (fun q7 h => (kb1_pay (b := 6) h.2 hR.2.2).mono (fun r ⟨r1, r2, r3⟩ => ⟨by rw [r1, hc], ⟨h.1.fr r3 (by omega), r2⟩, r3.wd (by omega) (by omega)⟩)) (by omega) (fun q7 a1 a2 => (kbT00 (v := kbWc S.2 (kbSz b) S.2.1.toNat) a1 a2 (fun h0 => rfl)).mono (fun r ⟨r1, r2, r3⟩ => ⟨q1.2, k0, r1, r2, r3⟩))
  · have hI0 := hI.K k0
    have hR0 : kbRs (μ0 143) S := by rw [k0.1 143 (by omega)]; exact hR
    unfold kfX13_settle
    have hW : kbRs (knUp μ1 142 0 0 143) S := by rw [kbUp3, h1.w]; exact hR0
    refine (kb13_notSettle hW hb).bind (fun q1 ⟨r1, r2⟩ => ?_)
    have hk : kbK μ1 q1.2 := (kbK0 kbK.rf).trans r2.K
    have e9 : q1.2 159 = μ1 159 := (r2.1 159 (by omega) (by omega)).trans (kbUp9 _)
    have er : q1.1 = kbC2 3 c := by
      rw [r1, ec]
      unfold kbC2
      by_cases g1 : kbSm S.2.2.2.2.2 S.2.1.toNat = 0
      · rw [if_pos g1, if_pos g1]; decide
      · rw [if_neg g1, if_neg g1]
        by_cases g2 : b = -1
        · rw [if_pos g2, if_pos ((kbSz_1 hbr).mpr g2)]; decide
        · rw [if_neg g2, if_neg (fun h => g2 ((kbSz_1 hbr).mp h))]; decide
    by_cases h0 : c = 0
    · rw [if_pos (by rw [er, h0]; rfl)]
      have g1 : ¬ kbSm S.2.2.2.2.2 S.2.1.toNat = 0 := fun h => by rw [if_pos h] at ec; omega
      have g2 : ¬ kbSz b = -1 := fun h => by rw [if_neg g1, if_pos h] at ec; omega
      have e : (kbPa (kbSz b) S.2).2 = kbSt S.2 (kbSz b) := by unfold kbPa; rw [if_neg g1, if_neg g2]
      rw [h0, e] at h1
      refine (kbPost.does (S := S) (S' := (S.1, kbSt S.2 (kbSz b))) (v := kbWc S.2 (kbSz b) S.2.1.toNat) (A := fun q5 => kfX13_settles q5) (fun x => x) hI0 hR0 h1 hk ((r2.2 0 (by omega)).trans (kbUp0 _)) e9 (fun q5 h5 => ?_)).mono (fun r ⟨r1, r2, r3, r4⟩ => ⟨by rw [r1, h0]; rfl, fun _ => r2, r3, r4⟩)
      exact kb13_settles h5 hb (fun h => g2 ((kbSz_1 hbr).mpr h))
    · have hz : kbC2 3 c ≠ 0 := fun h => h0 (kbC2_0 h)
      rw [er, if_neg hz]
      rw [show (S.1, (kbPa (kbSz b) S.2).2) = S from by rw [kbPa_n (by rw [← hc]; exact h0)]] at h1
      exact (kbPost.fails (fun x => x) hI0 hR0 h1 h0 hk e9).mono (fun r ⟨r1, r3, r4⟩ => ⟨r1, fun h => absurd h hz, r3, r4⟩)
