/-! The polynomial's value: sums of powers of two. -/
theorem kbNz {a b : UInt64} (ha : Jvm.FP.Core.DFin a) (hb : Jvm.FP.Core.DFin b) (h : a ≠ Jvm.FP.Core.dzeroNeg) : FP.dadd a b ≠ Jvm.FP.Core.dzeroNeg := by
  intro h0
  have hv : Jvm.FP.Core.val64 (FP.dadd a b) = .fin true 0 Jvm.FP.Core.b64.qmin := by rw [h0, Jvm.FP.Core.val64_dzeroNeg]
  have hr := Jvm.FP.Core.val64_dadd a b
  have fa := Jvm.FP.Core.val64_fits a
  have fb := Jvm.FP.Core.val64_fits b
  have z1 : Jvm.FP.Core.zval Jvm.FP.Core.b64 (Jvm.FP.Core.val64 9223372036854775809) = -1 := by decide +kernel
  have n1 : Jvm.FP.Core.val64 9223372036854775809 ≠ .nan := by decide +kernel
  have z2 : Jvm.FP.Core.zval Jvm.FP.Core.b64 (.fin true 0 Jvm.FP.Core.b64.qmin) = 0 := by decide +kernel
  have hge : 0 ≤ Jvm.FP.Core.zval Jvm.FP.Core.b64 (Jvm.FP.Core.val64 a) + Jvm.FP.Core.zval Jvm.FP.Core.b64 (Jvm.FP.Core.val64 b) := by
    by_cases g : Jvm.FP.Core.zval Jvm.FP.Core.b64 (Jvm.FP.Core.val64 a) + Jvm.FP.Core.zval Jvm.FP.Core.b64 (Jvm.FP.Core.val64 b) ≤ -1
    · have h3 := Jvm.FP.Core.sum_le Jvm.FP.Core.good_b64 ha hb fa fb (Jvm.FP.Core.val64_fits 9223372036854775809) n1 (by rw [z1]; exact g)
      rw [← hr, show Jvm.FP.Core.val64 (Jvm.FP.Core.dadd a b) = .fin true 0 Jvm.FP.Core.b64.qmin from hv, z1, z2] at h3
      omega
    · omega
  obtain ⟨s, c, q, ea⟩ := ha
  obtain ⟨t, d, r, eb⟩ := hb
  rw [ea] at fa hge hr
  rw [eb] at fb hge hr
  obtain ⟨sg, n, e, u1, u2, u3⟩ := Jvm.FP.Core.sum_units fa fb
  rw [u1, show Jvm.FP.Core.val64 (Jvm.FP.Core.dadd a b) = .fin true 0 Jvm.FP.Core.b64.qmin from hv] at hr
  have hs : sg = true := by
    have h4 := Jvm.FP.Core.sgn_roundRatio Jvm.FP.Core.b64 sg n 1 e
    rw [← h4]
    show Jvm.FP.Core.sgn (Jvm.FP.Core.round Jvm.FP.Core.b64 (.fin sg n e)) = true
    rw [← hr]
    rfl
  rw [← u3, hs] at hge
  have hn : Jvm.FP.Core.inUnits n e Jvm.FP.Core.b64.qmin = 0 := by
    have h5 : Jvm.FP.Core.signed true (Jvm.FP.Core.inUnits n e Jvm.FP.Core.b64.qmin) = -(Jvm.FP.Core.inUnits n e Jvm.FP.Core.b64.qmin : Int) := rfl
    omega
  have hn0 : n = 0 := by
    unfold Jvm.FP.Core.inUnits at hn
    rcases Nat.mul_eq_zero.mp hn with h6 | h6
    · exact h6
    · exact absurd h6 (Nat.pos_iff_ne_zero.mp (Nat.two_pow_pos _))
  rw [hs, hn0] at u1
  have u4 : Jvm.FP.Core.exactSum (.fin s c q) (.fin t d r) = .fin (Jvm.FP.Core.sumSign s t (Jvm.FP.Core.sumUnits s c q t d r (min q r))) (Jvm.FP.Core.sumUnits s c q t d r (min q r)).natAbs (min q r) := rfl
  rw [u4] at u1
  injection u1 with v1 v2 v3
  have v0 : Jvm.FP.Core.sumUnits s c q t d r (min q r) = 0 := Int.natAbs_eq_zero.mp v2
  rw [v0] at v1
  unfold Jvm.FP.Core.sumSign at v1
  rw [if_pos rfl] at v1
  have w1 : s = true ∧ t = true := by
    revert v1
    cases s <;> cases t <;> decide
  obtain ⟨rfl, rfl⟩ := w1
  unfold Jvm.FP.Core.sumUnits at v0
  have s5 : ∀ m : Nat, Jvm.FP.Core.signed true m = -(m : Int) := fun _ => rfl
  rw [s5, s5] at v0
  have hc : Jvm.FP.Core.inUnits c q (min q r) = 0 := by omega
  have hc0 : c = 0 := by
    unfold Jvm.FP.Core.inUnits at hc
    rcases Nat.mul_eq_zero.mp hc with h6 | h6
    · exact h6
    · exact absurd h6 (Nat.pos_iff_ne_zero.mp (Nat.two_pow_pos _))
  subst hc0
  have hq : q = Jvm.FP.Core.b64.qmin := by
    rcases fa.2.2.2 with h7 | h7
    · exact h7
    · exact absurd h7 (by decide)
  subst hq
  exact h (Jvm.FP.Core.val64_inj (by rw [ea]; exact Jvm.FP.Core.Datum.noConfusion) (by rw [ea, Jvm.FP.Core.val64_dzeroNeg]))
def kbPw (k : Int) : Int := (1023 + k) * 4503599627370496
theorem kbPw_all : ∀ k : Nat, k < 105 → (knDmul (kbPw ((k : Int) - 52)) (kbPw 1) = kbPw ((k : Int) - 51) ∧ knDmul (kbPw ((k : Int) - 52)) (kbPw (-1)) = kbPw ((k : Int) - 53)) ∧ (knDdiv (kbPw ((k : Int) - 52)) (kbPw 1) = kbPw ((k : Int) - 53) ∧ knDdiv (kbPw ((k : Int) - 52)) (kbPw (-1)) = kbPw ((k : Int) - 51)) ∧ knN64 (kbPw ((k : Int) - 52)) ∧ (knDb (kbPw ((k : Int) - 52))).toNat < 1080 * 2 ^ 52 ∧ knDmul (knI2d 0) (kbPw ((k : Int) - 52)) = 0 := by decide +kernel
theorem kbPw_mul {j s : Int} (hj : -52 ≤ j ∧ j ≤ 52) (hs : s = 1 ∨ s = -1) : knDmul (kbPw j) (kbPw s) = kbPw (j + s) := by
  have h := kbPw_all (j + 52).toNat (by omega)
  rw [show (((j + 52).toNat : Nat) : Int) = j + 52 by omega] at h
  rw [show j + 52 - 52 = j by omega, show j + 52 - 51 = j + 1 by omega, show j + 52 - 53 = j + -1 by omega] at h
  rcases hs with rfl | rfl
  · exact h.1.1
  · exact h.1.2
theorem kbPw_div {j s : Int} (hj : -52 ≤ j ∧ j ≤ 52) (hs : s = 1 ∨ s = -1) : knDdiv (kbPw j) (kbPw s) = kbPw (j - s) := by
  have h := kbPw_all (j + 52).toNat (by omega)
  rw [show (((j + 52).toNat : Nat) : Int) = j + 52 by omega] at h
  rw [show j + 52 - 52 = j by omega, show j + 52 - 51 = j - -1 by omega, show j + 52 - 53 = j - 1 by omega] at h
  rcases hs with rfl | rfl
  · exact h.2.1.1
  · exact h.2.1.2
theorem kbPw_n {j : Int} (hj : -52 ≤ j ∧ j ≤ 52) : knN64 (kbPw j) ∧ (knDb (kbPw j)).toNat < 1080 * 2 ^ 52 ∧ knDmul (knI2d 0) (kbPw j) = 0 := by
  have h := kbPw_all (j + 52).toNat (by omega)
  rw [show (((j + 52).toNat : Nat) : Int) = j + 52 by omega] at h
  rw [show j + 52 - 52 = j by omega] at h
  exact h.2.2
def kbVt (c j : Int) : Int := knDmul (knI2d c) (kbPw j)
theorem kbVt_ok {c j : Int} (hj : -52 ≤ j ∧ j ≤ 52) : ∃ u : UInt64, kbVt c j = knBd u ∧ u.toNat % 2 ^ 63 < 1120 * 2 ^ 52 := by
  refine ⟨_, rfl, ?_⟩
  unfold knI2d
  rw [knDb_bd]
  have h1 := Jvm.FP.Core.i2d_mag (Int32.ofInt c)
  have h2 := (kbPw_n hj).2.1
  have h3 := Jvm.FP.Core.dmul_mag (a := FP.i2d (Int32.ofInt c)) (b := knDb (kbPw j)) (Ka := 1056) (Kb := 1080) h1 (by omega) (by omega) (by omega)
  show (Jvm.FP.Core.dmul (FP.i2d (Int32.ofInt c)) (knDb (kbPw j))).toNat % 2 ^ 63 < 1120 * 2 ^ 52
  omega
def kbVs (f : Int → Int) (s : Int) : Nat → Int
  | 0 => 0
  | n + 1 => knDadd (kbVs f s n) (kbVt (f n) (s * ((n : Int) - 50)))
theorem kbFin_of {u : UInt64} {K : Nat} (h : u.toNat % 2 ^ 63 < K * 2 ^ 52) (hK : K ≤ 2046) : Jvm.FP.Core.DFin u := by
  rw [Jvm.FP.Core.fin_bits]
  omega
theorem kbN64_fin {u : UInt64} (h : Jvm.FP.Core.DFin u) : knN64 (knBd u) := kbN64_of h.notNaN
theorem kbVg {s n : Int} (hs : s = 1 ∨ s = -1) (h : 0 ≤ n ∧ n ≤ 100) : -50 ≤ s * (n - 50) ∧ s * (n - 50) ≤ 50 := by
  rcases hs with rfl | rfl <;> omega
theorem kbVs_ok {f : Int → Int} {s : Int} (hs : s = 1 ∨ s = -1) : ∀ n : Nat, n ≤ 101 → ∃ u : UInt64, kbVs f s n = knBd u ∧ u.toNat % 2 ^ 63 < (1120 + 2 * n) * 2 ^ 52 ∧ u ≠ Jvm.FP.Core.dzeroNeg
  | 0, _ => ⟨0, rfl, by decide, by decide⟩
  | n + 1, hn => by
    obtain ⟨u, u1, u2, u3⟩ := kbVs_ok (f := f) hs n (by omega)
    have hj := kbVg (n := (n : Int)) hs (by omega)
    obtain ⟨v, v1, v2⟩ := kbVt_ok (c := f n) (j := s * ((n : Int) - 50)) (by omega)
    refine ⟨FP.dadd u v, ?_, ?_, kbNz (kbFin_of u2 (by omega)) (kbFin_of v2 (by omega)) u3⟩
    · show knDadd (kbVs f s n) _ = _
      rw [u1, v1]
      unfold knDadd
      rw [knDb_bd, knDb_bd]
    · have h3 := Jvm.FP.Core.dadd_mag (a := u) (b := v) (K := 1120 + 2 * n) u2 (Nat.lt_of_lt_of_le v2 (Nat.mul_le_mul_right _ (by omega))) (by omega)
      show (Jvm.FP.Core.dadd u v).toNat % 2 ^ 63 < (1120 + 2 * (n + 1)) * 2 ^ 52
      rw [show 1120 + 2 * (n + 1) = 1120 + 2 * n + 2 by omega]
      exact h3
/-- what a turn of either loop asks -/
theorem kbVs_g {f : Int → Int} {s : Int} (hs : s = 1 ∨ s = -1) {n : Nat} (hn : n < 101) : knN64 (kbVt (f n) (s * ((n : Int) - 50))) ∧ knN64 (knDadd (kbVs f s n) (kbVt (f n) (s * ((n : Int) - 50)))) ∧ (f n = 0 → knDadd (kbVs f s n) (kbVt (f n) (s * ((n : Int) - 50))) = kbVs f s n) := by
  have hj := kbVg (n := (n : Int)) hs (by omega)
  obtain ⟨v, v1, v2⟩ := kbVt_ok (c := f n) (j := s * ((n : Int) - 50)) (by omega)
  obtain ⟨w, w1, w2, _⟩ := kbVs_ok (f := f) hs (n + 1) (by omega)
  obtain ⟨u, u1, u2, u3⟩ := kbVs_ok (f := f) hs n (by omega)
  refine ⟨?_, ?_, fun h0 => ?_⟩
  · rw [v1]; exact kbN64_fin (kbFin_of v2 (by omega))
  · have e : knDadd (kbVs f s n) (kbVt (f n) (s * ((n : Int) - 50))) = knBd w := w1
    rw [e]; exact kbN64_fin (kbFin_of w2 (by omega))
  · rw [h0]
    have e : kbVt 0 (s * ((n : Int) - 50)) = 0 := (kbPw_n (by omega)).2.2
    rw [e, u1]
    unfold knDadd
    rw [knDb_bd, show knDb 0 = Jvm.FP.Core.dconst0 from rfl, show FP.dadd u Jvm.FP.Core.dconst0 = u from Jvm.FP.Core.dadd_zero (kbFin_of u2 (by omega)).ne_nan u3]
theorem kb12_value {μ : knMem} {a s : Int} {f : Int → Int} (hs : s = if a = 0 then -1 else 1) (hf : ∀ i : Int, 0 ≤ i → i ≤ 100 → μ 122 i = f i) {kc : Int → Option (Int × knMem)} {P : Int × knMem → Prop} (hk : kbH (kc (kbVs f s 101)) P) :
    kbH (kfX12_value_l31 (if a = 0 then 4602678819172646912 else 4611686018427387904 : Int) μ (fun w9 => kfX12_value_l57 (if a = 0 then 4602678819172646912 else 4611686018427387904 : Int) μ kc knF w9 0 (-50)) knF 4607182418800017408 0) P := by
  have hs2 : s = 1 ∨ s = -1 := by rw [hs]; split <;> omega
  have eb : (if a = 0 then 4602678819172646912 else 4611686018427387904 : Int) = kbPw s := by
    rw [hs]
    split <;> rfl
  rw [eb, show (4607182418800017408 : Int) = kbPw (s * 0) by rw [Int.mul_zero]; rfl]
  refine kbLoop (fun n i (x : Int) => kfX12_value_l31 (kbPw s) μ (fun w9 => kfX12_value_l57 (kbPw s) μ kc knF w9 0 (-50)) n x i) (fun i x => 0 ≤ i ∧ x = kbPw (s * (0 - i))) 50 _ ?_ ?_ _ _ _ (by omega) (by rw [kbF]; omega) ⟨by omega, by rw [Int.sub_self]⟩
  · intro n i x hi ⟨i0, hx⟩ kk
    simp only [kfX12_value_l31, kbH_ite, kbH_gd]
    have hj := kbVg (n := 50 - i) hs2 (by omega)
    rw [show 50 - i - 50 = 0 - i by omega] at hj
    have e : knDdiv x (kbPw s) = kbPw (s * (0 - (i + 1))) := by
      rw [hx, kbPw_div (by omega) hs2]
      congr 1
      rw [Int.mul_sub, Int.mul_sub, Int.mul_add]
      omega
    have hj2 := kbVg (n := 50 - (i + 1)) hs2 (by omega)
    rw [show 50 - (i + 1) - 50 = 0 - (i + 1) by omega] at hj2
    rw [e, knW_id (by omega)]
    exact ⟨fun h => by omega, fun _ => ⟨(kbPw_n (by omega)).1, kk _ ⟨by omega, rfl⟩⟩⟩
  · intro n x ⟨i0, hx⟩
    simp only [kfX12_value_l31, kbH_ite, kbH_gd]
    refine ⟨fun _ => ?_, fun h => by omega⟩
    rw [hx, show (0 : Int) - 50 = -50 by rfl]
    refine kbLoop (fun n i (x : Int × Int) => kfX12_value_l57 (kbPw s) μ kc n x.1 x.2 i) (fun i x => (-50 ≤ i ∧ i ≤ 51) ∧ x.1 = kbPw (s * i) ∧ x.2 = kbVs f s (i + 50).toNat) 51 _ ?_ ?_ knF (-50) (kbPw (s * -50), 0) (by omega) (by rw [kbF]; omega) ⟨by omega, rfl, rfl⟩
    · intro n i x hi ⟨⟨i0, i1⟩, hx1, hx2⟩ kk
      simp only [kfX12_value_l57, kbH_ite]
      refine ⟨fun h => by omega, fun _ => ?_⟩
      rw [kb12_valueAt (e := i) kbLn101.2.2 (by omega), if_pos (by omega), Option.bind_some, hf _ (by omega) (by omega)]
      obtain ⟨m, hm⟩ : ∃ m : Nat, i + 50 = (m : Int) := ⟨(i + 50).toNat, by omega⟩
      have hg := kbVs_g (f := f) hs2 (n := m) (by omega)
      rw [← hm, show i + 50 - 50 = i by omega] at hg
      have hj := kbVg (n := i + 50) hs2 (by omega)
      rw [show i + 50 - 50 = i by omega] at hj
      have em : (i + 50).toNat = m := by omega
      rw [em] at hx2
      rw [hx1, hx2]
      have e : knDmul (kbPw (s * i)) (kbPw s) = kbPw (s * (i + 1)) := by
        rw [kbPw_mul (by omega) hs2, Int.mul_add, Int.mul_one]
      rw [e, knW_id (by omega)]
      rw [kbH_gd, kbH_gd, kbH_gd]
      refine ⟨hg.1, hg.2.1, (kbPw_n (by rcases hs2 with rfl | rfl <;> omega)).1, ?_⟩
      refine kk (_, _) ⟨by omega, rfl, ?_⟩
      rw [show (i + 1 + 50).toNat = m + 1 by omega]
      show _ = knDadd (kbVs f s m) (kbVt (f m) (s * ((m : Int) - 50)))
      rw [← hm, show i + 50 - 50 = i by omega]
      rfl
    · intro n x ⟨_, _, hx2⟩
      simp only [kfX12_value_l57, kbH_ite]
      refine ⟨fun _ => ?_, fun h => by omega⟩
      rw [hx2]
      exact hk
theorem kb13_power {μ : knMem} {j : Int} (hj : -50 ≤ j ∧ j ≤ 50) : kfX13_power j μ = some (kbPw j) := by
  have key : kbH (kfX13_power j μ) (fun r => r = kbPw j) := by
    unfold kfX13_power
    rw [show (4607182418800017408 : Int) = kbPw 0 by rfl]
    by_cases g : 0 ≤ j
    · refine kbLoop (fun n i (x : Int) => kfX13_power_l4 j μ (fun w3 => kfX13_power_l23 μ (fun w6 => some w6) knF w3 j) n x i) (fun i x => 0 ≤ i ∧ x = kbPw i) j _ ?_ ?_ _ _ _ (by omega) (by rw [kbF]; omega) ⟨by omega, rfl⟩
      · intro n i x hi ⟨i0, hx⟩ kk
        simp only [kfX13_power_l4, kbH_ite, kbH_gd]
        rw [hx, show (4611686018427387904 : Int) = kbPw 1 by rfl, kbPw_mul (by omega) (Or.inl rfl), knW_id (by omega)]
        exact ⟨fun h => by omega, fun _ => ⟨(kbPw_n (by omega)).1, kk _ ⟨by omega, rfl⟩⟩⟩
      · intro n x ⟨i0, hx⟩
        simp only [kfX13_power_l4, kbH_ite, kbH_gd]
        refine ⟨fun _ => ?_, fun h => by omega⟩
        rw [show knF = 4095 + 1 from rfl, kfX13_power_l23, if_pos g, hx]
        exact kbH_some.mpr rfl
    · rw [show knF = 4095 + 1 from rfl, kfX13_power_l4, if_pos (by omega)]
      refine kbLoop (fun n i (x : Int) => kfX13_power_l23 μ (fun w6 => some w6) n x i) (fun i x => i ≤ 0 ∧ j ≤ i ∧ x = kbPw (j - i)) 0 _ ?_ ?_ (4095 + 1) j _ (by omega) (by omega) ⟨by omega, by omega, by rw [Int.sub_self]⟩
      · intro n i x hi ⟨i0, i1, hx⟩ kk
        simp only [kfX13_power_l23, kbH_ite, kbH_gd]
        rw [hx, show (4602678819172646912 : Int) = kbPw (-1) by rfl, kbPw_mul (by omega) (Or.inr rfl), knW_id (by omega)]
        exact ⟨fun h => by omega, fun _ => ⟨(kbPw_n (by omega)).1, kk _ ⟨by omega, by omega, by congr 1; omega⟩⟩⟩
      · intro n x ⟨i0, i1, hx⟩
        simp only [kfX13_power_l23, kbH_ite, kbH_gd]
        refine ⟨fun _ => ?_, fun h => by omega⟩
        rw [hx, Int.sub_zero]
        exact kbH_some.mpr rfl
  obtain ⟨r, h3, h4⟩ := key
  rw [h3, h4]
theorem kb13_value {μ : knMem} {a s : Int} {f : Int → Int} (hs : s = if a = 0 then -1 else 1) (hf : ∀ i : Int, 0 ≤ i → i ≤ 100 → μ 153 i = f i) {kc : Int → Option (Int × knMem)} {P : Int × knMem → Prop} (hk : kbH (kc (kbVs f s 101)) P) :
    kbH (kfX13_value_l14 a μ kc knF 0 0) P := by
  have hs2 : s = 1 ∨ s = -1 := by rw [hs]; split <;> omega
  refine kbLoop (fun n i (x : Int) => kfX13_value_l14 a μ kc n x i) (fun i x => 0 ≤ i ∧ x = kbVs f s i.toNat) 101 _ ?_ ?_ _ _ _ (by omega) (by rw [kbF]; omega) ⟨by omega, rfl⟩
  · intro n i x hi ⟨i0, hx⟩ kk
    simp only [kfX13_value_l14, kbH_ite, kbH_gd]
    refine ⟨fun h => by omega, fun _ => ⟨by omega, ?_⟩⟩
    obtain ⟨m, rfl⟩ : ∃ m : Nat, i = (m : Int) := ⟨i.toNat, by omega⟩
    have hg := kbVs_g (f := f) hs2 (n := m) (by omega)
    have hj := kbVg (n := (m : Int)) hs2 (by omega)
    rw [show ((m : Int)).toNat = m by omega] at hx
    have ep : (if a = 0 then (knW (50 - (m : Int))) else (knW ((m : Int) - 50)) : Int) = s * ((m : Int) - 50) := by
      rw [knW_id (by omega), knW_id (by omega), hs]
      split <;> omega
    rw [hf m (by omega) (by omega), ep, kb13_power (by omega), knW_id (x := (m : Int) + 1) (by omega), hx]
    have e1 : ((m : Int) + 1).toNat = m + 1 := by omega
    by_cases g : f m = 0
    · rw [if_pos g, Option.bind_some]
      refine kk _ ⟨by omega, ?_⟩
      rw [e1]
      exact (hg.2.2 g).symm
    · rw [if_neg g, Option.bind_some, show knDmul (knI2d (f (m : Int))) (kbPw (s * ((m : Int) - 50))) = kbVt (f (m : Int)) (s * ((m : Int) - 50)) from rfl, kbGd hg.1, kbGd hg.2.1, Option.bind_some]
      refine kk _ ⟨by omega, ?_⟩
      rw [e1]
      rfl
  · intro n x ⟨i0, hx⟩
    simp only [kfX13_value_l14, kbH_ite, kbH_gd]
    refine ⟨fun _ => ?_, fun h => by omega⟩
    rw [hx]
    exact hk
theorem kbLk_32 {μ : knMem} (hI : kbIv μ) (x1 x2 x3 x4 : Int) : kbH (kfLc_32 x1 x2 x3 x4 μ) kbIv := by
  obtain ⟨⟨S, hC, hR⟩, -⟩ := id hI
  obtain ⟨a, ha⟩ : ∃ a : Int, a = (if x1 = 0 then 0 else 1 : Int) := ⟨_, rfl⟩
  obtain ⟨s, hs⟩ : ∃ s : Int, s = (if a = 0 then -1 else 1 : Int) := ⟨_, rfl⟩
  have hs2 : s = 1 ∨ s = -1 := by rw [hs]; split <;> omega
  obtain ⟨v, hv⟩ : ∃ v : Int, v = kbVs (kbNo S.1) s 101 := ⟨_, rfl⟩
  have hA : kbH (kfX12_value a μ) (fun r => r.1 = v ∧ kbK μ r.2) := by
    unfold kfX12_value
    refine (kb2_norK hC hR).bind (fun q1 ⟨a1, a2⟩ => ?_)
    exact kb12_value hs a1 (kbH_some.mpr ⟨hv.symm, a2⟩)
  have hB : ∀ μ1 : knMem, kbK μ μ1 → kbH (kfX13_value a μ1) (fun r => r.1 = v ∧ kbIv r.2) := by
    intro μ1 h1
    have hW : kbW (knUp μ1 142 0 0 143) S.1 := by rw [kbUp3, h1.1 143 (by omega)]; exact hR.1
    unfold kfX13_value
    refine (kb13_findsNormal hW).bind (fun q1 ⟨a1, a2⟩ => ?_)
    exact kb13_value hs a1 (kbH_some.mpr ⟨hv.symm, (hI.K h1).K ((kbK0 kbK.rf).trans a2.K)⟩)
  obtain ⟨u, u1, u2, _⟩ := kbVs_ok (f := kbNo S.1) hs2 101 (by omega)
  unfold kfLc_32
  rw [← ha]
  refine hA.bind (fun q4 ⟨a1, a2⟩ => (hB q4.2 a2).bind (fun q10 ⟨b1, b2⟩ => ?_))
  rw [a1, b1, hv, u1]
  dsimp only
  rw [if_pos (kbDcmp_s (kbFin_of u2 (by omega)).notNaN)]
  exact kbH_some.mpr b2
