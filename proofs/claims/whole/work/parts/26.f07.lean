def kfX13_coefficient (a1 : Int) (μ : knMem) : Option (Int × knMem) :=
 Option.bind (kfX13_isExponent a1 (knUp μ 142 0 0)) (fun q1 =>
  if q1 = 0 then
   Option.bind (kfX13_fails 1 (knUp μ 142 0 0)) (fun q10 =>
    some (q10.1, q10.2))
  else
   Option.bind (kfX13_findsNormal  (knUp μ 142 0 0)) (fun q5 =>
    knGd (0 ≤ (knW (50 + a1)) ∧ (knW (50 + a1)) < 101)
     (some ((q5 153 (knW (50 + a1))), q5))))

theorem knWvX13_coefficient : knWv yX13_coefficient cX13_coefficient 2 (some .int) 1 := ⟨(knGm 1915 (by decide +kernel) rfl), (knGm 124 (by decide +kernel) rfl), (knGm 1913 (by decide +kernel) rfl), (knGm 1914 (by decide +kernel) rfl), by decide +kernel, by decide +kernel, by decide +kernel⟩
set_option maxHeartbeats 4000000 in
set_option maxRecDepth 100000 in
theorem kcX13_coefficient {G : knGT} (l : Launch) {a1 : Int} (ha1 : knC a1) {μ : knMem} {q : Int × knMem} (hf : kfX13_coefficient a1 μ = some q) : knC0 G l yX13_coefficient cX13_coefficient 2 (some .int) 5 120 [knO G 142, knV a1] μ (knC q.1) (some (knV q.1)) q.2 := by
  unfold kfX13_coefficient at hf
  refine kn_ofJ (plainFor_of_name (by decide)) (Nat.le_of_ble_eq_true rfl) (L := [(0, knO G 142), (1, knV a1)]) rfl ?_
  intro p e s m args below meth c X K hr hlk
  refine kj_aloadn X 0 dX13_coefficient_0 rfl ?_
  refine kj_iconst X dX13_coefficient_1 ?_
  refine kj_putf (k := 0) (ki := 0) (x := 0) (ty := .int) X K rfl (knKd_in kdc_142 (by decide)) (knEnt_10 kdc_142) rfl (by decide) knInX13 tyX13_ok nmX13 (knGm 1504 (by decide +kernel) rfl) rfl rfl (by decide +kernel) rfl rfl (by simp) (by rw [knEnt_10 kdc_142, knUp_row]; rfl) (fun _ => (show knC (0) from ⟨by omega, by omega⟩)) (fun h => by rw [kdc_142] at h; cases h) (fun h => by rw [kdc_142] at h; cases h) dX13_coefficient_2 ?_
  refine kj_iloadn X 1 dX13_coefficient_5 rfl ?_
  obtain ⟨q1, h2, hf⟩ := knBd_inv hf
  refine kj_callS (As := [knV a1]) (rest := []) X K (kcX13_isExponent l ha1 h2) knWkX13_isExponent (knGm 1896 (by decide +kernel) rfl) (by decide)  rfl (Nat.le_of_ble_eq_true rfl) (by decide) dX13_coefficient_6 rfl (fun h3 => ?_)
  refine kj_if_ne X (tgt := 18) dX13_coefficient_9 (by decide) (knZ_c h3) (fun h4 => ?_) (fun h4 => ?_)
  · replace hf := knIq hf h4
    refine kj_aloadn X 0 dX13_coefficient_18 rfl ?_
    obtain ⟨q5, h6, hf⟩ := knBd_inv hf
    refine kj_callV (As := []) (rest := []) X K (kcX13_findsNormal l  h6) knWvX13_findsNormal (knGm 1916 (by decide +kernel) rfl) (by decide) (knKd_in kdc_142 (by decide)) (knEnt_10 kdc_142) rfl rfl rfl (Nat.le_of_ble_eq_true rfl) (by decide) dX13_coefficient_19 rfl (fun h7 => ?_)
    refine kj_aloadn X 0 dX13_coefficient_22 rfl ?_
    refine kj_geto (k := 15) (o2 := 153) X K kdc_142 (by decide) (knEnt_10 kdc_142) rfl (by decide) knInX13 (knGm 1519 (by decide +kernel) rfl) rfl rfl dX13_coefficient_23 ?_
    refine kj_bipush X (n := 50) dX13_coefficient_26 rfl ?_
    refine kj_iloadn X 1 dX13_coefficient_28 rfl ?_
    refine kj_iadd X dX13_coefficient_29 ?_
    obtain ⟨h8, hf⟩ := knGd_inv hf
    refine kj_iald X K kdc_153 (knCw _) lnc_153 h8 dX13_coefficient_30 (fun h9 => ?_)
    cases hf
    exact kj_iret X h9 hr dX13_coefficient_31 hlk
  · replace hf := knIp hf h4
    refine kj_aloadn X 0 dX13_coefficient_12 rfl ?_
    refine kj_iconst X dX13_coefficient_13 ?_
    obtain ⟨q10, h11, hf⟩ := knBd_inv hf
    refine kj_callV (As := [knV 1]) (rest := []) X K (kcX13_fails l (show knC (1) from ⟨by omega, by omega⟩) h11) knWvX13_fails (knGm 1604 (by decide +kernel) rfl) (by decide) (knKd_in kdc_142 (by decide)) (knEnt_10 kdc_142) rfl rfl rfl (Nat.le_of_ble_eq_true rfl) (by decide) dX13_coefficient_14 rfl (fun h12 => ?_)
    cases hf
    exact kj_iret X h12 hr dX13_coefficient_17 hlk

def kfX13_lowestExponent_l11   (μ : knMem) (kc : (Int) → Option (Int × knMem)) : Nat → Int → Option (Int × knMem)
  | 0, _ => none
  | n + 1, x1 =>
    knGd (0 ≤ x1 ∧ x1 < 101)
     (if (μ 153 x1) = 0 then
     kfX13_lowestExponent_l11   μ kc n (knW (x1 + 1))
    else
     kc x1)

def kfX13_lowestExponent  (μ : knMem) : Option (Int × knMem) :=
 Option.bind (kfX13_findsNormal  (knUp μ 142 0 0)) (fun q1 =>
  kfX13_lowestExponent_l11  q1 (fun w7 =>
   some ((knW (w7 - 50)), q1)) knF 0)

theorem knWvX13_lowestExponent : knWv yX13_lowestExponent cX13_lowestExponent 2 (some .int) 0 := ⟨(knGm 1923 (by decide +kernel) rfl), (knGm 124 (by decide +kernel) rfl), (knGm 1921 (by decide +kernel) rfl), (knGm 1922 (by decide +kernel) rfl), by decide +kernel, by decide +kernel, by decide +kernel⟩
set_option maxHeartbeats 4000000 in
set_option maxRecDepth 100000 in
theorem kfX13_lowestExponent_l11_ok {q : Int × knMem} {kc : (Int) → Option (Int × knMem)} {G : knGT} {p : Program} {l : Launch} {e : Env} {s : State} {m : MethodId} {args : Array Value} {below : List Frame} {meth : Method} {c : Code} (X : knX p m c cX13_lowestExponent 2 s args yX13_lowestExponent.cls) (K : knK G s s.heap) (hr : meth.sig.returnType = (some .int)) (hlk : meth.locks = false)   (μ : knMem) (hk : ∀ (y1 : Int) (hy1 : knC y1), kc y1 = some q → knJ G p l e { frames := 5, cells := 0, slots := 0, locals := 120 } s m args below meth c 2 0 0 (MQ below (knPo G (knC q.1) (some (knV q.1)) q.2) args s 0 0 (knA G)) 26 [(1, knV y1)] [] μ) : ∀ (n : Nat) (x1 : Int) (hx1 : knC x1) , kfX13_lowestExponent_l11   μ kc n x1 = some q → knJ G p l e { frames := 5, cells := 0, slots := 0, locals := 120 } s m args below meth c 2 0 0 (MQ below (knPo G (knC q.1) (some (knV q.1)) q.2) args s 0 0 (knA G)) 11 [(0, knO G 142), (1, knV x1)] [] μ := by
  intro n
  induction n with
  | zero => intro x1 hx1 hf; cases hf
  | succ n ih =>
    intro x1 hx1 hf
    unfold kfX13_lowestExponent_l11 at hf
    refine kj_aloadn X 0 dX13_lowestExponent_11 rfl ?_
    refine kj_geto (k := 15) (o2 := 153) X K kdc_142 (by decide) (knEnt_10 kdc_142) rfl (by decide) knInX13 (knGm 1519 (by decide +kernel) rfl) rfl rfl dX13_lowestExponent_12 ?_
    refine kj_iloadn X 1 dX13_lowestExponent_15 rfl ?_
    obtain ⟨h4, hf⟩ := knGd_inv hf
    refine kj_iald X K kdc_153 hx1 lnc_153 h4 dX13_lowestExponent_16 (fun h5 => ?_)
    refine kj_if_ne X (tgt := 26) dX13_lowestExponent_17 (by decide) h5 (fun h6 => ?_) (fun h6 => ?_)
    · replace hf := knIq hf h6
      refine kj_sub (L' := [(1, knV x1)]) [1] rfl ?_
      exact hk _ hx1 hf
    · replace hf := knIp hf h6
      refine kj_iinc X 1 (L' := [(1, knV (knW (x1 + 1))), (0, knO G 142)]) dX13_lowestExponent_20 rfl (by decide) rfl ?_
      refine kj_goto X (tgt := 11) dX13_lowestExponent_23 (by decide) ?_
      refine kj_sub (L' := [(0, knO G 142), (1, knV (knW (x1 + 1)))]) [1, 0] rfl ?_
      exact ih _ (knCw _)  hf

set_option maxHeartbeats 4000000 in
set_option maxRecDepth 100000 in
theorem kcX13_lowestExponent {G : knGT} (l : Launch)   {μ : knMem} {q : Int × knMem} (hf : kfX13_lowestExponent  μ = some q) : knC0 G l yX13_lowestExponent cX13_lowestExponent 2 (some .int) 5 120 [knO G 142] μ (knC q.1) (some (knV q.1)) q.2 := by
  unfold kfX13_lowestExponent at hf
  refine kn_ofJ (plainFor_of_name (by decide)) (Nat.le_of_ble_eq_true rfl) (L := [(0, knO G 142)]) rfl ?_
  intro p e s m args below meth c X K hr hlk
  refine kj_aloadn X 0 dX13_lowestExponent_0 rfl ?_
  refine kj_iconst X dX13_lowestExponent_1 ?_
  refine kj_putf (k := 0) (ki := 0) (x := 0) (ty := .int) X K rfl (knKd_in kdc_142 (by decide)) (knEnt_10 kdc_142) rfl (by decide) knInX13 tyX13_ok nmX13 (knGm 1504 (by decide +kernel) rfl) rfl rfl (by decide +kernel) rfl rfl (by simp) (by rw [knEnt_10 kdc_142, knUp_row]; rfl) (fun _ => (show knC (0) from ⟨by omega, by omega⟩)) (fun h => by rw [kdc_142] at h; cases h) (fun h => by rw [kdc_142] at h; cases h) dX13_lowestExponent_2 ?_
  refine kj_aloadn X 0 dX13_lowestExponent_5 rfl ?_
  obtain ⟨q1, h2, hf⟩ := knBd_inv hf
  refine kj_callV (As := []) (rest := []) X K (kcX13_findsNormal l  h2) knWvX13_findsNormal (knGm 1916 (by decide +kernel) rfl) (by decide) (knKd_in kdc_142 (by decide)) (knEnt_10 kdc_142) rfl rfl rfl (Nat.le_of_ble_eq_true rfl) (by decide) dX13_lowestExponent_6 rfl (fun h3 => ?_)
  refine kj_iconst X dX13_lowestExponent_9 ?_
  refine kj_istoren X (L' := [(1, knV 0), (0, knO G 142)]) dX13_lowestExponent_10 (by decide) rfl ?_
  refine kj_sub (L' := [(0, knO G 142), (1, knV 0)]) [1, 0] rfl ?_
  refine kfX13_lowestExponent_l11_ok X K hr hlk   q1 ?_ knF _ (show knC (0) from ⟨by omega, by omega⟩)  hf
  intro w7_0 hw7_0
  intro hf
  refine kj_iloadn X 0 dX13_lowestExponent_26 rfl ?_
  refine kj_bipush X (n := 50) dX13_lowestExponent_27 rfl ?_
  refine kj_isub X dX13_lowestExponent_29 ?_
  cases hf
  exact kj_iret X (knCw _) hr dX13_lowestExponent_30 hlk

def kfX13_highestExponent_l12   (μ : knMem) (kc : (Int) → Option (Int × knMem)) : Nat → Int → Option (Int × knMem)
  | 0, _ => none
  | n + 1, x1 =>
    knGd (0 ≤ x1 ∧ x1 < 101)
     (if (μ 153 x1) = 0 then
     kfX13_highestExponent_l12   μ kc n (knW (x1 + (-1)))
    else
     kc x1)

def kfX13_highestExponent  (μ : knMem) : Option (Int × knMem) :=
 Option.bind (kfX13_findsNormal  (knUp μ 142 0 0)) (fun q1 =>
  kfX13_highestExponent_l12  q1 (fun w7 =>
   some ((knW (w7 - 50)), q1)) knF 100)

theorem knWvX13_highestExponent : knWv yX13_highestExponent cX13_highestExponent 2 (some .int) 0 := ⟨(knGm 1927 (by decide +kernel) rfl), (knGm 124 (by decide +kernel) rfl), (knGm 1925 (by decide +kernel) rfl), (knGm 1926 (by decide +kernel) rfl), by decide +kernel, by decide +kernel, by decide +kernel⟩
set_option maxHeartbeats 4000000 in
set_option maxRecDepth 100000 in
theorem kfX13_highestExponent_l12_ok {q : Int × knMem} {kc : (Int) → Option (Int × knMem)} {G : knGT} {p : Program} {l : Launch} {e : Env} {s : State} {m : MethodId} {args : Array Value} {below : List Frame} {meth : Method} {c : Code} (X : knX p m c cX13_highestExponent 2 s args yX13_highestExponent.cls) (K : knK G s s.heap) (hr : meth.sig.returnType = (some .int)) (hlk : meth.locks = false)   (μ : knMem) (hk : ∀ (y1 : Int) (hy1 : knC y1), kc y1 = some q → knJ G p l e { frames := 5, cells := 0, slots := 0, locals := 120 } s m args below meth c 2 0 0 (MQ below (knPo G (knC q.1) (some (knV q.1)) q.2) args s 0 0 (knA G)) 27 [(1, knV y1)] [] μ) : ∀ (n : Nat) (x1 : Int) (hx1 : knC x1) , kfX13_highestExponent_l12   μ kc n x1 = some q → knJ G p l e { frames := 5, cells := 0, slots := 0, locals := 120 } s m args below meth c 2 0 0 (MQ below (knPo G (knC q.1) (some (knV q.1)) q.2) args s 0 0 (knA G)) 12 [(0, knO G 142), (1, knV x1)] [] μ := by
  intro n
  induction n with
  | zero => intro x1 hx1 hf; cases hf
  | succ n ih =>
    intro x1 hx1 hf
    unfold kfX13_highestExponent_l12 at hf
    refine kj_aloadn X 0 dX13_highestExponent_12 rfl ?_
    refine kj_geto (k := 15) (o2 := 153) X K kdc_142 (by decide) (knEnt_10 kdc_142) rfl (by decide) knInX13 (knGm 1519 (by decide +kernel) rfl) rfl rfl dX13_highestExponent_13 ?_
    refine kj_iloadn X 1 dX13_highestExponent_16 rfl ?_
    obtain ⟨h4, hf⟩ := knGd_inv hf
    refine kj_iald X K kdc_153 hx1 lnc_153 h4 dX13_highestExponent_17 (fun h5 => ?_)
    refine kj_if_ne X (tgt := 27) dX13_highestExponent_18 (by decide) h5 (fun h6 => ?_) (fun h6 => ?_)
    · replace hf := knIq hf h6
      refine kj_sub (L' := [(1, knV x1)]) [1] rfl ?_
      exact hk _ hx1 hf
    · replace hf := knIp hf h6
      refine kj_iinc X 1 (L' := [(1, knV (knW (x1 + (-1)))), (0, knO G 142)]) dX13_highestExponent_21 rfl (by decide) rfl ?_
      refine kj_goto X (tgt := 12) dX13_highestExponent_24 (by decide) ?_
      refine kj_sub (L' := [(0, knO G 142), (1, knV (knW (x1 + (-1))))]) [1, 0] rfl ?_
      exact ih _ (knCw _)  hf

set_option maxHeartbeats 4000000 in
set_option maxRecDepth 100000 in
theorem kcX13_highestExponent {G : knGT} (l : Launch)   {μ : knMem} {q : Int × knMem} (hf : kfX13_highestExponent  μ = some q) : knC0 G l yX13_highestExponent cX13_highestExponent 2 (some .int) 5 120 [knO G 142] μ (knC q.1) (some (knV q.1)) q.2 := by
  unfold kfX13_highestExponent at hf
  refine kn_ofJ (plainFor_of_name (by decide)) (Nat.le_of_ble_eq_true rfl) (L := [(0, knO G 142)]) rfl ?_
  intro p e s m args below meth c X K hr hlk
  refine kj_aloadn X 0 dX13_highestExponent_0 rfl ?_
  refine kj_iconst X dX13_highestExponent_1 ?_
  refine kj_putf (k := 0) (ki := 0) (x := 0) (ty := .int) X K rfl (knKd_in kdc_142 (by decide)) (knEnt_10 kdc_142) rfl (by decide) knInX13 tyX13_ok nmX13 (knGm 1504 (by decide +kernel) rfl) rfl rfl (by decide +kernel) rfl rfl (by simp) (by rw [knEnt_10 kdc_142, knUp_row]; rfl) (fun _ => (show knC (0) from ⟨by omega, by omega⟩)) (fun h => by rw [kdc_142] at h; cases h) (fun h => by rw [kdc_142] at h; cases h) dX13_highestExponent_2 ?_
  refine kj_aloadn X 0 dX13_highestExponent_5 rfl ?_
  obtain ⟨q1, h2, hf⟩ := knBd_inv hf
  refine kj_callV (As := []) (rest := []) X K (kcX13_findsNormal l  h2) knWvX13_findsNormal (knGm 1916 (by decide +kernel) rfl) (by decide) (knKd_in kdc_142 (by decide)) (knEnt_10 kdc_142) rfl rfl rfl (Nat.le_of_ble_eq_true rfl) (by decide) dX13_highestExponent_6 rfl (fun h3 => ?_)
  refine kj_bipush X (n := 100) dX13_highestExponent_9 rfl ?_
  refine kj_istoren X (L' := [(1, knV 100), (0, knO G 142)]) dX13_highestExponent_11 (by decide) rfl ?_
  refine kj_sub (L' := [(0, knO G 142), (1, knV 100)]) [1, 0] rfl ?_
  refine kfX13_highestExponent_l12_ok X K hr hlk   q1 ?_ knF _ (show knC (100) from ⟨by omega, by omega⟩)  hf
  intro w7_0 hw7_0
  intro hf
  refine kj_iloadn X 0 dX13_highestExponent_27 rfl ?_
  refine kj_bipush X (n := 50) dX13_highestExponent_28 rfl ?_
  refine kj_isub X dX13_highestExponent_30 ?_
  cases hf
  exact kj_iret X (knCw _) hr dX13_highestExponent_31 hlk

def kfX13_isPolynomialTrivial_l11   (μ : knMem) (kc : (Unit) → Option (Int × knMem)) : Nat → Int → Option (Int × knMem)
  | 0, _ => none
  | n + 1, x1 =>
    if 101 ≤ x1 then
     kc ()
    else
     knGd (0 ≤ x1 ∧ x1 < 101)
      (if (μ 153 x1) = (if x1 = 50 then 1 else 0 : Int) then
      kfX13_isPolynomialTrivial_l11   μ kc n (knW (x1 + 1))
     else
      some (0, μ))

def kfX13_isPolynomialTrivial  (μ : knMem) : Option (Int × knMem) :=
 Option.bind (kfX13_findsNormal  (knUp μ 142 0 0)) (fun q1 =>
  kfX13_isPolynomialTrivial_l11  q1 (fun _ =>
   some (1, q1)) knF 0)

theorem knWvX13_isPolynomialTrivial : knWv yX13_isPolynomialTrivial cX13_isPolynomialTrivial 2 (some .boolean) 0 := ⟨(knGm 1931 (by decide +kernel) rfl), (knGm 124 (by decide +kernel) rfl), (knGm 1929 (by decide +kernel) rfl), (knGm 1930 (by decide +kernel) rfl), by decide +kernel, by decide +kernel, by decide +kernel⟩
set_option maxHeartbeats 4000000 in
set_option maxRecDepth 100000 in
theorem kfX13_isPolynomialTrivial_l11_ok {q : Int × knMem} {kc : (Unit) → Option (Int × knMem)} {G : knGT} {p : Program} {l : Launch} {e : Env} {s : State} {m : MethodId} {args : Array Value} {below : List Frame} {meth : Method} {c : Code} (X : knX p m c cX13_isPolynomialTrivial 2 s args yX13_isPolynomialTrivial.cls) (K : knK G s s.heap) (hr : meth.sig.returnType = (some .boolean)) (hlk : meth.locks = false)   (μ : knMem) (hk : kc () = some q → knJ G p l e { frames := 5, cells := 0, slots := 0, locals := 120 } s m args below meth c 2 0 0 (MQ below (knPo G (knZ q.1) (some (knV q.1)) q.2) args s 0 0 (knA G)) 45 [] [] μ) : ∀ (n : Nat) (x1 : Int) (hx1 : knC x1) , kfX13_isPolynomialTrivial_l11   μ kc n x1 = some q → knJ G p l e { frames := 5, cells := 0, slots := 0, locals := 120 } s m args below meth c 2 0 0 (MQ below (knPo G (knZ q.1) (some (knV q.1)) q.2) args s 0 0 (knA G)) 11 [(0, knO G 142), (1, knV x1)] [] μ := by
  intro n
  induction n with
  | zero => intro x1 hx1 hf; cases hf
  | succ n ih =>
    intro x1 hx1 hf
    unfold kfX13_isPolynomialTrivial_l11 at hf
    refine kj_iloadn X 1 dX13_isPolynomialTrivial_11 rfl ?_
    refine kj_bipush X (n := 101) dX13_isPolynomialTrivial_12 rfl ?_
    refine kj_ic_ge X (tgt := 45) dX13_isPolynomialTrivial_14 (by decide) hx1 (show knC (101) from ⟨by omega, by omega⟩) (fun h4 => ?_) (fun h4 => ?_)
    · replace hf := knIp hf h4
      refine kj_sub (L' := []) [] rfl ?_
      exact hk  hf
    · replace hf := knIq hf h4
      refine kj_aloadn X 0 dX13_isPolynomialTrivial_17 rfl ?_
      refine kj_geto (k := 15) (o2 := 153) X K kdc_142 (by decide) (knEnt_10 kdc_142) rfl (by decide) knInX13 (knGm 1519 (by decide +kernel) rfl) rfl rfl dX13_isPolynomialTrivial_18 ?_
      refine kj_iloadn X 1 dX13_isPolynomialTrivial_21 rfl ?_
      obtain ⟨h5, hf⟩ := knGd_inv hf
      refine kj_iald X K kdc_153 hx1 lnc_153 h5 dX13_isPolynomialTrivial_22 (fun h6 => ?_)
      refine kj_iloadn X 1 dX13_isPolynomialTrivial_23 rfl ?_
      refine kj_bipush X (n := 50) dX13_isPolynomialTrivial_24 rfl ?_
      have j8 : ∀ (t8_0 : Int) (et8_0 : t8_0 = (if x1 = 50 then 1 else 0 : Int)) (ht8_0 : knZ t8_0), knJ G p l e { frames := 5, cells := 0, slots := 0, locals := 120 } s m args below meth c 2 0 0 (MQ below (knPo G (knZ q.1) (some (knV q.1)) q.2) args s 0 0 (knA G)) 34 [(0, knO G 142), (1, knV x1)] [knV t8_0, knV (μ 153 x1)] μ := by
        intro t8_0 et8_0 ht8_0
        subst et8_0
        refine kj_ic_eq X (tgt := 39) dX13_isPolynomialTrivial_34 (by decide) h6 (knZ_c ht8_0) (fun h10 => ?_) (fun h10 => ?_)
        · replace hf := knIp hf h10
          refine kj_iinc X 1 (L' := [(1, knV (knW (x1 + 1))), (0, knO G 142)]) dX13_isPolynomialTrivial_39 rfl (by decide) rfl ?_
          refine kj_goto X (tgt := 11) dX13_isPolynomialTrivial_42 (by decide) ?_
          refine kj_sub (L' := [(0, knO G 142), (1, knV (knW (x1 + 1)))]) [1, 0] rfl ?_
          exact ih _ (knCw _)  hf
        · replace hf := knIq hf h10
          refine kj_iconst X dX13_isPolynomialTrivial_37 ?_
          cases hf
          exact kj_zret X (Or.inl rfl) hr (kn_nb (Or.inl rfl)) dX13_isPolynomialTrivial_38 hlk
      refine kj_ic_ne X (tgt := 33) dX13_isPolynomialTrivial_26 (by decide) hx1 (show knC (50) from ⟨by omega, by omega⟩) (fun h11 => ?_) (fun h11 => ?_)
      · refine kj_iconst X dX13_isPolynomialTrivial_33 ?_
        refine kj_sub (L' := [(0, knO G 142), (1, knV x1)]) [0, 1] rfl ?_
        exact j8 0 (by rw [if_neg h11]) (Or.inl rfl)
      · refine kj_iconst X dX13_isPolynomialTrivial_29 ?_
        refine kj_goto X (tgt := 34) dX13_isPolynomialTrivial_30 (by decide) ?_
        refine kj_sub (L' := [(0, knO G 142), (1, knV x1)]) [0, 1] rfl ?_
        exact j8 1 (by rw [if_pos h11]) (Or.inr rfl)

set_option maxHeartbeats 4000000 in
set_option maxRecDepth 100000 in
theorem kcX13_isPolynomialTrivial {G : knGT} (l : Launch)   {μ : knMem} {q : Int × knMem} (hf : kfX13_isPolynomialTrivial  μ = some q) : knC0 G l yX13_isPolynomialTrivial cX13_isPolynomialTrivial 2 (some .boolean) 5 120 [knO G 142] μ (knZ q.1) (some (knV q.1)) q.2 := by
  unfold kfX13_isPolynomialTrivial at hf
  refine kn_ofJ (plainFor_of_name (by decide)) (Nat.le_of_ble_eq_true rfl) (L := [(0, knO G 142)]) rfl ?_
  intro p e s m args below meth c X K hr hlk
  refine kj_aloadn X 0 dX13_isPolynomialTrivial_0 rfl ?_
  refine kj_iconst X dX13_isPolynomialTrivial_1 ?_
  refine kj_putf (k := 0) (ki := 0) (x := 0) (ty := .int) X K rfl (knKd_in kdc_142 (by decide)) (knEnt_10 kdc_142) rfl (by decide) knInX13 tyX13_ok nmX13 (knGm 1504 (by decide +kernel) rfl) rfl rfl (by decide +kernel) rfl rfl (by simp) (by rw [knEnt_10 kdc_142, knUp_row]; rfl) (fun _ => (show knC (0) from ⟨by omega, by omega⟩)) (fun h => by rw [kdc_142] at h; cases h) (fun h => by rw [kdc_142] at h; cases h) dX13_isPolynomialTrivial_2 ?_
  refine kj_aloadn X 0 dX13_isPolynomialTrivial_5 rfl ?_
  obtain ⟨q1, h2, hf⟩ := knBd_inv hf
  refine kj_callV (As := []) (rest := []) X K (kcX13_findsNormal l  h2) knWvX13_findsNormal (knGm 1916 (by decide +kernel) rfl) (by decide) (knKd_in kdc_142 (by decide)) (knEnt_10 kdc_142) rfl rfl rfl (Nat.le_of_ble_eq_true rfl) (by decide) dX13_isPolynomialTrivial_6 rfl (fun h3 => ?_)
  refine kj_iconst X dX13_isPolynomialTrivial_9 ?_
  refine kj_istoren X (L' := [(1, knV 0), (0, knO G 142)]) dX13_isPolynomialTrivial_10 (by decide) rfl ?_
  refine kj_sub (L' := [(0, knO G 142), (1, knV 0)]) [1, 0] rfl ?_
  refine kfX13_isPolynomialTrivial_l11_ok X K hr hlk   q1 ?_ knF _ (show knC (0) from ⟨by omega, by omega⟩)  hf
  intro hf
  refine kj_iconst X dX13_isPolynomialTrivial_45 ?_
  cases hf
  exact kj_zret X (Or.inr rfl) hr (kn_nb (Or.inr rfl)) dX13_isPolynomialTrivial_46 hlk

def kfX13_unknots_l6  (x1 : Int)  (kc : (knMem) → Option (Int × knMem)) : Nat → Int → knMem → Option (Int × knMem)
  | 0, _, _ => none
  | n + 1, x2, μ =>
    if (μ 142 8) ≤ x2 then
     kc μ
    else
     Option.bind (α := knMem)
      (if (knAnd (knShr x1 x2) 1) = 1 then
       Option.bind (kfX13_flips x2 μ) (fun q13 =>
        some q13)
      else
       some μ)
      (fun q10 =>
      kfX13_unknots_l6  x1 kc n (knW (x2 + 1)) q10)

def kfX13_unknots (a1 : Int) (μ : knMem) : Option (Int × knMem) :=
 Option.bind (kfX13_loads  μ) (fun q1 =>
  kfX13_unknots_l6 a1  (fun w16 =>
   Option.bind (kfX13_reduces  w16) (fun q17 =>
    some ((if (q17 142 8) = 0 then 1 else 0 : Int), q17))) knF 0 q1)

theorem knWvX13_unknots : knWv yX13_unknots cX13_unknots 3 (some .boolean) 1 := ⟨(knGm 1948 (by decide +kernel) rfl), (knGm 124 (by decide +kernel) rfl), (knGm 1947 (by decide +kernel) rfl), (knGm 86 (by decide +kernel) rfl), by decide +kernel, by decide +kernel, by decide +kernel⟩
set_option maxHeartbeats 4000000 in
set_option maxRecDepth 100000 in
theorem kfX13_unknots_l6_ok {q : Int × knMem} {kc : (knMem) → Option (Int × knMem)} {G : knGT} {p : Program} {l : Launch} {e : Env} {s : State} {m : MethodId} {args : Array Value} {below : List Frame} {meth : Method} {c : Code} (X : knX p m c cX13_unknots 3 s args yX13_unknots.cls) (K : knK G s s.heap) (hr : meth.sig.returnType = (some .boolean)) (hlk : meth.locks = false) (x1 : Int) (hx1 : knC x1)  (hk : ∀ (μ1 : knMem), kc μ1 = some q → knJ G p l e { frames := 4, cells := 0, slots := 0, locals := 88 } s m args below meth c 3 0 0 (MQ below (knPo G (knZ q.1) (some (knV q.1)) q.2) args s 0 0 (knA G)) 34 [(0, knO G 142)] [] μ1) : ∀ (n : Nat) (x2 : Int) (hx2 : knC x2) (μ : knMem), kfX13_unknots_l6  x1 kc n x2 μ = some q → knJ G p l e { frames := 4, cells := 0, slots := 0, locals := 88 } s m args below meth c 3 0 0 (MQ below (knPo G (knZ q.1) (some (knV q.1)) q.2) args s 0 0 (knA G)) 6 [(0, knO G 142), (1, knV x1), (2, knV x2)] [] μ := by
  intro n
  induction n with
  | zero => intro x2 hx2 μ hf; cases hf
  | succ n ih =>
    intro x2 hx2 μ hf
    unfold kfX13_unknots_l6 at hf
    refine kj_iloadn X 2 dX13_unknots_6 rfl ?_
    refine kj_aloadn X 0 dX13_unknots_7 rfl ?_
    refine kj_geti (k := 8) (ki := 8) X K rfl kdc_142 (by decide) (knEnt_10 kdc_142) rfl (by decide) knInX13 (knGm 1512 (by decide +kernel) rfl) rfl rfl dX13_unknots_8 (fun h4 => ?_)
    refine kj_ic_ge X (tgt := 34) dX13_unknots_11 (by decide) hx2 h4 (fun h5 => ?_) (fun h5 => ?_)
    · replace hf := knIp hf h5
      refine kj_sub (L' := [(0, knO G 142)]) [0] rfl ?_
      exact hk _ hf
    · replace hf := knIq hf h5
      refine kj_iloadn X 1 dX13_unknots_14 rfl ?_
      refine kj_iloadn X 2 dX13_unknots_15 rfl ?_
      refine kj_ishr X dX13_unknots_16 ?_
      refine kj_iconst X dX13_unknots_17 ?_
      refine kj_iand X dX13_unknots_18 ?_
      refine kj_iconst X dX13_unknots_19 ?_
      have j10 : ∀ (m10 : knMem), (fun q10 =>
       kfX13_unknots_l6  x1 kc n (knW (x2 + 1)) q10) m10 = some q → knJ G p l e { frames := 4, cells := 0, slots := 0, locals := 88 } s m args below meth c 3 0 0 (MQ below (knPo G (knZ q.1) (some (knV q.1)) q.2) args s 0 0 (knA G)) 28 [(0, knO G 142), (1, knV x1), (2, knV x2)] [] m10 := by
        intro m10
        intro hf
        refine kj_iinc X 2 (L' := [(2, knV (knW (x2 + 1))), (0, knO G 142), (1, knV x1)]) dX13_unknots_28 rfl (by decide) rfl ?_
        refine kj_goto X (tgt := 6) dX13_unknots_31 (by decide) ?_
        refine kj_sub (L' := [(0, knO G 142), (1, knV x1), (2, knV (knW (x2 + 1)))]) [1, 2, 0] rfl ?_
        exact ih _ (knCw _) _ hf
      obtain ⟨b11, hb11, hf⟩ := knBd_inv hf
      refine kj_ic_ne X (tgt := 28) dX13_unknots_20 (by decide) (knC_and _ _) (show knC (1) from ⟨by omega, by omega⟩) (fun h12 => ?_) (fun h12 => ?_)
      · replace hb11 := knIq hb11 h12
        cases hb11
        refine kj_sub (L' := [(0, knO G 142), (1, knV x1), (2, knV x2)]) [0, 1, 2] rfl ?_
        exact j10 _ hf
      · replace hb11 := knIp hb11 h12
        refine kj_aloadn X 0 dX13_unknots_23 rfl ?_
        refine kj_iloadn X 2 dX13_unknots_24 rfl ?_
        obtain ⟨q13, h14, hb11⟩ := knBd_inv hb11
        refine kj_callV (As := [knV x2]) (rest := []) X K (kcX13_flips l hx2 h14) knWvX13_flips (knGm 1712 (by decide +kernel) rfl) (by decide) (knKd_in kdc_142 (by decide)) (knEnt_10 kdc_142) rfl rfl rfl (Nat.le_of_ble_eq_true rfl) (by decide) dX13_unknots_25 rfl (fun h15 => ?_)
        cases hb11
        refine kj_sub (L' := [(0, knO G 142), (1, knV x1), (2, knV x2)]) [0, 1, 2] rfl ?_
        exact j10 _ hf

set_option maxHeartbeats 4000000 in
set_option maxRecDepth 100000 in
theorem kcX13_unknots {G : knGT} (l : Launch) {a1 : Int} (ha1 : knC a1) {μ : knMem} {q : Int × knMem} (hf : kfX13_unknots a1 μ = some q) : knC0 G l yX13_unknots cX13_unknots 3 (some .boolean) 4 88 [knO G 142, knV a1] μ (knZ q.1) (some (knV q.1)) q.2 := by
  unfold kfX13_unknots at hf
  refine kn_ofJ (plainFor_of_name (by decide)) (Nat.le_of_ble_eq_true rfl) (L := [(0, knO G 142), (1, knV a1)]) rfl ?_
  intro p e s m args below meth c X K hr hlk
  refine kj_aloadn X 0 dX13_unknots_0 rfl ?_
  obtain ⟨q1, h2, hf⟩ := knBd_inv hf
  refine kj_callV (As := []) (rest := []) X K (kcX13_loads l  h2) knWvX13_loads (knGm 1624 (by decide +kernel) rfl) (by decide) (knKd_in kdc_142 (by decide)) (knEnt_10 kdc_142) rfl rfl rfl (Nat.le_of_ble_eq_true rfl) (by decide) dX13_unknots_1 rfl (fun h3 => ?_)
  refine kj_iconst X dX13_unknots_4 ?_
  refine kj_istoren X (L' := [(2, knV 0), (0, knO G 142), (1, knV a1)]) dX13_unknots_5 (by decide) rfl ?_
  refine kj_sub (L' := [(0, knO G 142), (1, knV a1), (2, knV 0)]) [1, 2, 0] rfl ?_
  refine kfX13_unknots_l6_ok X K hr hlk a1 ha1  ?_ knF _ (show knC (0) from ⟨by omega, by omega⟩) _ hf
  intro w16_m
  intro hf
  refine kj_aloadn X 0 dX13_unknots_34 rfl ?_
  obtain ⟨q25, h26, hf⟩ := knBd_inv hf
  refine kj_callV (As := []) (rest := []) X K (kcX13_reduces l  h26) knWvX13_reduces (knGm 1760 (by decide +kernel) rfl) (by decide) (knKd_in kdc_142 (by decide)) (knEnt_10 kdc_142) rfl rfl rfl (Nat.le_of_ble_eq_true rfl) (by decide) dX13_unknots_35 rfl (fun h27 => ?_)
  refine kj_aloadn X 0 dX13_unknots_38 rfl ?_
  refine kj_geti (k := 8) (ki := 8) X K rfl kdc_142 (by decide) (knEnt_10 kdc_142) rfl (by decide) knInX13 (knGm 1512 (by decide +kernel) rfl) rfl rfl dX13_unknots_39 (fun h28 => ?_)
  have j30 : ∀ (t30_0 : Int) (et30_0 : t30_0 = (if (q25 142 8) = 0 then 1 else 0 : Int)) (ht30_0 : knZ t30_0), knJ G p l e { frames := 4, cells := 0, slots := 0, locals := 88 } s m args below meth c 3 0 0 (MQ below (knPo G (knZ q.1) (some (knV q.1)) q.2) args s 0 0 (knA G)) 50 [] [knV t30_0] q25 := by
    intro t30_0 et30_0 ht30_0
    subst et30_0
    cases hf
    exact kj_zret X ht30_0 hr (kn_nb ht30_0) dX13_unknots_50 hlk
  refine kj_if_ne X (tgt := 49) dX13_unknots_42 (by decide) h28 (fun h32 => ?_) (fun h32 => ?_)
  · refine kj_iconst X dX13_unknots_49 ?_
    refine kj_sub (L' := []) [] rfl ?_
    exact j30 0 (by rw [if_neg h32]) (Or.inl rfl)
  · refine kj_iconst X dX13_unknots_45 ?_
    refine kj_goto X (tgt := 50) dX13_unknots_46 (by decide) ?_
    refine kj_sub (L' := []) [] rfl ?_
    exact j30 1 (by rw [if_pos h32]) (Or.inr rfl)

def kfX13_many_l4   (μ : knMem) (kc : (Int) → Option (Int)) : Nat → Int → Int → Option (Int)
  | 0, _, _ => none
  | n + 1, x1, x2 =>
    if x2 ≤ 0 then
     kc x1
    else
     kfX13_many_l4   μ kc n (knW (x1 + (knRem x2 2))) (knDiv x2 2)

def kfX13_many (a0 : Int) (μ : knMem) : Option (Int) :=
 kfX13_many_l4  μ (fun w2 =>
  some w2) knF 0 a0

theorem knWkX13_many : knWk yX13_many cX13_many 3 (some .int) 1 := ⟨(knGm 1959 (by decide +kernel) rfl), (knGm 124 (by decide +kernel) rfl), (knGm 1958 (by decide +kernel) rfl), by decide +kernel, by decide +kernel, by decide +kernel⟩
set_option maxHeartbeats 4000000 in
set_option maxRecDepth 100000 in
theorem kfX13_many_l4_ok {q : Int} {kc : (Int) → Option (Int)} {G : knGT} {p : Program} {l : Launch} {e : Env} {s : State} {m : MethodId} {args : Array Value} {below : List Frame} {meth : Method} {c : Code} (X : knX p m c cX13_many 3 s args yX13_many.cls) (K : knK G s s.heap) (hr : meth.sig.returnType = (some .int)) (hlk : meth.locks = false)   (μ : knMem) (hk : ∀ (y1 : Int) (hy1 : knC y1), kc y1 = some q → knJ G p l e { frames := 0, cells := 0, slots := 0, locals := 0 } s m args below meth c 3 0 0 (MQ below (knPo G (knC q) (some (knV q)) μ) args s 0 0 (knA G)) 21 [(1, knV y1)] [] μ) : ∀ (n : Nat) (x1 : Int) (hx1 : knC x1) (x2 : Int) (hx2 : knC x2) , kfX13_many_l4   μ kc n x1 x2 = some q → knJ G p l e { frames := 0, cells := 0, slots := 0, locals := 0 } s m args below meth c 3 0 0 (MQ below (knPo G (knC q) (some (knV q)) μ) args s 0 0 (knA G)) 4 [(1, knV x1), (2, knV x2)] [] μ := by
  intro n
  induction n with
  | zero => intro x1 hx1 x2 hx2 hf; cases hf
  | succ n ih =>
    intro x1 hx1 x2 hx2 hf
    unfold kfX13_many_l4 at hf
    refine kj_iloadn X 1 dX13_many_4 rfl ?_
    refine kj_if_le X (tgt := 21) dX13_many_5 (by decide) hx2 (fun h1 => ?_) (fun h1 => ?_)
    · replace hf := knIp hf h1
      refine kj_sub (L' := [(1, knV x1)]) [0] rfl ?_
      exact hk _ hx1 hf
    · replace hf := knIq hf h1
      refine kj_iloadn X 0 dX13_many_8 rfl ?_
      refine kj_iloadn X 1 dX13_many_9 rfl ?_
      refine kj_iconst X dX13_many_10 ?_
      refine kj_irem X dX13_many_11 (show knC (2) from ⟨by omega, by omega⟩) (by decide) ?_
      refine kj_iadd X dX13_many_12 ?_
      refine kj_istoren X (L' := [(1, knV (knW (x1 + (knRem x2 2)))), (2, knV x2)]) dX13_many_13 (by decide) rfl ?_
      refine kj_iloadn X 1 dX13_many_14 rfl ?_
      refine kj_iconst X dX13_many_15 ?_
      refine kj_idiv X dX13_many_16 (show knC (2) from ⟨by omega, by omega⟩) (by decide) ?_
      refine kj_istoren X (L' := [(2, knV (knDiv x2 2)), (1, knV (knW (x1 + (knRem x2 2))))]) dX13_many_17 (by decide) rfl ?_
      refine kj_goto X (tgt := 4) dX13_many_18 (by decide) ?_
      refine kj_sub (L' := [(1, knV (knW (x1 + (knRem x2 2)))), (2, knV (knDiv x2 2))]) [1, 0] rfl ?_
      exact ih _ (knCw _) _ (knC_div _ _)  hf

set_option maxHeartbeats 4000000 in
set_option maxRecDepth 100000 in
theorem kcX13_many {G : knGT} (l : Launch) {a0 : Int} (ha0 : knC a0) {μ : knMem} {q : Int} (hf : kfX13_many a0 μ = some q) : knC0 G l yX13_many cX13_many 3 (some .int) 0 0 [knV a0] μ (knC q) (some (knV q)) μ := by
  unfold kfX13_many at hf
  refine kn_ofJ (plainFor_of_name (by decide)) (Nat.le_of_ble_eq_true rfl) (L := [(0, knV a0)]) rfl ?_
  intro p e s m args below meth c X K hr hlk
  refine kj_iconst X dX13_many_0 ?_
  refine kj_istoren X (L' := [(1, knV 0), (0, knV a0)]) dX13_many_1 (by decide) rfl ?_
  refine kj_iloadn X 1 dX13_many_2 rfl ?_
  refine kj_istoren X (L' := [(2, knV a0), (1, knV 0), (0, knV a0)]) dX13_many_3 (by decide) rfl ?_
  refine kj_sub (L' := [(1, knV 0), (2, knV a0)]) [1, 0] rfl ?_
  refine kfX13_many_l4_ok X K hr hlk   μ ?_ knF _ (show knC (0) from ⟨by omega, by omega⟩) _ ha0  hf
  intro w2_0 hw2_0
  intro hf
  refine kj_iloadn X 0 dX13_many_21 rfl ?_
  cases hf
  exact kj_iret X hw2_0 hr dX13_many_22 hlk

def kfX13_smallest_l13  (x2 : Int)  (kc : (Int × knMem) → Option (Int × knMem)) : Nat → Int → Int → knMem → Option (Int × knMem)
  | 0, _, _, _ => none
  | n + 1, x1, x3, μ =>
    if x2 ≤ x3 then
     kc (x1, μ)
    else
     Option.bind (α := Int × knMem)
      (if x1 < 0 then
       Option.bind (kfX13_unknots x3 μ) (fun q23 =>
        if q23.1 = 0 then
         some (x1, q23.2)
        else
         some (x3, q23.2))
      else
       Option.bind (kfX13_many x3 μ) (fun q27 =>
        Option.bind (kfX13_many x1 μ) (fun q30 =>
         if q30 ≤ q27 then
          some (x1, μ)
         else
          Option.bind (kfX13_unknots x3 μ) (fun q34 =>
           if q34.1 = 0 then
            some (x1, q34.2)
           else
            some (x3, q34.2)))))
      (fun q20 =>
      kfX13_smallest_l13  x2 kc n q20.1 (knW (x3 + 1)) q20.2)

def kfX13_smallest  (μ : knMem) : Option (Int × knMem) :=
 knGd ((0 : Int) ≤ 0 ∧ (0 : Int) < 50)
  (kfX13_smallest_l13 (knShl 1 (μ 143 0))  (fun w38 =>
  some (w38.1, w38.2)) knF (-1) 0 μ)

theorem knWvX13_smallest : knWv yX13_smallest cX13_smallest 4 (some .int) 0 := ⟨(knGm 1956 (by decide +kernel) rfl), (knGm 124 (by decide +kernel) rfl), (knGm 1955 (by decide +kernel) rfl), (knGm 87 (by decide +kernel) rfl), by decide +kernel, by decide +kernel, by decide +kernel⟩
set_option maxHeartbeats 4000000 in
set_option maxRecDepth 100000 in
theorem kfX13_smallest_l13_ok {q : Int × knMem} {kc : (Int × knMem) → Option (Int × knMem)} {G : knGT} {p : Program} {l : Launch} {e : Env} {s : State} {m : MethodId} {args : Array Value} {below : List Frame} {meth : Method} {c : Code} (X : knX p m c cX13_smallest 4 s args yX13_smallest.cls) (K : knK G s s.heap) (hr : meth.sig.returnType = (some .int)) (hlk : meth.locks = false) (x2 : Int) (hx2 : knC x2)  (hk : ∀ (y1 : Int) (hy1 : knC y1) (μ1 : knMem), kc (y1, μ1) = some q → knJ G p l e { frames := 5, cells := 0, slots := 0, locals := 110 } s m args below meth c 4 0 0 (MQ below (knPo G (knC q.1) (some (knV q.1)) q.2) args s 0 0 (knA G)) 49 [(1, knV y1)] [] μ1) : ∀ (n : Nat) (x1 : Int) (hx1 : knC x1) (x3 : Int) (hx3 : knC x3) (μ : knMem), kfX13_smallest_l13  x2 kc n x1 x3 μ = some q → knJ G p l e { frames := 5, cells := 0, slots := 0, locals := 110 } s m args below meth c 4 0 0 (MQ below (knPo G (knC q.1) (some (knV q.1)) q.2) args s 0 0 (knA G)) 13 [(0, knO G 142), (1, knV x1), (2, knV x2), (3, knV x3)] [] μ := by
  intro n
  induction n with
  | zero => intro x1 hx1 x3 hx3 μ hf; cases hf
  | succ n ih =>
    intro x1 hx1 x3 hx3 μ hf
    unfold kfX13_smallest_l13 at hf
    refine kj_iloadn X 3 dX13_smallest_13 rfl ?_
    refine kj_iloadn X 2 dX13_smallest_14 rfl ?_
    refine kj_ic_ge X (tgt := 49) dX13_smallest_15 (by decide) hx3 hx2 (fun h3 => ?_) (fun h3 => ?_)
    · replace hf := knIp hf h3
      refine kj_sub (L' := [(1, knV x1)]) [1] rfl ?_
      exact hk _ hx1 _ hf
    · replace hf := knIq hf h3
      refine kj_iloadn X 1 dX13_smallest_18 rfl ?_
      have j20 : ∀ (t20_0 : Int) (ht20_0 : knC t20_0) (m20 : knMem), (fun q20 =>
       kfX13_smallest_l13  x2 kc n q20.1 (knW (x3 + 1)) q20.2) (t20_0, m20) = some q → knJ G p l e { frames := 5, cells := 0, slots := 0, locals := 110 } s m args below meth c 4 0 0 (MQ below (knPo G (knC q.1) (some (knV q.1)) q.2) args s 0 0 (knA G)) 43 [(0, knO G 142), (1, knV t20_0), (2, knV x2), (3, knV x3)] [] m20 := by
        intro t20_0 ht20_0 m20
        intro hf
        refine kj_iinc X 3 (L' := [(3, knV (knW (x3 + 1))), (0, knO G 142), (1, knV t20_0), (2, knV x2)]) dX13_smallest_43 rfl (by decide) rfl ?_
        refine kj_goto X (tgt := 13) dX13_smallest_46 (by decide) ?_
        refine kj_sub (L' := [(0, knO G 142), (1, knV t20_0), (2, knV x2), (3, knV (knW (x3 + 1)))]) [1, 2, 3, 0] rfl ?_
        exact ih _ ht20_0 _ (knCw _) _ hf
      obtain ⟨b21, hb21, hf⟩ := knBd_inv hf
      refine kj_if_lt X (tgt := 33) dX13_smallest_19 (by decide) hx1 (fun h22 => ?_) (fun h22 => ?_)
      · replace hb21 := knIp hb21 h22
        refine kj_aloadn X 0 dX13_smallest_33 rfl ?_
        refine kj_iloadn X 3 dX13_smallest_34 rfl ?_
        obtain ⟨q23, h24, hb21⟩ := knBd_inv hb21
        refine kj_callV (As := [knV x3]) (rest := []) X K (kcX13_unknots l hx3 h24) knWvX13_unknots (knGm 1945 (by decide +kernel) rfl) (by decide) (knKd_in kdc_142 (by decide)) (knEnt_10 kdc_142) rfl rfl rfl (Nat.le_of_ble_eq_true rfl) (by decide) dX13_smallest_35 rfl (fun h25 => ?_)
        refine kj_if_eq X (tgt := 43) dX13_smallest_38 (by decide) (knZ_c h25) (fun h26 => ?_) (fun h26 => ?_)
        · replace hb21 := knIp hb21 h26
          cases hb21
          refine kj_sub (L' := [(0, knO G 142), (1, knV x1), (2, knV x2), (3, knV x3)]) [0, 1, 2, 3] rfl ?_
          exact j20 _ hx1 _ hf
        · replace hb21 := knIq hb21 h26
          refine kj_iloadn X 3 dX13_smallest_41 rfl ?_
          refine kj_istoren X (L' := [(1, knV x3), (0, knO G 142), (2, knV x2), (3, knV x3)]) dX13_smallest_42 (by decide) rfl ?_
          cases hb21
          refine kj_sub (L' := [(0, knO G 142), (1, knV x3), (2, knV x2), (3, knV x3)]) [1, 0, 2, 3] rfl ?_
          exact j20 _ hx3 _ hf
      · replace hb21 := knIq hb21 h22
        refine kj_iloadn X 3 dX13_smallest_22 rfl ?_
        obtain ⟨q27, h28, hb21⟩ := knBd_inv hb21
        refine kj_callS (As := [knV x3]) (rest := []) X K (kcX13_many l hx3 h28) knWkX13_many (knGm 1957 (by decide +kernel) rfl) (by decide)  rfl (Nat.le_of_ble_eq_true rfl) (by decide) dX13_smallest_23 rfl (fun h29 => ?_)
        refine kj_iloadn X 1 dX13_smallest_26 rfl ?_
        obtain ⟨q30, h31, hb21⟩ := knBd_inv hb21
        refine kj_callS (As := [knV x1]) (rest := [knV q27]) X K (kcX13_many l hx1 h31) knWkX13_many (knGm 1957 (by decide +kernel) rfl) (by decide)  rfl (Nat.le_of_ble_eq_true rfl) (by decide) dX13_smallest_27 rfl (fun h32 => ?_)
        refine kj_ic_ge X (tgt := 43) dX13_smallest_30 (by decide) h29 h32 (fun h33 => ?_) (fun h33 => ?_)
        · replace hb21 := knIp hb21 h33
          cases hb21
          refine kj_sub (L' := [(0, knO G 142), (1, knV x1), (2, knV x2), (3, knV x3)]) [0, 1, 2, 3] rfl ?_
          exact j20 _ hx1 _ hf
        · replace hb21 := knIq hb21 h33
          refine kj_aloadn X 0 dX13_smallest_33 rfl ?_
          refine kj_iloadn X 3 dX13_smallest_34 rfl ?_
          obtain ⟨q34, h35, hb21⟩ := knBd_inv hb21
          refine kj_callV (As := [knV x3]) (rest := []) X K (kcX13_unknots l hx3 h35) knWvX13_unknots (knGm 1945 (by decide +kernel) rfl) (by decide) (knKd_in kdc_142 (by decide)) (knEnt_10 kdc_142) rfl rfl rfl (Nat.le_of_ble_eq_true rfl) (by decide) dX13_smallest_35 rfl (fun h36 => ?_)
          refine kj_if_eq X (tgt := 43) dX13_smallest_38 (by decide) (knZ_c h36) (fun h37 => ?_) (fun h37 => ?_)
          · replace hb21 := knIp hb21 h37
            cases hb21
            refine kj_sub (L' := [(0, knO G 142), (1, knV x1), (2, knV x2), (3, knV x3)]) [0, 1, 2, 3] rfl ?_
            exact j20 _ hx1 _ hf
          · replace hb21 := knIq hb21 h37
            refine kj_iloadn X 3 dX13_smallest_41 rfl ?_
            refine kj_istoren X (L' := [(1, knV x3), (0, knO G 142), (2, knV x2), (3, knV x3)]) dX13_smallest_42 (by decide) rfl ?_
            cases hb21
            refine kj_sub (L' := [(0, knO G 142), (1, knV x3), (2, knV x2), (3, knV x3)]) [1, 0, 2, 3] rfl ?_
            exact j20 _ hx3 _ hf

set_option maxHeartbeats 4000000 in
set_option maxRecDepth 100000 in
theorem kcX13_smallest {G : knGT} (l : Launch)   {μ : knMem} {q : Int × knMem} (hf : kfX13_smallest  μ = some q) : knC0 G l yX13_smallest cX13_smallest 4 (some .int) 5 110 [knO G 142] μ (knC q.1) (some (knV q.1)) q.2 := by
  unfold kfX13_smallest at hf
  refine kn_ofJ (plainFor_of_name (by decide)) (Nat.le_of_ble_eq_true rfl) (L := [(0, knO G 142)]) rfl ?_
  intro p e s m args below meth c X K hr hlk
  refine kj_iconst X dX13_smallest_0 ?_
  refine kj_istoren X (L' := [(1, knV (-1)), (0, knO G 142)]) dX13_smallest_1 (by decide) rfl ?_
  refine kj_iconst X dX13_smallest_2 ?_
  refine kj_aloadn X 1 dX13_smallest_3 rfl ?_
  refine kj_geto (k := 1) (o2 := 143) X K kdc_142 (by decide) (knEnt_10 kdc_142) rfl (by decide) knInX13 (knGm 1505 (by decide +kernel) rfl) rfl rfl dX13_smallest_4 ?_
  refine kj_iconst X dX13_smallest_7 ?_
  obtain ⟨h1, hf⟩ := knGd_inv hf
  refine kj_iald X K kdc_143 (show knC (0) from ⟨by omega, by omega⟩) lnc_143 h1 dX13_smallest_8 (fun h2 => ?_)
  refine kj_ishl X dX13_smallest_9 ?_
  refine kj_istoren X (L' := [(2, knV (knShl 1 (μ 143 0))), (1, knV (-1)), (0, knO G 142)]) dX13_smallest_10 (by decide) rfl ?_
  refine kj_iconst X dX13_smallest_11 ?_
  refine kj_istoren X (L' := [(3, knV 0), (2, knV (knShl 1 (μ 143 0))), (1, knV (-1)), (0, knO G 142)]) dX13_smallest_12 (by decide) rfl ?_
  refine kj_sub (L' := [(0, knO G 142), (1, knV (-1)), (2, knV (knShl 1 (μ 143 0))), (3, knV 0)]) [3, 2, 1, 0] rfl ?_
  refine kfX13_smallest_l13_ok X K hr hlk (knShl 1 (μ 143 0)) (knC_shl _ _)  ?_ knF _ (show knC (-1) from ⟨by omega, by omega⟩) _ (show knC (0) from ⟨by omega, by omega⟩) _ hf
  intro w38_0 hw38_0 w38_m
  intro hf
  refine kj_iloadn X 0 dX13_smallest_49 rfl ?_
  cases hf
  exact kj_iret X hw38_0 hr dX13_smallest_50 hlk

def kfX13_isPlainlyUnknotted  (μ : knMem) : Option (Int × knMem) :=
 Option.bind (kfX13_unknots 0 (knUp μ 142 0 0)) (fun q1 =>
  some (q1.1, q1.2))

theorem knWvX13_isPlainlyUnknotted : knWv yX13_isPlainlyUnknotted cX13_isPlainlyUnknotted 1 (some .boolean) 0 := ⟨(knGm 1944 (by decide +kernel) rfl), (knGm 124 (by decide +kernel) rfl), (knGm 1942 (by decide +kernel) rfl), (knGm 1943 (by decide +kernel) rfl), by decide +kernel, by decide +kernel, by decide +kernel⟩
set_option maxHeartbeats 4000000 in
set_option maxRecDepth 100000 in
theorem kcX13_isPlainlyUnknotted {G : knGT} (l : Launch)   {μ : knMem} {q : Int × knMem} (hf : kfX13_isPlainlyUnknotted  μ = some q) : knC0 G l yX13_isPlainlyUnknotted cX13_isPlainlyUnknotted 1 (some .boolean) 5 110 [knO G 142] μ (knZ q.1) (some (knV q.1)) q.2 := by
  unfold kfX13_isPlainlyUnknotted at hf
  refine kn_ofJ (plainFor_of_name (by decide)) (Nat.le_of_ble_eq_true rfl) (L := [(0, knO G 142)]) rfl ?_
  intro p e s m args below meth c X K hr hlk
  refine kj_aloadn X 0 dX13_isPlainlyUnknotted_0 rfl ?_
  refine kj_iconst X dX13_isPlainlyUnknotted_1 ?_
  refine kj_putf (k := 0) (ki := 0) (x := 0) (ty := .int) X K rfl (knKd_in kdc_142 (by decide)) (knEnt_10 kdc_142) rfl (by decide) knInX13 tyX13_ok nmX13 (knGm 1504 (by decide +kernel) rfl) rfl rfl (by decide +kernel) rfl rfl (by simp) (by rw [knEnt_10 kdc_142, knUp_row]; rfl) (fun _ => (show knC (0) from ⟨by omega, by omega⟩)) (fun h => by rw [kdc_142] at h; cases h) (fun h => by rw [kdc_142] at h; cases h) dX13_isPlainlyUnknotted_2 ?_
  refine kj_aloadn X 0 dX13_isPlainlyUnknotted_5 rfl ?_
  refine kj_iconst X dX13_isPlainlyUnknotted_6 ?_
  obtain ⟨q1, h2, hf⟩ := knBd_inv hf
  refine kj_callV (As := [knV 0]) (rest := []) X K (kcX13_unknots l (show knC (0) from ⟨by omega, by omega⟩) h2) knWvX13_unknots (knGm 1945 (by decide +kernel) rfl) (by decide) (knKd_in kdc_142 (by decide)) (knEnt_10 kdc_142) rfl rfl rfl (Nat.le_of_ble_eq_true rfl) (by decide) dX13_isPlainlyUnknotted_7 rfl (fun h3 => ?_)
  cases hf
  exact kj_zret X h3 hr (kn_nb h3) dX13_isPlainlyUnknotted_10 hlk

def kfX13_switches  (μ : knMem) : Option (Int × knMem) :=
 Option.bind (kfX13_smallest  (knUp μ 142 0 0)) (fun q1 =>
  Option.bind (α := Int × knMem)
   (if 0 ≤ q1.1 then
    Option.bind (kfX13_many q1.1 q1.2) (fun q14 =>
     some (q14, q1.2))
   else
    Option.bind (kfX13_fails 1 q1.2) (fun q17 =>
     some (q17.1, q17.2)))
   (fun q11 =>
   some (q11.1, q11.2)))

theorem knWvX13_switches : knWv yX13_switches cX13_switches 2 (some .int) 0 := ⟨(knGm 1952 (by decide +kernel) rfl), (knGm 124 (by decide +kernel) rfl), (knGm 1950 (by decide +kernel) rfl), (knGm 1951 (by decide +kernel) rfl), by decide +kernel, by decide +kernel, by decide +kernel⟩
set_option maxHeartbeats 4000000 in
set_option maxRecDepth 100000 in
theorem kcX13_switches {G : knGT} (l : Launch)   {μ : knMem} {q : Int × knMem} (hf : kfX13_switches  μ = some q) : knC0 G l yX13_switches cX13_switches 2 (some .int) 6 133 [knO G 142] μ (knC q.1) (some (knV q.1)) q.2 := by
  unfold kfX13_switches at hf
  refine kn_ofJ (plainFor_of_name (by decide)) (Nat.le_of_ble_eq_true rfl) (L := [(0, knO G 142)]) rfl ?_
  intro p e s m args below meth c X K hr hlk
  refine kj_aloadn X 0 dX13_switches_0 rfl ?_
  refine kj_iconst X dX13_switches_1 ?_
  refine kj_putf (k := 0) (ki := 0) (x := 0) (ty := .int) X K rfl (knKd_in kdc_142 (by decide)) (knEnt_10 kdc_142) rfl (by decide) knInX13 tyX13_ok nmX13 (knGm 1504 (by decide +kernel) rfl) rfl rfl (by decide +kernel) rfl rfl (by simp) (by rw [knEnt_10 kdc_142, knUp_row]; rfl) (fun _ => (show knC (0) from ⟨by omega, by omega⟩)) (fun h => by rw [kdc_142] at h; cases h) (fun h => by rw [kdc_142] at h; cases h) dX13_switches_2 ?_
  refine kj_aloadn X 0 dX13_switches_5 rfl ?_
  obtain ⟨q1, h2, hf⟩ := knBd_inv hf
  refine kj_callV (As := []) (rest := []) X K (kcX13_smallest l  h2) knWvX13_smallest (knGm 1953 (by decide +kernel) rfl) (by decide) (knKd_in kdc_142 (by decide)) (knEnt_10 kdc_142) rfl rfl rfl (Nat.le_of_ble_eq_true rfl) (by decide) dX13_switches_6 rfl (fun h3 => ?_)
  refine kj_istoren X (L' := [(1, knV q1.1), (0, knO G 142)]) dX13_switches_9 (by decide) rfl ?_
  refine kj_iloadn X 0 dX13_switches_10 rfl ?_
  have j11 : ∀ (t11_0 : Int) (ht11_0 : knC t11_0) (m11 : knMem), (fun q11 =>
   some (q11.1, q11.2)) (t11_0, m11) = some q → knJ G p l e { frames := 6, cells := 0, slots := 0, locals := 133 } s m args below meth c 2 0 0 (MQ below (knPo G (knC q.1) (some (knV q.1)) q.2) args s 0 0 (knA G)) 26 [] [knV t11_0] m11 := by
    intro t11_0 ht11_0 m11
    intro hf
    cases hf
    exact kj_iret X ht11_0 hr dX13_switches_26 hlk
  obtain ⟨b12, hb12, hf⟩ := knBd_inv hf
  refine kj_if_ge X (tgt := 22) dX13_switches_11 (by decide) h3 (fun h13 => ?_) (fun h13 => ?_)
  · replace hb12 := knIp hb12 h13
    refine kj_iloadn X 0 dX13_switches_22 rfl ?_
    obtain ⟨q14, h15, hb12⟩ := knBd_inv hb12
    refine kj_callS (As := [knV q1.1]) (rest := []) X K (kcX13_many l h3 h15) knWkX13_many (knGm 1957 (by decide +kernel) rfl) (by decide)  rfl (Nat.le_of_ble_eq_true rfl) (by decide) dX13_switches_23 rfl (fun h16 => ?_)
    cases hb12
    refine kj_sub (L' := []) [] rfl ?_
    exact j11 _ h16 _ hf
  · replace hb12 := knIq hb12 h13
    refine kj_aloadn X 1 dX13_switches_14 rfl ?_
    refine kj_iconst X dX13_switches_15 ?_
    obtain ⟨q17, h18, hb12⟩ := knBd_inv hb12
    refine kj_callV (As := [knV 1]) (rest := []) X K (kcX13_fails l (show knC (1) from ⟨by omega, by omega⟩) h18) knWvX13_fails (knGm 1604 (by decide +kernel) rfl) (by decide) (knKd_in kdc_142 (by decide)) (knEnt_10 kdc_142) rfl rfl rfl (Nat.le_of_ble_eq_true rfl) (by decide) dX13_switches_16 rfl (fun h19 => ?_)
    refine kj_goto X (tgt := 26) dX13_switches_19 (by decide) ?_
    cases hb12
    refine kj_sub (L' := []) [] rfl ?_
    exact j11 _ h19 _ hf

def kfX13_switchesByDepth  (μ : knMem) : Option (Int × knMem) :=
 Option.bind (kfX13_switches  μ) (fun q1 =>
  some (q1.1, q1.2))

theorem knWvX13_switchesByDepth : knWv yX13_switchesByDepth cX13_switchesByDepth 1 (some .int) 0 := ⟨(knGm 1963 (by decide +kernel) rfl), (knGm 124 (by decide +kernel) rfl), (knGm 1961 (by decide +kernel) rfl), (knGm 1962 (by decide +kernel) rfl), by decide +kernel, by decide +kernel, by decide +kernel⟩
set_option maxHeartbeats 4000000 in
set_option maxRecDepth 100000 in
theorem kcX13_switchesByDepth {G : knGT} (l : Launch)   {μ : knMem} {q : Int × knMem} (hf : kfX13_switchesByDepth  μ = some q) : knC0 G l yX13_switchesByDepth cX13_switchesByDepth 1 (some .int) 7 154 [knO G 142] μ (knC q.1) (some (knV q.1)) q.2 := by
  unfold kfX13_switchesByDepth at hf
  refine kn_ofJ (plainFor_of_name (by decide)) (Nat.le_of_ble_eq_true rfl) (L := [(0, knO G 142)]) rfl ?_
  intro p e s m args below meth c X K hr hlk
  refine kj_aloadn X 0 dX13_switchesByDepth_0 rfl ?_
  obtain ⟨q1, h2, hf⟩ := knBd_inv hf
  refine kj_callV (As := []) (rest := []) X K (kcX13_switches l  h2) knWvX13_switches (knGm 1964 (by decide +kernel) rfl) (by decide) (knKd_in kdc_142 (by decide)) (knEnt_10 kdc_142) rfl rfl rfl (Nat.le_of_ble_eq_true rfl) (by decide) dX13_switchesByDepth_1 rfl (fun h3 => ?_)
  cases hf
  exact kj_iret X h3 hr dX13_switchesByDepth_4 hlk

def kfX13_firstSwitch_l22  (x1 : Int) (μ : knMem) (kc : (Int) → Option (Int × knMem)) : Nat → Int → Option (Int × knMem)
  | 0, _ => none
  | n + 1, x2 =>
    if x1 ≤ 0 then
     kc x2
    else
     if (knAnd (knShr x1 x2) 1) = 0 then
      kfX13_firstSwitch_l22  x1 μ kc n (knW (x2 + 1))
     else
      kc x2

def kfX13_firstSwitch  (μ : knMem) : Option (Int × knMem) :=
 Option.bind (kfX13_smallest  (knUp μ 142 0 0)) (fun q1 =>
  if 0 ≤ q1.1 then
   kfX13_firstSwitch_l22 q1.1 q1.2 (fun w7 =>
    some ((if q1.1 = 0 then -1 else w7 : Int), q1.2)) knF 0
  else
   Option.bind (kfX13_fails 1 q1.2) (fun q16 =>
    some (q16.1, q16.2)))

theorem knWvX13_firstSwitch : knWv yX13_firstSwitch cX13_firstSwitch 3 (some .int) 0 := ⟨(knGm 1968 (by decide +kernel) rfl), (knGm 124 (by decide +kernel) rfl), (knGm 1966 (by decide +kernel) rfl), (knGm 1967 (by decide +kernel) rfl), by decide +kernel, by decide +kernel, by decide +kernel⟩
set_option maxHeartbeats 4000000 in
set_option maxRecDepth 100000 in
theorem kfX13_firstSwitch_l22_ok {q : Int × knMem} {kc : (Int) → Option (Int × knMem)} {G : knGT} {p : Program} {l : Launch} {e : Env} {s : State} {m : MethodId} {args : Array Value} {below : List Frame} {meth : Method} {c : Code} (X : knX p m c cX13_firstSwitch 3 s args yX13_firstSwitch.cls) (K : knK G s s.heap) (hr : meth.sig.returnType = (some .int)) (hlk : meth.locks = false) (x1 : Int) (hx1 : knC x1) (μ : knMem) (hk : ∀ (y2 : Int) (hy2 : knC y2), kc y2 = some q → knJ G p l e { frames := 6, cells := 0, slots := 0, locals := 133 } s m args below meth c 3 0 0 (MQ below (knPo G (knC q.1) (some (knV q.1)) q.2) args s 0 0 (knA G)) 40 [(1, knV x1), (2, knV y2)] [] μ) : ∀ (n : Nat) (x2 : Int) (hx2 : knC x2) , kfX13_firstSwitch_l22  x1 μ kc n x2 = some q → knJ G p l e { frames := 6, cells := 0, slots := 0, locals := 133 } s m args below meth c 3 0 0 (MQ below (knPo G (knC q.1) (some (knV q.1)) q.2) args s 0 0 (knA G)) 22 [(1, knV x1), (2, knV x2)] [] μ := by
  intro n
  induction n with
  | zero => intro x2 hx2 hf; cases hf
  | succ n ih =>
    intro x2 hx2 hf
    unfold kfX13_firstSwitch_l22 at hf
    refine kj_iloadn X 0 dX13_firstSwitch_22 rfl ?_
    refine kj_if_le X (tgt := 40) dX13_firstSwitch_23 (by decide) hx1 (fun h5 => ?_) (fun h5 => ?_)
    · replace hf := knIp hf h5
      refine kj_sub (L' := [(1, knV x1), (2, knV x2)]) [0, 1] rfl ?_
      exact hk _ hx2 hf
    · replace hf := knIq hf h5
      refine kj_iloadn X 0 dX13_firstSwitch_26 rfl ?_
      refine kj_iloadn X 1 dX13_firstSwitch_27 rfl ?_
      refine kj_ishr X dX13_firstSwitch_28 ?_
      refine kj_iconst X dX13_firstSwitch_29 ?_
      refine kj_iand X dX13_firstSwitch_30 ?_
      refine kj_if_ne X (tgt := 40) dX13_firstSwitch_31 (by decide) (knC_and _ _) (fun h6 => ?_) (fun h6 => ?_)
      · replace hf := knIq hf h6
        refine kj_sub (L' := [(1, knV x1), (2, knV x2)]) [0, 1] rfl ?_
        exact hk _ hx2 hf
      · replace hf := knIp hf h6
        refine kj_iinc X 1 (L' := [(2, knV (knW (x2 + 1))), (1, knV x1)]) dX13_firstSwitch_34 rfl (by decide) rfl ?_
        refine kj_goto X (tgt := 22) dX13_firstSwitch_37 (by decide) ?_
        refine kj_sub (L' := [(1, knV x1), (2, knV (knW (x2 + 1)))]) [1, 0] rfl ?_
        exact ih _ (knCw _)  hf

set_option maxHeartbeats 4000000 in
set_option maxRecDepth 100000 in
theorem kcX13_firstSwitch {G : knGT} (l : Launch)   {μ : knMem} {q : Int × knMem} (hf : kfX13_firstSwitch  μ = some q) : knC0 G l yX13_firstSwitch cX13_firstSwitch 3 (some .int) 6 133 [knO G 142] μ (knC q.1) (some (knV q.1)) q.2 := by
  unfold kfX13_firstSwitch at hf
  refine kn_ofJ (plainFor_of_name (by decide)) (Nat.le_of_ble_eq_true rfl) (L := [(0, knO G 142)]) rfl ?_
  intro p e s m args below meth c X K hr hlk
  refine kj_aloadn X 0 dX13_firstSwitch_0 rfl ?_
  refine kj_iconst X dX13_firstSwitch_1 ?_
  refine kj_putf (k := 0) (ki := 0) (x := 0) (ty := .int) X K rfl (knKd_in kdc_142 (by decide)) (knEnt_10 kdc_142) rfl (by decide) knInX13 tyX13_ok nmX13 (knGm 1504 (by decide +kernel) rfl) rfl rfl (by decide +kernel) rfl rfl (by simp) (by rw [knEnt_10 kdc_142, knUp_row]; rfl) (fun _ => (show knC (0) from ⟨by omega, by omega⟩)) (fun h => by rw [kdc_142] at h; cases h) (fun h => by rw [kdc_142] at h; cases h) dX13_firstSwitch_2 ?_
  refine kj_aloadn X 0 dX13_firstSwitch_5 rfl ?_
  obtain ⟨q1, h2, hf⟩ := knBd_inv hf
  refine kj_callV (As := []) (rest := []) X K (kcX13_smallest l  h2) knWvX13_smallest (knGm 1953 (by decide +kernel) rfl) (by decide) (knKd_in kdc_142 (by decide)) (knEnt_10 kdc_142) rfl rfl rfl (Nat.le_of_ble_eq_true rfl) (by decide) dX13_firstSwitch_6 rfl (fun h3 => ?_)
  refine kj_istoren X (L' := [(1, knV q1.1), (0, knO G 142)]) dX13_firstSwitch_9 (by decide) rfl ?_
  refine kj_iloadn X 0 dX13_firstSwitch_10 rfl ?_
  refine kj_if_ge X (tgt := 20) dX13_firstSwitch_11 (by decide) h3 (fun h4 => ?_) (fun h4 => ?_)
  · replace hf := knIp hf h4
    refine kj_iconst X dX13_firstSwitch_20 ?_
    refine kj_istoren X (L' := [(2, knV 0), (1, knV q1.1), (0, knO G 142)]) dX13_firstSwitch_21 (by decide) rfl ?_
    refine kj_sub (L' := [(1, knV q1.1), (2, knV 0)]) [1, 0] rfl ?_
    refine kfX13_firstSwitch_l22_ok X K hr hlk q1.1 h3 q1.2 ?_ knF _ (show knC (0) from ⟨by omega, by omega⟩)  hf
    intro w7_0 hw7_0
    intro hf
    refine kj_iloadn X 0 dX13_firstSwitch_40 rfl ?_
    have j13 : ∀ (t13_0 : Int) (et13_0 : t13_0 = (if q1.1 = 0 then -1 else w7_0 : Int)) (ht13_0 : knC t13_0), knJ G p l e { frames := 6, cells := 0, slots := 0, locals := 133 } s m args below meth c 3 0 0 (MQ below (knPo G (knC q.1) (some (knV q.1)) q.2) args s 0 0 (knA G)) 49 [] [knV t13_0] q1.2 := by
      intro t13_0 et13_0 ht13_0
      subst et13_0
      cases hf
      exact kj_iret X ht13_0 hr dX13_firstSwitch_49 hlk
    refine kj_if_ne X (tgt := 48) dX13_firstSwitch_41 (by decide) h3 (fun h15 => ?_) (fun h15 => ?_)
    · refine kj_iloadn X 1 dX13_firstSwitch_48 rfl ?_
      refine kj_sub (L' := []) [] rfl ?_
      exact j13 w7_0 (by rw [if_neg h15]) hw7_0
    · refine kj_iconst X dX13_firstSwitch_44 ?_
      refine kj_goto X (tgt := 49) dX13_firstSwitch_45 (by decide) ?_
      refine kj_sub (L' := []) [] rfl ?_
      exact j13 (-1) (by rw [if_pos h15]) (show knC (-1) from ⟨by omega, by omega⟩)
  · replace hf := knIq hf h4
    refine kj_aloadn X 1 dX13_firstSwitch_14 rfl ?_
    refine kj_iconst X dX13_firstSwitch_15 ?_
    obtain ⟨q16, h17, hf⟩ := knBd_inv hf
    refine kj_callV (As := [knV 1]) (rest := []) X K (kcX13_fails l (show knC (1) from ⟨by omega, by omega⟩) h17) knWvX13_fails (knGm 1604 (by decide +kernel) rfl) (by decide) (knKd_in kdc_142 (by decide)) (knEnt_10 kdc_142) rfl rfl rfl (Nat.le_of_ble_eq_true rfl) (by decide) dX13_firstSwitch_16 rfl (fun h18 => ?_)
    cases hf
    exact kj_iret X h18 hr dX13_firstSwitch_19 hlk

def kfX13_isPlayer (a1 : Int) (μ : knMem) : Option (Int) :=
 knGd ((0 : Int) ≤ 1 ∧ (1 : Int) < 50)
  (Option.bind (kfX13_isBetween a1 0 (knW ((μ 143 1) - 1)) μ) (fun q3 =>
  some q3))

theorem knWvX13_isPlayer : knWv yX13_isPlayer cX13_isPlayer 2 (some .boolean) 1 := ⟨(knGm 1992 (by decide +kernel) rfl), (knGm 124 (by decide +kernel) rfl), (knGm 1991 (by decide +kernel) rfl), (knGm 91 (by decide +kernel) rfl), by decide +kernel, by decide +kernel, by decide +kernel⟩
set_option maxHeartbeats 4000000 in
set_option maxRecDepth 100000 in
theorem kcX13_isPlayer {G : knGT} (l : Launch) {a1 : Int} (ha1 : knC a1) {μ : knMem} {q : Int} (hf : kfX13_isPlayer a1 μ = some q) : knC0 G l yX13_isPlayer cX13_isPlayer 2 (some .boolean) 1 22 [knO G 142, knV a1] μ (knZ q) (some (knV q)) μ := by
  unfold kfX13_isPlayer at hf
  refine kn_ofJ (plainFor_of_name (by decide)) (Nat.le_of_ble_eq_true rfl) (L := [(0, knO G 142), (1, knV a1)]) rfl ?_
  intro p e s m args below meth c X K hr hlk
  refine kj_iloadn X 1 dX13_isPlayer_0 rfl ?_
  refine kj_iconst X dX13_isPlayer_1 ?_
  refine kj_aloadn X 0 dX13_isPlayer_2 rfl ?_
  refine kj_geto (k := 1) (o2 := 143) X K kdc_142 (by decide) (knEnt_10 kdc_142) rfl (by decide) knInX13 (knGm 1505 (by decide +kernel) rfl) rfl rfl dX13_isPlayer_3 ?_
  refine kj_iconst X dX13_isPlayer_6 ?_
  obtain ⟨h1, hf⟩ := knGd_inv hf
  refine kj_iald X K kdc_143 (show knC (1) from ⟨by omega, by omega⟩) lnc_143 h1 dX13_isPlayer_7 (fun h2 => ?_)
  refine kj_iconst X dX13_isPlayer_8 ?_
  refine kj_isub X dX13_isPlayer_9 ?_
  obtain ⟨q3, h4, hf⟩ := knBd_inv hf
  refine kj_callS (As := [knV a1, knV 0, knV (knW ((μ 143 1) - 1))]) (rest := []) X K (kcX13_isBetween l ha1 (show knC (0) from ⟨by omega, by omega⟩) (knCw _) h4) knWkX13_isBetween (knGm 1601 (by decide +kernel) rfl) (by decide)  rfl (Nat.le_of_ble_eq_true rfl) (by decide) dX13_isPlayer_10 rfl (fun h5 => ?_)
  cases hf
  exact kj_zret X h5 hr (kn_nb h5) dX13_isPlayer_13 hlk

def kfX13_notPlayer  (μ : knMem) : Option (Int) :=
 knGd ((0 : Int) ≤ 1 ∧ (1 : Int) < 50)
  (some (if (μ 143 1) = 4 then 1 else 0 : Int))

theorem knWvX13_notPlayer : knWv yX13_notPlayer cX13_notPlayer 1 (some .int) 0 := ⟨(knGm 1976 (by decide +kernel) rfl), (knGm 124 (by decide +kernel) rfl), (knGm 1975 (by decide +kernel) rfl), (knGm 88 (by decide +kernel) rfl), by decide +kernel, by decide +kernel, by decide +kernel⟩
set_option maxHeartbeats 4000000 in
set_option maxRecDepth 100000 in
theorem kcX13_notPlayer {G : knGT} (l : Launch)   {μ : knMem} {q : Int} (hf : kfX13_notPlayer  μ = some q) : knC0 G l yX13_notPlayer cX13_notPlayer 1 (some .int) 0 0 [knO G 142] μ (knC q) (some (knV q)) μ := by
  unfold kfX13_notPlayer at hf
  refine kn_ofJ (plainFor_of_name (by decide)) (Nat.le_of_ble_eq_true rfl) (L := [(0, knO G 142)]) rfl ?_
  intro p e s m args below meth c X K hr hlk
  refine kj_aloadn X 0 dX13_notPlayer_0 rfl ?_
  refine kj_geto (k := 1) (o2 := 143) X K kdc_142 (by decide) (knEnt_10 kdc_142) rfl (by decide) knInX13 (knGm 1505 (by decide +kernel) rfl) rfl rfl dX13_notPlayer_1 ?_
  refine kj_iconst X dX13_notPlayer_4 ?_
  obtain ⟨h1, hf⟩ := knGd_inv hf
  refine kj_iald X K kdc_143 (show knC (1) from ⟨by omega, by omega⟩) lnc_143 h1 dX13_notPlayer_5 (fun h2 => ?_)
  refine kj_iconst X dX13_notPlayer_6 ?_
  have j4 : ∀ (t4_0 : Int) (et4_0 : t4_0 = (if (μ 143 1) = 4 then 1 else 0 : Int)) (ht4_0 : knZ t4_0), knJ G p l e { frames := 0, cells := 0, slots := 0, locals := 0 } s m args below meth c 1 0 0 (MQ below (knPo G (knC q) (some (knV q)) μ) args s 0 0 (knA G)) 15 [] [knV t4_0] μ := by
    intro t4_0 et4_0 ht4_0
    subst et4_0
    cases hf
    exact kj_iret X (knZ_c ht4_0) hr dX13_notPlayer_15 hlk
  refine kj_ic_ne X (tgt := 14) dX13_notPlayer_7 (by decide) h2 (show knC (4) from ⟨by omega, by omega⟩) (fun h6 => ?_) (fun h6 => ?_)
  · refine kj_iconst X dX13_notPlayer_14 ?_
    refine kj_sub (L' := []) [] rfl ?_
    exact j4 0 (by rw [if_neg h6]) (Or.inl rfl)
  · refine kj_iconst X dX13_notPlayer_10 ?_
    refine kj_goto X (tgt := 15) dX13_notPlayer_11 (by decide) ?_
    refine kj_sub (L' := []) [] rfl ?_
    exact j4 1 (by rw [if_pos h6]) (Or.inr rfl)

def kfX13_addsPlayer  (μ : knMem) : Option (Int × knMem) :=
 knGd ((0 : Int) ≤ 1 ∧ (1 : Int) < 50)
  (knGd (0 ≤ (knW (3 + (μ 143 1))) ∧ (knW (3 + (μ 143 1))) < 50)
  (some ((μ 143 1), (knUp (knUp μ 143 1 (knW ((μ 143 1) + 1))) 143 (knW (3 + (μ 143 1))) 100))))

theorem knWvX13_addsPlayer : knWv yX13_addsPlayer cX13_addsPlayer 2 (some .int) 0 := ⟨(knGm 1980 (by decide +kernel) rfl), (knGm 124 (by decide +kernel) rfl), (knGm 1979 (by decide +kernel) rfl), (knGm 89 (by decide +kernel) rfl), by decide +kernel, by decide +kernel, by decide +kernel⟩
set_option maxHeartbeats 4000000 in
set_option maxRecDepth 100000 in
theorem kcX13_addsPlayer {G : knGT} (l : Launch)   {μ : knMem} {q : Int × knMem} (hf : kfX13_addsPlayer  μ = some q) : knC0 G l yX13_addsPlayer cX13_addsPlayer 2 (some .int) 0 0 [knO G 142] μ (knC q.1) (some (knV q.1)) q.2 := by
  unfold kfX13_addsPlayer at hf
  refine kn_ofJ (plainFor_of_name (by decide)) (Nat.le_of_ble_eq_true rfl) (L := [(0, knO G 142)]) rfl ?_
  intro p e s m args below meth c X K hr hlk
  refine kj_aloadn X 0 dX13_addsPlayer_0 rfl ?_
  refine kj_geto (k := 1) (o2 := 143) X K kdc_142 (by decide) (knEnt_10 kdc_142) rfl (by decide) knInX13 (knGm 1505 (by decide +kernel) rfl) rfl rfl dX13_addsPlayer_1 ?_
  refine kj_iconst X dX13_addsPlayer_4 ?_
  obtain ⟨h1, hf⟩ := knGd_inv hf
  refine kj_iald X K kdc_143 (show knC (1) from ⟨by omega, by omega⟩) lnc_143 h1 dX13_addsPlayer_5 (fun h2 => ?_)
  refine kj_istoren X (L' := [(1, knV (μ 143 1)), (0, knO G 142)]) dX13_addsPlayer_6 (by decide) rfl ?_
  refine kj_aloadn X 1 dX13_addsPlayer_7 rfl ?_
  refine kj_geto (k := 1) (o2 := 143) X K kdc_142 (by decide) (knEnt_10 kdc_142) rfl (by decide) knInX13 (knGm 1505 (by decide +kernel) rfl) rfl rfl dX13_addsPlayer_8 ?_
  refine kj_iconst X dX13_addsPlayer_11 ?_
  refine kj_dup2 X dX13_addsPlayer_12 rfl rfl ?_
  refine kj_iald X K kdc_143 (show knC (1) from ⟨by omega, by omega⟩) lnc_143 h1 dX13_addsPlayer_13 (fun h3 => ?_)
  refine kj_iconst X dX13_addsPlayer_14 ?_
  refine kj_iadd X dX13_addsPlayer_15 ?_
  refine kj_iast X K kdc_143 (show knC (1) from ⟨by omega, by omega⟩) (knCw _) lnc_143 h1 dX13_addsPlayer_16 ?_
  refine kj_aloadn X 1 dX13_addsPlayer_17 rfl ?_
  refine kj_geto (k := 1) (o2 := 143) X K kdc_142 (by decide) (knEnt_10 kdc_142) rfl (by decide) knInX13 (knGm 1505 (by decide +kernel) rfl) rfl rfl dX13_addsPlayer_18 ?_
  refine kj_iconst X dX13_addsPlayer_21 ?_
  refine kj_iloadn X 0 dX13_addsPlayer_22 rfl ?_
  refine kj_iadd X dX13_addsPlayer_23 ?_
  refine kj_bipush X (n := 100) dX13_addsPlayer_24 rfl ?_
  obtain ⟨h4, hf⟩ := knGd_inv hf
  refine kj_iast X K kdc_143 (knCw _) (show knC (100) from ⟨by omega, by omega⟩) lnc_143 h4 dX13_addsPlayer_26 ?_
  refine kj_iloadn X 0 dX13_addsPlayer_27 rfl ?_
  cases hf
  exact kj_iret X h2 hr dX13_addsPlayer_28 hlk

def kfX13_addPlayer  (μ : knMem) : Option (Int × knMem) :=
 Option.bind (kfX13_notPlayer  (knUp μ 142 0 0)) (fun q1 =>
  if q1 = 0 then
   Option.bind (kfX13_remembers  (knUp μ 142 0 0)) (fun q5 =>
    Option.bind (kfX13_addsPlayer  q5) (fun q8 =>
     some (q8.1, q8.2)))
  else
   Option.bind (kfX13_fails 1 (knUp μ 142 0 0)) (fun q11 =>
    some (q11.1, q11.2)))

theorem knWvX13_addPlayer : knWv yX13_addPlayer cX13_addPlayer 1 (some .int) 0 := ⟨(knGm 1972 (by decide +kernel) rfl), (knGm 124 (by decide +kernel) rfl), (knGm 1970 (by decide +kernel) rfl), (knGm 1971 (by decide +kernel) rfl), by decide +kernel, by decide +kernel, by decide +kernel⟩
set_option maxHeartbeats 4000000 in
set_option maxRecDepth 100000 in
theorem kcX13_addPlayer {G : knGT} (l : Launch)   {μ : knMem} {q : Int × knMem} (hf : kfX13_addPlayer  μ = some q) : knC0 G l yX13_addPlayer cX13_addPlayer 1 (some .int) 2 42 [knO G 142] μ (knC q.1) (some (knV q.1)) q.2 := by
  unfold kfX13_addPlayer at hf
  refine kn_ofJ (plainFor_of_name (by decide)) (Nat.le_of_ble_eq_true rfl) (L := [(0, knO G 142)]) rfl ?_
  intro p e s m args below meth c X K hr hlk
  refine kj_aloadn X 0 dX13_addPlayer_0 rfl ?_
  refine kj_iconst X dX13_addPlayer_1 ?_
  refine kj_putf (k := 0) (ki := 0) (x := 0) (ty := .int) X K rfl (knKd_in kdc_142 (by decide)) (knEnt_10 kdc_142) rfl (by decide) knInX13 tyX13_ok nmX13 (knGm 1504 (by decide +kernel) rfl) rfl rfl (by decide +kernel) rfl rfl (by simp) (by rw [knEnt_10 kdc_142, knUp_row]; rfl) (fun _ => (show knC (0) from ⟨by omega, by omega⟩)) (fun h => by rw [kdc_142] at h; cases h) (fun h => by rw [kdc_142] at h; cases h) dX13_addPlayer_2 ?_
  refine kj_aloadn X 0 dX13_addPlayer_5 rfl ?_
  obtain ⟨q1, h2, hf⟩ := knBd_inv hf
  refine kj_callV (As := []) (rest := []) X K (kcX13_notPlayer l  h2) knWvX13_notPlayer (knGm 1973 (by decide +kernel) rfl) (by decide) (knKd_in kdc_142 (by decide)) (knEnt_10 kdc_142) rfl rfl rfl (Nat.le_of_ble_eq_true rfl) (by decide) dX13_addPlayer_6 rfl (fun h3 => ?_)
  refine kj_if_eq X (tgt := 18) dX13_addPlayer_9 (by decide) h3 (fun h4 => ?_) (fun h4 => ?_)
  · replace hf := knIp hf h4
    refine kj_aloadn X 0 dX13_addPlayer_18 rfl ?_
    obtain ⟨q5, h6, hf⟩ := knBd_inv hf
    refine kj_callV (As := []) (rest := []) X K (kcX13_remembers l  h6) knWvX13_remembers (knGm 1608 (by decide +kernel) rfl) (by decide) (knKd_in kdc_142 (by decide)) (knEnt_10 kdc_142) rfl rfl rfl (Nat.le_of_ble_eq_true rfl) (by decide) dX13_addPlayer_19 rfl (fun h7 => ?_)
    refine kj_aloadn X 0 dX13_addPlayer_22 rfl ?_
    obtain ⟨q8, h9, hf⟩ := knBd_inv hf
    refine kj_callV (As := []) (rest := []) X K (kcX13_addsPlayer l  h9) knWvX13_addsPlayer (knGm 1977 (by decide +kernel) rfl) (by decide) (knKd_in kdc_142 (by decide)) (knEnt_10 kdc_142) rfl rfl rfl (Nat.le_of_ble_eq_true rfl) (by decide) dX13_addPlayer_23 rfl (fun h10 => ?_)
    cases hf
    exact kj_iret X h10 hr dX13_addPlayer_26 hlk
  · replace hf := knIq hf h4
    refine kj_aloadn X 0 dX13_addPlayer_12 rfl ?_
    refine kj_iconst X dX13_addPlayer_13 ?_
    obtain ⟨q11, h12, hf⟩ := knBd_inv hf
    refine kj_callV (As := [knV 1]) (rest := []) X K (kcX13_fails l (show knC (1) from ⟨by omega, by omega⟩) h12) knWvX13_fails (knGm 1604 (by decide +kernel) rfl) (by decide) (knKd_in kdc_142 (by decide)) (knEnt_10 kdc_142) rfl rfl rfl (Nat.le_of_ble_eq_true rfl) (by decide) dX13_addPlayer_14 rfl (fun h13 => ?_)
    cases hf
    exact kj_iret X h13 hr dX13_addPlayer_17 hlk

def kfX13_notBet (a1 : Int) (a2 : Int) (a3 : Int) (μ : knMem) : Option (Int) :=
 Option.bind (kfX13_isPlayer a1 μ) (fun q1 =>
  if q1 = 0 then
   some 1
  else
   Option.bind (kfX13_isBetween a2 0 7 μ) (fun q5 =>
    (fun (k22 : (Unit) → Option (Int)) =>
     if q5 = 0 then
      k22 ()
     else
      Option.bind (kfX13_isBetween a3 1 99 μ) (fun q25 =>
       if q25 = 0 then
        k22 ()
       else
        knGd (0 ≤ (knW (11 + a1)) ∧ (knW (11 + a1)) < 50)
         (if (μ 143 (knW (11 + a1))) ≤ 0 then
         knGd (0 ≤ (knW (3 + a1)) ∧ (knW (3 + a1)) < 50)
          (some (if a3 ≤ (μ 143 (knW (3 + a1))) then 0 else 4 : Int))
        else
         some 3)))
     (fun _ =>
     some 2)))

theorem knWvX13_notBet : knWv yX13_notBet cX13_notBet 4 (some .int) 3 := ⟨(knGm 1988 (by decide +kernel) rfl), (knGm 124 (by decide +kernel) rfl), (knGm 1987 (by decide +kernel) rfl), (knGm 90 (by decide +kernel) rfl), by decide +kernel, by decide +kernel, by decide +kernel⟩
set_option maxHeartbeats 4000000 in
set_option maxRecDepth 100000 in
theorem kcX13_notBet {G : knGT} (l : Launch) {a1 : Int} {a2 : Int} {a3 : Int} (ha1 : knC a1) (ha2 : knC a2) (ha3 : knC a3) {μ : knMem} {q : Int} (hf : kfX13_notBet a1 a2 a3 μ = some q) : knC0 G l yX13_notBet cX13_notBet 4 (some .int) 2 43 [knO G 142, knV a1, knV a2, knV a3] μ (knC q) (some (knV q)) μ := by
  unfold kfX13_notBet at hf
  refine kn_ofJ (plainFor_of_name (by decide)) (Nat.le_of_ble_eq_true rfl) (L := [(0, knO G 142), (1, knV a1), (2, knV a2), (3, knV a3)]) rfl ?_
  intro p e s m args below meth c X K hr hlk
  refine kj_aloadn X 0 dX13_notBet_0 rfl ?_
  refine kj_iloadn X 1 dX13_notBet_1 rfl ?_
  obtain ⟨q1, h2, hf⟩ := knBd_inv hf
  refine kj_callV (As := [knV a1]) (rest := []) X K (kcX13_isPlayer l ha1 h2) knWvX13_isPlayer (knGm 1989 (by decide +kernel) rfl) (by decide) (knKd_in kdc_142 (by decide)) (knEnt_10 kdc_142) rfl rfl rfl (Nat.le_of_ble_eq_true rfl) (by decide) dX13_notBet_2 rfl (fun h3 => ?_)
  refine kj_if_ne X (tgt := 10) dX13_notBet_5 (by decide) (knZ_c h3) (fun h4 => ?_) (fun h4 => ?_)
  · replace hf := knIq hf h4
    refine kj_iloadn X 2 dX13_notBet_10 rfl ?_
    refine kj_iconst X dX13_notBet_11 ?_
    refine kj_bipush X (n := 7) dX13_notBet_12 rfl ?_
    obtain ⟨q5, h6, hf⟩ := knBd_inv hf
    refine kj_callS (As := [knV a2, knV 0, knV 7]) (rest := []) X K (kcX13_isBetween l ha2 (show knC (0) from ⟨by omega, by omega⟩) (show knC (7) from ⟨by omega, by omega⟩) h6) knWkX13_isBetween (knGm 1601 (by decide +kernel) rfl) (by decide)  rfl (Nat.le_of_ble_eq_true rfl) (by decide) dX13_notBet_14 rfl (fun h7 => ?_)
    have j22 : (fun _ =>
     some 2) () = some q → knJ G p l e { frames := 2, cells := 0, slots := 0, locals := 43 } s m args below meth c 4 0 0 (MQ below (knPo G (knC q) (some (knV q)) μ) args s 0 0 (knA G)) 30 [] [] μ := by
      intro hf
      refine kj_iconst X dX13_notBet_30 ?_
      cases hf
      exact kj_iret X (show knC (2) from ⟨by omega, by omega⟩) hr dX13_notBet_31 hlk
    refine kj_if_eq X (tgt := 30) dX13_notBet_17 (by decide) (knZ_c h7) (fun h24 => ?_) (fun h24 => ?_)
    · replace hf := knIp hf h24
      refine kj_sub (L' := []) [] rfl ?_
      exact j22  hf
    · replace hf := knIq hf h24
      refine kj_iloadn X 3 dX13_notBet_20 rfl ?_
      refine kj_iconst X dX13_notBet_21 ?_
      refine kj_bipush X (n := 99) dX13_notBet_22 rfl ?_
      obtain ⟨q25, h26, hf⟩ := knBd_inv hf
      refine kj_callS (As := [knV a3, knV 1, knV 99]) (rest := []) X K (kcX13_isBetween l ha3 (show knC (1) from ⟨by omega, by omega⟩) (show knC (99) from ⟨by omega, by omega⟩) h26) knWkX13_isBetween (knGm 1601 (by decide +kernel) rfl) (by decide)  rfl (Nat.le_of_ble_eq_true rfl) (by decide) dX13_notBet_24 rfl (fun h27 => ?_)
      refine kj_if_ne X (tgt := 32) dX13_notBet_27 (by decide) (knZ_c h27) (fun h28 => ?_) (fun h28 => ?_)
      · replace hf := knIq hf h28
        refine kj_aloadn X 0 dX13_notBet_32 rfl ?_
        refine kj_geto (k := 1) (o2 := 143) X K kdc_142 (by decide) (knEnt_10 kdc_142) rfl (by decide) knInX13 (knGm 1505 (by decide +kernel) rfl) rfl rfl dX13_notBet_33 ?_
        refine kj_bipush X (n := 11) dX13_notBet_36 rfl ?_
        refine kj_iloadn X 1 dX13_notBet_38 rfl ?_
        refine kj_iadd X dX13_notBet_39 ?_
        obtain ⟨h29, hf⟩ := knGd_inv hf
        refine kj_iald X K kdc_143 (knCw _) lnc_143 h29 dX13_notBet_40 (fun h30 => ?_)
        refine kj_if_le X (tgt := 46) dX13_notBet_41 (by decide) h30 (fun h31 => ?_) (fun h31 => ?_)
        · replace hf := knIp hf h31
          refine kj_aloadn X 0 dX13_notBet_46 rfl ?_
          refine kj_geto (k := 1) (o2 := 143) X K kdc_142 (by decide) (knEnt_10 kdc_142) rfl (by decide) knInX13 (knGm 1505 (by decide +kernel) rfl) rfl rfl dX13_notBet_47 ?_
          refine kj_iconst X dX13_notBet_50 ?_
          refine kj_iloadn X 1 dX13_notBet_51 rfl ?_
          refine kj_iadd X dX13_notBet_52 ?_
          obtain ⟨h32, hf⟩ := knGd_inv hf
          refine kj_iald X K kdc_143 (knCw _) lnc_143 h32 dX13_notBet_53 (fun h33 => ?_)
          refine kj_iloadn X 3 dX13_notBet_54 rfl ?_
          have j35 : ∀ (t35_0 : Int) (et35_0 : t35_0 = (if a3 ≤ (μ 143 (knW (3 + a1))) then 0 else 4 : Int)) (ht35_0 : knH t35_0), knJ G p l e { frames := 2, cells := 0, slots := 0, locals := 43 } s m args below meth c 4 0 0 (MQ below (knPo G (knC q) (some (knV q)) μ) args s 0 0 (knA G)) 63 [] [knV t35_0] μ := by
            intro t35_0 et35_0 ht35_0
            subst et35_0
            cases hf
            exact kj_iret X (knH_c ht35_0) hr dX13_notBet_63 hlk
          refine kj_ic_ge X (tgt := 62) dX13_notBet_55 (by decide) h33 ha3 (fun h37 => ?_) (fun h37 => ?_)
          · refine kj_iconst X dX13_notBet_62 ?_
            refine kj_sub (L' := []) [] rfl ?_
            exact j35 0 (by rw [if_pos h37]) (show knH (0) from ⟨by omega, by omega⟩)
          · refine kj_iconst X dX13_notBet_58 ?_
            refine kj_goto X (tgt := 63) dX13_notBet_59 (by decide) ?_
            refine kj_sub (L' := []) [] rfl ?_
            exact j35 4 (by rw [if_neg h37]) (show knH (4) from ⟨by omega, by omega⟩)
        · replace hf := knIq hf h31
          refine kj_iconst X dX13_notBet_44 ?_
          cases hf
          exact kj_iret X (show knC (3) from ⟨by omega, by omega⟩) hr dX13_notBet_45 hlk
      · replace hf := knIp hf h28
        refine kj_sub (L' := []) [] rfl ?_
        exact j22  hf
  · replace hf := knIp hf h4
    refine kj_iconst X dX13_notBet_8 ?_
    cases hf
    exact kj_iret X (show knC (1) from ⟨by omega, by omega⟩) hr dX13_notBet_9 hlk

def kfX13_bets (a1 : Int) (a2 : Int) (a3 : Int) (μ : knMem) : Option (Int × knMem) :=
 knGd (0 ≤ (knW (3 + a1)) ∧ (knW (3 + a1)) < 50)
  (knGd (0 ≤ (knW (11 + a1)) ∧ (knW (11 + a1)) < 50)
  (knGd (0 ≤ (knW (7 + a1)) ∧ (knW (7 + a1)) < 50)
  (some (((knUp (knUp (knUp μ 143 (knW (3 + a1)) (knW ((μ 143 (knW (3 + a1))) - a3))) 143 (knW (11 + a1)) a3) 143 (knW (7 + a1)) a2) 143 (knW (3 + a1))), (knUp (knUp (knUp μ 143 (knW (3 + a1)) (knW ((μ 143 (knW (3 + a1))) - a3))) 143 (knW (11 + a1)) a3) 143 (knW (7 + a1)) a2)))))

theorem knWvX13_bets : knWv yX13_bets cX13_bets 4 (some .int) 3 := ⟨(knGm 1996 (by decide +kernel) rfl), (knGm 124 (by decide +kernel) rfl), (knGm 1995 (by decide +kernel) rfl), (knGm 92 (by decide +kernel) rfl), by decide +kernel, by decide +kernel, by decide +kernel⟩
set_option maxHeartbeats 4000000 in
set_option maxRecDepth 100000 in
theorem kcX13_bets {G : knGT} (l : Launch) {a1 : Int} {a2 : Int} {a3 : Int} (ha1 : knC a1) (ha2 : knC a2) (ha3 : knC a3) {μ : knMem} {q : Int × knMem} (hf : kfX13_bets a1 a2 a3 μ = some q) : knC0 G l yX13_bets cX13_bets 4 (some .int) 0 0 [knO G 142, knV a1, knV a2, knV a3] μ (knC q.1) (some (knV q.1)) q.2 := by
  unfold kfX13_bets at hf
  refine kn_ofJ (plainFor_of_name (by decide)) (Nat.le_of_ble_eq_true rfl) (L := [(0, knO G 142), (1, knV a1), (2, knV a2), (3, knV a3)]) rfl ?_
  intro p e s m args below meth c X K hr hlk
  refine kj_aloadn X 0 dX13_bets_0 rfl ?_
  refine kj_geto (k := 1) (o2 := 143) X K kdc_142 (by decide) (knEnt_10 kdc_142) rfl (by decide) knInX13 (knGm 1505 (by decide +kernel) rfl) rfl rfl dX13_bets_1 ?_
  refine kj_iconst X dX13_bets_4 ?_
  refine kj_iloadn X 1 dX13_bets_5 rfl ?_
  refine kj_iadd X dX13_bets_6 ?_
  refine kj_dup2 X dX13_bets_7 rfl rfl ?_
  obtain ⟨h1, hf⟩ := knGd_inv hf
  refine kj_iald X K kdc_143 (knCw _) lnc_143 h1 dX13_bets_8 (fun h2 => ?_)
  refine kj_iloadn X 3 dX13_bets_9 rfl ?_
  refine kj_isub X dX13_bets_10 ?_
  refine kj_iast X K kdc_143 (knCw _) (knCw _) lnc_143 h1 dX13_bets_11 ?_
  refine kj_aloadn X 0 dX13_bets_12 rfl ?_
  refine kj_geto (k := 1) (o2 := 143) X K kdc_142 (by decide) (knEnt_10 kdc_142) rfl (by decide) knInX13 (knGm 1505 (by decide +kernel) rfl) rfl rfl dX13_bets_13 ?_
  refine kj_bipush X (n := 11) dX13_bets_16 rfl ?_
  refine kj_iloadn X 1 dX13_bets_18 rfl ?_
  refine kj_iadd X dX13_bets_19 ?_
  refine kj_iloadn X 3 dX13_bets_20 rfl ?_
  obtain ⟨h3, hf⟩ := knGd_inv hf
  refine kj_iast X K kdc_143 (knCw _) ha3 lnc_143 h3 dX13_bets_21 ?_
  refine kj_aloadn X 0 dX13_bets_22 rfl ?_
  refine kj_geto (k := 1) (o2 := 143) X K kdc_142 (by decide) (knEnt_10 kdc_142) rfl (by decide) knInX13 (knGm 1505 (by decide +kernel) rfl) rfl rfl dX13_bets_23 ?_
  refine kj_bipush X (n := 7) dX13_bets_26 rfl ?_
  refine kj_iloadn X 1 dX13_bets_28 rfl ?_
  refine kj_iadd X dX13_bets_29 ?_
  refine kj_iloadn X 2 dX13_bets_30 rfl ?_
  obtain ⟨h4, hf⟩ := knGd_inv hf
  refine kj_iast X K kdc_143 (knCw _) ha2 lnc_143 h4 dX13_bets_31 ?_
  refine kj_aloadn X 0 dX13_bets_32 rfl ?_
  refine kj_geto (k := 1) (o2 := 143) X K kdc_142 (by decide) (knEnt_10 kdc_142) rfl (by decide) knInX13 (knGm 1505 (by decide +kernel) rfl) rfl rfl dX13_bets_33 ?_
  refine kj_iconst X dX13_bets_36 ?_
  refine kj_iloadn X 1 dX13_bets_37 rfl ?_
  refine kj_iadd X dX13_bets_38 ?_
  refine kj_iald X K kdc_143 (knCw _) lnc_143 h1 dX13_bets_39 (fun h5 => ?_)
  cases hf
  exact kj_iret X h5 hr dX13_bets_40 hlk

def kfX13_bet (a1 : Int) (a2 : Int) (a3 : Int) (μ : knMem) : Option (Int × knMem) :=
 Option.bind (kfX13_notBet a1 a2 a3 (knUp μ 142 0 0)) (fun q1 =>
  if q1 = 0 then
   Option.bind (kfX13_remembers  (knUp μ 142 0 0)) (fun q5 =>
    Option.bind (kfX13_bets a1 a2 a3 q5) (fun q8 =>
     some (q8.1, q8.2)))
  else
   Option.bind (kfX13_fails q1 (knUp μ 142 0 0)) (fun q11 =>
    some (q11.1, q11.2)))

theorem knWvX13_bet : knWv yX13_bet cX13_bet 5 (some .int) 3 := ⟨(knGm 1984 (by decide +kernel) rfl), (knGm 124 (by decide +kernel) rfl), (knGm 1982 (by decide +kernel) rfl), (knGm 1983 (by decide +kernel) rfl), by decide +kernel, by decide +kernel, by decide +kernel⟩
set_option maxHeartbeats 4000000 in
set_option maxRecDepth 100000 in
theorem kcX13_bet {G : knGT} (l : Launch) {a1 : Int} {a2 : Int} {a3 : Int} (ha1 : knC a1) (ha2 : knC a2) (ha3 : knC a3) {μ : knMem} {q : Int × knMem} (hf : kfX13_bet a1 a2 a3 μ = some q) : knC0 G l yX13_bet cX13_bet 5 (some .int) 3 66 [knO G 142, knV a1, knV a2, knV a3] μ (knC q.1) (some (knV q.1)) q.2 := by
  unfold kfX13_bet at hf
  refine kn_ofJ (plainFor_of_name (by decide)) (Nat.le_of_ble_eq_true rfl) (L := [(0, knO G 142), (1, knV a1), (2, knV a2), (3, knV a3)]) rfl ?_
  intro p e s m args below meth c X K hr hlk
  refine kj_aloadn X 0 dX13_bet_0 rfl ?_
  refine kj_iconst X dX13_bet_1 ?_
  refine kj_putf (k := 0) (ki := 0) (x := 0) (ty := .int) X K rfl (knKd_in kdc_142 (by decide)) (knEnt_10 kdc_142) rfl (by decide) knInX13 tyX13_ok nmX13 (knGm 1504 (by decide +kernel) rfl) rfl rfl (by decide +kernel) rfl rfl (by simp) (by rw [knEnt_10 kdc_142, knUp_row]; rfl) (fun _ => (show knC (0) from ⟨by omega, by omega⟩)) (fun h => by rw [kdc_142] at h; cases h) (fun h => by rw [kdc_142] at h; cases h) dX13_bet_2 ?_
  refine kj_aloadn X 0 dX13_bet_5 rfl ?_
  refine kj_iloadn X 1 dX13_bet_6 rfl ?_
  refine kj_iloadn X 2 dX13_bet_7 rfl ?_
  refine kj_iloadn X 3 dX13_bet_8 rfl ?_
  obtain ⟨q1, h2, hf⟩ := knBd_inv hf
  refine kj_callV (As := [knV a1, knV a2, knV a3]) (rest := []) X K (kcX13_notBet l ha1 ha2 ha3 h2) knWvX13_notBet (knGm 1985 (by decide +kernel) rfl) (by decide) (knKd_in kdc_142 (by decide)) (knEnt_10 kdc_142) rfl rfl rfl (Nat.le_of_ble_eq_true rfl) (by decide) dX13_bet_9 rfl (fun h3 => ?_)
  refine kj_istore X (L' := [(4, knV q1), (0, knO G 142), (1, knV a1), (2, knV a2), (3, knV a3)]) dX13_bet_12 (by decide) rfl ?_
  refine kj_iload X 0 dX13_bet_14 rfl ?_
  refine kj_if_eq X (tgt := 26) dX13_bet_16 (by decide) h3 (fun h4 => ?_) (fun h4 => ?_)
  · replace hf := knIp hf h4
    refine kj_aloadn X 1 dX13_bet_26 rfl ?_
    obtain ⟨q5, h6, hf⟩ := knBd_inv hf
    refine kj_callV (As := []) (rest := []) X K (kcX13_remembers l  h6) knWvX13_remembers (knGm 1608 (by decide +kernel) rfl) (by decide) (knKd_in kdc_142 (by decide)) (knEnt_10 kdc_142) rfl rfl rfl (Nat.le_of_ble_eq_true rfl) (by decide) dX13_bet_27 rfl (fun h7 => ?_)
    refine kj_aloadn X 1 dX13_bet_30 rfl ?_
    refine kj_iloadn X 2 dX13_bet_31 rfl ?_
    refine kj_iloadn X 3 dX13_bet_32 rfl ?_
    refine kj_iloadn X 4 dX13_bet_33 rfl ?_
    obtain ⟨q8, h9, hf⟩ := knBd_inv hf
    refine kj_callV (As := [knV a1, knV a2, knV a3]) (rest := []) X K (kcX13_bets l ha1 ha2 ha3 h9) knWvX13_bets (knGm 1993 (by decide +kernel) rfl) (by decide) (knKd_in kdc_142 (by decide)) (knEnt_10 kdc_142) rfl rfl rfl (Nat.le_of_ble_eq_true rfl) (by decide) dX13_bet_34 rfl (fun h10 => ?_)
    cases hf
    exact kj_iret X h10 hr dX13_bet_37 hlk
  · replace hf := knIq hf h4
    refine kj_aloadn X 1 dX13_bet_19 rfl ?_
    refine kj_iload X 0 dX13_bet_20 rfl ?_
    obtain ⟨q11, h12, hf⟩ := knBd_inv hf
    refine kj_callV (As := [knV q1]) (rest := []) X K (kcX13_fails l h3 h12) knWvX13_fails (knGm 1604 (by decide +kernel) rfl) (by decide) (knKd_in kdc_142 (by decide)) (knEnt_10 kdc_142) rfl rfl rfl (Nat.le_of_ble_eq_true rfl) (by decide) dX13_bet_22 rfl (fun h13 => ?_)
    cases hf
    exact kj_iret X h13 hr dX13_bet_25 hlk

def kfX13_stakes_l4   (μ : knMem) (kc : (Int) → Option (Int)) : Nat → Int → Int → Option (Int)
  | 0, _, _ => none
  | n + 1, x1, x2 =>
    knGd ((0 : Int) ≤ 1 ∧ (1 : Int) < 50)
     (if (μ 143 1) ≤ x2 then
     kc x1
    else
     knGd (0 ≤ (knW (11 + x2)) ∧ (knW (11 + x2)) < 50)
      (kfX13_stakes_l4   μ kc n (knW (x1 + (μ 143 (knW (11 + x2))))) (knW (x2 + 1))))

def kfX13_stakes  (μ : knMem) : Option (Int) :=
 kfX13_stakes_l4  μ (fun w6 =>
  some w6) knF 0 0

theorem knWvX13_stakes : knWv yX13_stakes cX13_stakes 3 (some .int) 0 := ⟨(knGm 2008 (by decide +kernel) rfl), (knGm 124 (by decide +kernel) rfl), (knGm 2007 (by decide +kernel) rfl), (knGm 94 (by decide +kernel) rfl), by decide +kernel, by decide +kernel, by decide +kernel⟩
set_option maxHeartbeats 4000000 in
set_option maxRecDepth 100000 in
theorem kfX13_stakes_l4_ok {q : Int} {kc : (Int) → Option (Int)} {G : knGT} {p : Program} {l : Launch} {e : Env} {s : State} {m : MethodId} {args : Array Value} {below : List Frame} {meth : Method} {c : Code} (X : knX p m c cX13_stakes 3 s args yX13_stakes.cls) (K : knK G s s.heap) (hr : meth.sig.returnType = (some .int)) (hlk : meth.locks = false)   (μ : knMem) (hk : ∀ (y1 : Int) (hy1 : knC y1), kc y1 = some q → knJ G p l e { frames := 0, cells := 0, slots := 0, locals := 0 } s m args below meth c 3 0 0 (MQ below (knPo G (knC q) (some (knV q)) μ) args s 0 0 (knA G)) 32 [(1, knV y1)] [] μ) : ∀ (n : Nat) (x1 : Int) (hx1 : knC x1) (x2 : Int) (hx2 : knC x2) , kfX13_stakes_l4   μ kc n x1 x2 = some q → knJ G p l e { frames := 0, cells := 0, slots := 0, locals := 0 } s m args below meth c 3 0 0 (MQ below (knPo G (knC q) (some (knV q)) μ) args s 0 0 (knA G)) 4 [(0, knO G 142), (1, knV x1), (2, knV x2)] [] μ := by
  intro n
  induction n with
  | zero => intro x1 hx1 x2 hx2 hf; cases hf
  | succ n ih =>
    intro x1 hx1 x2 hx2 hf
    unfold kfX13_stakes_l4 at hf
    refine kj_iloadn X 2 dX13_stakes_4 rfl ?_
    refine kj_aloadn X 0 dX13_stakes_5 rfl ?_
    refine kj_geto (k := 1) (o2 := 143) X K kdc_142 (by decide) (knEnt_10 kdc_142) rfl (by decide) knInX13 (knGm 1505 (by decide +kernel) rfl) rfl rfl dX13_stakes_6 ?_
    refine kj_iconst X dX13_stakes_9 ?_
    obtain ⟨h1, hf⟩ := knGd_inv hf
    refine kj_iald X K kdc_143 (show knC (1) from ⟨by omega, by omega⟩) lnc_143 h1 dX13_stakes_10 (fun h2 => ?_)
    refine kj_ic_ge X (tgt := 32) dX13_stakes_11 (by decide) hx2 h2 (fun h3 => ?_) (fun h3 => ?_)
    · replace hf := knIp hf h3
      refine kj_sub (L' := [(1, knV x1)]) [1] rfl ?_
      exact hk _ hx1 hf
    · replace hf := knIq hf h3
      refine kj_iloadn X 1 dX13_stakes_14 rfl ?_
      refine kj_aloadn X 0 dX13_stakes_15 rfl ?_
      refine kj_geto (k := 1) (o2 := 143) X K kdc_142 (by decide) (knEnt_10 kdc_142) rfl (by decide) knInX13 (knGm 1505 (by decide +kernel) rfl) rfl rfl dX13_stakes_16 ?_
      refine kj_bipush X (n := 11) dX13_stakes_19 rfl ?_
      refine kj_iloadn X 2 dX13_stakes_21 rfl ?_
      refine kj_iadd X dX13_stakes_22 ?_
      obtain ⟨h4, hf⟩ := knGd_inv hf
      refine kj_iald X K kdc_143 (knCw _) lnc_143 h4 dX13_stakes_23 (fun h5 => ?_)
      refine kj_iadd X dX13_stakes_24 ?_
      refine kj_istoren X (L' := [(1, knV (knW (x1 + (μ 143 (knW (11 + x2)))))), (0, knO G 142), (2, knV x2)]) dX13_stakes_25 (by decide) rfl ?_
      refine kj_iinc X 2 (L' := [(2, knV (knW (x2 + 1))), (1, knV (knW (x1 + (μ 143 (knW (11 + x2)))))), (0, knO G 142)]) dX13_stakes_26 rfl (by decide) rfl ?_
      refine kj_goto X (tgt := 4) dX13_stakes_29 (by decide) ?_
      refine kj_sub (L' := [(0, knO G 142), (1, knV (knW (x1 + (μ 143 (knW (11 + x2)))))), (2, knV (knW (x2 + 1)))]) [2, 1, 0] rfl ?_
      exact ih _ (knCw _) _ (knCw _)  hf

set_option maxHeartbeats 4000000 in
set_option maxRecDepth 100000 in
theorem kcX13_stakes {G : knGT} (l : Launch)   {μ : knMem} {q : Int} (hf : kfX13_stakes  μ = some q) : knC0 G l yX13_stakes cX13_stakes 3 (some .int) 0 0 [knO G 142] μ (knC q) (some (knV q)) μ := by
  unfold kfX13_stakes at hf
  refine kn_ofJ (plainFor_of_name (by decide)) (Nat.le_of_ble_eq_true rfl) (L := [(0, knO G 142)]) rfl ?_
  intro p e s m args below meth c X K hr hlk
  refine kj_iconst X dX13_stakes_0 ?_
  refine kj_istoren X (L' := [(1, knV 0), (0, knO G 142)]) dX13_stakes_1 (by decide) rfl ?_
  refine kj_iconst X dX13_stakes_2 ?_
  refine kj_istoren X (L' := [(2, knV 0), (1, knV 0), (0, knO G 142)]) dX13_stakes_3 (by decide) rfl ?_
  refine kj_sub (L' := [(0, knO G 142), (1, knV 0), (2, knV 0)]) [2, 1, 0] rfl ?_
  refine kfX13_stakes_l4_ok X K hr hlk   μ ?_ knF _ (show knC (0) from ⟨by omega, by omega⟩) _ (show knC (0) from ⟨by omega, by omega⟩)  hf
  intro w6_0 hw6_0
  intro hf
  refine kj_iloadn X 0 dX13_stakes_32 rfl ?_
  cases hf
  exact kj_iret X hw6_0 hr dX13_stakes_33 hlk

def kfX13_notSettle  (μ : knMem) : Option (Int × knMem) :=
 Option.bind (kfX13_stakes  μ) (fun q1 =>
  if q1 = 0 then
   some (1, μ)
  else
   Option.bind (kfX13_smallest  μ) (fun q5 =>
    some ((if 0 ≤ q5.1 then 0 else 2 : Int), q5.2)))

theorem knWvX13_notSettle : knWv yX13_notSettle cX13_notSettle 1 (some .int) 0 := ⟨(knGm 2004 (by decide +kernel) rfl), (knGm 124 (by decide +kernel) rfl), (knGm 2003 (by decide +kernel) rfl), (knGm 93 (by decide +kernel) rfl), by decide +kernel, by decide +kernel, by decide +kernel⟩
set_option maxHeartbeats 4000000 in
set_option maxRecDepth 100000 in
theorem kcX13_notSettle {G : knGT} (l : Launch)   {μ : knMem} {q : Int × knMem} (hf : kfX13_notSettle  μ = some q) : knC0 G l yX13_notSettle cX13_notSettle 1 (some .int) 6 133 [knO G 142] μ (knC q.1) (some (knV q.1)) q.2 := by
  unfold kfX13_notSettle at hf
  refine kn_ofJ (plainFor_of_name (by decide)) (Nat.le_of_ble_eq_true rfl) (L := [(0, knO G 142)]) rfl ?_
  intro p e s m args below meth c X K hr hlk
  refine kj_aloadn X 0 dX13_notSettle_0 rfl ?_
  obtain ⟨q1, h2, hf⟩ := knBd_inv hf
  refine kj_callV (As := []) (rest := []) X K (kcX13_stakes l  h2) knWvX13_stakes (knGm 2005 (by decide +kernel) rfl) (by decide) (knKd_in kdc_142 (by decide)) (knEnt_10 kdc_142) rfl rfl rfl (Nat.le_of_ble_eq_true rfl) (by decide) dX13_notSettle_1 rfl (fun h3 => ?_)
  refine kj_if_ne X (tgt := 9) dX13_notSettle_4 (by decide) h3 (fun h4 => ?_) (fun h4 => ?_)
  · replace hf := knIq hf h4
    refine kj_aloadn X 0 dX13_notSettle_9 rfl ?_
    obtain ⟨q5, h6, hf⟩ := knBd_inv hf
    refine kj_callV (As := []) (rest := []) X K (kcX13_smallest l  h6) knWvX13_smallest (knGm 1953 (by decide +kernel) rfl) (by decide) (knKd_in kdc_142 (by decide)) (knEnt_10 kdc_142) rfl rfl rfl (Nat.le_of_ble_eq_true rfl) (by decide) dX13_notSettle_10 rfl (fun h7 => ?_)
    have j9 : ∀ (t9_0 : Int) (et9_0 : t9_0 = (if 0 ≤ q5.1 then 0 else 2 : Int)) (ht9_0 : knH t9_0), knJ G p l e { frames := 6, cells := 0, slots := 0, locals := 133 } s m args below meth c 1 0 0 (MQ below (knPo G (knC q.1) (some (knV q.1)) q.2) args s 0 0 (knA G)) 21 [] [knV t9_0] q5.2 := by
      intro t9_0 et9_0 ht9_0
      subst et9_0
      cases hf
      exact kj_iret X (knH_c ht9_0) hr dX13_notSettle_21 hlk
    refine kj_if_ge X (tgt := 20) dX13_notSettle_13 (by decide) h7 (fun h11 => ?_) (fun h11 => ?_)
    · refine kj_iconst X dX13_notSettle_20 ?_
      refine kj_sub (L' := []) [] rfl ?_
      exact j9 0 (by rw [if_pos h11]) (show knH (0) from ⟨by omega, by omega⟩)
    · refine kj_iconst X dX13_notSettle_16 ?_
      refine kj_goto X (tgt := 21) dX13_notSettle_17 (by decide) ?_
      refine kj_sub (L' := []) [] rfl ?_
      exact j9 2 (by rw [if_neg h11]) (show knH (2) from ⟨by omega, by omega⟩)
  · replace hf := knIp hf h4
    refine kj_iconst X dX13_notSettle_7 ?_
    cases hf
    exact kj_iret X (show knC (1) from ⟨by omega, by omega⟩) hr dX13_notSettle_8 hlk

def kfX13_settles_l18  (x1 : Int) (x2 : Int) (μ : knMem) (kc : (Int) → Option (Int × knMem)) : Nat → Int → Int → Option (Int × knMem)
  | 0, _, _ => none
  | n + 1, x3, x4 =>
    knGd ((0 : Int) ≤ 1 ∧ (1 : Int) < 50)
     (if (μ 143 1) ≤ x4 then
     kc x3
    else
     knGd (0 ≤ (knW (11 + x4)) ∧ (knW (11 + x4)) < 50)
      (Option.bind (α := Int)
      (if (μ 143 (knW (11 + x4))) ≤ 0 then
       some 0
      else
       knGd (0 ≤ (knW (7 + x4)) ∧ (knW (7 + x4)) < 50)
        (if (μ 143 (knW (7 + x4))) = x1 then
        some 1
       else
        some 0))
      (fun q19 =>
      kfX13_settles_l18  x1 x2 μ kc n (knW (x3 + q19)) (knW (x4 + 1)))))

def kfX13_settles_l86  (x1 : Int) (x2 : Int) (x3 : Int) (x4 : Int)  (kc : (knMem) → Option (Int × knMem)) : Nat → Int → knMem → Option (Int × knMem)
  | 0, _, _ => none
  | n + 1, x5, μ =>
    knGd ((0 : Int) ≤ 1 ∧ (1 : Int) < 50)
     (if (μ 143 1) ≤ x5 then
     kc μ
    else
     knGd (0 ≤ (knW (11 + x5)) ∧ (knW (11 + x5)) < 50)
      (Option.bind (α := knMem)
      (if (μ 143 (knW (11 + x5))) ≤ 0 then
       some μ
      else
       knGd (0 ≤ (knW (7 + x5)) ∧ (knW (7 + x5)) < 50)
        (if (μ 143 (knW (7 + x5))) = x1 then
        knGd (0 ≤ (knW (3 + x5)) ∧ (knW (3 + x5)) < 50)
         (some (knUp μ 143 (knW (3 + x5)) (knW ((μ 143 (knW (3 + x5))) + x4))))
       else
        some μ))
      (fun q40 =>
      knGd (0 ≤ (knW (7 + x5)) ∧ (knW (7 + x5)) < 50)
       (kfX13_settles_l86  x1 x2 x3 x4 kc n (knW (x5 + 1)) (knUp (knUp q40 143 (knW (11 + x5)) 0) 143 (knW (7 + x5)) 0)))))

def kfX13_settles  (μ : knMem) : Option (Int × knMem) :=
 Option.bind (kfX13_smallest  μ) (fun q1 =>
  Option.bind (kfX13_many q1.1 q1.2) (fun q4 =>
   Option.bind (kfX13_stakes  q1.2) (fun q7 =>
    kfX13_settles_l18 q4 q7 q1.2 (fun w25 =>
     Option.bind (α := Int)
      (if w25 = 0 then
       some 0
      else
       knGd (w25 ≠ 0)
        (some (knDiv q7 w25)))
      (fun q28 =>
      kfX13_settles_l86 q4 q7 w25 q28  (fun w50 =>
       knGd ((0 : Int) ≤ 2 ∧ (2 : Int) < 50)
        (some (w25, (knUp w50 143 2 (knW ((w50 143 2) + (knW (q7 - (knW (w25 * q28)))))))))) knF 0 q1.2)) knF 0 0)))

theorem knWvX13_settles : knWv yX13_settles cX13_settles 6 (some .int) 0 := ⟨(knGm 2012 (by decide +kernel) rfl), (knGm 124 (by decide +kernel) rfl), (knGm 2011 (by decide +kernel) rfl), (knGm 95 (by decide +kernel) rfl), by decide +kernel, by decide +kernel, by decide +kernel⟩
set_option maxHeartbeats 4000000 in
set_option maxRecDepth 100000 in
theorem kfX13_settles_l18_ok {q : Int × knMem} {kc : (Int) → Option (Int × knMem)} {G : knGT} {p : Program} {l : Launch} {e : Env} {s : State} {m : MethodId} {args : Array Value} {below : List Frame} {meth : Method} {c : Code} (X : knX p m c cX13_settles 6 s args yX13_settles.cls) (K : knK G s s.heap) (hr : meth.sig.returnType = (some .int)) (hlk : meth.locks = false) (x1 : Int) (x2 : Int) (hx1 : knC x1) (hx2 : knC x2) (μ : knMem) (hk : ∀ (y3 : Int) (hy3 : knC y3), kc y3 = some q → knJ G p l e { frames := 6, cells := 0, slots := 0, locals := 133 } s m args below meth c 6 0 0 (MQ below (knPo G (knC q.1) (some (knV q.1)) q.2) args s 0 0 (knA G)) 70 [(0, knO G 142), (1, knV x1), (2, knV x2), (3, knV y3)] [] μ) : ∀ (n : Nat) (x3 : Int) (hx3 : knC x3) (x4 : Int) (hx4 : knC x4) , kfX13_settles_l18  x1 x2 μ kc n x3 x4 = some q → knJ G p l e { frames := 6, cells := 0, slots := 0, locals := 133 } s m args below meth c 6 0 0 (MQ below (knPo G (knC q.1) (some (knV q.1)) q.2) args s 0 0 (knA G)) 18 [(0, knO G 142), (1, knV x1), (2, knV x2), (3, knV x3), (4, knV x4)] [] μ := by
  intro n
  induction n with
  | zero => intro x3 hx3 x4 hx4 hf; cases hf
  | succ n ih =>
    intro x3 hx3 x4 hx4 hf
    unfold kfX13_settles_l18 at hf
    refine kj_iload X 4 dX13_settles_18 rfl ?_
    refine kj_aloadn X 0 dX13_settles_20 rfl ?_
    refine kj_geto (k := 1) (o2 := 143) X K kdc_142 (by decide) (knEnt_10 kdc_142) rfl (by decide) knInX13 (knGm 1505 (by decide +kernel) rfl) rfl rfl dX13_settles_21 ?_
    refine kj_iconst X dX13_settles_24 ?_
    obtain ⟨h10, hf⟩ := knGd_inv hf
    refine kj_iald X K kdc_143 (show knC (1) from ⟨by omega, by omega⟩) lnc_143 h10 dX13_settles_25 (fun h11 => ?_)
    refine kj_ic_ge X (tgt := 70) dX13_settles_26 (by decide) hx4 h11 (fun h12 => ?_) (fun h12 => ?_)
    · replace hf := knIp hf h12
      refine kj_sub (L' := [(0, knO G 142), (1, knV x1), (2, knV x2), (3, knV x3)]) [0, 1, 2, 3] rfl ?_
      exact hk _ hx3 hf
    · replace hf := knIq hf h12
      refine kj_iloadn X 3 dX13_settles_29 rfl ?_
      refine kj_aloadn X 0 dX13_settles_30 rfl ?_
      refine kj_geto (k := 1) (o2 := 143) X K kdc_142 (by decide) (knEnt_10 kdc_142) rfl (by decide) knInX13 (knGm 1505 (by decide +kernel) rfl) rfl rfl dX13_settles_31 ?_
      refine kj_bipush X (n := 11) dX13_settles_34 rfl ?_
      refine kj_iload X 4 dX13_settles_36 rfl ?_
      refine kj_iadd X dX13_settles_38 ?_
      obtain ⟨h13, hf⟩ := knGd_inv hf
      refine kj_iald X K kdc_143 (knCw _) lnc_143 h13 dX13_settles_39 (fun h14 => ?_)
      have j19 : ∀ (t19_0 : Int) (ht19_0 : knZ t19_0), (fun q19 =>
       kfX13_settles_l18  x1 x2 μ kc n (knW (x3 + q19)) (knW (x4 + 1))) t19_0 = some q → knJ G p l e { frames := 6, cells := 0, slots := 0, locals := 133 } s m args below meth c 6 0 0 (MQ below (knPo G (knC q.1) (some (knV q.1)) q.2) args s 0 0 (knA G)) 62 [(0, knO G 142), (1, knV x1), (2, knV x2), (4, knV x4)] [knV t19_0, knV x3] μ := by
        intro t19_0 ht19_0
        intro hf
        refine kj_iadd X dX13_settles_62 ?_
        refine kj_istoren X (L' := [(3, knV (knW (x3 + t19_0))), (0, knO G 142), (1, knV x1), (2, knV x2), (4, knV x4)]) dX13_settles_63 (by decide) rfl ?_
        refine kj_iinc X 4 (L' := [(4, knV (knW (x4 + 1))), (3, knV (knW (x3 + t19_0))), (0, knO G 142), (1, knV x1), (2, knV x2)]) dX13_settles_64 rfl (by decide) rfl ?_
        refine kj_goto X (tgt := 18) dX13_settles_67 (by decide) ?_
        refine kj_sub (L' := [(0, knO G 142), (1, knV x1), (2, knV x2), (3, knV (knW (x3 + t19_0))), (4, knV (knW (x4 + 1)))]) [2, 3, 4, 1, 0] rfl ?_
        exact ih _ (knCw _) _ (knCw _)  hf
      obtain ⟨b20, hb20, hf⟩ := knBd_inv hf
      refine kj_if_le X (tgt := 61) dX13_settles_40 (by decide) h14 (fun h21 => ?_) (fun h21 => ?_)
      · replace hb20 := knIp hb20 h21
        refine kj_iconst X dX13_settles_61 ?_
        cases hb20
        refine kj_sub (L' := [(0, knO G 142), (1, knV x1), (2, knV x2), (4, knV x4)]) [0, 1, 2, 4] rfl ?_
        exact j19 _ (Or.inl rfl) hf
      · replace hb20 := knIq hb20 h21
        refine kj_aloadn X 0 dX13_settles_43 rfl ?_
        refine kj_geto (k := 1) (o2 := 143) X K kdc_142 (by decide) (knEnt_10 kdc_142) rfl (by decide) knInX13 (knGm 1505 (by decide +kernel) rfl) rfl rfl dX13_settles_44 ?_
        refine kj_bipush X (n := 7) dX13_settles_47 rfl ?_
        refine kj_iload X 4 dX13_settles_49 rfl ?_
        refine kj_iadd X dX13_settles_51 ?_
        obtain ⟨h22, hb20⟩ := knGd_inv hb20
        refine kj_iald X K kdc_143 (knCw _) lnc_143 h22 dX13_settles_52 (fun h23 => ?_)
        refine kj_iloadn X 1 dX13_settles_53 rfl ?_
        refine kj_ic_ne X (tgt := 61) dX13_settles_54 (by decide) h23 hx1 (fun h24 => ?_) (fun h24 => ?_)
        · replace hb20 := knIq hb20 h24
          refine kj_iconst X dX13_settles_61 ?_
          cases hb20
          refine kj_sub (L' := [(0, knO G 142), (1, knV x1), (2, knV x2), (4, knV x4)]) [0, 1, 2, 4] rfl ?_
          exact j19 _ (Or.inl rfl) hf
        · replace hb20 := knIp hb20 h24
          refine kj_iconst X dX13_settles_57 ?_
          refine kj_goto X (tgt := 62) dX13_settles_58 (by decide) ?_
          cases hb20
          refine kj_sub (L' := [(0, knO G 142), (1, knV x1), (2, knV x2), (4, knV x4)]) [0, 1, 2, 4] rfl ?_
          exact j19 _ (Or.inr rfl) hf

set_option maxHeartbeats 4000000 in
set_option maxRecDepth 100000 in
theorem kfX13_settles_l86_ok {q : Int × knMem} {kc : (knMem) → Option (Int × knMem)} {G : knGT} {p : Program} {l : Launch} {e : Env} {s : State} {m : MethodId} {args : Array Value} {below : List Frame} {meth : Method} {c : Code} (X : knX p m c cX13_settles 6 s args yX13_settles.cls) (K : knK G s s.heap) (hr : meth.sig.returnType = (some .int)) (hlk : meth.locks = false) (x1 : Int) (x2 : Int) (x3 : Int) (x4 : Int) (hx1 : knC x1) (hx2 : knC x2) (hx3 : knC x3) (hx4 : knC x4)  (hk : ∀ (μ1 : knMem), kc μ1 = some q → knJ G p l e { frames := 6, cells := 0, slots := 0, locals := 133 } s m args below meth c 6 0 0 (MQ below (knPo G (knC q.1) (some (knV q.1)) q.2) args s 0 0 (knA G)) 166 [(0, knO G 142), (2, knV x2), (3, knV x3), (4, knV x4)] [] μ1) : ∀ (n : Nat) (x5 : Int) (hx5 : knC x5) (μ : knMem), kfX13_settles_l86  x1 x2 x3 x4 kc n x5 μ = some q → knJ G p l e { frames := 6, cells := 0, slots := 0, locals := 133 } s m args below meth c 6 0 0 (MQ below (knPo G (knC q.1) (some (knV q.1)) q.2) args s 0 0 (knA G)) 86 [(0, knO G 142), (1, knV x1), (2, knV x2), (3, knV x3), (4, knV x4), (5, knV x5)] [] μ := by
  intro n
  induction n with
  | zero => intro x5 hx5 μ hf; cases hf
  | succ n ih =>
    intro x5 hx5 μ hf
    unfold kfX13_settles_l86 at hf
    refine kj_iload X 5 dX13_settles_86 rfl ?_
    refine kj_aloadn X 0 dX13_settles_88 rfl ?_
    refine kj_geto (k := 1) (o2 := 143) X K kdc_142 (by decide) (knEnt_10 kdc_142) rfl (by decide) knInX13 (knGm 1505 (by decide +kernel) rfl) rfl rfl dX13_settles_89 ?_
    refine kj_iconst X dX13_settles_92 ?_
    obtain ⟨h29, hf⟩ := knGd_inv hf
    refine kj_iald X K kdc_143 (show knC (1) from ⟨by omega, by omega⟩) lnc_143 h29 dX13_settles_93 (fun h30 => ?_)
    refine kj_ic_ge X (tgt := 166) dX13_settles_94 (by decide) hx5 h30 (fun h31 => ?_) (fun h31 => ?_)
    · replace hf := knIp hf h31
      refine kj_sub (L' := [(0, knO G 142), (2, knV x2), (3, knV x3), (4, knV x4)]) [0, 2, 3, 4] rfl ?_
      exact hk _ hf
    · replace hf := knIq hf h31
      refine kj_aloadn X 0 dX13_settles_97 rfl ?_
      refine kj_geto (k := 1) (o2 := 143) X K kdc_142 (by decide) (knEnt_10 kdc_142) rfl (by decide) knInX13 (knGm 1505 (by decide +kernel) rfl) rfl rfl dX13_settles_98 ?_
      refine kj_bipush X (n := 11) dX13_settles_101 rfl ?_
      refine kj_iload X 5 dX13_settles_103 rfl ?_
      refine kj_iadd X dX13_settles_105 ?_
      obtain ⟨h32, hf⟩ := knGd_inv hf
      refine kj_iald X K kdc_143 (knCw _) lnc_143 h32 dX13_settles_106 (fun h33 => ?_)
      have j40 : ∀ (m40 : knMem), (fun q40 =>
       knGd (0 ≤ (knW (7 + x5)) ∧ (knW (7 + x5)) < 50)
        (kfX13_settles_l86  x1 x2 x3 x4 kc n (knW (x5 + 1)) (knUp (knUp q40 143 (knW (11 + x5)) 0) 143 (knW (7 + x5)) 0))) m40 = some q → knJ G p l e { frames := 6, cells := 0, slots := 0, locals := 133 } s m args below meth c 6 0 0 (MQ below (knPo G (knC q.1) (some (knV q.1)) q.2) args s 0 0 (knA G)) 138 [(0, knO G 142), (1, knV x1), (2, knV x2), (3, knV x3), (4, knV x4), (5, knV x5)] [] m40 := by
        intro m40
        intro hf
        refine kj_aloadn X 0 dX13_settles_138 rfl ?_
        refine kj_geto (k := 1) (o2 := 143) X K kdc_142 (by decide) (knEnt_10 kdc_142) rfl (by decide) knInX13 (knGm 1505 (by decide +kernel) rfl) rfl rfl dX13_settles_139 ?_
        refine kj_bipush X (n := 11) dX13_settles_142 rfl ?_
        refine kj_iload X 5 dX13_settles_144 rfl ?_
        refine kj_iadd X dX13_settles_146 ?_
        refine kj_iconst X dX13_settles_147 ?_
        refine kj_iast X K kdc_143 (knCw _) (show knC (0) from ⟨by omega, by omega⟩) lnc_143 h32 dX13_settles_148 ?_
        refine kj_aloadn X 0 dX13_settles_149 rfl ?_
        refine kj_geto (k := 1) (o2 := 143) X K kdc_142 (by decide) (knEnt_10 kdc_142) rfl (by decide) knInX13 (knGm 1505 (by decide +kernel) rfl) rfl rfl dX13_settles_150 ?_
        refine kj_bipush X (n := 7) dX13_settles_153 rfl ?_
        refine kj_iload X 5 dX13_settles_155 rfl ?_
        refine kj_iadd X dX13_settles_157 ?_
        refine kj_iconst X dX13_settles_158 ?_
        obtain ⟨h42, hf⟩ := knGd_inv hf
        refine kj_iast X K kdc_143 (knCw _) (show knC (0) from ⟨by omega, by omega⟩) lnc_143 h42 dX13_settles_159 ?_
        refine kj_iinc X 5 (L' := [(5, knV (knW (x5 + 1))), (0, knO G 142), (1, knV x1), (2, knV x2), (3, knV x3), (4, knV x4)]) dX13_settles_160 rfl (by decide) rfl ?_
        refine kj_goto X (tgt := 86) dX13_settles_163 (by decide) ?_
        refine kj_sub (L' := [(0, knO G 142), (1, knV x1), (2, knV x2), (3, knV x3), (4, knV x4), (5, knV (knW (x5 + 1)))]) [1, 2, 3, 4, 5, 0] rfl ?_
        exact ih _ (knCw _) _ hf
      obtain ⟨b43, hb43, hf⟩ := knBd_inv hf
      refine kj_if_le X (tgt := 138) dX13_settles_107 (by decide) h33 (fun h44 => ?_) (fun h44 => ?_)
      · replace hb43 := knIp hb43 h44
        cases hb43
        refine kj_sub (L' := [(0, knO G 142), (1, knV x1), (2, knV x2), (3, knV x3), (4, knV x4), (5, knV x5)]) [0, 1, 2, 3, 4, 5] rfl ?_
        exact j40 _ hf
      · replace hb43 := knIq hb43 h44
        refine kj_aloadn X 0 dX13_settles_110 rfl ?_
        refine kj_geto (k := 1) (o2 := 143) X K kdc_142 (by decide) (knEnt_10 kdc_142) rfl (by decide) knInX13 (knGm 1505 (by decide +kernel) rfl) rfl rfl dX13_settles_111 ?_
        refine kj_bipush X (n := 7) dX13_settles_114 rfl ?_
        refine kj_iload X 5 dX13_settles_116 rfl ?_
        refine kj_iadd X dX13_settles_118 ?_
        obtain ⟨h45, hb43⟩ := knGd_inv hb43
        refine kj_iald X K kdc_143 (knCw _) lnc_143 h45 dX13_settles_119 (fun h46 => ?_)
        refine kj_iloadn X 1 dX13_settles_120 rfl ?_
        refine kj_ic_ne X (tgt := 138) dX13_settles_121 (by decide) h46 hx1 (fun h47 => ?_) (fun h47 => ?_)
        · replace hb43 := knIq hb43 h47
          cases hb43
          refine kj_sub (L' := [(0, knO G 142), (1, knV x1), (2, knV x2), (3, knV x3), (4, knV x4), (5, knV x5)]) [0, 1, 2, 3, 4, 5] rfl ?_
          exact j40 _ hf
        · replace hb43 := knIp hb43 h47
          refine kj_aloadn X 0 dX13_settles_124 rfl ?_
          refine kj_geto (k := 1) (o2 := 143) X K kdc_142 (by decide) (knEnt_10 kdc_142) rfl (by decide) knInX13 (knGm 1505 (by decide +kernel) rfl) rfl rfl dX13_settles_125 ?_
          refine kj_iconst X dX13_settles_128 ?_
          refine kj_iload X 5 dX13_settles_129 rfl ?_
          refine kj_iadd X dX13_settles_131 ?_
          refine kj_dup2 X dX13_settles_132 rfl rfl ?_
          obtain ⟨h48, hb43⟩ := knGd_inv hb43
          refine kj_iald X K kdc_143 (knCw _) lnc_143 h48 dX13_settles_133 (fun h49 => ?_)
          refine kj_iload X 4 dX13_settles_134 rfl ?_
          refine kj_iadd X dX13_settles_136 ?_
          refine kj_iast X K kdc_143 (knCw _) (knCw _) lnc_143 h48 dX13_settles_137 ?_
          cases hb43
          refine kj_sub (L' := [(0, knO G 142), (1, knV x1), (2, knV x2), (3, knV x3), (4, knV x4), (5, knV x5)]) [0, 1, 2, 3, 4, 5] rfl ?_
          exact j40 _ hf

set_option maxHeartbeats 4000000 in
set_option maxRecDepth 100000 in
theorem kcX13_settles {G : knGT} (l : Launch)   {μ : knMem} {q : Int × knMem} (hf : kfX13_settles  μ = some q) : knC0 G l yX13_settles cX13_settles 6 (some .int) 6 133 [knO G 142] μ (knC q.1) (some (knV q.1)) q.2 := by
  unfold kfX13_settles at hf
  refine kn_ofJ (plainFor_of_name (by decide)) (Nat.le_of_ble_eq_true rfl) (L := [(0, knO G 142)]) rfl ?_
  intro p e s m args below meth c X K hr hlk
  refine kj_aloadn X 0 dX13_settles_0 rfl ?_
  obtain ⟨q1, h2, hf⟩ := knBd_inv hf
  refine kj_callV (As := []) (rest := []) X K (kcX13_smallest l  h2) knWvX13_smallest (knGm 1953 (by decide +kernel) rfl) (by decide) (knKd_in kdc_142 (by decide)) (knEnt_10 kdc_142) rfl rfl rfl (Nat.le_of_ble_eq_true rfl) (by decide) dX13_settles_1 rfl (fun h3 => ?_)
  obtain ⟨q4, h5, hf⟩ := knBd_inv hf
  refine kj_callS (As := [knV q1.1]) (rest := []) X K (kcX13_many l h3 h5) knWkX13_many (knGm 1957 (by decide +kernel) rfl) (by decide)  rfl (Nat.le_of_ble_eq_true rfl) (by decide) dX13_settles_4 rfl (fun h6 => ?_)
  refine kj_istoren X (L' := [(1, knV q4), (0, knO G 142)]) dX13_settles_7 (by decide) rfl ?_
  refine kj_aloadn X 1 dX13_settles_8 rfl ?_
  obtain ⟨q7, h8, hf⟩ := knBd_inv hf
  refine kj_callV (As := []) (rest := []) X K (kcX13_stakes l  h8) knWvX13_stakes (knGm 2005 (by decide +kernel) rfl) (by decide) (knKd_in kdc_142 (by decide)) (knEnt_10 kdc_142) rfl rfl rfl (Nat.le_of_ble_eq_true rfl) (by decide) dX13_settles_9 rfl (fun h9 => ?_)
  refine kj_istoren X (L' := [(2, knV q7), (1, knV q4), (0, knO G 142)]) dX13_settles_12 (by decide) rfl ?_
  refine kj_iconst X dX13_settles_13 ?_
  refine kj_istoren X (L' := [(3, knV 0), (2, knV q7), (1, knV q4), (0, knO G 142)]) dX13_settles_14 (by decide) rfl ?_
  refine kj_iconst X dX13_settles_15 ?_
  refine kj_istore X (L' := [(4, knV 0), (3, knV 0), (2, knV q7), (1, knV q4), (0, knO G 142)]) dX13_settles_16 (by decide) rfl ?_
  refine kj_sub (L' := [(0, knO G 142), (1, knV q4), (2, knV q7), (3, knV 0), (4, knV 0)]) [4, 3, 2, 1, 0] rfl ?_
  refine kfX13_settles_l18_ok X K hr hlk q4 q7 h6 h9 q1.2 ?_ knF _ (show knC (0) from ⟨by omega, by omega⟩) _ (show knC (0) from ⟨by omega, by omega⟩)  hf
  intro w25_0 hw25_0
  intro hf
  refine kj_iloadn X 3 dX13_settles_70 rfl ?_
  have j65 : ∀ (t65_0 : Int) (ht65_0 : knC t65_0), (fun q65 =>
   kfX13_settles_l86 q4 q7 w25_0 q65  (fun w66 =>
    knGd ((0 : Int) ≤ 2 ∧ (2 : Int) < 50)
     (some (w25_0, (knUp w66 143 2 (knW ((w66 143 2) + (knW (q7 - (knW (w25_0 * q65)))))))))) knF 0 q1.2) t65_0 = some q → knJ G p l e { frames := 6, cells := 0, slots := 0, locals := 133 } s m args below meth c 6 0 0 (MQ below (knPo G (knC q.1) (some (knV q.1)) q.2) args s 0 0 (knA G)) 81 [(0, knO G 142), (1, knV q4), (2, knV q7), (3, knV w25_0)] [knV t65_0] q1.2 := by
    intro t65_0 ht65_0
    intro hf
    refine kj_istore X (L' := [(4, knV t65_0), (0, knO G 142), (1, knV q4), (2, knV q7), (3, knV w25_0)]) dX13_settles_81 (by decide) rfl ?_
    refine kj_iconst X dX13_settles_83 ?_
    refine kj_istore X (L' := [(5, knV 0), (4, knV t65_0), (0, knO G 142), (1, knV q4), (2, knV q7), (3, knV w25_0)]) dX13_settles_84 (by decide) rfl ?_
    refine kj_sub (L' := [(0, knO G 142), (1, knV q4), (2, knV q7), (3, knV w25_0), (4, knV t65_0), (5, knV 0)]) [2, 3, 4, 5, 1, 0] rfl ?_
    refine kfX13_settles_l86_ok X K hr hlk q4 q7 w25_0 t65_0 h6 h9 hw25_0 ht65_0  ?_ knF _ (show knC (0) from ⟨by omega, by omega⟩) _ hf
    intro w71_m
    intro hf
    refine kj_aloadn X 0 dX13_settles_166 rfl ?_
    refine kj_geto (k := 1) (o2 := 143) X K kdc_142 (by decide) (knEnt_10 kdc_142) rfl (by decide) knInX13 (knGm 1505 (by decide +kernel) rfl) rfl rfl dX13_settles_167 ?_
    refine kj_iconst X dX13_settles_170 ?_
    refine kj_dup2 X dX13_settles_171 rfl rfl ?_
    obtain ⟨h74, hf⟩ := knGd_inv hf
    refine kj_iald X K kdc_143 (show knC (2) from ⟨by omega, by omega⟩) lnc_143 h74 dX13_settles_172 (fun h75 => ?_)
    refine kj_iloadn X 1 dX13_settles_173 rfl ?_
    refine kj_iloadn X 2 dX13_settles_174 rfl ?_
    refine kj_iload X 3 dX13_settles_175 rfl ?_
    refine kj_imul X dX13_settles_177 ?_
    refine kj_isub X dX13_settles_178 ?_
    refine kj_iadd X dX13_settles_179 ?_
    refine kj_iast X K kdc_143 (show knC (2) from ⟨by omega, by omega⟩) (knCw _) lnc_143 h74 dX13_settles_180 ?_
    refine kj_iloadn X 2 dX13_settles_181 rfl ?_
    cases hf
    exact kj_iret X hw25_0 hr dX13_settles_182 hlk
  obtain ⟨b76, hb76, hf⟩ := knBd_inv hf
  refine kj_if_ne X (tgt := 78) dX13_settles_71 (by decide) hw25_0 (fun h77 => ?_) (fun h77 => ?_)
  · replace hb76 := knIq hb76 h77
    refine kj_iloadn X 2 dX13_settles_78 rfl ?_
    refine kj_iloadn X 3 dX13_settles_79 rfl ?_
    obtain ⟨h78, hb76⟩ := knGd_inv hb76
    refine kj_idiv X dX13_settles_80 hw25_0 h78 ?_
    cases hb76
    refine kj_sub (L' := [(0, knO G 142), (1, knV q4), (2, knV q7), (3, knV w25_0)]) [0, 1, 2, 3] rfl ?_
    exact j65 _ (knC_div _ _) hf
  · replace hb76 := knIp hb76 h77
    refine kj_iconst X dX13_settles_74 ?_
    refine kj_goto X (tgt := 81) dX13_settles_75 (by decide) ?_
    cases hb76
    refine kj_sub (L' := [(0, knO G 142), (1, knV q4), (2, knV q7), (3, knV w25_0)]) [0, 1, 2, 3] rfl ?_
    exact j65 _ (show knC (0) from ⟨by omega, by omega⟩) hf

def kfX13_settle  (μ : knMem) : Option (Int × knMem) :=
 Option.bind (kfX13_notSettle  (knUp μ 142 0 0)) (fun q1 =>
  if q1.1 = 0 then
   Option.bind (kfX13_remembers  q1.2) (fun q5 =>
    Option.bind (kfX13_settles  q5) (fun q8 =>
     some (q8.1, q8.2)))
  else
   Option.bind (kfX13_fails q1.1 q1.2) (fun q11 =>
    some (q11.1, q11.2)))

theorem knWvX13_settle : knWv yX13_settle cX13_settle 2 (some .int) 0 := ⟨(knGm 2000 (by decide +kernel) rfl), (knGm 124 (by decide +kernel) rfl), (knGm 1998 (by decide +kernel) rfl), (knGm 1999 (by decide +kernel) rfl), by decide +kernel, by decide +kernel, by decide +kernel⟩
set_option maxHeartbeats 4000000 in
set_option maxRecDepth 100000 in
theorem kcX13_settle {G : knGT} (l : Launch)   {μ : knMem} {q : Int × knMem} (hf : kfX13_settle  μ = some q) : knC0 G l yX13_settle cX13_settle 2 (some .int) 7 158 [knO G 142] μ (knC q.1) (some (knV q.1)) q.2 := by
  unfold kfX13_settle at hf
  refine kn_ofJ (plainFor_of_name (by decide)) (Nat.le_of_ble_eq_true rfl) (L := [(0, knO G 142)]) rfl ?_
  intro p e s m args below meth c X K hr hlk
  refine kj_aloadn X 0 dX13_settle_0 rfl ?_
  refine kj_iconst X dX13_settle_1 ?_
  refine kj_putf (k := 0) (ki := 0) (x := 0) (ty := .int) X K rfl (knKd_in kdc_142 (by decide)) (knEnt_10 kdc_142) rfl (by decide) knInX13 tyX13_ok nmX13 (knGm 1504 (by decide +kernel) rfl) rfl rfl (by decide +kernel) rfl rfl (by simp) (by rw [knEnt_10 kdc_142, knUp_row]; rfl) (fun _ => (show knC (0) from ⟨by omega, by omega⟩)) (fun h => by rw [kdc_142] at h; cases h) (fun h => by rw [kdc_142] at h; cases h) dX13_settle_2 ?_
  refine kj_aloadn X 0 dX13_settle_5 rfl ?_
  obtain ⟨q1, h2, hf⟩ := knBd_inv hf
  refine kj_callV (As := []) (rest := []) X K (kcX13_notSettle l  h2) knWvX13_notSettle (knGm 2001 (by decide +kernel) rfl) (by decide) (knKd_in kdc_142 (by decide)) (knEnt_10 kdc_142) rfl rfl rfl (Nat.le_of_ble_eq_true rfl) (by decide) dX13_settle_6 rfl (fun h3 => ?_)
  refine kj_istoren X (L' := [(1, knV q1.1), (0, knO G 142)]) dX13_settle_9 (by decide) rfl ?_
  refine kj_iloadn X 0 dX13_settle_10 rfl ?_
  refine kj_if_eq X (tgt := 20) dX13_settle_11 (by decide) h3 (fun h4 => ?_) (fun h4 => ?_)
  · replace hf := knIp hf h4
    refine kj_aloadn X 1 dX13_settle_20 rfl ?_
    obtain ⟨q5, h6, hf⟩ := knBd_inv hf
    refine kj_callV (As := []) (rest := []) X K (kcX13_remembers l  h6) knWvX13_remembers (knGm 1608 (by decide +kernel) rfl) (by decide) (knKd_in kdc_142 (by decide)) (knEnt_10 kdc_142) rfl rfl rfl (Nat.le_of_ble_eq_true rfl) (by decide) dX13_settle_21 rfl (fun h7 => ?_)
    refine kj_aloadn X 1 dX13_settle_24 rfl ?_
    obtain ⟨q8, h9, hf⟩ := knBd_inv hf
    refine kj_callV (As := []) (rest := []) X K (kcX13_settles l  h9) knWvX13_settles (knGm 2009 (by decide +kernel) rfl) (by decide) (knKd_in kdc_142 (by decide)) (knEnt_10 kdc_142) rfl rfl rfl (Nat.le_of_ble_eq_true rfl) (by decide) dX13_settle_25 rfl (fun h10 => ?_)
    cases hf
    exact kj_iret X h10 hr dX13_settle_28 hlk
  · replace hf := knIq hf h4
    refine kj_aloadn X 1 dX13_settle_14 rfl ?_
    refine kj_iloadn X 0 dX13_settle_15 rfl ?_
    obtain ⟨q11, h12, hf⟩ := knBd_inv hf
    refine kj_callV (As := [knV q1.1]) (rest := []) X K (kcX13_fails l h3 h12) knWvX13_fails (knGm 1604 (by decide +kernel) rfl) (by decide) (knKd_in kdc_142 (by decide)) (knEnt_10 kdc_142) rfl rfl rfl (Nat.le_of_ble_eq_true rfl) (by decide) dX13_settle_16 rfl (fun h13 => ?_)
    cases hf
    exact kj_iret X h13 hr dX13_settle_19 hlk

def kfX13_playerCount  (μ : knMem) : Option (Int × knMem) :=
 Option.bind (kfX13_asks 1 μ) (fun q1 =>
  some (q1.1, q1.2))

theorem knWvX13_playerCount : knWv yX13_playerCount cX13_playerCount 1 (some .int) 0 := ⟨(knGm 2016 (by decide +kernel) rfl), (knGm 124 (by decide +kernel) rfl), (knGm 2014 (by decide +kernel) rfl), (knGm 2015 (by decide +kernel) rfl), by decide +kernel, by decide +kernel, by decide +kernel⟩
set_option maxHeartbeats 4000000 in
set_option maxRecDepth 100000 in
theorem kcX13_playerCount {G : knGT} (l : Launch)   {μ : knMem} {q : Int × knMem} (hf : kfX13_playerCount  μ = some q) : knC0 G l yX13_playerCount cX13_playerCount 1 (some .int) 1 21 [knO G 142] μ (knC q.1) (some (knV q.1)) q.2 := by
  unfold kfX13_playerCount at hf
  refine kn_ofJ (plainFor_of_name (by decide)) (Nat.le_of_ble_eq_true rfl) (L := [(0, knO G 142)]) rfl ?_
  intro p e s m args below meth c X K hr hlk
  refine kj_aloadn X 0 dX13_playerCount_0 rfl ?_
  refine kj_iconst X dX13_playerCount_1 ?_
  obtain ⟨q1, h2, hf⟩ := knBd_inv hf
  refine kj_callV (As := [knV 1]) (rest := []) X K (kcX13_asks l (show knC (1) from ⟨by omega, by omega⟩) h2) knWvX13_asks (knGm 1772 (by decide +kernel) rfl) (by decide) (knKd_in kdc_142 (by decide)) (knEnt_10 kdc_142) rfl rfl rfl (Nat.le_of_ble_eq_true rfl) (by decide) dX13_playerCount_2 rfl (fun h3 => ?_)
  cases hf
  exact kj_iret X h3 hr dX13_playerCount_5 hlk

def kfX13_coins (a1 : Int) (μ : knMem) : Option (Int × knMem) :=
 Option.bind (kfX13_isPlayer a1 (knUp μ 142 0 0)) (fun q1 =>
  Option.bind (α := Int × knMem)
   (if q1 = 0 then
    Option.bind (kfX13_fails 1 (knUp μ 142 0 0)) (fun q13 =>
     some (q13.1, q13.2))
   else
    knGd (0 ≤ (knW (3 + a1)) ∧ (knW (3 + a1)) < 50)
     (some (((knUp μ 142 0 0) 143 (knW (3 + a1))), (knUp μ 142 0 0))))
   (fun q10 =>
   some (q10.1, q10.2)))

theorem knWvX13_coins : knWv yX13_coins cX13_coins 2 (some .int) 1 := ⟨(knGm 2020 (by decide +kernel) rfl), (knGm 124 (by decide +kernel) rfl), (knGm 2018 (by decide +kernel) rfl), (knGm 2019 (by decide +kernel) rfl), by decide +kernel, by decide +kernel, by decide +kernel⟩
set_option maxHeartbeats 4000000 in
set_option maxRecDepth 100000 in
theorem kcX13_coins {G : knGT} (l : Launch) {a1 : Int} (ha1 : knC a1) {μ : knMem} {q : Int × knMem} (hf : kfX13_coins a1 μ = some q) : knC0 G l yX13_coins cX13_coins 2 (some .int) 2 43 [knO G 142, knV a1] μ (knC q.1) (some (knV q.1)) q.2 := by
  unfold kfX13_coins at hf
  refine kn_ofJ (plainFor_of_name (by decide)) (Nat.le_of_ble_eq_true rfl) (L := [(0, knO G 142), (1, knV a1)]) rfl ?_
  intro p e s m args below meth c X K hr hlk
  refine kj_aloadn X 0 dX13_coins_0 rfl ?_
  refine kj_iconst X dX13_coins_1 ?_
  refine kj_putf (k := 0) (ki := 0) (x := 0) (ty := .int) X K rfl (knKd_in kdc_142 (by decide)) (knEnt_10 kdc_142) rfl (by decide) knInX13 tyX13_ok nmX13 (knGm 1504 (by decide +kernel) rfl) rfl rfl (by decide +kernel) rfl rfl (by simp) (by rw [knEnt_10 kdc_142, knUp_row]; rfl) (fun _ => (show knC (0) from ⟨by omega, by omega⟩)) (fun h => by rw [kdc_142] at h; cases h) (fun h => by rw [kdc_142] at h; cases h) dX13_coins_2 ?_
  refine kj_aloadn X 0 dX13_coins_5 rfl ?_
  refine kj_iloadn X 1 dX13_coins_6 rfl ?_
  obtain ⟨q1, h2, hf⟩ := knBd_inv hf
  refine kj_callV (As := [knV a1]) (rest := []) X K (kcX13_isPlayer l ha1 h2) knWvX13_isPlayer (knGm 1989 (by decide +kernel) rfl) (by decide) (knKd_in kdc_142 (by decide)) (knEnt_10 kdc_142) rfl rfl rfl (Nat.le_of_ble_eq_true rfl) (by decide) dX13_coins_7 rfl (fun h3 => ?_)
  have j10 : ∀ (t10_0 : Int) (ht10_0 : knC t10_0) (m10 : knMem), (fun q10 =>
   some (q10.1, q10.2)) (t10_0, m10) = some q → knJ G p l e { frames := 2, cells := 0, slots := 0, locals := 43 } s m args below meth c 2 0 0 (MQ below (knPo G (knC q.1) (some (knV q.1)) q.2) args s 0 0 (knA G)) 29 [] [knV t10_0] m10 := by
    intro t10_0 ht10_0 m10
    intro hf
    cases hf
    exact kj_iret X ht10_0 hr dX13_coins_29 hlk
  obtain ⟨b11, hb11, hf⟩ := knBd_inv hf
  refine kj_if_eq X (tgt := 24) dX13_coins_10 (by decide) (knZ_c h3) (fun h12 => ?_) (fun h12 => ?_)
  · replace hb11 := knIp hb11 h12
    refine kj_aloadn X 0 dX13_coins_24 rfl ?_
    refine kj_iconst X dX13_coins_25 ?_
    obtain ⟨q13, h14, hb11⟩ := knBd_inv hb11
    refine kj_callV (As := [knV 1]) (rest := []) X K (kcX13_fails l (show knC (1) from ⟨by omega, by omega⟩) h14) knWvX13_fails (knGm 1604 (by decide +kernel) rfl) (by decide) (knKd_in kdc_142 (by decide)) (knEnt_10 kdc_142) rfl rfl rfl (Nat.le_of_ble_eq_true rfl) (by decide) dX13_coins_26 rfl (fun h15 => ?_)
    cases hb11
    refine kj_sub (L' := []) [] rfl ?_
    exact j10 _ h15 _ hf
  · replace hb11 := knIq hb11 h12
    refine kj_aloadn X 0 dX13_coins_13 rfl ?_
    refine kj_geto (k := 1) (o2 := 143) X K kdc_142 (by decide) (knEnt_10 kdc_142) rfl (by decide) knInX13 (knGm 1505 (by decide +kernel) rfl) rfl rfl dX13_coins_14 ?_
    refine kj_iconst X dX13_coins_17 ?_
    refine kj_iloadn X 1 dX13_coins_18 rfl ?_
    refine kj_iadd X dX13_coins_19 ?_
    obtain ⟨h16, hb11⟩ := knGd_inv hb11
    refine kj_iald X K kdc_143 (knCw _) lnc_143 h16 dX13_coins_20 (fun h17 => ?_)
    refine kj_goto X (tgt := 29) dX13_coins_21 (by decide) ?_
    cases hb11
    refine kj_sub (L' := []) [] rfl ?_
    exact j10 _ h17 _ hf

def kfX13_guess (a1 : Int) (μ : knMem) : Option (Int × knMem) :=
 Option.bind (kfX13_isPlayer a1 (knUp μ 142 0 0)) (fun q1 =>
  if q1 = 0 then
   Option.bind (kfX13_fails 1 (knUp μ 142 0 0)) (fun q21 =>
    some (q21.1, q21.2))
  else
   knGd (0 ≤ (knW (11 + a1)) ∧ (knW (11 + a1)) < 50)
    (Option.bind (α := Int × knMem)
    (if ((knUp μ 142 0 0) 143 (knW (11 + a1))) ≤ 0 then
     Option.bind (kfX13_fails 2 (knUp μ 142 0 0)) (fun q16 =>
      some (q16.1, q16.2))
    else
     knGd (0 ≤ (knW (7 + a1)) ∧ (knW (7 + a1)) < 50)
      (some (((knUp μ 142 0 0) 143 (knW (7 + a1))), (knUp μ 142 0 0))))
    (fun q13 =>
    some (q13.1, q13.2))))

theorem knWvX13_guess : knWv yX13_guess cX13_guess 2 (some .int) 1 := ⟨(knGm 2024 (by decide +kernel) rfl), (knGm 124 (by decide +kernel) rfl), (knGm 2022 (by decide +kernel) rfl), (knGm 2023 (by decide +kernel) rfl), by decide +kernel, by decide +kernel, by decide +kernel⟩
set_option maxHeartbeats 4000000 in
set_option maxRecDepth 100000 in
theorem kcX13_guess {G : knGT} (l : Launch) {a1 : Int} (ha1 : knC a1) {μ : knMem} {q : Int × knMem} (hf : kfX13_guess a1 μ = some q) : knC0 G l yX13_guess cX13_guess 2 (some .int) 2 43 [knO G 142, knV a1] μ (knC q.1) (some (knV q.1)) q.2 := by
  unfold kfX13_guess at hf
  refine kn_ofJ (plainFor_of_name (by decide)) (Nat.le_of_ble_eq_true rfl) (L := [(0, knO G 142), (1, knV a1)]) rfl ?_
  intro p e s m args below meth c X K hr hlk
  refine kj_aloadn X 0 dX13_guess_0 rfl ?_
  refine kj_iconst X dX13_guess_1 ?_
  refine kj_putf (k := 0) (ki := 0) (x := 0) (ty := .int) X K rfl (knKd_in kdc_142 (by decide)) (knEnt_10 kdc_142) rfl (by decide) knInX13 tyX13_ok nmX13 (knGm 1504 (by decide +kernel) rfl) rfl rfl (by decide +kernel) rfl rfl (by simp) (by rw [knEnt_10 kdc_142, knUp_row]; rfl) (fun _ => (show knC (0) from ⟨by omega, by omega⟩)) (fun h => by rw [kdc_142] at h; cases h) (fun h => by rw [kdc_142] at h; cases h) dX13_guess_2 ?_
  refine kj_aloadn X 0 dX13_guess_5 rfl ?_
  refine kj_iloadn X 1 dX13_guess_6 rfl ?_
  obtain ⟨q1, h2, hf⟩ := knBd_inv hf
  refine kj_callV (As := [knV a1]) (rest := []) X K (kcX13_isPlayer l ha1 h2) knWvX13_isPlayer (knGm 1989 (by decide +kernel) rfl) (by decide) (knKd_in kdc_142 (by decide)) (knEnt_10 kdc_142) rfl rfl rfl (Nat.le_of_ble_eq_true rfl) (by decide) dX13_guess_7 rfl (fun h3 => ?_)
  refine kj_if_ne X (tgt := 19) dX13_guess_10 (by decide) (knZ_c h3) (fun h4 => ?_) (fun h4 => ?_)
  · replace hf := knIq hf h4
    refine kj_aloadn X 0 dX13_guess_19 rfl ?_
    refine kj_geto (k := 1) (o2 := 143) X K kdc_142 (by decide) (knEnt_10 kdc_142) rfl (by decide) knInX13 (knGm 1505 (by decide +kernel) rfl) rfl rfl dX13_guess_20 ?_
    refine kj_bipush X (n := 11) dX13_guess_23 rfl ?_
    refine kj_iloadn X 1 dX13_guess_25 rfl ?_
    refine kj_iadd X dX13_guess_26 ?_
    obtain ⟨h5, hf⟩ := knGd_inv hf
    refine kj_iald X K kdc_143 (knCw _) lnc_143 h5 dX13_guess_27 (fun h6 => ?_)
    have j13 : ∀ (t13_0 : Int) (ht13_0 : knC t13_0) (m13 : knMem), (fun q13 =>
     some (q13.1, q13.2)) (t13_0, m13) = some q → knJ G p l e { frames := 2, cells := 0, slots := 0, locals := 43 } s m args below meth c 2 0 0 (MQ below (knPo G (knC q.1) (some (knV q.1)) q.2) args s 0 0 (knA G)) 48 [] [knV t13_0] m13 := by
      intro t13_0 ht13_0 m13
      intro hf
      cases hf
      exact kj_iret X ht13_0 hr dX13_guess_48 hlk
    obtain ⟨b14, hb14, hf⟩ := knBd_inv hf
    refine kj_if_le X (tgt := 43) dX13_guess_28 (by decide) h6 (fun h15 => ?_) (fun h15 => ?_)
    · replace hb14 := knIp hb14 h15
      refine kj_aloadn X 0 dX13_guess_43 rfl ?_
      refine kj_iconst X dX13_guess_44 ?_
      obtain ⟨q16, h17, hb14⟩ := knBd_inv hb14
      refine kj_callV (As := [knV 2]) (rest := []) X K (kcX13_fails l (show knC (2) from ⟨by omega, by omega⟩) h17) knWvX13_fails (knGm 1604 (by decide +kernel) rfl) (by decide) (knKd_in kdc_142 (by decide)) (knEnt_10 kdc_142) rfl rfl rfl (Nat.le_of_ble_eq_true rfl) (by decide) dX13_guess_45 rfl (fun h18 => ?_)
      cases hb14
      refine kj_sub (L' := []) [] rfl ?_
      exact j13 _ h18 _ hf
    · replace hb14 := knIq hb14 h15
      refine kj_aloadn X 0 dX13_guess_31 rfl ?_
      refine kj_geto (k := 1) (o2 := 143) X K kdc_142 (by decide) (knEnt_10 kdc_142) rfl (by decide) knInX13 (knGm 1505 (by decide +kernel) rfl) rfl rfl dX13_guess_32 ?_
      refine kj_bipush X (n := 7) dX13_guess_35 rfl ?_
      refine kj_iloadn X 1 dX13_guess_37 rfl ?_
      refine kj_iadd X dX13_guess_38 ?_
      obtain ⟨h19, hb14⟩ := knGd_inv hb14
      refine kj_iald X K kdc_143 (knCw _) lnc_143 h19 dX13_guess_39 (fun h20 => ?_)
      refine kj_goto X (tgt := 48) dX13_guess_40 (by decide) ?_
      cases hb14
      refine kj_sub (L' := []) [] rfl ?_
      exact j13 _ h20 _ hf
  · replace hf := knIp hf h4
    refine kj_aloadn X 0 dX13_guess_13 rfl ?_
    refine kj_iconst X dX13_guess_14 ?_
    obtain ⟨q21, h22, hf⟩ := knBd_inv hf
    refine kj_callV (As := [knV 1]) (rest := []) X K (kcX13_fails l (show knC (1) from ⟨by omega, by omega⟩) h22) knWvX13_fails (knGm 1604 (by decide +kernel) rfl) (by decide) (knKd_in kdc_142 (by decide)) (knEnt_10 kdc_142) rfl rfl rfl (Nat.le_of_ble_eq_true rfl) (by decide) dX13_guess_15 rfl (fun h23 => ?_)
    cases hf
    exact kj_iret X h23 hr dX13_guess_18 hlk

def kfX13_pot  (μ : knMem) : Option (Int × knMem) :=
 Option.bind (kfX13_stakes  (knUp μ 142 0 0)) (fun q1 =>
  some (q1, (knUp μ 142 0 0)))

theorem knWvX13_pot : knWv yX13_pot cX13_pot 1 (some .int) 0 := ⟨(knGm 2028 (by decide +kernel) rfl), (knGm 124 (by decide +kernel) rfl), (knGm 2026 (by decide +kernel) rfl), (knGm 2027 (by decide +kernel) rfl), by decide +kernel, by decide +kernel, by decide +kernel⟩
set_option maxHeartbeats 4000000 in
set_option maxRecDepth 100000 in
theorem kcX13_pot {G : knGT} (l : Launch)   {μ : knMem} {q : Int × knMem} (hf : kfX13_pot  μ = some q) : knC0 G l yX13_pot cX13_pot 1 (some .int) 1 22 [knO G 142] μ (knC q.1) (some (knV q.1)) q.2 := by
  unfold kfX13_pot at hf
  refine kn_ofJ (plainFor_of_name (by decide)) (Nat.le_of_ble_eq_true rfl) (L := [(0, knO G 142)]) rfl ?_
  intro p e s m args below meth c X K hr hlk
  refine kj_aloadn X 0 dX13_pot_0 rfl ?_
  refine kj_iconst X dX13_pot_1 ?_
  refine kj_putf (k := 0) (ki := 0) (x := 0) (ty := .int) X K rfl (knKd_in kdc_142 (by decide)) (knEnt_10 kdc_142) rfl (by decide) knInX13 tyX13_ok nmX13 (knGm 1504 (by decide +kernel) rfl) rfl rfl (by decide +kernel) rfl rfl (by simp) (by rw [knEnt_10 kdc_142, knUp_row]; rfl) (fun _ => (show knC (0) from ⟨by omega, by omega⟩)) (fun h => by rw [kdc_142] at h; cases h) (fun h => by rw [kdc_142] at h; cases h) dX13_pot_2 ?_
  refine kj_aloadn X 0 dX13_pot_5 rfl ?_
  obtain ⟨q1, h2, hf⟩ := knBd_inv hf
  refine kj_callV (As := []) (rest := []) X K (kcX13_stakes l  h2) knWvX13_stakes (knGm 2005 (by decide +kernel) rfl) (by decide) (knKd_in kdc_142 (by decide)) (knEnt_10 kdc_142) rfl rfl rfl (Nat.le_of_ble_eq_true rfl) (by decide) dX13_pot_6 rfl (fun h3 => ?_)
  cases hf
  exact kj_iret X h3 hr dX13_pot_9 hlk

def kfX13_house  (μ : knMem) : Option (Int × knMem) :=
 Option.bind (kfX13_asks 2 μ) (fun q1 =>
  some (q1.1, q1.2))

theorem knWvX13_house : knWv yX13_house cX13_house 1 (some .int) 0 := ⟨(knGm 2032 (by decide +kernel) rfl), (knGm 124 (by decide +kernel) rfl), (knGm 2030 (by decide +kernel) rfl), (knGm 2031 (by decide +kernel) rfl), by decide +kernel, by decide +kernel, by decide +kernel⟩
set_option maxHeartbeats 4000000 in
set_option maxRecDepth 100000 in
theorem kcX13_house {G : knGT} (l : Launch)   {μ : knMem} {q : Int × knMem} (hf : kfX13_house  μ = some q) : knC0 G l yX13_house cX13_house 1 (some .int) 1 21 [knO G 142] μ (knC q.1) (some (knV q.1)) q.2 := by
  unfold kfX13_house at hf
  refine kn_ofJ (plainFor_of_name (by decide)) (Nat.le_of_ble_eq_true rfl) (L := [(0, knO G 142)]) rfl ?_
  intro p e s m args below meth c X K hr hlk
  refine kj_aloadn X 0 dX13_house_0 rfl ?_
  refine kj_iconst X dX13_house_1 ?_
  obtain ⟨q1, h2, hf⟩ := knBd_inv hf
  refine kj_callV (As := [knV 2]) (rest := []) X K (kcX13_asks l (show knC (2) from ⟨by omega, by omega⟩) h2) knWvX13_asks (knGm 1772 (by decide +kernel) rfl) (by decide) (knKd_in kdc_142 (by decide)) (knEnt_10 kdc_142) rfl rfl rfl (Nat.le_of_ble_eq_true rfl) (by decide) dX13_house_2 rfl (fun h3 => ?_)
  cases hf
  exact kj_iret X h3 hr dX13_house_5 hlk

def kfX13_playerByCoins_l22  (x1 : Int) (x2 : Int) (μ : knMem) (kc : (Int) → Option (Int × knMem)) : Nat → Int → Int → Option (Int × knMem)
  | 0, _, _ => none
  | n + 1, x3, x4 =>
    knGd ((0 : Int) ≤ 1 ∧ (1 : Int) < 50)
     (if (μ 143 1) ≤ x4 then
     kc x3
    else
     knGd (0 ≤ (knW (3 + x4)) ∧ (knW (3 + x4)) < 50)
      (knGd (0 ≤ (knW (3 + x2)) ∧ (knW (3 + x2)) < 50)
      (Option.bind (α := Int)
      (if 0 < (knW ((μ 143 (knW (3 + x4))) - (μ 143 (knW (3 + x2))))) then
       some 1
      else
       (fun (k23 : (Unit) → Option (Int)) =>
        if (knW ((μ 143 (knW (3 + x4))) - (μ 143 (knW (3 + x2))))) = 0 then
         if x2 ≤ x4 then
          k23 ()
         else
          some 1
        else
         k23 ())
        (fun _ =>
        some 0))
      (fun q18 =>
      kfX13_playerByCoins_l22  x1 x2 μ kc n (knW (x3 + q18)) (knW (x4 + 1))))))

def kfX13_playerByCoins_l7  (x1 : Int) (μ : knMem) (kc : (Unit) → Option (Int × knMem)) : Nat → Int → Option (Int × knMem)
  | 0, _ => none
  | n + 1, x2 =>
    knGd ((0 : Int) ≤ 1 ∧ (1 : Int) < 50)
     (if (μ 143 1) ≤ x2 then
     kc ()
    else
     kfX13_playerByCoins_l22 x1 x2 μ (fun w27 =>
      if w27 = x1 then
       some (x2, μ)
      else
       kfX13_playerByCoins_l7  x1 μ kc n (knW (x2 + 1))) knF 0 0)

def kfX13_playerByCoins (a1 : Int) (μ : knMem) : Option (Int × knMem) :=
 kfX13_playerByCoins_l7 a1 (knUp μ 142 0 0) (fun _ =>
  Option.bind (kfX13_fails 1 (knUp μ 142 0 0)) (fun q31 =>
   some (q31.1, q31.2))) knF 0

theorem knWvX13_playerByCoins : knWv yX13_playerByCoins cX13_playerByCoins 6 (some .int) 1 := ⟨(knGm 2036 (by decide +kernel) rfl), (knGm 124 (by decide +kernel) rfl), (knGm 2034 (by decide +kernel) rfl), (knGm 2035 (by decide +kernel) rfl), by decide +kernel, by decide +kernel, by decide +kernel⟩
set_option maxHeartbeats 4000000 in
set_option maxRecDepth 100000 in
theorem kfX13_playerByCoins_l22_ok {q : Int × knMem} {kc : (Int) → Option (Int × knMem)} {G : knGT} {p : Program} {l : Launch} {e : Env} {s : State} {m : MethodId} {args : Array Value} {below : List Frame} {meth : Method} {c : Code} (X : knX p m c cX13_playerByCoins 6 s args yX13_playerByCoins.cls) (K : knK G s s.heap) (hr : meth.sig.returnType = (some .int)) (hlk : meth.locks = false) (x1 : Int) (x2 : Int) (hx1 : knC x1) (hx2 : knC x2) (μ : knMem) (hk : ∀ (y3 : Int) (hy3 : knC y3), kc y3 = some q → knJ G p l e { frames := 1, cells := 0, slots := 0, locals := 21 } s m args below meth c 6 0 0 (MQ below (knPo G (knC q.1) (some (knV q.1)) q.2) args s 0 0 (knA G)) 83 [(0, knO G 142), (1, knV x1), (2, knV x2), (3, knV y3)] [] μ) : ∀ (n : Nat) (x3 : Int) (hx3 : knC x3) (x4 : Int) (hx4 : knC x4) , kfX13_playerByCoins_l22  x1 x2 μ kc n x3 x4 = some q → knJ G p l e { frames := 1, cells := 0, slots := 0, locals := 21 } s m args below meth c 6 0 0 (MQ below (knPo G (knC q.1) (some (knV q.1)) q.2) args s 0 0 (knA G)) 22 [(0, knO G 142), (1, knV x1), (2, knV x2), (3, knV x3), (4, knV x4)] [] μ := by
  intro n
  induction n with
  | zero => intro x3 hx3 x4 hx4 hf; cases hf
  | succ n ih =>
    intro x3 hx3 x4 hx4 hf
    unfold kfX13_playerByCoins_l22 at hf
    refine kj_iload X 4 dX13_playerByCoins_22 rfl ?_
    refine kj_aloadn X 0 dX13_playerByCoins_24 rfl ?_
    refine kj_geto (k := 1) (o2 := 143) X K kdc_142 (by decide) (knEnt_10 kdc_142) rfl (by decide) knInX13 (knGm 1505 (by decide +kernel) rfl) rfl rfl dX13_playerByCoins_25 ?_
    refine kj_iconst X dX13_playerByCoins_28 ?_
    obtain ⟨h4, hf⟩ := knGd_inv hf
    refine kj_iald X K kdc_143 (show knC (1) from ⟨by omega, by omega⟩) lnc_143 h4 dX13_playerByCoins_29 (fun h5 => ?_)
    refine kj_ic_ge X (tgt := 83) dX13_playerByCoins_30 (by decide) hx4 h5 (fun h6 => ?_) (fun h6 => ?_)
    · replace hf := knIp hf h6
      refine kj_sub (L' := [(0, knO G 142), (1, knV x1), (2, knV x2), (3, knV x3)]) [0, 1, 2, 3] rfl ?_
      exact hk _ hx3 hf
    · replace hf := knIq hf h6
      refine kj_aloadn X 0 dX13_playerByCoins_33 rfl ?_
      refine kj_geto (k := 1) (o2 := 143) X K kdc_142 (by decide) (knEnt_10 kdc_142) rfl (by decide) knInX13 (knGm 1505 (by decide +kernel) rfl) rfl rfl dX13_playerByCoins_34 ?_
      refine kj_iconst X dX13_playerByCoins_37 ?_
      refine kj_iload X 4 dX13_playerByCoins_38 rfl ?_
      refine kj_iadd X dX13_playerByCoins_40 ?_
      obtain ⟨h7, hf⟩ := knGd_inv hf
      refine kj_iald X K kdc_143 (knCw _) lnc_143 h7 dX13_playerByCoins_41 (fun h8 => ?_)
      refine kj_aloadn X 0 dX13_playerByCoins_42 rfl ?_
      refine kj_geto (k := 1) (o2 := 143) X K kdc_142 (by decide) (knEnt_10 kdc_142) rfl (by decide) knInX13 (knGm 1505 (by decide +kernel) rfl) rfl rfl dX13_playerByCoins_43 ?_
      refine kj_iconst X dX13_playerByCoins_46 ?_
      refine kj_iloadn X 2 dX13_playerByCoins_47 rfl ?_
      refine kj_iadd X dX13_playerByCoins_48 ?_
      obtain ⟨h9, hf⟩ := knGd_inv hf
      refine kj_iald X K kdc_143 (knCw _) lnc_143 h9 dX13_playerByCoins_49 (fun h10 => ?_)
      refine kj_isub X dX13_playerByCoins_50 ?_
      refine kj_istore X (L' := [(5, knV (knW ((μ 143 (knW (3 + x4))) - (μ 143 (knW (3 + x2)))))), (0, knO G 142), (1, knV x1), (2, knV x2), (3, knV x3), (4, knV x4)]) dX13_playerByCoins_51 (by decide) rfl ?_
      refine kj_iloadn X 4 dX13_playerByCoins_53 rfl ?_
      refine kj_iload X 0 dX13_playerByCoins_54 rfl ?_
      have j18 : ∀ (t18_0 : Int) (ht18_0 : knZ t18_0), (fun q18 =>
       kfX13_playerByCoins_l22  x1 x2 μ kc n (knW (x3 + q18)) (knW (x4 + 1))) t18_0 = some q → knJ G p l e { frames := 1, cells := 0, slots := 0, locals := 21 } s m args below meth c 6 0 0 (MQ below (knPo G (knC q.1) (some (knV q.1)) q.2) args s 0 0 (knA G)) 75 [(0, knO G 142), (1, knV x1), (2, knV x2), (4, knV x4)] [knV t18_0, knV x3] μ := by
        intro t18_0 ht18_0
        intro hf
        refine kj_iadd X dX13_playerByCoins_75 ?_
        refine kj_istoren X (L' := [(3, knV (knW (x3 + t18_0))), (0, knO G 142), (1, knV x1), (2, knV x2), (4, knV x4)]) dX13_playerByCoins_76 (by decide) rfl ?_
        refine kj_iinc X 4 (L' := [(4, knV (knW (x4 + 1))), (3, knV (knW (x3 + t18_0))), (0, knO G 142), (1, knV x1), (2, knV x2)]) dX13_playerByCoins_77 rfl (by decide) rfl ?_
        refine kj_goto X (tgt := 22) dX13_playerByCoins_80 (by decide) ?_
        refine kj_sub (L' := [(0, knO G 142), (1, knV x1), (2, knV x2), (3, knV (knW (x3 + t18_0))), (4, knV (knW (x4 + 1)))]) [2, 3, 4, 1, 0] rfl ?_
        exact ih _ (knCw _) _ (knCw _)  hf
      obtain ⟨b19, hb19, hf⟩ := knBd_inv hf
      refine kj_if_gt X (tgt := 70) dX13_playerByCoins_56 (by decide) (knCw _) (fun h20 => ?_) (fun h20 => ?_)
      · replace hb19 := knIp hb19 h20
        refine kj_iconst X dX13_playerByCoins_70 ?_
        refine kj_goto X (tgt := 75) dX13_playerByCoins_71 (by decide) ?_
        cases hb19
        refine kj_sub (L' := [(0, knO G 142), (1, knV x1), (2, knV x2), (4, knV x4)]) [1, 2, 3, 5] rfl ?_
        exact j18 _ (Or.inr rfl) hf
      · replace hb19 := knIq hb19 h20
        refine kj_iload X 0 dX13_playerByCoins_59 rfl ?_
        have j23 : (fun _ =>
         some 0) () = some b19 → knJ G p l e { frames := 1, cells := 0, slots := 0, locals := 21 } s m args below meth c 6 0 0 (MQ below (knPo G (knC q.1) (some (knV q.1)) q.2) args s 0 0 (knA G)) 74 [(0, knO G 142), (1, knV x1), (2, knV x2), (4, knV x4)] [knV x3] μ := by
          intro hb19
          refine kj_iconst X dX13_playerByCoins_74 ?_
          cases hb19
          refine kj_sub (L' := [(0, knO G 142), (1, knV x1), (2, knV x2), (4, knV x4)]) [0, 1, 2, 3] rfl ?_
          exact j18 _ (Or.inl rfl) hf
        refine kj_if_ne X (tgt := 74) dX13_playerByCoins_61 (by decide) (knCw _) (fun h25 => ?_) (fun h25 => ?_)
        · replace hb19 := knIq hb19 h25
          refine kj_sub (L' := [(0, knO G 142), (1, knV x1), (2, knV x2), (4, knV x4)]) [1, 2, 3, 5] rfl ?_
          exact j23  hb19
        · replace hb19 := knIp hb19 h25
          refine kj_iload X 5 dX13_playerByCoins_64 rfl ?_
          refine kj_iloadn X 3 dX13_playerByCoins_66 rfl ?_
          refine kj_ic_ge X (tgt := 74) dX13_playerByCoins_67 (by decide) hx4 hx2 (fun h26 => ?_) (fun h26 => ?_)
          · replace hb19 := knIp hb19 h26
            refine kj_sub (L' := [(0, knO G 142), (1, knV x1), (2, knV x2), (4, knV x4)]) [1, 2, 3, 5] rfl ?_
            exact j23  hb19
          · replace hb19 := knIq hb19 h26
            refine kj_iconst X dX13_playerByCoins_70 ?_
            refine kj_goto X (tgt := 75) dX13_playerByCoins_71 (by decide) ?_
            cases hb19
            refine kj_sub (L' := [(0, knO G 142), (1, knV x1), (2, knV x2), (4, knV x4)]) [1, 2, 3, 5] rfl ?_
            exact j18 _ (Or.inr rfl) hf

set_option maxHeartbeats 4000000 in
set_option maxRecDepth 100000 in
theorem kfX13_playerByCoins_l7_ok {q : Int × knMem} {kc : (Unit) → Option (Int × knMem)} {G : knGT} {p : Program} {l : Launch} {e : Env} {s : State} {m : MethodId} {args : Array Value} {below : List Frame} {meth : Method} {c : Code} (X : knX p m c cX13_playerByCoins 6 s args yX13_playerByCoins.cls) (K : knK G s s.heap) (hr : meth.sig.returnType = (some .int)) (hlk : meth.locks = false) (x1 : Int) (hx1 : knC x1) (μ : knMem) (hk : kc () = some q → knJ G p l e { frames := 1, cells := 0, slots := 0, locals := 21 } s m args below meth c 6 0 0 (MQ below (knPo G (knC q.1) (some (knV q.1)) q.2) args s 0 0 (knA G)) 96 [(0, knO G 142)] [] μ) : ∀ (n : Nat) (x2 : Int) (hx2 : knC x2) , kfX13_playerByCoins_l7  x1 μ kc n x2 = some q → knJ G p l e { frames := 1, cells := 0, slots := 0, locals := 21 } s m args below meth c 6 0 0 (MQ below (knPo G (knC q.1) (some (knV q.1)) q.2) args s 0 0 (knA G)) 7 [(0, knO G 142), (1, knV x1), (2, knV x2)] [] μ := by
  intro n
  induction n with
  | zero => intro x2 hx2 hf; cases hf
  | succ n ih =>
    intro x2 hx2 hf
    unfold kfX13_playerByCoins_l7 at hf
    refine kj_iloadn X 2 dX13_playerByCoins_7 rfl ?_
    refine kj_aloadn X 0 dX13_playerByCoins_8 rfl ?_
    refine kj_geto (k := 1) (o2 := 143) X K kdc_142 (by decide) (knEnt_10 kdc_142) rfl (by decide) knInX13 (knGm 1505 (by decide +kernel) rfl) rfl rfl dX13_playerByCoins_9 ?_
    refine kj_iconst X dX13_playerByCoins_12 ?_
    obtain ⟨h1, hf⟩ := knGd_inv hf
    refine kj_iald X K kdc_143 (show knC (1) from ⟨by omega, by omega⟩) lnc_143 h1 dX13_playerByCoins_13 (fun h2 => ?_)
    refine kj_ic_ge X (tgt := 96) dX13_playerByCoins_14 (by decide) hx2 h2 (fun h3 => ?_) (fun h3 => ?_)
    · replace hf := knIp hf h3
      refine kj_sub (L' := [(0, knO G 142)]) [0] rfl ?_
      exact hk  hf
    · replace hf := knIq hf h3
      refine kj_iconst X dX13_playerByCoins_17 ?_
      refine kj_istoren X (L' := [(3, knV 0), (0, knO G 142), (1, knV x1), (2, knV x2)]) dX13_playerByCoins_18 (by decide) rfl ?_
      refine kj_iconst X dX13_playerByCoins_19 ?_
      refine kj_istore X (L' := [(4, knV 0), (3, knV 0), (0, knO G 142), (1, knV x1), (2, knV x2)]) dX13_playerByCoins_20 (by decide) rfl ?_
      refine kj_sub (L' := [(0, knO G 142), (1, knV x1), (2, knV x2), (3, knV 0), (4, knV 0)]) [2, 3, 4, 1, 0] rfl ?_
      refine kfX13_playerByCoins_l22_ok X K hr hlk x1 x2 hx1 hx2 μ ?_ knF _ (show knC (0) from ⟨by omega, by omega⟩) _ (show knC (0) from ⟨by omega, by omega⟩)  hf
      intro w27_0 hw27_0
      intro hf
      refine kj_iloadn X 3 dX13_playerByCoins_83 rfl ?_
      refine kj_iloadn X 1 dX13_playerByCoins_84 rfl ?_
      refine kj_ic_ne X (tgt := 90) dX13_playerByCoins_85 (by decide) hw27_0 hx1 (fun h29 => ?_) (fun h29 => ?_)
      · replace hf := knIq hf h29
        refine kj_iinc X 2 (L' := [(2, knV (knW (x2 + 1))), (0, knO G 142), (1, knV x1), (3, knV w27_0)]) dX13_playerByCoins_90 rfl (by decide) rfl ?_
        refine kj_goto X (tgt := 7) dX13_playerByCoins_93 (by decide) ?_
        refine kj_sub (L' := [(0, knO G 142), (1, knV x1), (2, knV (knW (x2 + 1)))]) [1, 2, 0] rfl ?_
        exact ih _ (knCw _)  hf
      · replace hf := knIp hf h29
        refine kj_iloadn X 2 dX13_playerByCoins_88 rfl ?_
        cases hf
        exact kj_iret X hx2 hr dX13_playerByCoins_89 hlk

set_option maxHeartbeats 4000000 in
set_option maxRecDepth 100000 in
theorem kcX13_playerByCoins {G : knGT} (l : Launch) {a1 : Int} (ha1 : knC a1) {μ : knMem} {q : Int × knMem} (hf : kfX13_playerByCoins a1 μ = some q) : knC0 G l yX13_playerByCoins cX13_playerByCoins 6 (some .int) 1 21 [knO G 142, knV a1] μ (knC q.1) (some (knV q.1)) q.2 := by
  unfold kfX13_playerByCoins at hf
  refine kn_ofJ (plainFor_of_name (by decide)) (Nat.le_of_ble_eq_true rfl) (L := [(0, knO G 142), (1, knV a1)]) rfl ?_
  intro p e s m args below meth c X K hr hlk
  refine kj_aloadn X 0 dX13_playerByCoins_0 rfl ?_
  refine kj_iconst X dX13_playerByCoins_1 ?_
  refine kj_putf (k := 0) (ki := 0) (x := 0) (ty := .int) X K rfl (knKd_in kdc_142 (by decide)) (knEnt_10 kdc_142) rfl (by decide) knInX13 tyX13_ok nmX13 (knGm 1504 (by decide +kernel) rfl) rfl rfl (by decide +kernel) rfl rfl (by simp) (by rw [knEnt_10 kdc_142, knUp_row]; rfl) (fun _ => (show knC (0) from ⟨by omega, by omega⟩)) (fun h => by rw [kdc_142] at h; cases h) (fun h => by rw [kdc_142] at h; cases h) dX13_playerByCoins_2 ?_
  refine kj_iconst X dX13_playerByCoins_5 ?_
  refine kj_istoren X (L' := [(2, knV 0), (0, knO G 142), (1, knV a1)]) dX13_playerByCoins_6 (by decide) rfl ?_
  refine kj_sub (L' := [(0, knO G 142), (1, knV a1), (2, knV 0)]) [1, 2, 0] rfl ?_
  refine kfX13_playerByCoins_l7_ok X K hr hlk a1 ha1 (knUp μ 142 0 0) ?_ knF _ (show knC (0) from ⟨by omega, by omega⟩)  hf
  intro hf
  refine kj_aloadn X 0 dX13_playerByCoins_96 rfl ?_
  refine kj_iconst X dX13_playerByCoins_97 ?_
  obtain ⟨q34, h35, hf⟩ := knBd_inv hf
  refine kj_callV (As := [knV 1]) (rest := []) X K (kcX13_fails l (show knC (1) from ⟨by omega, by omega⟩) h35) knWvX13_fails (knGm 1604 (by decide +kernel) rfl) (by decide) (knKd_in kdc_142 (by decide)) (knEnt_10 kdc_142) rfl rfl rfl (Nat.le_of_ble_eq_true rfl) (by decide) dX13_playerByCoins_98 rfl (fun h36 => ?_)
  cases hf
  exact kj_iret X h36 hr dX13_playerByCoins_101 hlk

def kfX13_isConsistent_l19   (μ : knMem) (kc : (Int) → Option (Int × knMem)) : Nat → Int → Int → Option (Int × knMem)
  | 0, _, _ => none
  | n + 1, x1, x2 =>
    knGd ((0 : Int) ≤ 1 ∧ (1 : Int) < 50)
     (if (μ 143 1) ≤ x2 then
     kc x1
    else
     knGd (0 ≤ (knW (3 + x2)) ∧ (knW (3 + x2)) < 50)
      (kfX13_isConsistent_l19   μ kc n (knW (x1 + (μ 143 (knW (3 + x2))))) (knW (x2 + 1))))

def kfX13_isConsistent  (μ : knMem) : Option (Int × knMem) :=
 Option.bind (kfX13_stakes  (knUp μ 142 0 0)) (fun q1 =>
  knGd ((0 : Int) ≤ 2 ∧ (2 : Int) < 50)
   (kfX13_isConsistent_l19  (knUp μ 142 0 0) (fun w11 =>
   knGd ((0 : Int) ≤ 1 ∧ (1 : Int) < 50)
    ((fun (k19 : (knMem) → Option (Int × knMem)) =>
    if w11 = (knW (100 * ((knUp μ 142 0 0) 143 1))) then
     Option.bind (kfX13_coloured 3 (knUp μ 142 0 0)) (fun q22 =>
      if (knRem q22.1 3) = 0 then
       some (1, q22.2)
      else
       k19 q22.2)
    else
     k19 (knUp μ 142 0 0))
    (fun q19 =>
    some (0, q19)))) knF (knW (q1 + ((knUp μ 142 0 0) 143 2))) 0))

theorem knWvX13_isConsistent : knWv yX13_isConsistent cX13_isConsistent 3 (some .boolean) 0 := ⟨(knGm 2044 (by decide +kernel) rfl), (knGm 124 (by decide +kernel) rfl), (knGm 2042 (by decide +kernel) rfl), (knGm 2043 (by decide +kernel) rfl), by decide +kernel, by decide +kernel, by decide +kernel⟩
set_option maxHeartbeats 4000000 in
set_option maxRecDepth 100000 in
theorem kfX13_isConsistent_l19_ok {q : Int × knMem} {kc : (Int) → Option (Int × knMem)} {G : knGT} {p : Program} {l : Launch} {e : Env} {s : State} {m : MethodId} {args : Array Value} {below : List Frame} {meth : Method} {c : Code} (X : knX p m c cX13_isConsistent 3 s args yX13_isConsistent.cls) (K : knK G s s.heap) (hr : meth.sig.returnType = (some .boolean)) (hlk : meth.locks = false)   (μ : knMem) (hk : ∀ (y1 : Int) (hy1 : knC y1), kc y1 = some q → knJ G p l e { frames := 4, cells := 0, slots := 0, locals := 96 } s m args below meth c 3 0 0 (MQ below (knPo G (knZ q.1) (some (knV q.1)) q.2) args s 0 0 (knA G)) 46 [(0, knO G 142), (1, knV y1)] [] μ) : ∀ (n : Nat) (x1 : Int) (hx1 : knC x1) (x2 : Int) (hx2 : knC x2) , kfX13_isConsistent_l19   μ kc n x1 x2 = some q → knJ G p l e { frames := 4, cells := 0, slots := 0, locals := 96 } s m args below meth c 3 0 0 (MQ below (knPo G (knZ q.1) (some (knV q.1)) q.2) args s 0 0 (knA G)) 19 [(0, knO G 142), (1, knV x1), (2, knV x2)] [] μ := by
  intro n
  induction n with
  | zero => intro x1 hx1 x2 hx2 hf; cases hf
  | succ n ih =>
    intro x1 hx1 x2 hx2 hf
    unfold kfX13_isConsistent_l19 at hf
    refine kj_iloadn X 2 dX13_isConsistent_19 rfl ?_
    refine kj_aloadn X 0 dX13_isConsistent_20 rfl ?_
    refine kj_geto (k := 1) (o2 := 143) X K kdc_142 (by decide) (knEnt_10 kdc_142) rfl (by decide) knInX13 (knGm 1505 (by decide +kernel) rfl) rfl rfl dX13_isConsistent_21 ?_
    refine kj_iconst X dX13_isConsistent_24 ?_
    obtain ⟨h6, hf⟩ := knGd_inv hf
    refine kj_iald X K kdc_143 (show knC (1) from ⟨by omega, by omega⟩) lnc_143 h6 dX13_isConsistent_25 (fun h7 => ?_)
    refine kj_ic_ge X (tgt := 46) dX13_isConsistent_26 (by decide) hx2 h7 (fun h8 => ?_) (fun h8 => ?_)
    · replace hf := knIp hf h8
      refine kj_sub (L' := [(0, knO G 142), (1, knV x1)]) [0, 1] rfl ?_
      exact hk _ hx1 hf
    · replace hf := knIq hf h8
      refine kj_iloadn X 1 dX13_isConsistent_29 rfl ?_
      refine kj_aloadn X 0 dX13_isConsistent_30 rfl ?_
      refine kj_geto (k := 1) (o2 := 143) X K kdc_142 (by decide) (knEnt_10 kdc_142) rfl (by decide) knInX13 (knGm 1505 (by decide +kernel) rfl) rfl rfl dX13_isConsistent_31 ?_
      refine kj_iconst X dX13_isConsistent_34 ?_
      refine kj_iloadn X 2 dX13_isConsistent_35 rfl ?_
      refine kj_iadd X dX13_isConsistent_36 ?_
      obtain ⟨h9, hf⟩ := knGd_inv hf
      refine kj_iald X K kdc_143 (knCw _) lnc_143 h9 dX13_isConsistent_37 (fun h10 => ?_)
      refine kj_iadd X dX13_isConsistent_38 ?_
      refine kj_istoren X (L' := [(1, knV (knW (x1 + (μ 143 (knW (3 + x2)))))), (0, knO G 142), (2, knV x2)]) dX13_isConsistent_39 (by decide) rfl ?_
      refine kj_iinc X 2 (L' := [(2, knV (knW (x2 + 1))), (1, knV (knW (x1 + (μ 143 (knW (3 + x2)))))), (0, knO G 142)]) dX13_isConsistent_40 rfl (by decide) rfl ?_
      refine kj_goto X (tgt := 19) dX13_isConsistent_43 (by decide) ?_
      refine kj_sub (L' := [(0, knO G 142), (1, knV (knW (x1 + (μ 143 (knW (3 + x2)))))), (2, knV (knW (x2 + 1)))]) [2, 1, 0] rfl ?_
      exact ih _ (knCw _) _ (knCw _)  hf

set_option maxHeartbeats 4000000 in
set_option maxRecDepth 100000 in
theorem kcX13_isConsistent {G : knGT} (l : Launch)   {μ : knMem} {q : Int × knMem} (hf : kfX13_isConsistent  μ = some q) : knC0 G l yX13_isConsistent cX13_isConsistent 3 (some .boolean) 4 96 [knO G 142] μ (knZ q.1) (some (knV q.1)) q.2 := by
  unfold kfX13_isConsistent at hf
  refine kn_ofJ (plainFor_of_name (by decide)) (Nat.le_of_ble_eq_true rfl) (L := [(0, knO G 142)]) rfl ?_
  intro p e s m args below meth c X K hr hlk
  refine kj_aloadn X 0 dX13_isConsistent_0 rfl ?_
  refine kj_iconst X dX13_isConsistent_1 ?_
  refine kj_putf (k := 0) (ki := 0) (x := 0) (ty := .int) X K rfl (knKd_in kdc_142 (by decide)) (knEnt_10 kdc_142) rfl (by decide) knInX13 tyX13_ok nmX13 (knGm 1504 (by decide +kernel) rfl) rfl rfl (by decide +kernel) rfl rfl (by simp) (by rw [knEnt_10 kdc_142, knUp_row]; rfl) (fun _ => (show knC (0) from ⟨by omega, by omega⟩)) (fun h => by rw [kdc_142] at h; cases h) (fun h => by rw [kdc_142] at h; cases h) dX13_isConsistent_2 ?_
  refine kj_aloadn X 0 dX13_isConsistent_5 rfl ?_
  obtain ⟨q1, h2, hf⟩ := knBd_inv hf
  refine kj_callV (As := []) (rest := []) X K (kcX13_stakes l  h2) knWvX13_stakes (knGm 2005 (by decide +kernel) rfl) (by decide) (knKd_in kdc_142 (by decide)) (knEnt_10 kdc_142) rfl rfl rfl (Nat.le_of_ble_eq_true rfl) (by decide) dX13_isConsistent_6 rfl (fun h3 => ?_)
  refine kj_aloadn X 0 dX13_isConsistent_9 rfl ?_
  refine kj_geto (k := 1) (o2 := 143) X K kdc_142 (by decide) (knEnt_10 kdc_142) rfl (by decide) knInX13 (knGm 1505 (by decide +kernel) rfl) rfl rfl dX13_isConsistent_10 ?_
  refine kj_iconst X dX13_isConsistent_13 ?_
  obtain ⟨h4, hf⟩ := knGd_inv hf
  refine kj_iald X K kdc_143 (show knC (2) from ⟨by omega, by omega⟩) lnc_143 h4 dX13_isConsistent_14 (fun h5 => ?_)
  refine kj_iadd X dX13_isConsistent_15 ?_
  refine kj_istoren X (L' := [(1, knV (knW (q1 + ((knUp μ 142 0 0) 143 2)))), (0, knO G 142)]) dX13_isConsistent_16 (by decide) rfl ?_
  refine kj_iconst X dX13_isConsistent_17 ?_
  refine kj_istoren X (L' := [(2, knV 0), (1, knV (knW (q1 + ((knUp μ 142 0 0) 143 2)))), (0, knO G 142)]) dX13_isConsistent_18 (by decide) rfl ?_
  refine kj_sub (L' := [(0, knO G 142), (1, knV (knW (q1 + ((knUp μ 142 0 0) 143 2)))), (2, knV 0)]) [2, 1, 0] rfl ?_
  refine kfX13_isConsistent_l19_ok X K hr hlk   (knUp μ 142 0 0) ?_ knF _ (knCw _) _ (show knC (0) from ⟨by omega, by omega⟩)  hf
  intro w11_0 hw11_0
  intro hf
  refine kj_iloadn X 1 dX13_isConsistent_46 rfl ?_
  refine kj_bipush X (n := 100) dX13_isConsistent_47 rfl ?_
  refine kj_aloadn X 0 dX13_isConsistent_49 rfl ?_
  refine kj_geto (k := 1) (o2 := 143) X K kdc_142 (by decide) (knEnt_10 kdc_142) rfl (by decide) knInX13 (knGm 1505 (by decide +kernel) rfl) rfl rfl dX13_isConsistent_50 ?_
  refine kj_iconst X dX13_isConsistent_53 ?_
  obtain ⟨h26, hf⟩ := knGd_inv hf
  refine kj_iald X K kdc_143 (show knC (1) from ⟨by omega, by omega⟩) lnc_143 h26 dX13_isConsistent_54 (fun h27 => ?_)
  refine kj_imul X dX13_isConsistent_55 ?_
  have j33 : ∀ (m33 : knMem), (fun q33 =>
   some (0, q33)) m33 = some q → knJ G p l e { frames := 4, cells := 0, slots := 0, locals := 96 } s m args below meth c 3 0 0 (MQ below (knPo G (knZ q.1) (some (knV q.1)) q.2) args s 0 0 (knA G)) 73 [] [] m33 := by
    intro m33
    intro hf
    refine kj_iconst X dX13_isConsistent_73 ?_
    cases hf
    exact kj_zret X (Or.inl rfl) hr (kn_nb (Or.inl rfl)) dX13_isConsistent_74 hlk
  refine kj_ic_ne X (tgt := 73) dX13_isConsistent_56 (by decide) hw11_0 (knCw _) (fun h35 => ?_) (fun h35 => ?_)
  · replace hf := knIq hf h35
    refine kj_sub (L' := []) [] rfl ?_
    exact j33 _ hf
  · replace hf := knIp hf h35
    refine kj_aloadn X 0 dX13_isConsistent_59 rfl ?_
    refine kj_iconst X dX13_isConsistent_60 ?_
    obtain ⟨q36, h37, hf⟩ := knBd_inv hf
    refine kj_callV (As := [knV 3]) (rest := []) X K (kcX13_coloured l (show knC (3) from ⟨by omega, by omega⟩) h37) knWvX13_coloured (knGm 1848 (by decide +kernel) rfl) (by decide) (knKd_in kdc_142 (by decide)) (knEnt_10 kdc_142) rfl rfl rfl (Nat.le_of_ble_eq_true rfl) (by decide) dX13_isConsistent_61 rfl (fun h38 => ?_)
    refine kj_iconst X dX13_isConsistent_64 ?_
    refine kj_irem X dX13_isConsistent_65 (show knC (3) from ⟨by omega, by omega⟩) (by decide) ?_
    refine kj_if_ne X (tgt := 73) dX13_isConsistent_66 (by decide) (knC_rem _ _) (fun h39 => ?_) (fun h39 => ?_)
    · replace hf := knIq hf h39
      refine kj_sub (L' := []) [] rfl ?_
      exact j33 _ hf
    · replace hf := knIp hf h39
      refine kj_iconst X dX13_isConsistent_69 ?_
      refine kj_goto X (tgt := 74) dX13_isConsistent_70 (by decide) ?_
      cases hf
      exact kj_zret X (Or.inr rfl) hr (kn_nb (Or.inr rfl)) dX13_isConsistent_74 hlk

def kfX13_writes (a1 : Int) (μ : knMem) : Option (knMem) :=
 knGd (0 ≤ (μ 142 19) ∧ (μ 142 19) < 300)
  (some (knUp (knUp μ 156 (μ 142 19) (knNc (knI2c a1))) 142 19 (knW (((knUp μ 156 (μ 142 19) (knNc (knI2c a1))) 142 19) + 1))))

theorem knWvX13_writes : knWv yX13_writes cX13_writes 2 none 1 := ⟨(knGm 2052 (by decide +kernel) rfl), (knGm 124 (by decide +kernel) rfl), (knGm 2051 (by decide +kernel) rfl), (knGm 96 (by decide +kernel) rfl), by decide +kernel, by decide +kernel, by decide +kernel⟩
set_option maxHeartbeats 4000000 in
set_option maxRecDepth 100000 in
theorem kcX13_writes {G : knGT} (l : Launch) {a1 : Int} (ha1 : knC a1) {μ : knMem} {q : knMem} (hf : kfX13_writes a1 μ = some q) : knC0 G l yX13_writes cX13_writes 2 none 0 0 [knO G 142, knV a1] μ True none q := by
  unfold kfX13_writes at hf
  refine kn_ofJ (plainFor_of_name (by decide)) (Nat.le_of_ble_eq_true rfl) (L := [(0, knO G 142), (1, knV a1)]) rfl ?_
  intro p e s m args below meth c X K hr hlk
  refine kj_aloadn X 0 dX13_writes_0 rfl ?_
  refine kj_geto (k := 18) (o2 := 156) X K kdc_142 (by decide) (knEnt_10 kdc_142) rfl (by decide) knInX13 (knGm 1522 (by decide +kernel) rfl) rfl rfl dX13_writes_1 ?_
  refine kj_aloadn X 0 dX13_writes_4 rfl ?_
  refine kj_geti (k := 19) (ki := 19) X K rfl kdc_142 (by decide) (knEnt_10 kdc_142) rfl (by decide) knInX13 (knGm 1523 (by decide +kernel) rfl) rfl rfl dX13_writes_5 (fun h1 => ?_)
  refine kj_iloadn X 1 dX13_writes_8 rfl ?_
  refine kj_i2c X dX13_writes_9 ?_
  obtain ⟨h2, hf⟩ := knGd_inv hf
  refine kj_cast X K kdc_156 h1 lnc_156 h2 dX13_writes_10 ?_
  refine kj_aloadn X 0 dX13_writes_11 rfl ?_
  refine kj_dup X dX13_writes_12 rfl ?_
  refine kj_geti (k := 19) (ki := 19) X K rfl kdc_142 (by decide) (knEnt_10 kdc_142) rfl (by decide) knInX13 (knGm 1523 (by decide +kernel) rfl) rfl rfl dX13_writes_13 (fun h3 => ?_)
  refine kj_iconst X dX13_writes_16 ?_
  refine kj_iadd X dX13_writes_17 ?_
  refine kj_putf (k := 19) (ki := 19) (x := (knW (((knUp μ 156 (μ 142 19) (knNc (knI2c a1))) 142 19) + 1))) (ty := .int) X K rfl (knKd_in kdc_142 (by decide)) (knEnt_10 kdc_142) rfl (by decide) knInX13 tyX13_ok nmX13 (knGm 1523 (by decide +kernel) rfl) rfl rfl (by decide +kernel) rfl rfl (by simp) (by rw [knEnt_10 kdc_142, knUp_row]; rfl) (fun _ => (knCw _)) (fun h => by rw [kdc_142] at h; cases h) (fun h => by rw [kdc_142] at h; cases h) dX13_writes_18 ?_
  cases hf
  exact kj_vret X trivial hr dX13_writes_21 hlk

def kfX13_writesNumber_l23  (x2 : Int) (μ : knMem) (kc : (Int) → Option (knMem)) : Nat → Int → Option (knMem)
  | 0, _ => none
  | n + 1, x3 =>
    knGd (x3 ≠ 0)
     (if (knDiv x2 x3) ≤ 9 then
     kc x3
    else
     kfX13_writesNumber_l23  x2 μ kc n (knW (x3 * 10)))

def kfX13_writesNumber_l42  (x2 : Int)  (kc : (knMem) → Option (knMem)) : Nat → Int → knMem → Option (knMem)
  | 0, _, _ => none
  | n + 1, x4, μ =>
    if x4 ≤ 0 then
     kc μ
    else
     knGd (x4 ≠ 0)
      (Option.bind (kfX13_writes (knW (48 + (knRem (knDiv x2 x4) 10))) μ) (fun q14 =>
      kfX13_writesNumber_l42  x2 kc n (knDiv x4 10) q14))

def kfX13_writesNumber (a1 : Int) (μ : knMem) : Option (knMem) :=
 Option.bind (α := knMem)
  (if 0 ≤ a1 then
   some μ
  else
   Option.bind (kfX13_writes 45 μ) (fun q29 =>
    some q29))
  (fun q5 =>
  kfX13_writesNumber_l23 (if 0 ≤ a1 then a1 else (knW (-a1)) : Int) q5 (fun w11 =>
   kfX13_writesNumber_l42 (if 0 ≤ a1 then a1 else (knW (-a1)) : Int)  (fun w17 =>
    some w17) knF w11 q5) knF 1)

theorem knWvX13_writesNumber : knWv yX13_writesNumber cX13_writesNumber 5 none 1 := ⟨(knGm 2056 (by decide +kernel) rfl), (knGm 124 (by decide +kernel) rfl), (knGm 2055 (by decide +kernel) rfl), (knGm 97 (by decide +kernel) rfl), by decide +kernel, by decide +kernel, by decide +kernel⟩
set_option maxHeartbeats 4000000 in
set_option maxRecDepth 100000 in
theorem kfX13_writesNumber_l23_ok {q : knMem} {kc : (Int) → Option (knMem)} {G : knGT} {p : Program} {l : Launch} {e : Env} {s : State} {m : MethodId} {args : Array Value} {below : List Frame} {meth : Method} {c : Code} (X : knX p m c cX13_writesNumber 5 s args yX13_writesNumber.cls) (K : knK G s s.heap) (hr : meth.sig.returnType = none) (hlk : meth.locks = false) (x2 : Int) (hx2 : knC x2) (μ : knMem) (hk : ∀ (y3 : Int) (hy3 : knC y3), kc y3 = some q → knJ G p l e { frames := 1, cells := 0, slots := 0, locals := 21 } s m args below meth c 5 0 0 (MQ below (knPo G True none q) args s 0 0 (knA G)) 39 [(0, knO G 142), (2, knV x2), (3, knV y3)] [] μ) : ∀ (n : Nat) (x3 : Int) (hx3 : knC x3) , kfX13_writesNumber_l23  x2 μ kc n x3 = some q → knJ G p l e { frames := 1, cells := 0, slots := 0, locals := 21 } s m args below meth c 5 0 0 (MQ below (knPo G True none q) args s 0 0 (knA G)) 23 [(0, knO G 142), (2, knV x2), (3, knV x3)] [] μ := by
  intro n
  induction n with
  | zero => intro x3 hx3 hf; cases hf
  | succ n ih =>
    intro x3 hx3 hf
    unfold kfX13_writesNumber_l23 at hf
    refine kj_iloadn X 1 dX13_writesNumber_23 rfl ?_
    refine kj_iloadn X 2 dX13_writesNumber_24 rfl ?_
    obtain ⟨h9, hf⟩ := knGd_inv hf
    refine kj_idiv X dX13_writesNumber_25 hx3 h9 ?_
    refine kj_bipush X (n := 9) dX13_writesNumber_26 rfl ?_
    refine kj_ic_le X (tgt := 39) dX13_writesNumber_28 (by decide) (knC_div _ _) (show knC (9) from ⟨by omega, by omega⟩) (fun h10 => ?_) (fun h10 => ?_)
    · replace hf := knIp hf h10
      refine kj_sub (L' := [(0, knO G 142), (2, knV x2), (3, knV x3)]) [0, 1, 2] rfl ?_
      exact hk _ hx3 hf
    · replace hf := knIq hf h10
      refine kj_iloadn X 2 dX13_writesNumber_31 rfl ?_
      refine kj_bipush X (n := 10) dX13_writesNumber_32 rfl ?_
      refine kj_imul X dX13_writesNumber_34 ?_
      refine kj_istoren X (L' := [(3, knV (knW (x3 * 10))), (0, knO G 142), (2, knV x2)]) dX13_writesNumber_35 (by decide) rfl ?_
      refine kj_goto X (tgt := 23) dX13_writesNumber_36 (by decide) ?_
      refine kj_sub (L' := [(0, knO G 142), (2, knV x2), (3, knV (knW (x3 * 10)))]) [1, 2, 0] rfl ?_
      exact ih _ (knCw _)  hf

set_option maxHeartbeats 4000000 in
set_option maxRecDepth 100000 in
theorem kfX13_writesNumber_l42_ok {q : knMem} {kc : (knMem) → Option (knMem)} {G : knGT} {p : Program} {l : Launch} {e : Env} {s : State} {m : MethodId} {args : Array Value} {below : List Frame} {meth : Method} {c : Code} (X : knX p m c cX13_writesNumber 5 s args yX13_writesNumber.cls) (K : knK G s s.heap) (hr : meth.sig.returnType = none) (hlk : meth.locks = false) (x2 : Int) (hx2 : knC x2)  (hk : ∀ (μ1 : knMem), kc μ1 = some q → knJ G p l e { frames := 1, cells := 0, slots := 0, locals := 21 } s m args below meth c 5 0 0 (MQ below (knPo G True none q) args s 0 0 (knA G)) 71 [] [] μ1) : ∀ (n : Nat) (x4 : Int) (hx4 : knC x4) (μ : knMem), kfX13_writesNumber_l42  x2 kc n x4 μ = some q → knJ G p l e { frames := 1, cells := 0, slots := 0, locals := 21 } s m args below meth c 5 0 0 (MQ below (knPo G True none q) args s 0 0 (knA G)) 42 [(0, knO G 142), (2, knV x2), (4, knV x4)] [] μ := by
  intro n
  induction n with
  | zero => intro x4 hx4 μ hf; cases hf
  | succ n ih =>
    intro x4 hx4 μ hf
    unfold kfX13_writesNumber_l42 at hf
    refine kj_iload X 2 dX13_writesNumber_42 rfl ?_
    refine kj_if_le X (tgt := 71) dX13_writesNumber_44 (by decide) hx4 (fun h12 => ?_) (fun h12 => ?_)
    · replace hf := knIp hf h12
      refine kj_sub (L' := []) [] rfl ?_
      exact hk _ hf
    · replace hf := knIq hf h12
      refine kj_aloadn X 0 dX13_writesNumber_47 rfl ?_
      refine kj_bipush X (n := 48) dX13_writesNumber_48 rfl ?_
      refine kj_iloadn X 1 dX13_writesNumber_50 rfl ?_
      refine kj_iload X 2 dX13_writesNumber_51 rfl ?_
      obtain ⟨h13, hf⟩ := knGd_inv hf
      refine kj_idiv X dX13_writesNumber_53 hx4 h13 ?_
      refine kj_bipush X (n := 10) dX13_writesNumber_54 rfl ?_
      refine kj_irem X dX13_writesNumber_56 (show knC (10) from ⟨by omega, by omega⟩) (by decide) ?_
      refine kj_iadd X dX13_writesNumber_57 ?_
      obtain ⟨q14, h15, hf⟩ := knBd_inv hf
      refine kj_callV (As := [knV (knW (48 + (knRem (knDiv x2 x4) 10)))]) (rest := []) X K (kcX13_writes l (knCw _) h15) knWvX13_writes (knGm 2049 (by decide +kernel) rfl) (by decide) (knKd_in kdc_142 (by decide)) (knEnt_10 kdc_142) rfl rfl rfl (Nat.le_of_ble_eq_true rfl) (by decide) dX13_writesNumber_58 rfl (fun h16 => ?_)
      refine kj_iload X 2 dX13_writesNumber_61 rfl ?_
      refine kj_bipush X (n := 10) dX13_writesNumber_63 rfl ?_
      refine kj_idiv X dX13_writesNumber_65 (show knC (10) from ⟨by omega, by omega⟩) (by decide) ?_
      refine kj_istore X (L' := [(4, knV (knDiv x4 10)), (0, knO G 142), (2, knV x2)]) dX13_writesNumber_66 (by decide) rfl ?_
      refine kj_goto X (tgt := 42) dX13_writesNumber_68 (by decide) ?_
      refine kj_sub (L' := [(0, knO G 142), (2, knV x2), (4, knV (knDiv x4 10))]) [1, 2, 0] rfl ?_
      exact ih _ (knC_div _ _) _ hf

set_option maxHeartbeats 4000000 in
set_option maxRecDepth 100000 in
theorem kcX13_writesNumber {G : knGT} (l : Launch) {a1 : Int} (ha1 : knC a1) {μ : knMem} {q : knMem} (hf : kfX13_writesNumber a1 μ = some q) : knC0 G l yX13_writesNumber cX13_writesNumber 5 none 1 21 [knO G 142, knV a1] μ True none q := by
  unfold kfX13_writesNumber at hf
  refine kn_ofJ (plainFor_of_name (by decide)) (Nat.le_of_ble_eq_true rfl) (L := [(0, knO G 142), (1, knV a1)]) rfl ?_
  intro p e s m args below meth c X K hr hlk
  refine kj_iloadn X 1 dX13_writesNumber_0 rfl ?_
  have j5 : ∀ (m5 : knMem), (fun q5 =>
   kfX13_writesNumber_l23 (if 0 ≤ a1 then a1 else (knW (-a1)) : Int) q5 (fun w11 =>
    kfX13_writesNumber_l42 (if 0 ≤ a1 then a1 else (knW (-a1)) : Int)  (fun w17 =>
     some w17) knF w11 q5) knF 1) m5 = some q → knJ G p l e { frames := 1, cells := 0, slots := 0, locals := 21 } s m args below meth c 5 0 0 (MQ below (knPo G True none q) args s 0 0 (knA G)) 10 [(0, knO G 142), (1, knV a1)] [] m5 := by
    intro m5
    intro hf
    refine kj_iloadn X 1 dX13_writesNumber_10 rfl ?_
    have j21 : ∀ (t21_0 : Int) (et21_0 : t21_0 = (if 0 ≤ a1 then a1 else (knW (-a1)) : Int)) (ht21_0 : knC t21_0), knJ G p l e { frames := 1, cells := 0, slots := 0, locals := 21 } s m args below meth c 5 0 0 (MQ below (knPo G True none q) args s 0 0 (knA G)) 20 [(0, knO G 142)] [knV t21_0] m5 := by
      intro t21_0 et21_0 ht21_0
      subst et21_0
      refine kj_istoren X (L' := [(2, knV (if 0 ≤ a1 then a1 else (knW (-a1)) : Int)), (0, knO G 142)]) dX13_writesNumber_20 (by decide) rfl ?_
      refine kj_iconst X dX13_writesNumber_21 ?_
      refine kj_istoren X (L' := [(3, knV 1), (2, knV (if 0 ≤ a1 then a1 else (knW (-a1)) : Int)), (0, knO G 142)]) dX13_writesNumber_22 (by decide) rfl ?_
      refine kj_sub (L' := [(0, knO G 142), (2, knV (if 0 ≤ a1 then a1 else (knW (-a1)) : Int)), (3, knV 1)]) [2, 1, 0] rfl ?_
      refine kfX13_writesNumber_l23_ok X K hr hlk (if 0 ≤ a1 then a1 else (knW (-a1)) : Int) ht21_0 m5 ?_ knF _ (show knC (1) from ⟨by omega, by omega⟩)  hf
      intro w23_0 hw23_0
      intro hf
      refine kj_iloadn X 2 dX13_writesNumber_39 rfl ?_
      refine kj_istore X (L' := [(4, knV w23_0), (0, knO G 142), (2, knV (if 0 ≤ a1 then a1 else (knW (-a1)) : Int)), (3, knV w23_0)]) dX13_writesNumber_40 (by decide) rfl ?_
      refine kj_sub (L' := [(0, knO G 142), (2, knV (if 0 ≤ a1 then a1 else (knW (-a1)) : Int)), (4, knV w23_0)]) [1, 2, 0] rfl ?_
      refine kfX13_writesNumber_l42_ok X K hr hlk (if 0 ≤ a1 then a1 else (knW (-a1)) : Int) ht21_0  ?_ knF _ hw23_0 _ hf
      intro w25_m
      intro hf
      cases hf
      exact kj_vret X trivial hr dX13_writesNumber_71 hlk
    refine kj_if_ge X (tgt := 19) dX13_writesNumber_11 (by decide) ha1 (fun h26 => ?_) (fun h26 => ?_)
    · refine kj_iloadn X 1 dX13_writesNumber_19 rfl ?_
      refine kj_sub (L' := [(0, knO G 142)]) [0] rfl ?_
      exact j21 a1 (by rw [if_pos h26]) ha1
    · refine kj_iloadn X 1 dX13_writesNumber_14 rfl ?_
      refine kj_ineg X dX13_writesNumber_15 ?_
      refine kj_goto X (tgt := 20) dX13_writesNumber_16 (by decide) ?_
      refine kj_sub (L' := [(0, knO G 142)]) [0] rfl ?_
      exact j21 (knW (-a1)) (by rw [if_neg h26]) (knCw _)
  obtain ⟨b27, hb27, hf⟩ := knBd_inv hf
  refine kj_if_ge X (tgt := 10) dX13_writesNumber_1 (by decide) ha1 (fun h28 => ?_) (fun h28 => ?_)
  · replace hb27 := knIp hb27 h28
    cases hb27
    refine kj_sub (L' := [(0, knO G 142), (1, knV a1)]) [0, 1] rfl ?_
    exact j5 _ hf
  · replace hb27 := knIq hb27 h28
    refine kj_aloadn X 0 dX13_writesNumber_4 rfl ?_
    refine kj_bipush X (n := 45) dX13_writesNumber_5 rfl ?_
    obtain ⟨q29, h30, hb27⟩ := knBd_inv hb27
    refine kj_callV (As := [knV 45]) (rest := []) X K (kcX13_writes l (show knC (45) from ⟨by omega, by omega⟩) h30) knWvX13_writes (knGm 2049 (by decide +kernel) rfl) (by decide) (knKd_in kdc_142 (by decide)) (knEnt_10 kdc_142) rfl rfl rfl (Nat.le_of_ble_eq_true rfl) (by decide) dX13_writesNumber_7 rfl (fun h31 => ?_)
    cases hb27
    refine kj_sub (L' := [(0, knO G 142), (1, knV a1)]) [0, 1] rfl ?_
    exact j5 _ hf

def kfX13_renderDiagram_l16    (kc : (knMem) → Option (Int × knMem)) : Nat → Int → knMem → Option (Int × knMem)
  | 0, _, _ => none
  | n + 1, x1, μ =>
    if (knW (2 * (μ 142 8))) ≤ x1 then
     kc μ
    else
     Option.bind (α := knMem)
      (if x1 ≤ 0 then
       some μ
      else
       Option.bind (kfX13_writes 32 μ) (fun q59 =>
        some q59))
      (fun q10 =>
      knGd (0 ≤ x1 ∧ x1 < 14)
       (Option.bind (kfX13_writes (if (q10 148 x1) = 1 then 111 else 117 : Int) q10) (fun q16 =>
       Option.bind (kfX13_writesNumber (q16 147 x1) q16) (fun q20 =>
        knGd (0 ≤ (q20 147 x1) ∧ (q20 147 x1) < 7)
         (Option.bind (kfX13_writes (if (q20 149 (q20 147 x1)) = 1 then 43 else 45 : Int) q20) (fun q29 =>
         kfX13_renderDiagram_l16   kc n (knW (x1 + 1)) q29))))))

def kfX13_renderDiagram  (μ : knMem) : Option (Int × knMem) :=
 Option.bind (kfX13_loads  (knUp μ 142 0 0)) (fun q1 =>
  kfX13_renderDiagram_l16   (fun w62 =>
   some ((w62 142 19), w62)) knF 0 (knUp q1 142 19 0))

theorem knWvX13_renderDiagram : knWv yX13_renderDiagram cX13_renderDiagram 2 (some .int) 0 := ⟨(knGm 2048 (by decide +kernel) rfl), (knGm 124 (by decide +kernel) rfl), (knGm 2046 (by decide +kernel) rfl), (knGm 2047 (by decide +kernel) rfl), by decide +kernel, by decide +kernel, by decide +kernel⟩
set_option maxHeartbeats 4000000 in
set_option maxRecDepth 100000 in
theorem kfX13_renderDiagram_l16_ok {q : Int × knMem} {kc : (knMem) → Option (Int × knMem)} {G : knGT} {p : Program} {l : Launch} {e : Env} {s : State} {m : MethodId} {args : Array Value} {below : List Frame} {meth : Method} {c : Code} (X : knX p m c cX13_renderDiagram 2 s args yX13_renderDiagram.cls) (K : knK G s s.heap) (hr : meth.sig.returnType = (some .int)) (hlk : meth.locks = false)    (hk : ∀ (μ1 : knMem), kc μ1 = some q → knJ G p l e { frames := 2, cells := 0, slots := 0, locals := 45 } s m args below meth c 2 0 0 (MQ below (knPo G (knC q.1) (some (knV q.1)) q.2) args s 0 0 (knA G)) 99 [(0, knO G 142)] [] μ1) : ∀ (n : Nat) (x1 : Int) (hx1 : knC x1) (μ : knMem), kfX13_renderDiagram_l16   kc n x1 μ = some q → knJ G p l e { frames := 2, cells := 0, slots := 0, locals := 45 } s m args below meth c 2 0 0 (MQ below (knPo G (knC q.1) (some (knV q.1)) q.2) args s 0 0 (knA G)) 16 [(0, knO G 142), (1, knV x1)] [] μ := by
  intro n
  induction n with
  | zero => intro x1 hx1 μ hf; cases hf
  | succ n ih =>
    intro x1 hx1 μ hf
    unfold kfX13_renderDiagram_l16 at hf
    refine kj_iloadn X 1 dX13_renderDiagram_16 rfl ?_
    refine kj_iconst X dX13_renderDiagram_17 ?_
    refine kj_aloadn X 0 dX13_renderDiagram_18 rfl ?_
    refine kj_geti (k := 8) (ki := 8) X K rfl kdc_142 (by decide) (knEnt_10 kdc_142) rfl (by decide) knInX13 (knGm 1512 (by decide +kernel) rfl) rfl rfl dX13_renderDiagram_19 (fun h4 => ?_)
    refine kj_imul X dX13_renderDiagram_22 ?_
    refine kj_ic_ge X (tgt := 99) dX13_renderDiagram_23 (by decide) hx1 (knCw _) (fun h5 => ?_) (fun h5 => ?_)
    · replace hf := knIp hf h5
      refine kj_sub (L' := [(0, knO G 142)]) [0] rfl ?_
      exact hk _ hf
    · replace hf := knIq hf h5
      refine kj_iloadn X 1 dX13_renderDiagram_26 rfl ?_
      have j10 : ∀ (m10 : knMem), (fun q10 =>
       knGd (0 ≤ x1 ∧ x1 < 14)
        (Option.bind (kfX13_writes (if (q10 148 x1) = 1 then 111 else 117 : Int) q10) (fun q16 =>
        Option.bind (kfX13_writesNumber (q16 147 x1) q16) (fun q20 =>
         knGd (0 ≤ (q20 147 x1) ∧ (q20 147 x1) < 7)
          (Option.bind (kfX13_writes (if (q20 149 (q20 147 x1)) = 1 then 43 else 45 : Int) q20) (fun q29 =>
          kfX13_renderDiagram_l16   kc n (knW (x1 + 1)) q29)))))) m10 = some q → knJ G p l e { frames := 2, cells := 0, slots := 0, locals := 45 } s m args below meth c 2 0 0 (MQ below (knPo G (knC q.1) (some (knV q.1)) q.2) args s 0 0 (knA G)) 36 [(0, knO G 142), (1, knV x1)] [] m10 := by
        intro m10
        intro hf
        refine kj_aloadn X 0 dX13_renderDiagram_36 rfl ?_
        refine kj_aloadn X 0 dX13_renderDiagram_37 rfl ?_
        refine kj_geto (k := 10) (o2 := 148) X K kdc_142 (by decide) (knEnt_10 kdc_142) rfl (by decide) knInX13 (knGm 1514 (by decide +kernel) rfl) rfl rfl dX13_renderDiagram_38 ?_
        refine kj_iloadn X 1 dX13_renderDiagram_41 rfl ?_
        obtain ⟨h34, hf⟩ := knGd_inv hf
        refine kj_iald X K kdc_148 hx1 lnc_148 h34 dX13_renderDiagram_42 (fun h35 => ?_)
        refine kj_iconst X dX13_renderDiagram_43 ?_
        have j37 : ∀ (t37_0 : Int) (et37_0 : t37_0 = (if (m10 148 x1) = 1 then 111 else 117 : Int)) (ht37_0 : knH t37_0), knJ G p l e { frames := 2, cells := 0, slots := 0, locals := 45 } s m args below meth c 2 0 0 (MQ below (knPo G (knC q.1) (some (knV q.1)) q.2) args s 0 0 (knA G)) 54 [(0, knO G 142), (1, knV x1)] [knV t37_0, knO G 142] m10 := by
          intro t37_0 et37_0 ht37_0
          subst et37_0
          obtain ⟨q39, h40, hf⟩ := knBd_inv hf
          refine kj_callV (As := [knV (if (m10 148 x1) = 1 then 111 else 117 : Int)]) (rest := []) X K (kcX13_writes l (knH_c ht37_0) h40) knWvX13_writes (knGm 2049 (by decide +kernel) rfl) (by decide) (knKd_in kdc_142 (by decide)) (knEnt_10 kdc_142) rfl rfl rfl (Nat.le_of_ble_eq_true rfl) (by decide) dX13_renderDiagram_54 rfl (fun h41 => ?_)
          refine kj_aloadn X 0 dX13_renderDiagram_57 rfl ?_
          refine kj_aloadn X 0 dX13_renderDiagram_58 rfl ?_
          refine kj_geto (k := 9) (o2 := 147) X K kdc_142 (by decide) (knEnt_10 kdc_142) rfl (by decide) knInX13 (knGm 1513 (by decide +kernel) rfl) rfl rfl dX13_renderDiagram_59 ?_
          refine kj_iloadn X 1 dX13_renderDiagram_62 rfl ?_
          refine kj_iald X K kdc_147 hx1 lnc_147 h34 dX13_renderDiagram_63 (fun h42 => ?_)
          obtain ⟨q43, h44, hf⟩ := knBd_inv hf
          refine kj_callV (As := [knV (q39 147 x1)]) (rest := []) X K (kcX13_writesNumber l h42 h44) knWvX13_writesNumber (knGm 2053 (by decide +kernel) rfl) (by decide) (knKd_in kdc_142 (by decide)) (knEnt_10 kdc_142) rfl rfl rfl (Nat.le_of_ble_eq_true rfl) (by decide) dX13_renderDiagram_64 rfl (fun h45 => ?_)
          refine kj_aloadn X 0 dX13_renderDiagram_67 rfl ?_
          refine kj_aloadn X 0 dX13_renderDiagram_68 rfl ?_
          refine kj_geto (k := 11) (o2 := 149) X K kdc_142 (by decide) (knEnt_10 kdc_142) rfl (by decide) knInX13 (knGm 1515 (by decide +kernel) rfl) rfl rfl dX13_renderDiagram_69 ?_
          refine kj_aloadn X 0 dX13_renderDiagram_72 rfl ?_
          refine kj_geto (k := 9) (o2 := 147) X K kdc_142 (by decide) (knEnt_10 kdc_142) rfl (by decide) knInX13 (knGm 1513 (by decide +kernel) rfl) rfl rfl dX13_renderDiagram_73 ?_
          refine kj_iloadn X 1 dX13_renderDiagram_76 rfl ?_
          refine kj_iald X K kdc_147 hx1 lnc_147 h34 dX13_renderDiagram_77 (fun h46 => ?_)
          obtain ⟨h47, hf⟩ := knGd_inv hf
          refine kj_iald X K kdc_149 h46 lnc_149 h47 dX13_renderDiagram_78 (fun h48 => ?_)
          refine kj_iconst X dX13_renderDiagram_79 ?_
          have j50 : ∀ (t50_0 : Int) (et50_0 : t50_0 = (if (q43 149 (q43 147 x1)) = 1 then 43 else 45 : Int)) (ht50_0 : knH t50_0), knJ G p l e { frames := 2, cells := 0, slots := 0, locals := 45 } s m args below meth c 2 0 0 (MQ below (knPo G (knC q.1) (some (knV q.1)) q.2) args s 0 0 (knA G)) 90 [(0, knO G 142), (1, knV x1)] [knV t50_0, knO G 142] q43 := by
            intro t50_0 et50_0 ht50_0
            subst et50_0
            obtain ⟨q52, h53, hf⟩ := knBd_inv hf
            refine kj_callV (As := [knV (if (q43 149 (q43 147 x1)) = 1 then 43 else 45 : Int)]) (rest := []) X K (kcX13_writes l (knH_c ht50_0) h53) knWvX13_writes (knGm 2049 (by decide +kernel) rfl) (by decide) (knKd_in kdc_142 (by decide)) (knEnt_10 kdc_142) rfl rfl rfl (Nat.le_of_ble_eq_true rfl) (by decide) dX13_renderDiagram_90 rfl (fun h54 => ?_)
            refine kj_iinc X 1 (L' := [(1, knV (knW (x1 + 1))), (0, knO G 142)]) dX13_renderDiagram_93 rfl (by decide) rfl ?_
            refine kj_goto X (tgt := 16) dX13_renderDiagram_96 (by decide) ?_
            refine kj_sub (L' := [(0, knO G 142), (1, knV (knW (x1 + 1)))]) [1, 0] rfl ?_
            exact ih _ (knCw _) _ hf
          refine kj_ic_ne X (tgt := 88) dX13_renderDiagram_80 (by decide) h48 (show knC (1) from ⟨by omega, by omega⟩) (fun h55 => ?_) (fun h55 => ?_)
          · refine kj_bipush X (n := 45) dX13_renderDiagram_88 rfl ?_
            refine kj_sub (L' := [(0, knO G 142), (1, knV x1)]) [0, 1] rfl ?_
            exact j50 45 (by rw [if_neg h55]) (show knH (45) from ⟨by omega, by omega⟩)
          · refine kj_bipush X (n := 43) dX13_renderDiagram_83 rfl ?_
            refine kj_goto X (tgt := 90) dX13_renderDiagram_85 (by decide) ?_
            refine kj_sub (L' := [(0, knO G 142), (1, knV x1)]) [0, 1] rfl ?_
            exact j50 43 (by rw [if_pos h55]) (show knH (43) from ⟨by omega, by omega⟩)
        refine kj_ic_ne X (tgt := 52) dX13_renderDiagram_44 (by decide) h35 (show knC (1) from ⟨by omega, by omega⟩) (fun h56 => ?_) (fun h56 => ?_)
        · refine kj_bipush X (n := 117) dX13_renderDiagram_52 rfl ?_
          refine kj_sub (L' := [(0, knO G 142), (1, knV x1)]) [0, 1] rfl ?_
          exact j37 117 (by rw [if_neg h56]) (show knH (117) from ⟨by omega, by omega⟩)
        · refine kj_bipush X (n := 111) dX13_renderDiagram_47 rfl ?_
          refine kj_goto X (tgt := 54) dX13_renderDiagram_49 (by decide) ?_
          refine kj_sub (L' := [(0, knO G 142), (1, knV x1)]) [0, 1] rfl ?_
          exact j37 111 (by rw [if_pos h56]) (show knH (111) from ⟨by omega, by omega⟩)
      obtain ⟨b57, hb57, hf⟩ := knBd_inv hf
      refine kj_if_le X (tgt := 36) dX13_renderDiagram_27 (by decide) hx1 (fun h58 => ?_) (fun h58 => ?_)
      · replace hb57 := knIp hb57 h58
        cases hb57
        refine kj_sub (L' := [(0, knO G 142), (1, knV x1)]) [0, 1] rfl ?_
        exact j10 _ hf
      · replace hb57 := knIq hb57 h58
        refine kj_aloadn X 0 dX13_renderDiagram_30 rfl ?_
        refine kj_bipush X (n := 32) dX13_renderDiagram_31 rfl ?_
        obtain ⟨q59, h60, hb57⟩ := knBd_inv hb57
        refine kj_callV (As := [knV 32]) (rest := []) X K (kcX13_writes l (show knC (32) from ⟨by omega, by omega⟩) h60) knWvX13_writes (knGm 2049 (by decide +kernel) rfl) (by decide) (knKd_in kdc_142 (by decide)) (knEnt_10 kdc_142) rfl rfl rfl (Nat.le_of_ble_eq_true rfl) (by decide) dX13_renderDiagram_33 rfl (fun h61 => ?_)
        cases hb57
        refine kj_sub (L' := [(0, knO G 142), (1, knV x1)]) [0, 1] rfl ?_
        exact j10 _ hf

set_option maxHeartbeats 4000000 in
set_option maxRecDepth 100000 in
theorem kcX13_renderDiagram {G : knGT} (l : Launch)   {μ : knMem} {q : Int × knMem} (hf : kfX13_renderDiagram  μ = some q) : knC0 G l yX13_renderDiagram cX13_renderDiagram 2 (some .int) 2 45 [knO G 142] μ (knC q.1) (some (knV q.1)) q.2 := by
  unfold kfX13_renderDiagram at hf
  refine kn_ofJ (plainFor_of_name (by decide)) (Nat.le_of_ble_eq_true rfl) (L := [(0, knO G 142)]) rfl ?_
  intro p e s m args below meth c X K hr hlk
  refine kj_aloadn X 0 dX13_renderDiagram_0 rfl ?_
  refine kj_iconst X dX13_renderDiagram_1 ?_
  refine kj_putf (k := 0) (ki := 0) (x := 0) (ty := .int) X K rfl (knKd_in kdc_142 (by decide)) (knEnt_10 kdc_142) rfl (by decide) knInX13 tyX13_ok nmX13 (knGm 1504 (by decide +kernel) rfl) rfl rfl (by decide +kernel) rfl rfl (by simp) (by rw [knEnt_10 kdc_142, knUp_row]; rfl) (fun _ => (show knC (0) from ⟨by omega, by omega⟩)) (fun h => by rw [kdc_142] at h; cases h) (fun h => by rw [kdc_142] at h; cases h) dX13_renderDiagram_2 ?_
  refine kj_aloadn X 0 dX13_renderDiagram_5 rfl ?_
  obtain ⟨q1, h2, hf⟩ := knBd_inv hf
  refine kj_callV (As := []) (rest := []) X K (kcX13_loads l  h2) knWvX13_loads (knGm 1624 (by decide +kernel) rfl) (by decide) (knKd_in kdc_142 (by decide)) (knEnt_10 kdc_142) rfl rfl rfl (Nat.le_of_ble_eq_true rfl) (by decide) dX13_renderDiagram_6 rfl (fun h3 => ?_)
  refine kj_aloadn X 0 dX13_renderDiagram_9 rfl ?_
  refine kj_iconst X dX13_renderDiagram_10 ?_
  refine kj_putf (k := 19) (ki := 19) (x := 0) (ty := .int) X K rfl (knKd_in kdc_142 (by decide)) (knEnt_10 kdc_142) rfl (by decide) knInX13 tyX13_ok nmX13 (knGm 1523 (by decide +kernel) rfl) rfl rfl (by decide +kernel) rfl rfl (by simp) (by rw [knEnt_10 kdc_142, knUp_row]; rfl) (fun _ => (show knC (0) from ⟨by omega, by omega⟩)) (fun h => by rw [kdc_142] at h; cases h) (fun h => by rw [kdc_142] at h; cases h) dX13_renderDiagram_11 ?_
  refine kj_iconst X dX13_renderDiagram_14 ?_
  refine kj_istoren X (L' := [(1, knV 0), (0, knO G 142)]) dX13_renderDiagram_15 (by decide) rfl ?_
  refine kj_sub (L' := [(0, knO G 142), (1, knV 0)]) [1, 0] rfl ?_
  refine kfX13_renderDiagram_l16_ok X K hr hlk    ?_ knF _ (show knC (0) from ⟨by omega, by omega⟩) _ hf
  intro w62_m
  intro hf
  refine kj_aloadn X 0 dX13_renderDiagram_99 rfl ?_
  refine kj_geti (k := 19) (ki := 19) X K rfl kdc_142 (by decide) (knEnt_10 kdc_142) rfl (by decide) knInX13 (knGm 1523 (by decide +kernel) rfl) rfl rfl dX13_renderDiagram_100 (fun h64 => ?_)
  cases hf
  exact kj_iret X h64 hr dX13_renderDiagram_103 hlk

def kfX13_renderPolynomial_l16    (kc : (knMem) → Option (Int × knMem)) : Nat → Int → knMem → Option (Int × knMem)
  | 0, _, _ => none
  | n + 1, x1, μ =>
    if 101 ≤ x1 then
     kc μ
    else
     knGd (0 ≤ x1 ∧ x1 < 101)
      ((fun (k39 : (knMem) → Option (Int × knMem)) =>
      if (μ 153 x1) = 0 then
       k39 μ
      else
       Option.bind (α := knMem)
        (if (μ 142 19) ≤ 0 then
         some μ
        else
         Option.bind (kfX13_writes 32 μ) (fun q70 =>
          some q70))
        (fun q47 =>
        Option.bind (kfX13_writesNumber (q47 153 x1) q47) (fun q49 =>
         Option.bind (kfX13_writes 97 q49) (fun q52 =>
          Option.bind (kfX13_writesNumber (knW (x1 - 50)) q52) (fun q55 =>
           k39 q55)))))
      (fun q39 =>
      kfX13_renderPolynomial_l16   kc n (knW (x1 + 1)) q39))

def kfX13_renderPolynomial  (μ : knMem) : Option (Int × knMem) :=
 Option.bind (kfX13_findsNormal  (knUp μ 142 0 0)) (fun q1 =>
  kfX13_renderPolynomial_l16   (fun w73 =>
   some ((w73 142 19), w73)) knF 0 (knUp q1 142 19 0))

theorem knWvX13_renderPolynomial : knWv yX13_renderPolynomial cX13_renderPolynomial 2 (some .int) 0 := ⟨(knGm 2060 (by decide +kernel) rfl), (knGm 124 (by decide +kernel) rfl), (knGm 2058 (by decide +kernel) rfl), (knGm 2059 (by decide +kernel) rfl), by decide +kernel, by decide +kernel, by decide +kernel⟩
set_option maxHeartbeats 4000000 in
set_option maxRecDepth 100000 in
theorem kfX13_renderPolynomial_l16_ok {q : Int × knMem} {kc : (knMem) → Option (Int × knMem)} {G : knGT} {p : Program} {l : Launch} {e : Env} {s : State} {m : MethodId} {args : Array Value} {below : List Frame} {meth : Method} {c : Code} (X : knX p m c cX13_renderPolynomial 2 s args yX13_renderPolynomial.cls) (K : knK G s s.heap) (hr : meth.sig.returnType = (some .int)) (hlk : meth.locks = false)    (hk : ∀ (μ1 : knMem), kc μ1 = some q → knJ G p l e { frames := 5, cells := 0, slots := 0, locals := 120 } s m args below meth c 2 0 0 (MQ below (knPo G (knC q.1) (some (knV q.1)) q.2) args s 0 0 (knA G)) 77 [(0, knO G 142)] [] μ1) : ∀ (n : Nat) (x1 : Int) (hx1 : knC x1) (μ : knMem), kfX13_renderPolynomial_l16   kc n x1 μ = some q → knJ G p l e { frames := 5, cells := 0, slots := 0, locals := 120 } s m args below meth c 2 0 0 (MQ below (knPo G (knC q.1) (some (knV q.1)) q.2) args s 0 0 (knA G)) 16 [(0, knO G 142), (1, knV x1)] [] μ := by
  intro n
  induction n with
  | zero => intro x1 hx1 μ hf; cases hf
  | succ n ih =>
    intro x1 hx1 μ hf
    unfold kfX13_renderPolynomial_l16 at hf
    refine kj_iloadn X 1 dX13_renderPolynomial_16 rfl ?_
    refine kj_bipush X (n := 101) dX13_renderPolynomial_17 rfl ?_
    refine kj_ic_ge X (tgt := 77) dX13_renderPolynomial_19 (by decide) hx1 (show knC (101) from ⟨by omega, by omega⟩) (fun h4 => ?_) (fun h4 => ?_)
    · replace hf := knIp hf h4
      refine kj_sub (L' := [(0, knO G 142)]) [0] rfl ?_
      exact hk _ hf
    · replace hf := knIq hf h4
      refine kj_aloadn X 0 dX13_renderPolynomial_22 rfl ?_
      refine kj_geto (k := 15) (o2 := 153) X K kdc_142 (by decide) (knEnt_10 kdc_142) rfl (by decide) knInX13 (knGm 1519 (by decide +kernel) rfl) rfl rfl dX13_renderPolynomial_23 ?_
      refine kj_iloadn X 1 dX13_renderPolynomial_26 rfl ?_
      obtain ⟨h5, hf⟩ := knGd_inv hf
      refine kj_iald X K kdc_153 hx1 lnc_153 h5 dX13_renderPolynomial_27 (fun h6 => ?_)
      have j39 : ∀ (m39 : knMem), (fun q39 =>
       kfX13_renderPolynomial_l16   kc n (knW (x1 + 1)) q39) m39 = some q → knJ G p l e { frames := 5, cells := 0, slots := 0, locals := 120 } s m args below meth c 2 0 0 (MQ below (knPo G (knC q.1) (some (knV q.1)) q.2) args s 0 0 (knA G)) 71 [(0, knO G 142), (1, knV x1)] [] m39 := by
        intro m39
        intro hf
        refine kj_iinc X 1 (L' := [(1, knV (knW (x1 + 1))), (0, knO G 142)]) dX13_renderPolynomial_71 rfl (by decide) rfl ?_
        refine kj_goto X (tgt := 16) dX13_renderPolynomial_74 (by decide) ?_
        refine kj_sub (L' := [(0, knO G 142), (1, knV (knW (x1 + 1)))]) [1, 0] rfl ?_
        exact ih _ (knCw _) _ hf
      obtain ⟨k39, ek39⟩ : ∃ z : (knMem) → Option (Int × knMem), z = (fun q39 =>
       kfX13_renderPolynomial_l16   kc n (knW (x1 + 1)) q39) := ⟨_, rfl⟩
      replace hf : (if (μ 153 x1) = 0 then
       k39 μ
      else
       Option.bind (α := knMem)
        (if (μ 142 19) ≤ 0 then
         some μ
        else
         Option.bind (kfX13_writes 32 μ) (fun q70 =>
          some q70))
        (fun q47 =>
        Option.bind (kfX13_writesNumber (q47 153 x1) q47) (fun q49 =>
         Option.bind (kfX13_writes 97 q49) (fun q52 =>
          Option.bind (kfX13_writesNumber (knW (x1 - 50)) q52) (fun q55 =>
           k39 q55))))) = some q := by rw [ek39]; exact hf
      rw [← ek39] at j39
      refine kj_if_ne X (tgt := 34) dX13_renderPolynomial_28 (by decide) h6 (fun h41 => ?_) (fun h41 => ?_)
      · replace hf := knIq hf h41
        refine kj_aloadn X 0 dX13_renderPolynomial_34 rfl ?_
        refine kj_geti (k := 19) (ki := 19) X K rfl kdc_142 (by decide) (knEnt_10 kdc_142) rfl (by decide) knInX13 (knGm 1523 (by decide +kernel) rfl) rfl rfl dX13_renderPolynomial_35 (fun h42 => ?_)
        have j47 : ∀ (m47 : knMem), (fun q47 =>
         Option.bind (kfX13_writesNumber (q47 153 x1) q47) (fun q49 =>
          Option.bind (kfX13_writes 97 q49) (fun q52 =>
           Option.bind (kfX13_writesNumber (knW (x1 - 50)) q52) (fun q55 =>
            k39 q55)))) m47 = some q → knJ G p l e { frames := 5, cells := 0, slots := 0, locals := 120 } s m args below meth c 2 0 0 (MQ below (knPo G (knC q.1) (some (knV q.1)) q.2) args s 0 0 (knA G)) 47 [(0, knO G 142), (1, knV x1)] [] m47 := by
          intro m47
          intro hf
          refine kj_aloadn X 0 dX13_renderPolynomial_47 rfl ?_
          refine kj_aloadn X 0 dX13_renderPolynomial_48 rfl ?_
          refine kj_geto (k := 15) (o2 := 153) X K kdc_142 (by decide) (knEnt_10 kdc_142) rfl (by decide) knInX13 (knGm 1519 (by decide +kernel) rfl) rfl rfl dX13_renderPolynomial_49 ?_
          refine kj_iloadn X 1 dX13_renderPolynomial_52 rfl ?_
          refine kj_iald X K kdc_153 hx1 lnc_153 h5 dX13_renderPolynomial_53 (fun h58 => ?_)
          obtain ⟨q59, h60, hf⟩ := knBd_inv hf
          refine kj_callV (As := [knV (m47 153 x1)]) (rest := []) X K (kcX13_writesNumber l h58 h60) knWvX13_writesNumber (knGm 2053 (by decide +kernel) rfl) (by decide) (knKd_in kdc_142 (by decide)) (knEnt_10 kdc_142) rfl rfl rfl (Nat.le_of_ble_eq_true rfl) (by decide) dX13_renderPolynomial_54 rfl (fun h61 => ?_)
          refine kj_aloadn X 0 dX13_renderPolynomial_57 rfl ?_
          refine kj_bipush X (n := 97) dX13_renderPolynomial_58 rfl ?_
          obtain ⟨q62, h63, hf⟩ := knBd_inv hf
          refine kj_callV (As := [knV 97]) (rest := []) X K (kcX13_writes l (show knC (97) from ⟨by omega, by omega⟩) h63) knWvX13_writes (knGm 2049 (by decide +kernel) rfl) (by decide) (knKd_in kdc_142 (by decide)) (knEnt_10 kdc_142) rfl rfl rfl (Nat.le_of_ble_eq_true rfl) (by decide) dX13_renderPolynomial_60 rfl (fun h64 => ?_)
          refine kj_aloadn X 0 dX13_renderPolynomial_63 rfl ?_
          refine kj_iloadn X 1 dX13_renderPolynomial_64 rfl ?_
          refine kj_bipush X (n := 50) dX13_renderPolynomial_65 rfl ?_
          refine kj_isub X dX13_renderPolynomial_67 ?_
          obtain ⟨q65, h66, hf⟩ := knBd_inv hf
          refine kj_callV (As := [knV (knW (x1 - 50))]) (rest := []) X K (kcX13_writesNumber l (knCw _) h66) knWvX13_writesNumber (knGm 2053 (by decide +kernel) rfl) (by decide) (knKd_in kdc_142 (by decide)) (knEnt_10 kdc_142) rfl rfl rfl (Nat.le_of_ble_eq_true rfl) (by decide) dX13_renderPolynomial_68 rfl (fun h67 => ?_)
          refine kj_sub (L' := [(0, knO G 142), (1, knV x1)]) [0, 1] rfl ?_
          exact j39 _ hf
        obtain ⟨b68, hb68, hf⟩ := knBd_inv hf
        refine kj_if_le X (tgt := 47) dX13_renderPolynomial_38 (by decide) h42 (fun h69 => ?_) (fun h69 => ?_)
        · replace hb68 := knIp hb68 h69
          cases hb68
          refine kj_sub (L' := [(0, knO G 142), (1, knV x1)]) [0, 1] rfl ?_
          exact j47 _ hf
        · replace hb68 := knIq hb68 h69
          refine kj_aloadn X 0 dX13_renderPolynomial_41 rfl ?_
          refine kj_bipush X (n := 32) dX13_renderPolynomial_42 rfl ?_
          obtain ⟨q70, h71, hb68⟩ := knBd_inv hb68
          refine kj_callV (As := [knV 32]) (rest := []) X K (kcX13_writes l (show knC (32) from ⟨by omega, by omega⟩) h71) knWvX13_writes (knGm 2049 (by decide +kernel) rfl) (by decide) (knKd_in kdc_142 (by decide)) (knEnt_10 kdc_142) rfl rfl rfl (Nat.le_of_ble_eq_true rfl) (by decide) dX13_renderPolynomial_44 rfl (fun h72 => ?_)
          cases hb68
          refine kj_sub (L' := [(0, knO G 142), (1, knV x1)]) [0, 1] rfl ?_
          exact j47 _ hf
      · replace hf := knIp hf h41
        refine kj_goto X (tgt := 71) dX13_renderPolynomial_31 (by decide) ?_
        refine kj_sub (L' := [(0, knO G 142), (1, knV x1)]) [0, 1] rfl ?_
        exact j39 _ hf

set_option maxHeartbeats 4000000 in
set_option maxRecDepth 100000 in
theorem kcX13_renderPolynomial {G : knGT} (l : Launch)   {μ : knMem} {q : Int × knMem} (hf : kfX13_renderPolynomial  μ = some q) : knC0 G l yX13_renderPolynomial cX13_renderPolynomial 2 (some .int) 5 120 [knO G 142] μ (knC q.1) (some (knV q.1)) q.2 := by
  unfold kfX13_renderPolynomial at hf
  refine kn_ofJ (plainFor_of_name (by decide)) (Nat.le_of_ble_eq_true rfl) (L := [(0, knO G 142)]) rfl ?_
  intro p e s m args below meth c X K hr hlk
  refine kj_aloadn X 0 dX13_renderPolynomial_0 rfl ?_
  refine kj_iconst X dX13_renderPolynomial_1 ?_
  refine kj_putf (k := 0) (ki := 0) (x := 0) (ty := .int) X K rfl (knKd_in kdc_142 (by decide)) (knEnt_10 kdc_142) rfl (by decide) knInX13 tyX13_ok nmX13 (knGm 1504 (by decide +kernel) rfl) rfl rfl (by decide +kernel) rfl rfl (by simp) (by rw [knEnt_10 kdc_142, knUp_row]; rfl) (fun _ => (show knC (0) from ⟨by omega, by omega⟩)) (fun h => by rw [kdc_142] at h; cases h) (fun h => by rw [kdc_142] at h; cases h) dX13_renderPolynomial_2 ?_
  refine kj_aloadn X 0 dX13_renderPolynomial_5 rfl ?_
  obtain ⟨q1, h2, hf⟩ := knBd_inv hf
  refine kj_callV (As := []) (rest := []) X K (kcX13_findsNormal l  h2) knWvX13_findsNormal (knGm 1916 (by decide +kernel) rfl) (by decide) (knKd_in kdc_142 (by decide)) (knEnt_10 kdc_142) rfl rfl rfl (Nat.le_of_ble_eq_true rfl) (by decide) dX13_renderPolynomial_6 rfl (fun h3 => ?_)
  refine kj_aloadn X 0 dX13_renderPolynomial_9 rfl ?_
  refine kj_iconst X dX13_renderPolynomial_10 ?_
  refine kj_putf (k := 19) (ki := 19) (x := 0) (ty := .int) X K rfl (knKd_in kdc_142 (by decide)) (knEnt_10 kdc_142) rfl (by decide) knInX13 tyX13_ok nmX13 (knGm 1523 (by decide +kernel) rfl) rfl rfl (by decide +kernel) rfl rfl (by simp) (by rw [knEnt_10 kdc_142, knUp_row]; rfl) (fun _ => (show knC (0) from ⟨by omega, by omega⟩)) (fun h => by rw [kdc_142] at h; cases h) (fun h => by rw [kdc_142] at h; cases h) dX13_renderPolynomial_11 ?_
  refine kj_iconst X dX13_renderPolynomial_14 ?_
  refine kj_istoren X (L' := [(1, knV 0), (0, knO G 142)]) dX13_renderPolynomial_15 (by decide) rfl ?_
  refine kj_sub (L' := [(0, knO G 142), (1, knV 0)]) [1, 0] rfl ?_
  refine kfX13_renderPolynomial_l16_ok X K hr hlk    ?_ knF _ (show knC (0) from ⟨by omega, by omega⟩) _ hf
  intro w73_m
  intro hf
  refine kj_aloadn X 0 dX13_renderPolynomial_77 rfl ?_
  refine kj_geti (k := 19) (ki := 19) X K rfl kdc_142 (by decide) (knEnt_10 kdc_142) rfl (by decide) knInX13 (knGm 1523 (by decide +kernel) rfl) rfl rfl dX13_renderPolynomial_78 (fun h75 => ?_)
  cases hf
  exact kj_iret X h75 hr dX13_renderPolynomial_81 hlk

def kfX13_outputAt (a1 : Int) (μ : knMem) : Option (Int × knMem) :=
 Option.bind (kfX13_isBetween a1 0 (knW (((knUp μ 142 0 0) 142 19) - 1)) (knUp μ 142 0 0)) (fun q2 =>
  if q2 = 0 then
   Option.bind (kfX13_fails 1 (knUp μ 142 0 0)) (fun q6 =>
    some ((knI2c q6.1), q6.2))
  else
   knGd (0 ≤ a1 ∧ a1 < 300)
    (some (((knUp μ 142 0 0) 156 a1), (knUp μ 142 0 0))))

theorem knWvX13_outputAt : knWv yX13_outputAt cX13_outputAt 2 (some .char) 1 := ⟨(knGm 2064 (by decide +kernel) rfl), (knGm 124 (by decide +kernel) rfl), (knGm 2062 (by decide +kernel) rfl), (knGm 2063 (by decide +kernel) rfl), by decide +kernel, by decide +kernel, by decide +kernel⟩
set_option maxHeartbeats 4000000 in
set_option maxRecDepth 100000 in
theorem kcX13_outputAt {G : knGT} (l : Launch) {a1 : Int} (ha1 : knC a1) {μ : knMem} {q : Int × knMem} (hf : kfX13_outputAt a1 μ = some q) : knC0 G l yX13_outputAt cX13_outputAt 2 (some .char) 1 22 [knO G 142, knV a1] μ (knH q.1) (some (knV q.1)) q.2 := by
  unfold kfX13_outputAt at hf
  refine kn_ofJ (plainFor_of_name (by decide)) (Nat.le_of_ble_eq_true rfl) (L := [(0, knO G 142), (1, knV a1)]) rfl ?_
  intro p e s m args below meth c X K hr hlk
  refine kj_aloadn X 0 dX13_outputAt_0 rfl ?_
  refine kj_iconst X dX13_outputAt_1 ?_
  refine kj_putf (k := 0) (ki := 0) (x := 0) (ty := .int) X K rfl (knKd_in kdc_142 (by decide)) (knEnt_10 kdc_142) rfl (by decide) knInX13 tyX13_ok nmX13 (knGm 1504 (by decide +kernel) rfl) rfl rfl (by decide +kernel) rfl rfl (by simp) (by rw [knEnt_10 kdc_142, knUp_row]; rfl) (fun _ => (show knC (0) from ⟨by omega, by omega⟩)) (fun h => by rw [kdc_142] at h; cases h) (fun h => by rw [kdc_142] at h; cases h) dX13_outputAt_2 ?_
  refine kj_iloadn X 1 dX13_outputAt_5 rfl ?_
  refine kj_iconst X dX13_outputAt_6 ?_
  refine kj_aloadn X 0 dX13_outputAt_7 rfl ?_
  refine kj_geti (k := 19) (ki := 19) X K rfl kdc_142 (by decide) (knEnt_10 kdc_142) rfl (by decide) knInX13 (knGm 1523 (by decide +kernel) rfl) rfl rfl dX13_outputAt_8 (fun h1 => ?_)
  refine kj_iconst X dX13_outputAt_11 ?_
  refine kj_isub X dX13_outputAt_12 ?_
  obtain ⟨q2, h3, hf⟩ := knBd_inv hf
  refine kj_callS (As := [knV a1, knV 0, knV (knW (((knUp μ 142 0 0) 142 19) - 1))]) (rest := []) X K (kcX13_isBetween l ha1 (show knC (0) from ⟨by omega, by omega⟩) (knCw _) h3) knWkX13_isBetween (knGm 1601 (by decide +kernel) rfl) (by decide)  rfl (Nat.le_of_ble_eq_true rfl) (by decide) dX13_outputAt_13 rfl (fun h4 => ?_)
  refine kj_if_eq X (tgt := 26) dX13_outputAt_16 (by decide) (knZ_c h4) (fun h5 => ?_) (fun h5 => ?_)
  · replace hf := knIp hf h5
    refine kj_aloadn X 0 dX13_outputAt_26 rfl ?_
    refine kj_iconst X dX13_outputAt_27 ?_
    obtain ⟨q6, h7, hf⟩ := knBd_inv hf
    refine kj_callV (As := [knV 1]) (rest := []) X K (kcX13_fails l (show knC (1) from ⟨by omega, by omega⟩) h7) knWvX13_fails (knGm 1604 (by decide +kernel) rfl) (by decide) (knKd_in kdc_142 (by decide)) (knEnt_10 kdc_142) rfl rfl rfl (Nat.le_of_ble_eq_true rfl) (by decide) dX13_outputAt_28 rfl (fun h8 => ?_)
    refine kj_i2c X dX13_outputAt_31 ?_
    cases hf
    exact kj_zret X (knH_i2c _) hr (kn_nc (knH_i2c _)) dX13_outputAt_32 hlk
  · replace hf := knIq hf h5
    refine kj_aloadn X 0 dX13_outputAt_19 rfl ?_
    refine kj_geto (k := 18) (o2 := 156) X K kdc_142 (by decide) (knEnt_10 kdc_142) rfl (by decide) knInX13 (knGm 1522 (by decide +kernel) rfl) rfl rfl dX13_outputAt_20 ?_
    refine kj_iloadn X 1 dX13_outputAt_23 rfl ?_
    obtain ⟨h9, hf⟩ := knGd_inv hf
    refine kj_cald X K kdc_156 ha1 lnc_156 h9 dX13_outputAt_24 (fun h10 => ?_)
    cases hf
    exact kj_zret X h10 hr (kn_nc h10) dX13_outputAt_25 hlk

def kfX13_type (a1 : Int) (μ : knMem) : Option (Int × knMem) :=
 Option.bind (kfX13_isBetween a1 32 126 (knUp μ 142 0 0)) (fun q1 =>
  if q1 = 0 then
   Option.bind (kfX13_fails 1 (knUp μ 142 0 0)) (fun q14 =>
    some (q14.1, q14.2))
  else
   if ((knUp μ 142 0 0) 142 21) = 60 then
    Option.bind (kfX13_fails 2 (knUp μ 142 0 0)) (fun q11 =>
     some (q11.1, q11.2))
   else
    knGd (0 ≤ ((knUp μ 142 0 0) 142 21) ∧ ((knUp μ 142 0 0) 142 21) < 60)
     (some (((knUp (knUp (knUp μ 142 0 0) 157 ((knUp μ 142 0 0) 142 21) (knNc a1)) 142 21 (knW (((knUp (knUp μ 142 0 0) 157 ((knUp μ 142 0 0) 142 21) (knNc a1)) 142 21) + 1))) 142 21), (knUp (knUp (knUp μ 142 0 0) 157 ((knUp μ 142 0 0) 142 21) (knNc a1)) 142 21 (knW (((knUp (knUp μ 142 0 0) 157 ((knUp μ 142 0 0) 142 21) (knNc a1)) 142 21) + 1))))))

theorem knWvX13_type : knWv yX13_type cX13_type 2 (some .int) 1 := ⟨(knGm 2068 (by decide +kernel) rfl), (knGm 124 (by decide +kernel) rfl), (knGm 2066 (by decide +kernel) rfl), (knGm 2067 (by decide +kernel) rfl), by decide +kernel, by decide +kernel, by decide +kernel⟩
set_option maxHeartbeats 4000000 in
set_option maxRecDepth 100000 in
theorem kcX13_type {G : knGT} (l : Launch) {a1 : Int} (ha1 : knH a1) {μ : knMem} {q : Int × knMem} (hf : kfX13_type a1 μ = some q) : knC0 G l yX13_type cX13_type 2 (some .int) 1 22 [knO G 142, knV a1] μ (knC q.1) (some (knV q.1)) q.2 := by
  unfold kfX13_type at hf
  refine kn_ofJ (plainFor_of_name (by decide)) (Nat.le_of_ble_eq_true rfl) (L := [(0, knO G 142), (1, knV a1)]) rfl ?_
  intro p e s m args below meth c X K hr hlk
  refine kj_aloadn X 0 dX13_type_0 rfl ?_
  refine kj_iconst X dX13_type_1 ?_
  refine kj_putf (k := 0) (ki := 0) (x := 0) (ty := .int) X K rfl (knKd_in kdc_142 (by decide)) (knEnt_10 kdc_142) rfl (by decide) knInX13 tyX13_ok nmX13 (knGm 1504 (by decide +kernel) rfl) rfl rfl (by decide +kernel) rfl rfl (by simp) (by rw [knEnt_10 kdc_142, knUp_row]; rfl) (fun _ => (show knC (0) from ⟨by omega, by omega⟩)) (fun h => by rw [kdc_142] at h; cases h) (fun h => by rw [kdc_142] at h; cases h) dX13_type_2 ?_
  refine kj_iloadn X 1 dX13_type_5 rfl ?_
  refine kj_bipush X (n := 32) dX13_type_6 rfl ?_
  refine kj_bipush X (n := 126) dX13_type_8 rfl ?_
  obtain ⟨q1, h2, hf⟩ := knBd_inv hf
  refine kj_callS (As := [knV a1, knV 32, knV 126]) (rest := []) X K (kcX13_isBetween l (knH_c ha1) (show knC (32) from ⟨by omega, by omega⟩) (show knC (126) from ⟨by omega, by omega⟩) h2) knWkX13_isBetween (knGm 1601 (by decide +kernel) rfl) (by decide)  rfl (Nat.le_of_ble_eq_true rfl) (by decide) dX13_type_10 rfl (fun h3 => ?_)
  refine kj_if_ne X (tgt := 22) dX13_type_13 (by decide) (knZ_c h3) (fun h4 => ?_) (fun h4 => ?_)
  · replace hf := knIq hf h4
    refine kj_aloadn X 0 dX13_type_22 rfl ?_
    refine kj_geti (k := 21) (ki := 21) X K rfl kdc_142 (by decide) (knEnt_10 kdc_142) rfl (by decide) knInX13 (knGm 1525 (by decide +kernel) rfl) rfl rfl dX13_type_23 (fun h5 => ?_)
    refine kj_bipush X (n := 60) dX13_type_26 rfl ?_
    refine kj_ic_ne X (tgt := 37) dX13_type_28 (by decide) h5 (show knC (60) from ⟨by omega, by omega⟩) (fun h6 => ?_) (fun h6 => ?_)
    · replace hf := knIq hf h6
      refine kj_aloadn X 0 dX13_type_37 rfl ?_
      refine kj_geto (k := 20) (o2 := 157) X K kdc_142 (by decide) (knEnt_10 kdc_142) rfl (by decide) knInX13 (knGm 1524 (by decide +kernel) rfl) rfl rfl dX13_type_38 ?_
      refine kj_aloadn X 0 dX13_type_41 rfl ?_
      refine kj_geti (k := 21) (ki := 21) X K rfl kdc_142 (by decide) (knEnt_10 kdc_142) rfl (by decide) knInX13 (knGm 1525 (by decide +kernel) rfl) rfl rfl dX13_type_42 (fun h7 => ?_)
      refine kj_iloadn X 1 dX13_type_45 rfl ?_
      obtain ⟨h8, hf⟩ := knGd_inv hf
      refine kj_cast X K kdc_157 h7 lnc_157 h8 dX13_type_46 ?_
      refine kj_aloadn X 0 dX13_type_47 rfl ?_
      refine kj_dup X dX13_type_48 rfl ?_
      refine kj_geti (k := 21) (ki := 21) X K rfl kdc_142 (by decide) (knEnt_10 kdc_142) rfl (by decide) knInX13 (knGm 1525 (by decide +kernel) rfl) rfl rfl dX13_type_49 (fun h9 => ?_)
      refine kj_iconst X dX13_type_52 ?_
      refine kj_iadd X dX13_type_53 ?_
      refine kj_putf (k := 21) (ki := 21) (x := (knW (((knUp (knUp μ 142 0 0) 157 ((knUp μ 142 0 0) 142 21) (knNc a1)) 142 21) + 1))) (ty := .int) X K rfl (knKd_in kdc_142 (by decide)) (knEnt_10 kdc_142) rfl (by decide) knInX13 tyX13_ok nmX13 (knGm 1525 (by decide +kernel) rfl) rfl rfl (by decide +kernel) rfl rfl (by simp) (by rw [knEnt_10 kdc_142, knUp_row]; rfl) (fun _ => (knCw _)) (fun h => by rw [kdc_142] at h; cases h) (fun h => by rw [kdc_142] at h; cases h) dX13_type_54 ?_
      refine kj_aloadn X 0 dX13_type_57 rfl ?_
      refine kj_geti (k := 21) (ki := 21) X K rfl kdc_142 (by decide) (knEnt_10 kdc_142) rfl (by decide) knInX13 (knGm 1525 (by decide +kernel) rfl) rfl rfl dX13_type_58 (fun h10 => ?_)
      cases hf
      exact kj_iret X h10 hr dX13_type_61 hlk
    · replace hf := knIp hf h6
      refine kj_aloadn X 0 dX13_type_31 rfl ?_
      refine kj_iconst X dX13_type_32 ?_
      obtain ⟨q11, h12, hf⟩ := knBd_inv hf
      refine kj_callV (As := [knV 2]) (rest := []) X K (kcX13_fails l (show knC (2) from ⟨by omega, by omega⟩) h12) knWvX13_fails (knGm 1604 (by decide +kernel) rfl) (by decide) (knKd_in kdc_142 (by decide)) (knEnt_10 kdc_142) rfl rfl rfl (Nat.le_of_ble_eq_true rfl) (by decide) dX13_type_33 rfl (fun h13 => ?_)
      cases hf
      exact kj_iret X h13 hr dX13_type_36 hlk
  · replace hf := knIp hf h4
    refine kj_aloadn X 0 dX13_type_16 rfl ?_
    refine kj_iconst X dX13_type_17 ?_
    obtain ⟨q14, h15, hf⟩ := knBd_inv hf
    refine kj_callV (As := [knV 1]) (rest := []) X K (kcX13_fails l (show knC (1) from ⟨by omega, by omega⟩) h15) knWvX13_fails (knGm 1604 (by decide +kernel) rfl) (by decide) (knKd_in kdc_142 (by decide)) (knEnt_10 kdc_142) rfl rfl rfl (Nat.le_of_ble_eq_true rfl) (by decide) dX13_type_18 rfl (fun h16 => ?_)
    cases hf
    exact kj_iret X h16 hr dX13_type_21 hlk

def kfX13_nextChar  (μ : knMem) : Option (Int) :=
 Option.bind (α := Int)
  (if (μ 142 21) ≤ (μ 142 22) then
   some (-1)
  else
   knGd (0 ≤ (μ 142 22) ∧ (μ 142 22) < 60)
    (some (μ 157 (μ 142 22))))
  (fun q7 =>
  some q7)

theorem knWvX13_nextChar : knWv yX13_nextChar cX13_nextChar 1 (some .int) 0 := ⟨(knGm 2084 (by decide +kernel) rfl), (knGm 124 (by decide +kernel) rfl), (knGm 2083 (by decide +kernel) rfl), (knGm 100 (by decide +kernel) rfl), by decide +kernel, by decide +kernel, by decide +kernel⟩
set_option maxHeartbeats 4000000 in
set_option maxRecDepth 100000 in
theorem kcX13_nextChar {G : knGT} (l : Launch)   {μ : knMem} {q : Int} (hf : kfX13_nextChar  μ = some q) : knC0 G l yX13_nextChar cX13_nextChar 1 (some .int) 0 0 [knO G 142] μ (knC q) (some (knV q)) μ := by
  unfold kfX13_nextChar at hf
  refine kn_ofJ (plainFor_of_name (by decide)) (Nat.le_of_ble_eq_true rfl) (L := [(0, knO G 142)]) rfl ?_
  intro p e s m args below meth c X K hr hlk
  refine kj_aloadn X 0 dX13_nextChar_0 rfl ?_
  refine kj_geti (k := 22) (ki := 22) X K rfl kdc_142 (by decide) (knEnt_10 kdc_142) rfl (by decide) knInX13 (knGm 1526 (by decide +kernel) rfl) rfl rfl dX13_nextChar_1 (fun h1 => ?_)
  refine kj_aloadn X 0 dX13_nextChar_4 rfl ?_
  refine kj_geti (k := 21) (ki := 21) X K rfl kdc_142 (by decide) (knEnt_10 kdc_142) rfl (by decide) knInX13 (knGm 1525 (by decide +kernel) rfl) rfl rfl dX13_nextChar_5 (fun h2 => ?_)
  have j7 : ∀ (t7_0 : Int) (ht7_0 : knC t7_0), (fun q7 =>
   some q7) t7_0 = some q → knJ G p l e { frames := 0, cells := 0, slots := 0, locals := 0 } s m args below meth c 1 0 0 (MQ below (knPo G (knC q) (some (knV q)) μ) args s 0 0 (knA G)) 24 [] [knV t7_0] μ := by
    intro t7_0 ht7_0
    intro hf
    cases hf
    exact kj_iret X ht7_0 hr dX13_nextChar_24 hlk
  obtain ⟨b8, hb8, hf⟩ := knBd_inv hf
  refine kj_ic_ge X (tgt := 23) dX13_nextChar_8 (by decide) h1 h2 (fun h9 => ?_) (fun h9 => ?_)
  · replace hb8 := knIp hb8 h9
    refine kj_iconst X dX13_nextChar_23 ?_
    cases hb8
    refine kj_sub (L' := []) [] rfl ?_
    exact j7 _ (show knC (-1) from ⟨by omega, by omega⟩) hf
  · replace hb8 := knIq hb8 h9
    refine kj_aloadn X 0 dX13_nextChar_11 rfl ?_
    refine kj_geto (k := 20) (o2 := 157) X K kdc_142 (by decide) (knEnt_10 kdc_142) rfl (by decide) knInX13 (knGm 1524 (by decide +kernel) rfl) rfl rfl dX13_nextChar_12 ?_
    refine kj_aloadn X 0 dX13_nextChar_15 rfl ?_
    refine kj_geti (k := 22) (ki := 22) X K rfl kdc_142 (by decide) (knEnt_10 kdc_142) rfl (by decide) knInX13 (knGm 1526 (by decide +kernel) rfl) rfl rfl dX13_nextChar_16 (fun h10 => ?_)
    obtain ⟨h11, hb8⟩ := knGd_inv hb8
    refine kj_cald X K kdc_157 h10 lnc_157 h11 dX13_nextChar_19 (fun h12 => ?_)
    refine kj_goto X (tgt := 24) dX13_nextChar_20 (by decide) ?_
    cases hb8
    refine kj_sub (L' := []) [] rfl ?_
    exact j7 _ (knH_c h12) hf

def kfX13_reads (a1 : Int) (μ : knMem) : Option (Int × knMem) :=
 Option.bind (kfX13_nextChar  μ) (fun q1 =>
  if q1 = a1 then
   some (1, (knUp μ 142 22 (knW ((μ 142 22) + 1))))
  else
   some (0, μ))

theorem knWvX13_reads : knWv yX13_reads cX13_reads 2 (some .boolean) 1 := ⟨(knGm 2088 (by decide +kernel) rfl), (knGm 124 (by decide +kernel) rfl), (knGm 2087 (by decide +kernel) rfl), (knGm 101 (by decide +kernel) rfl), by decide +kernel, by decide +kernel, by decide +kernel⟩
set_option maxHeartbeats 4000000 in
set_option maxRecDepth 100000 in
theorem kcX13_reads {G : knGT} (l : Launch) {a1 : Int} (ha1 : knC a1) {μ : knMem} {q : Int × knMem} (hf : kfX13_reads a1 μ = some q) : knC0 G l yX13_reads cX13_reads 2 (some .boolean) 1 20 [knO G 142, knV a1] μ (knZ q.1) (some (knV q.1)) q.2 := by
  unfold kfX13_reads at hf
  refine kn_ofJ (plainFor_of_name (by decide)) (Nat.le_of_ble_eq_true rfl) (L := [(0, knO G 142), (1, knV a1)]) rfl ?_
  intro p e s m args below meth c X K hr hlk
  refine kj_aloadn X 0 dX13_reads_0 rfl ?_
  obtain ⟨q1, h2, hf⟩ := knBd_inv hf
  refine kj_callV (As := []) (rest := []) X K (kcX13_nextChar l  h2) knWvX13_nextChar (knGm 2081 (by decide +kernel) rfl) (by decide) (knKd_in kdc_142 (by decide)) (knEnt_10 kdc_142) rfl rfl rfl (Nat.le_of_ble_eq_true rfl) (by decide) dX13_reads_1 rfl (fun h3 => ?_)
  refine kj_iloadn X 1 dX13_reads_4 rfl ?_
  refine kj_ic_eq X (tgt := 10) dX13_reads_5 (by decide) h3 ha1 (fun h4 => ?_) (fun h4 => ?_)
  · replace hf := knIp hf h4
    refine kj_aloadn X 0 dX13_reads_10 rfl ?_
    refine kj_dup X dX13_reads_11 rfl ?_
    refine kj_geti (k := 22) (ki := 22) X K rfl kdc_142 (by decide) (knEnt_10 kdc_142) rfl (by decide) knInX13 (knGm 1526 (by decide +kernel) rfl) rfl rfl dX13_reads_12 (fun h5 => ?_)
    refine kj_iconst X dX13_reads_15 ?_
    refine kj_iadd X dX13_reads_16 ?_
    refine kj_putf (k := 22) (ki := 22) (x := (knW ((μ 142 22) + 1))) (ty := .int) X K rfl (knKd_in kdc_142 (by decide)) (knEnt_10 kdc_142) rfl (by decide) knInX13 tyX13_ok nmX13 (knGm 1526 (by decide +kernel) rfl) rfl rfl (by decide +kernel) rfl rfl (by simp) (by rw [knEnt_10 kdc_142, knUp_row]; rfl) (fun _ => (knCw _)) (fun h => by rw [kdc_142] at h; cases h) (fun h => by rw [kdc_142] at h; cases h) dX13_reads_17 ?_
    refine kj_iconst X dX13_reads_20 ?_
    cases hf
    exact kj_zret X (Or.inr rfl) hr (kn_nb (Or.inr rfl)) dX13_reads_21 hlk
  · replace hf := knIq hf h4
    refine kj_iconst X dX13_reads_8 ?_
    cases hf
    exact kj_zret X (Or.inl rfl) hr (kn_nb (Or.inl rfl)) dX13_reads_9 hlk

def kfX13_readsDigit (a1 : Int) (μ : knMem) : Option (Int × knMem) :=
 Option.bind (kfX13_nextChar  μ) (fun q1 =>
  Option.bind (kfX13_isBetween q1 48 57 μ) (fun q4 =>
   if q4 = 0 then
    some (0, μ)
   else
    Option.bind (kfX13_nextChar  μ) (fun q8 =>
     knGd (0 ≤ a1 ∧ a1 < 4)
      (some (1, (knUp (knUp μ 158 a1 (knW (q8 - 48))) 142 22 (knW (((knUp μ 158 a1 (knW (q8 - 48))) 142 22) + 1))))))))

theorem knWvX13_readsDigit : knWv yX13_readsDigit cX13_readsDigit 2 (some .boolean) 1 := ⟨(knGm 2096 (by decide +kernel) rfl), (knGm 124 (by decide +kernel) rfl), (knGm 2095 (by decide +kernel) rfl), (knGm 103 (by decide +kernel) rfl), by decide +kernel, by decide +kernel, by decide +kernel⟩
set_option maxHeartbeats 4000000 in
set_option maxRecDepth 100000 in
theorem kcX13_readsDigit {G : knGT} (l : Launch) {a1 : Int} (ha1 : knC a1) {μ : knMem} {q : Int × knMem} (hf : kfX13_readsDigit a1 μ = some q) : knC0 G l yX13_readsDigit cX13_readsDigit 2 (some .boolean) 1 22 [knO G 142, knV a1] μ (knZ q.1) (some (knV q.1)) q.2 := by
  unfold kfX13_readsDigit at hf
  refine kn_ofJ (plainFor_of_name (by decide)) (Nat.le_of_ble_eq_true rfl) (L := [(0, knO G 142), (1, knV a1)]) rfl ?_
  intro p e s m args below meth c X K hr hlk
  refine kj_aloadn X 0 dX13_readsDigit_0 rfl ?_
  obtain ⟨q1, h2, hf⟩ := knBd_inv hf
  refine kj_callV (As := []) (rest := []) X K (kcX13_nextChar l  h2) knWvX13_nextChar (knGm 2081 (by decide +kernel) rfl) (by decide) (knKd_in kdc_142 (by decide)) (knEnt_10 kdc_142) rfl rfl rfl (Nat.le_of_ble_eq_true rfl) (by decide) dX13_readsDigit_1 rfl (fun h3 => ?_)
  refine kj_bipush X (n := 48) dX13_readsDigit_4 rfl ?_
  refine kj_bipush X (n := 57) dX13_readsDigit_6 rfl ?_
  obtain ⟨q4, h5, hf⟩ := knBd_inv hf
  refine kj_callS (As := [knV q1, knV 48, knV 57]) (rest := []) X K (kcX13_isBetween l h3 (show knC (48) from ⟨by omega, by omega⟩) (show knC (57) from ⟨by omega, by omega⟩) h5) knWkX13_isBetween (knGm 1601 (by decide +kernel) rfl) (by decide)  rfl (Nat.le_of_ble_eq_true rfl) (by decide) dX13_readsDigit_8 rfl (fun h6 => ?_)
  refine kj_if_ne X (tgt := 16) dX13_readsDigit_11 (by decide) (knZ_c h6) (fun h7 => ?_) (fun h7 => ?_)
  · replace hf := knIq hf h7
    refine kj_aloadn X 0 dX13_readsDigit_16 rfl ?_
    refine kj_geto (k := 25) (o2 := 158) X K kdc_142 (by decide) (knEnt_10 kdc_142) rfl (by decide) knInX13 (knGm 1529 (by decide +kernel) rfl) rfl rfl dX13_readsDigit_17 ?_
    refine kj_iloadn X 1 dX13_readsDigit_20 rfl ?_
    refine kj_aloadn X 0 dX13_readsDigit_21 rfl ?_
    obtain ⟨q8, h9, hf⟩ := knBd_inv hf
    refine kj_callV (As := []) (rest := [knV a1, knO G 158]) X K (kcX13_nextChar l  h9) knWvX13_nextChar (knGm 2081 (by decide +kernel) rfl) (by decide) (knKd_in kdc_142 (by decide)) (knEnt_10 kdc_142) rfl rfl rfl (Nat.le_of_ble_eq_true rfl) (by decide) dX13_readsDigit_22 rfl (fun h10 => ?_)
    refine kj_bipush X (n := 48) dX13_readsDigit_25 rfl ?_
    refine kj_isub X dX13_readsDigit_27 ?_
    obtain ⟨h11, hf⟩ := knGd_inv hf
    refine kj_iast X K kdc_158 ha1 (knCw _) lnc_158 h11 dX13_readsDigit_28 ?_
    refine kj_aloadn X 0 dX13_readsDigit_29 rfl ?_
    refine kj_dup X dX13_readsDigit_30 rfl ?_
    refine kj_geti (k := 22) (ki := 22) X K rfl kdc_142 (by decide) (knEnt_10 kdc_142) rfl (by decide) knInX13 (knGm 1526 (by decide +kernel) rfl) rfl rfl dX13_readsDigit_31 (fun h12 => ?_)
    refine kj_iconst X dX13_readsDigit_34 ?_
    refine kj_iadd X dX13_readsDigit_35 ?_
    refine kj_putf (k := 22) (ki := 22) (x := (knW (((knUp μ 158 a1 (knW (q8 - 48))) 142 22) + 1))) (ty := .int) X K rfl (knKd_in kdc_142 (by decide)) (knEnt_10 kdc_142) rfl (by decide) knInX13 tyX13_ok nmX13 (knGm 1526 (by decide +kernel) rfl) rfl rfl (by decide +kernel) rfl rfl (by simp) (by rw [knEnt_10 kdc_142, knUp_row]; rfl) (fun _ => (knCw _)) (fun h => by rw [kdc_142] at h; cases h) (fun h => by rw [kdc_142] at h; cases h) dX13_readsDigit_36 ?_
    refine kj_iconst X dX13_readsDigit_39 ?_
    cases hf
    exact kj_zret X (Or.inr rfl) hr (kn_nb (Or.inr rfl)) dX13_readsDigit_40 hlk
  · replace hf := knIp hf h7
    refine kj_iconst X dX13_readsDigit_14 ?_
    cases hf
    exact kj_zret X (Or.inl rfl) hr (kn_nb (Or.inl rfl)) dX13_readsDigit_15 hlk

def kfX13_readsNumber (a1 : Int) (μ : knMem) : Option (Int × knMem) :=
 Option.bind (kfX13_readsDigit a1 μ) (fun q1 =>
  if q1.1 = 0 then
   some (0, q1.2)
  else
   Option.bind (kfX13_nextChar  q1.2) (fun q5 =>
    Option.bind (kfX13_isBetween q5 48 57 q1.2) (fun q8 =>
     if q8 = 0 then
      some (1, q1.2)
     else
      knGd (0 ≤ a1 ∧ a1 < 4)
       (Option.bind (kfX13_nextChar  q1.2) (fun q14 =>
       some (1, (knUp (knUp q1.2 158 a1 (knW ((knW ((knW (10 * (q1.2 158 a1))) + q14)) - 48))) 142 22 (knW (((knUp q1.2 158 a1 (knW ((knW ((knW (10 * (q1.2 158 a1))) + q14)) - 48))) 142 22) + 1)))))))))

theorem knWvX13_readsNumber : knWv yX13_readsNumber cX13_readsNumber 2 (some .boolean) 1 := ⟨(knGm 2092 (by decide +kernel) rfl), (knGm 124 (by decide +kernel) rfl), (knGm 2091 (by decide +kernel) rfl), (knGm 102 (by decide +kernel) rfl), by decide +kernel, by decide +kernel, by decide +kernel⟩
set_option maxHeartbeats 4000000 in
set_option maxRecDepth 100000 in
theorem kcX13_readsNumber {G : knGT} (l : Launch) {a1 : Int} (ha1 : knC a1) {μ : knMem} {q : Int × knMem} (hf : kfX13_readsNumber a1 μ = some q) : knC0 G l yX13_readsNumber cX13_readsNumber 2 (some .boolean) 2 43 [knO G 142, knV a1] μ (knZ q.1) (some (knV q.1)) q.2 := by
  unfold kfX13_readsNumber at hf
  refine kn_ofJ (plainFor_of_name (by decide)) (Nat.le_of_ble_eq_true rfl) (L := [(0, knO G 142), (1, knV a1)]) rfl ?_
  intro p e s m args below meth c X K hr hlk
  refine kj_aloadn X 0 dX13_readsNumber_0 rfl ?_
  refine kj_iloadn X 1 dX13_readsNumber_1 rfl ?_
  obtain ⟨q1, h2, hf⟩ := knBd_inv hf
  refine kj_callV (As := [knV a1]) (rest := []) X K (kcX13_readsDigit l ha1 h2) knWvX13_readsDigit (knGm 2093 (by decide +kernel) rfl) (by decide) (knKd_in kdc_142 (by decide)) (knEnt_10 kdc_142) rfl rfl rfl (Nat.le_of_ble_eq_true rfl) (by decide) dX13_readsNumber_2 rfl (fun h3 => ?_)
  refine kj_if_ne X (tgt := 10) dX13_readsNumber_5 (by decide) (knZ_c h3) (fun h4 => ?_) (fun h4 => ?_)
  · replace hf := knIq hf h4
    refine kj_aloadn X 0 dX13_readsNumber_10 rfl ?_
    obtain ⟨q5, h6, hf⟩ := knBd_inv hf
    refine kj_callV (As := []) (rest := []) X K (kcX13_nextChar l  h6) knWvX13_nextChar (knGm 2081 (by decide +kernel) rfl) (by decide) (knKd_in kdc_142 (by decide)) (knEnt_10 kdc_142) rfl rfl rfl (Nat.le_of_ble_eq_true rfl) (by decide) dX13_readsNumber_11 rfl (fun h7 => ?_)
    refine kj_bipush X (n := 48) dX13_readsNumber_14 rfl ?_
    refine kj_bipush X (n := 57) dX13_readsNumber_16 rfl ?_
    obtain ⟨q8, h9, hf⟩ := knBd_inv hf
    refine kj_callS (As := [knV q5, knV 48, knV 57]) (rest := []) X K (kcX13_isBetween l h7 (show knC (48) from ⟨by omega, by omega⟩) (show knC (57) from ⟨by omega, by omega⟩) h9) knWkX13_isBetween (knGm 1601 (by decide +kernel) rfl) (by decide)  rfl (Nat.le_of_ble_eq_true rfl) (by decide) dX13_readsNumber_18 rfl (fun h10 => ?_)
    refine kj_if_ne X (tgt := 26) dX13_readsNumber_21 (by decide) (knZ_c h10) (fun h11 => ?_) (fun h11 => ?_)
    · replace hf := knIq hf h11
      refine kj_aloadn X 0 dX13_readsNumber_26 rfl ?_
      refine kj_geto (k := 25) (o2 := 158) X K kdc_142 (by decide) (knEnt_10 kdc_142) rfl (by decide) knInX13 (knGm 1529 (by decide +kernel) rfl) rfl rfl dX13_readsNumber_27 ?_
      refine kj_iloadn X 1 dX13_readsNumber_30 rfl ?_
      refine kj_bipush X (n := 10) dX13_readsNumber_31 rfl ?_
      refine kj_aloadn X 0 dX13_readsNumber_33 rfl ?_
      refine kj_geto (k := 25) (o2 := 158) X K kdc_142 (by decide) (knEnt_10 kdc_142) rfl (by decide) knInX13 (knGm 1529 (by decide +kernel) rfl) rfl rfl dX13_readsNumber_34 ?_
      refine kj_iloadn X 1 dX13_readsNumber_37 rfl ?_
      obtain ⟨h12, hf⟩ := knGd_inv hf
      refine kj_iald X K kdc_158 ha1 lnc_158 h12 dX13_readsNumber_38 (fun h13 => ?_)
      refine kj_imul X dX13_readsNumber_39 ?_
      refine kj_aloadn X 0 dX13_readsNumber_40 rfl ?_
      obtain ⟨q14, h15, hf⟩ := knBd_inv hf
      refine kj_callV (As := []) (rest := [knV (knW (10 * (q1.2 158 a1))), knV a1, knO G 158]) X K (kcX13_nextChar l  h15) knWvX13_nextChar (knGm 2081 (by decide +kernel) rfl) (by decide) (knKd_in kdc_142 (by decide)) (knEnt_10 kdc_142) rfl rfl rfl (Nat.le_of_ble_eq_true rfl) (by decide) dX13_readsNumber_41 rfl (fun h16 => ?_)
      refine kj_iadd X dX13_readsNumber_44 ?_
      refine kj_bipush X (n := 48) dX13_readsNumber_45 rfl ?_
      refine kj_isub X dX13_readsNumber_47 ?_
      refine kj_iast X K kdc_158 ha1 (knCw _) lnc_158 h12 dX13_readsNumber_48 ?_
      refine kj_aloadn X 0 dX13_readsNumber_49 rfl ?_
      refine kj_dup X dX13_readsNumber_50 rfl ?_
      refine kj_geti (k := 22) (ki := 22) X K rfl kdc_142 (by decide) (knEnt_10 kdc_142) rfl (by decide) knInX13 (knGm 1526 (by decide +kernel) rfl) rfl rfl dX13_readsNumber_51 (fun h17 => ?_)
      refine kj_iconst X dX13_readsNumber_54 ?_
      refine kj_iadd X dX13_readsNumber_55 ?_
      refine kj_putf (k := 22) (ki := 22) (x := (knW (((knUp q1.2 158 a1 (knW ((knW ((knW (10 * (q1.2 158 a1))) + q14)) - 48))) 142 22) + 1))) (ty := .int) X K rfl (knKd_in kdc_142 (by decide)) (knEnt_10 kdc_142) rfl (by decide) knInX13 tyX13_ok nmX13 (knGm 1526 (by decide +kernel) rfl) rfl rfl (by decide +kernel) rfl rfl (by simp) (by rw [knEnt_10 kdc_142, knUp_row]; rfl) (fun _ => (knCw _)) (fun h => by rw [kdc_142] at h; cases h) (fun h => by rw [kdc_142] at h; cases h) dX13_readsNumber_56 ?_
      refine kj_iconst X dX13_readsNumber_59 ?_
      cases hf
      exact kj_zret X (Or.inr rfl) hr (kn_nb (Or.inr rfl)) dX13_readsNumber_60 hlk
    · replace hf := knIp hf h11
      refine kj_iconst X dX13_readsNumber_24 ?_
      cases hf
      exact kj_zret X (Or.inr rfl) hr (kn_nb (Or.inr rfl)) dX13_readsNumber_25 hlk
  · replace hf := knIp hf h4
    refine kj_iconst X dX13_readsNumber_8 ?_
    cases hf
    exact kj_zret X (Or.inl rfl) hr (kn_nb (Or.inl rfl)) dX13_readsNumber_9 hlk

def kfX13_readsOne (a1 : Int) (a2 : Int) (a3 : Int) (μ : knMem) : Option (Int × knMem) :=
 Option.bind (kfX13_nextChar  μ) (fun q1 =>
  knGd (0 ≤ a1 ∧ a1 < 4)
   (Option.bind (kfX13_reads a2 (knUp μ 158 a1 (if q1 = a2 then 1 else 0 : Int))) (fun q8 =>
   (fun (k16 : (knMem) → Option (Int × knMem)) =>
    if q8.1 = 0 then
     Option.bind (kfX13_reads a3 q8.2) (fun q19 =>
      if q19.1 = 0 then
       some (0, q19.2)
      else
       k16 q19.2)
    else
     k16 q8.2)
    (fun q16 =>
    some (1, q16)))))

theorem knWvX13_readsOne : knWv yX13_readsOne cX13_readsOne 4 (some .boolean) 3 := ⟨(knGm 2100 (by decide +kernel) rfl), (knGm 124 (by decide +kernel) rfl), (knGm 2099 (by decide +kernel) rfl), (knGm 104 (by decide +kernel) rfl), by decide +kernel, by decide +kernel, by decide +kernel⟩
set_option maxHeartbeats 4000000 in
set_option maxRecDepth 100000 in
theorem kcX13_readsOne {G : knGT} (l : Launch) {a1 : Int} {a2 : Int} {a3 : Int} (ha1 : knC a1) (ha2 : knC a2) (ha3 : knC a3) {μ : knMem} {q : Int × knMem} (hf : kfX13_readsOne a1 a2 a3 μ = some q) : knC0 G l yX13_readsOne cX13_readsOne 4 (some .boolean) 2 41 [knO G 142, knV a1, knV a2, knV a3] μ (knZ q.1) (some (knV q.1)) q.2 := by
  unfold kfX13_readsOne at hf
  refine kn_ofJ (plainFor_of_name (by decide)) (Nat.le_of_ble_eq_true rfl) (L := [(0, knO G 142), (1, knV a1), (2, knV a2), (3, knV a3)]) rfl ?_
  intro p e s m args below meth c X K hr hlk
  refine kj_aloadn X 0 dX13_readsOne_0 rfl ?_
  refine kj_geto (k := 25) (o2 := 158) X K kdc_142 (by decide) (knEnt_10 kdc_142) rfl (by decide) knInX13 (knGm 1529 (by decide +kernel) rfl) rfl rfl dX13_readsOne_1 ?_
  refine kj_iloadn X 1 dX13_readsOne_4 rfl ?_
  refine kj_aloadn X 0 dX13_readsOne_5 rfl ?_
  obtain ⟨q1, h2, hf⟩ := knBd_inv hf
  refine kj_callV (As := []) (rest := [knV a1, knO G 158]) X K (kcX13_nextChar l  h2) knWvX13_nextChar (knGm 2081 (by decide +kernel) rfl) (by decide) (knKd_in kdc_142 (by decide)) (knEnt_10 kdc_142) rfl rfl rfl (Nat.le_of_ble_eq_true rfl) (by decide) dX13_readsOne_6 rfl (fun h3 => ?_)
  refine kj_iloadn X 2 dX13_readsOne_9 rfl ?_
  have j5 : ∀ (t5_0 : Int) (et5_0 : t5_0 = (if q1 = a2 then 1 else 0 : Int)) (ht5_0 : knZ t5_0), knJ G p l e { frames := 2, cells := 0, slots := 0, locals := 41 } s m args below meth c 4 0 0 (MQ below (knPo G (knZ q.1) (some (knV q.1)) q.2) args s 0 0 (knA G)) 18 [(0, knO G 142), (2, knV a2), (3, knV a3)] [knV t5_0, knV a1, knO G 158] μ := by
    intro t5_0 et5_0 ht5_0
    subst et5_0
    obtain ⟨h7, hf⟩ := knGd_inv hf
    refine kj_iast X K kdc_158 ha1 (knZ_c ht5_0) lnc_158 h7 dX13_readsOne_18 ?_
    refine kj_aloadn X 0 dX13_readsOne_19 rfl ?_
    refine kj_iloadn X 1 dX13_readsOne_20 rfl ?_
    obtain ⟨q8, h9, hf⟩ := knBd_inv hf
    refine kj_callV (As := [knV a2]) (rest := []) X K (kcX13_reads l ha2 h9) knWvX13_reads (knGm 2085 (by decide +kernel) rfl) (by decide) (knKd_in kdc_142 (by decide)) (knEnt_10 kdc_142) rfl rfl rfl (Nat.le_of_ble_eq_true rfl) (by decide) dX13_readsOne_21 rfl (fun h10 => ?_)
    have j16 : ∀ (m16 : knMem), (fun q16 =>
     some (1, q16)) m16 = some q → knJ G p l e { frames := 2, cells := 0, slots := 0, locals := 41 } s m args below meth c 4 0 0 (MQ below (knPo G (knZ q.1) (some (knV q.1)) q.2) args s 0 0 (knA G)) 35 [] [] m16 := by
      intro m16
      intro hf
      refine kj_iconst X dX13_readsOne_35 ?_
      refine kj_goto X (tgt := 40) dX13_readsOne_36 (by decide) ?_
      cases hf
      exact kj_zret X (Or.inr rfl) hr (kn_nb (Or.inr rfl)) dX13_readsOne_40 hlk
    refine kj_if_ne X (tgt := 35) dX13_readsOne_24 (by decide) (knZ_c h10) (fun h18 => ?_) (fun h18 => ?_)
    · replace hf := knIq hf h18
      refine kj_sub (L' := []) [] rfl ?_
      exact j16 _ hf
    · replace hf := knIp hf h18
      refine kj_aloadn X 0 dX13_readsOne_27 rfl ?_
      refine kj_iloadn X 2 dX13_readsOne_28 rfl ?_
      obtain ⟨q19, h20, hf⟩ := knBd_inv hf
      refine kj_callV (As := [knV a3]) (rest := []) X K (kcX13_reads l ha3 h20) knWvX13_reads (knGm 2085 (by decide +kernel) rfl) (by decide) (knKd_in kdc_142 (by decide)) (knEnt_10 kdc_142) rfl rfl rfl (Nat.le_of_ble_eq_true rfl) (by decide) dX13_readsOne_29 rfl (fun h21 => ?_)
      refine kj_if_eq X (tgt := 39) dX13_readsOne_32 (by decide) (knZ_c h21) (fun h22 => ?_) (fun h22 => ?_)
      · replace hf := knIp hf h22
        refine kj_iconst X dX13_readsOne_39 ?_
        cases hf
        exact kj_zret X (Or.inl rfl) hr (kn_nb (Or.inl rfl)) dX13_readsOne_40 hlk
      · replace hf := knIq hf h22
        refine kj_sub (L' := []) [] rfl ?_
        exact j16 _ hf
  refine kj_ic_ne X (tgt := 17) dX13_readsOne_10 (by decide) h3 ha2 (fun h23 => ?_) (fun h23 => ?_)
  · refine kj_iconst X dX13_readsOne_17 ?_
    refine kj_sub (L' := [(0, knO G 142), (2, knV a2), (3, knV a3)]) [0, 2, 3] rfl ?_
    exact j5 0 (by rw [if_neg h23]) (Or.inl rfl)
  · refine kj_iconst X dX13_readsOne_13 ?_
    refine kj_goto X (tgt := 18) dX13_readsOne_14 (by decide) ?_
    refine kj_sub (L' := [(0, knO G 142), (2, knV a2), (3, knV a3)]) [0, 2, 3] rfl ?_
    exact j5 1 (by rw [if_pos h23]) (Or.inr rfl)

