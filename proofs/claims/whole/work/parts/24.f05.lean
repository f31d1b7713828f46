def kfX13_copies_l2    (kc : (knMem) → Option (knMem)) : Nat → Int → knMem → Option (knMem)
  | 0, _, _ => none
  | n + 1, x1, μ =>
    if 50 ≤ x1 then
     kc μ
    else
     knGd (0 ≤ x1 ∧ x1 < 50)
      (kfX13_copies_l2   kc n (knW (x1 + 1)) (knUp μ 146 x1 (μ 143 x1)))

def kfX13_copies  (μ : knMem) : Option (knMem) :=
 kfX13_copies_l2   (fun w4 =>
  some w4) knF 0 μ

theorem knWvX13_copies : knWv yX13_copies cX13_copies 2 none 0 := ⟨(knGm 1615 (by decide +kernel) rfl), (knGm 124 (by decide +kernel) rfl), (knGm 1614 (by decide +kernel) rfl), (knGm 39 (by decide +kernel) rfl), by decide +kernel, by decide +kernel, by decide +kernel⟩
set_option maxHeartbeats 4000000 in
set_option maxRecDepth 100000 in
theorem kfX13_copies_l2_ok {q : knMem} {kc : (knMem) → Option (knMem)} {G : knGT} {p : Program} {l : Launch} {e : Env} {s : State} {m : MethodId} {args : Array Value} {below : List Frame} {meth : Method} {c : Code} (X : knX p m c cX13_copies 2 s args yX13_copies.cls) (K : knK G s s.heap) (hr : meth.sig.returnType = none) (hlk : meth.locks = false)    (hk : ∀ (μ1 : knMem), kc μ1 = some q → knJ G p l e { frames := 0, cells := 0, slots := 0, locals := 0 } s m args below meth c 2 0 0 (MQ below (knPo G True none q) args s 0 0 (knA G)) 26 [] [] μ1) : ∀ (n : Nat) (x1 : Int) (hx1 : knC x1) (μ : knMem), kfX13_copies_l2   kc n x1 μ = some q → knJ G p l e { frames := 0, cells := 0, slots := 0, locals := 0 } s m args below meth c 2 0 0 (MQ below (knPo G True none q) args s 0 0 (knA G)) 2 [(0, knO G 142), (1, knV x1)] [] μ := by
  intro n
  induction n with
  | zero => intro x1 hx1 μ hf; cases hf
  | succ n ih =>
    intro x1 hx1 μ hf
    unfold kfX13_copies_l2 at hf
    refine kj_iloadn X 1 dX13_copies_2 rfl ?_
    refine kj_bipush X (n := 50) dX13_copies_3 rfl ?_
    refine kj_ic_ge X (tgt := 26) dX13_copies_5 (by decide) hx1 (show knC (50) from ⟨by omega, by omega⟩) (fun h1 => ?_) (fun h1 => ?_)
    · replace hf := knIp hf h1
      refine kj_sub (L' := []) [] rfl ?_
      exact hk _ hf
    · replace hf := knIq hf h1
      refine kj_aloadn X 0 dX13_copies_8 rfl ?_
      refine kj_geto (k := 4) (o2 := 146) X K kdc_142 (by decide) (knEnt_10 kdc_142) rfl (by decide) knInX13 (knGm 1508 (by decide +kernel) rfl) rfl rfl dX13_copies_9 ?_
      refine kj_iloadn X 1 dX13_copies_12 rfl ?_
      refine kj_aloadn X 0 dX13_copies_13 rfl ?_
      refine kj_geto (k := 1) (o2 := 143) X K kdc_142 (by decide) (knEnt_10 kdc_142) rfl (by decide) knInX13 (knGm 1505 (by decide +kernel) rfl) rfl rfl dX13_copies_14 ?_
      refine kj_iloadn X 1 dX13_copies_17 rfl ?_
      obtain ⟨h2, hf⟩ := knGd_inv hf
      refine kj_iald X K kdc_143 hx1 lnc_143 h2 dX13_copies_18 (fun h3 => ?_)
      refine kj_iast X K kdc_146 hx1 h3 lnc_146 h2 dX13_copies_19 ?_
      refine kj_iinc X 1 (L' := [(1, knV (knW (x1 + 1))), (0, knO G 142)]) dX13_copies_20 rfl (by decide) rfl ?_
      refine kj_goto X (tgt := 2) dX13_copies_23 (by decide) ?_
      refine kj_sub (L' := [(0, knO G 142), (1, knV (knW (x1 + 1)))]) [1, 0] rfl ?_
      exact ih _ (knCw _) _ hf

set_option maxHeartbeats 4000000 in
set_option maxRecDepth 100000 in
theorem kcX13_copies {G : knGT} (l : Launch)   {μ : knMem} {q : knMem} (hf : kfX13_copies  μ = some q) : knC0 G l yX13_copies cX13_copies 2 none 0 0 [knO G 142] μ True none q := by
  unfold kfX13_copies at hf
  refine kn_ofJ (plainFor_of_name (by decide)) (Nat.le_of_ble_eq_true rfl) (L := [(0, knO G 142)]) rfl ?_
  intro p e s m args below meth c X K hr hlk
  refine kj_iconst X dX13_copies_0 ?_
  refine kj_istoren X (L' := [(1, knV 0), (0, knO G 142)]) dX13_copies_1 (by decide) rfl ?_
  refine kj_sub (L' := [(0, knO G 142), (1, knV 0)]) [1, 0] rfl ?_
  refine kfX13_copies_l2_ok X K hr hlk    ?_ knF _ (show knC (0) from ⟨by omega, by omega⟩) _ hf
  intro w4_m
  intro hf
  cases hf
  exact kj_vret X trivial hr dX13_copies_26 hlk

def kfX13_goesBack_l2    (kc : (knMem) → Option (knMem)) : Nat → Int → knMem → Option (knMem)
  | 0, _, _ => none
  | n + 1, x1, μ =>
    if 50 ≤ x1 then
     kc μ
    else
     knGd (0 ≤ x1 ∧ x1 < 50)
      (kfX13_goesBack_l2   kc n (knW (x1 + 1)) (knUp μ 143 x1 (μ 146 x1)))

def kfX13_goesBack  (μ : knMem) : Option (knMem) :=
 kfX13_goesBack_l2   (fun w4 =>
  some w4) knF 0 μ

theorem knWvX13_goesBack : knWv yX13_goesBack cX13_goesBack 2 none 0 := ⟨(knGm 2132 (by decide +kernel) rfl), (knGm 124 (by decide +kernel) rfl), (knGm 2131 (by decide +kernel) rfl), (knGm 112 (by decide +kernel) rfl), by decide +kernel, by decide +kernel, by decide +kernel⟩
set_option maxHeartbeats 4000000 in
set_option maxRecDepth 100000 in
theorem kfX13_goesBack_l2_ok {q : knMem} {kc : (knMem) → Option (knMem)} {G : knGT} {p : Program} {l : Launch} {e : Env} {s : State} {m : MethodId} {args : Array Value} {below : List Frame} {meth : Method} {c : Code} (X : knX p m c cX13_goesBack 2 s args yX13_goesBack.cls) (K : knK G s s.heap) (hr : meth.sig.returnType = none) (hlk : meth.locks = false)    (hk : ∀ (μ1 : knMem), kc μ1 = some q → knJ G p l e { frames := 0, cells := 0, slots := 0, locals := 0 } s m args below meth c 2 0 0 (MQ below (knPo G True none q) args s 0 0 (knA G)) 26 [] [] μ1) : ∀ (n : Nat) (x1 : Int) (hx1 : knC x1) (μ : knMem), kfX13_goesBack_l2   kc n x1 μ = some q → knJ G p l e { frames := 0, cells := 0, slots := 0, locals := 0 } s m args below meth c 2 0 0 (MQ below (knPo G True none q) args s 0 0 (knA G)) 2 [(0, knO G 142), (1, knV x1)] [] μ := by
  intro n
  induction n with
  | zero => intro x1 hx1 μ hf; cases hf
  | succ n ih =>
    intro x1 hx1 μ hf
    unfold kfX13_goesBack_l2 at hf
    refine kj_iloadn X 1 dX13_goesBack_2 rfl ?_
    refine kj_bipush X (n := 50) dX13_goesBack_3 rfl ?_
    refine kj_ic_ge X (tgt := 26) dX13_goesBack_5 (by decide) hx1 (show knC (50) from ⟨by omega, by omega⟩) (fun h1 => ?_) (fun h1 => ?_)
    · replace hf := knIp hf h1
      refine kj_sub (L' := []) [] rfl ?_
      exact hk _ hf
    · replace hf := knIq hf h1
      refine kj_aloadn X 0 dX13_goesBack_8 rfl ?_
      refine kj_geto (k := 1) (o2 := 143) X K kdc_142 (by decide) (knEnt_10 kdc_142) rfl (by decide) knInX13 (knGm 1505 (by decide +kernel) rfl) rfl rfl dX13_goesBack_9 ?_
      refine kj_iloadn X 1 dX13_goesBack_12 rfl ?_
      refine kj_aloadn X 0 dX13_goesBack_13 rfl ?_
      refine kj_geto (k := 4) (o2 := 146) X K kdc_142 (by decide) (knEnt_10 kdc_142) rfl (by decide) knInX13 (knGm 1508 (by decide +kernel) rfl) rfl rfl dX13_goesBack_14 ?_
      refine kj_iloadn X 1 dX13_goesBack_17 rfl ?_
      obtain ⟨h2, hf⟩ := knGd_inv hf
      refine kj_iald X K kdc_146 hx1 lnc_146 h2 dX13_goesBack_18 (fun h3 => ?_)
      refine kj_iast X K kdc_143 hx1 h3 lnc_143 h2 dX13_goesBack_19 ?_
      refine kj_iinc X 1 (L' := [(1, knV (knW (x1 + 1))), (0, knO G 142)]) dX13_goesBack_20 rfl (by decide) rfl ?_
      refine kj_goto X (tgt := 2) dX13_goesBack_23 (by decide) ?_
      refine kj_sub (L' := [(0, knO G 142), (1, knV (knW (x1 + 1)))]) [1, 0] rfl ?_
      exact ih _ (knCw _) _ hf

set_option maxHeartbeats 4000000 in
set_option maxRecDepth 100000 in
theorem kcX13_goesBack {G : knGT} (l : Launch)   {μ : knMem} {q : knMem} (hf : kfX13_goesBack  μ = some q) : knC0 G l yX13_goesBack cX13_goesBack 2 none 0 0 [knO G 142] μ True none q := by
  unfold kfX13_goesBack at hf
  refine kn_ofJ (plainFor_of_name (by decide)) (Nat.le_of_ble_eq_true rfl) (L := [(0, knO G 142)]) rfl ?_
  intro p e s m args below meth c X K hr hlk
  refine kj_iconst X dX13_goesBack_0 ?_
  refine kj_istoren X (L' := [(1, knV 0), (0, knO G 142)]) dX13_goesBack_1 (by decide) rfl ?_
  refine kj_sub (L' := [(0, knO G 142), (1, knV 0)]) [1, 0] rfl ?_
  refine kfX13_goesBack_l2_ok X K hr hlk    ?_ knF _ (show knC (0) from ⟨by omega, by omega⟩) _ hf
  intro w4_m
  intro hf
  cases hf
  exact kj_vret X trivial hr dX13_goesBack_26 hlk

def kfX13_keeps_l47  (x1 : Int)  (kc : (knMem) → Option (knMem)) : Nat → Int → knMem → Option (knMem)
  | 0, _, _ => none
  | n + 1, x2, μ =>
    if 50 ≤ x2 then
     kc μ
    else
     knGd (0 ≤ x2 ∧ x2 < 50)
      (knGd (0 ≤ (knW ((knW (50 * x1)) + x2)) ∧ (knW ((knW (50 * x1)) + x2)) < 400)
      (kfX13_keeps_l47  x1 kc n (knW (x2 + 1)) (knUp μ 144 (knW ((knW (50 * x1)) + x2)) (μ 146 x2))))

def kfX13_keeps  (μ : knMem) : Option (knMem) :=
 Option.bind (α := knMem)
  (if (μ 142 5) = 8 then
   some (knUp (knUp μ 142 6 (knRem (knW ((μ 142 6) + 1)) 8)) 142 5 (knW (((knUp μ 142 6 (knRem (knW ((μ 142 6) + 1)) 8)) 142 5) - 1)))
  else
   some μ)
  (fun q5 =>
  kfX13_keeps_l47 (knRem (knW ((q5 142 6) + (q5 142 5))) 8)  (fun w12 =>
   some (knUp w12 142 5 (knW ((w12 142 5) + 1)))) knF 0 q5)

theorem knWvX13_keeps : knWv yX13_keeps cX13_keeps 3 none 0 := ⟨(knGm 1619 (by decide +kernel) rfl), (knGm 124 (by decide +kernel) rfl), (knGm 1618 (by decide +kernel) rfl), (knGm 40 (by decide +kernel) rfl), by decide +kernel, by decide +kernel, by decide +kernel⟩
set_option maxHeartbeats 4000000 in
set_option maxRecDepth 100000 in
theorem kfX13_keeps_l47_ok {q : knMem} {kc : (knMem) → Option (knMem)} {G : knGT} {p : Program} {l : Launch} {e : Env} {s : State} {m : MethodId} {args : Array Value} {below : List Frame} {meth : Method} {c : Code} (X : knX p m c cX13_keeps 3 s args yX13_keeps.cls) (K : knK G s s.heap) (hr : meth.sig.returnType = none) (hlk : meth.locks = false) (x1 : Int) (hx1 : knC x1)  (hk : ∀ (μ1 : knMem), kc μ1 = some q → knJ G p l e { frames := 0, cells := 0, slots := 0, locals := 0 } s m args below meth c 3 0 0 (MQ below (knPo G True none q) args s 0 0 (knA G)) 76 [(0, knO G 142)] [] μ1) : ∀ (n : Nat) (x2 : Int) (hx2 : knC x2) (μ : knMem), kfX13_keeps_l47  x1 kc n x2 μ = some q → knJ G p l e { frames := 0, cells := 0, slots := 0, locals := 0 } s m args below meth c 3 0 0 (MQ below (knPo G True none q) args s 0 0 (knA G)) 47 [(0, knO G 142), (1, knV x1), (2, knV x2)] [] μ := by
  intro n
  induction n with
  | zero => intro x2 hx2 μ hf; cases hf
  | succ n ih =>
    intro x2 hx2 μ hf
    unfold kfX13_keeps_l47 at hf
    refine kj_iloadn X 2 dX13_keeps_47 rfl ?_
    refine kj_bipush X (n := 50) dX13_keeps_48 rfl ?_
    refine kj_ic_ge X (tgt := 76) dX13_keeps_50 (by decide) hx2 (show knC (50) from ⟨by omega, by omega⟩) (fun h8 => ?_) (fun h8 => ?_)
    · replace hf := knIp hf h8
      refine kj_sub (L' := [(0, knO G 142)]) [0] rfl ?_
      exact hk _ hf
    · replace hf := knIq hf h8
      refine kj_aloadn X 0 dX13_keeps_53 rfl ?_
      refine kj_geto (k := 2) (o2 := 144) X K kdc_142 (by decide) (knEnt_10 kdc_142) rfl (by decide) knInX13 (knGm 1506 (by decide +kernel) rfl) rfl rfl dX13_keeps_54 ?_
      refine kj_bipush X (n := 50) dX13_keeps_57 rfl ?_
      refine kj_iloadn X 1 dX13_keeps_59 rfl ?_
      refine kj_imul X dX13_keeps_60 ?_
      refine kj_iloadn X 2 dX13_keeps_61 rfl ?_
      refine kj_iadd X dX13_keeps_62 ?_
      refine kj_aloadn X 0 dX13_keeps_63 rfl ?_
      refine kj_geto (k := 4) (o2 := 146) X K kdc_142 (by decide) (knEnt_10 kdc_142) rfl (by decide) knInX13 (knGm 1508 (by decide +kernel) rfl) rfl rfl dX13_keeps_64 ?_
      refine kj_iloadn X 2 dX13_keeps_67 rfl ?_
      obtain ⟨h9, hf⟩ := knGd_inv hf
      refine kj_iald X K kdc_146 hx2 lnc_146 h9 dX13_keeps_68 (fun h10 => ?_)
      obtain ⟨h11, hf⟩ := knGd_inv hf
      refine kj_iast X K kdc_144 (knCw _) h10 lnc_144 h11 dX13_keeps_69 ?_
      refine kj_iinc X 2 (L' := [(2, knV (knW (x2 + 1))), (0, knO G 142), (1, knV x1)]) dX13_keeps_70 rfl (by decide) rfl ?_
      refine kj_goto X (tgt := 47) dX13_keeps_73 (by decide) ?_
      refine kj_sub (L' := [(0, knO G 142), (1, knV x1), (2, knV (knW (x2 + 1)))]) [1, 2, 0] rfl ?_
      exact ih _ (knCw _) _ hf

set_option maxHeartbeats 4000000 in
set_option maxRecDepth 100000 in
theorem kcX13_keeps {G : knGT} (l : Launch)   {μ : knMem} {q : knMem} (hf : kfX13_keeps  μ = some q) : knC0 G l yX13_keeps cX13_keeps 3 none 0 0 [knO G 142] μ True none q := by
  unfold kfX13_keeps at hf
  refine kn_ofJ (plainFor_of_name (by decide)) (Nat.le_of_ble_eq_true rfl) (L := [(0, knO G 142)]) rfl ?_
  intro p e s m args below meth c X K hr hlk
  refine kj_aloadn X 0 dX13_keeps_0 rfl ?_
  refine kj_geti (k := 5) (ki := 5) X K rfl kdc_142 (by decide) (knEnt_10 kdc_142) rfl (by decide) knInX13 (knGm 1509 (by decide +kernel) rfl) rfl rfl dX13_keeps_1 (fun h1 => ?_)
  refine kj_bipush X (n := 8) dX13_keeps_4 rfl ?_
  have j5 : ∀ (m5 : knMem), (fun q5 =>
   kfX13_keeps_l47 (knRem (knW ((q5 142 6) + (q5 142 5))) 8)  (fun w12 =>
    some (knUp w12 142 5 (knW ((w12 142 5) + 1)))) knF 0 q5) m5 = some q → knJ G p l e { frames := 0, cells := 0, slots := 0, locals := 0 } s m args below meth c 3 0 0 (MQ below (knPo G True none q) args s 0 0 (knA G)) 32 [(0, knO G 142)] [] m5 := by
    intro m5
    intro hf
    refine kj_aloadn X 0 dX13_keeps_32 rfl ?_
    refine kj_geti (k := 6) (ki := 6) X K rfl kdc_142 (by decide) (knEnt_10 kdc_142) rfl (by decide) knInX13 (knGm 1510 (by decide +kernel) rfl) rfl rfl dX13_keeps_33 (fun h15 => ?_)
    refine kj_aloadn X 0 dX13_keeps_36 rfl ?_
    refine kj_geti (k := 5) (ki := 5) X K rfl kdc_142 (by decide) (knEnt_10 kdc_142) rfl (by decide) knInX13 (knGm 1509 (by decide +kernel) rfl) rfl rfl dX13_keeps_37 (fun h16 => ?_)
    refine kj_iadd X dX13_keeps_40 ?_
    refine kj_bipush X (n := 8) dX13_keeps_41 rfl ?_
    refine kj_irem X dX13_keeps_43 (show knC (8) from ⟨by omega, by omega⟩) (by decide) ?_
    refine kj_istoren X (L' := [(1, knV (knRem (knW ((m5 142 6) + (m5 142 5))) 8)), (0, knO G 142)]) dX13_keeps_44 (by decide) rfl ?_
    refine kj_iconst X dX13_keeps_45 ?_
    refine kj_istoren X (L' := [(2, knV 0), (1, knV (knRem (knW ((m5 142 6) + (m5 142 5))) 8)), (0, knO G 142)]) dX13_keeps_46 (by decide) rfl ?_
    refine kj_sub (L' := [(0, knO G 142), (1, knV (knRem (knW ((m5 142 6) + (m5 142 5))) 8)), (2, knV 0)]) [2, 1, 0] rfl ?_
    refine kfX13_keeps_l47_ok X K hr hlk (knRem (knW ((m5 142 6) + (m5 142 5))) 8) (knC_rem _ _)  ?_ knF _ (show knC (0) from ⟨by omega, by omega⟩) _ hf
    intro w17_m
    intro hf
    refine kj_aloadn X 0 dX13_keeps_76 rfl ?_
    refine kj_dup X dX13_keeps_77 rfl ?_
    refine kj_geti (k := 5) (ki := 5) X K rfl kdc_142 (by decide) (knEnt_10 kdc_142) rfl (by decide) knInX13 (knGm 1509 (by decide +kernel) rfl) rfl rfl dX13_keeps_78 (fun h19 => ?_)
    refine kj_iconst X dX13_keeps_81 ?_
    refine kj_iadd X dX13_keeps_82 ?_
    refine kj_putf (k := 5) (ki := 5) (x := (knW ((w17_m 142 5) + 1))) (ty := .int) X K rfl (knKd_in kdc_142 (by decide)) (knEnt_10 kdc_142) rfl (by decide) knInX13 tyX13_ok nmX13 (knGm 1509 (by decide +kernel) rfl) rfl rfl (by decide +kernel) rfl rfl (by simp) (by rw [knEnt_10 kdc_142, knUp_row]; rfl) (fun _ => (knCw _)) (fun h => by rw [kdc_142] at h; cases h) (fun h => by rw [kdc_142] at h; cases h) dX13_keeps_83 ?_
    cases hf
    exact kj_vret X trivial hr dX13_keeps_86 hlk
  obtain ⟨b20, hb20, hf⟩ := knBd_inv hf
  refine kj_ic_ne X (tgt := 32) dX13_keeps_6 (by decide) h1 (show knC (8) from ⟨by omega, by omega⟩) (fun h21 => ?_) (fun h21 => ?_)
  · replace hb20 := knIq hb20 h21
    cases hb20
    refine kj_sub (L' := [(0, knO G 142)]) [0] rfl ?_
    exact j5 _ hf
  · replace hb20 := knIp hb20 h21
    refine kj_aloadn X 0 dX13_keeps_9 rfl ?_
    refine kj_aloadn X 0 dX13_keeps_10 rfl ?_
    refine kj_geti (k := 6) (ki := 6) X K rfl kdc_142 (by decide) (knEnt_10 kdc_142) rfl (by decide) knInX13 (knGm 1510 (by decide +kernel) rfl) rfl rfl dX13_keeps_11 (fun h22 => ?_)
    refine kj_iconst X dX13_keeps_14 ?_
    refine kj_iadd X dX13_keeps_15 ?_
    refine kj_bipush X (n := 8) dX13_keeps_16 rfl ?_
    refine kj_irem X dX13_keeps_18 (show knC (8) from ⟨by omega, by omega⟩) (by decide) ?_
    refine kj_putf (k := 6) (ki := 6) (x := (knRem (knW ((μ 142 6) + 1)) 8)) (ty := .int) X K rfl (knKd_in kdc_142 (by decide)) (knEnt_10 kdc_142) rfl (by decide) knInX13 tyX13_ok nmX13 (knGm 1510 (by decide +kernel) rfl) rfl rfl (by decide +kernel) rfl rfl (by simp) (by rw [knEnt_10 kdc_142, knUp_row]; rfl) (fun _ => (knC_rem _ _)) (fun h => by rw [kdc_142] at h; cases h) (fun h => by rw [kdc_142] at h; cases h) dX13_keeps_19 ?_
    refine kj_aloadn X 0 dX13_keeps_22 rfl ?_
    refine kj_dup X dX13_keeps_23 rfl ?_
    refine kj_geti (k := 5) (ki := 5) X K rfl kdc_142 (by decide) (knEnt_10 kdc_142) rfl (by decide) knInX13 (knGm 1509 (by decide +kernel) rfl) rfl rfl dX13_keeps_24 (fun h23 => ?_)
    refine kj_iconst X dX13_keeps_27 ?_
    refine kj_isub X dX13_keeps_28 ?_
    refine kj_putf (k := 5) (ki := 5) (x := (knW (((knUp μ 142 6 (knRem (knW ((μ 142 6) + 1)) 8)) 142 5) - 1))) (ty := .int) X K rfl (knKd_in kdc_142 (by decide)) (knEnt_10 kdc_142) rfl (by decide) knInX13 tyX13_ok nmX13 (knGm 1509 (by decide +kernel) rfl) rfl rfl (by decide +kernel) rfl rfl (by simp) (by rw [knEnt_10 kdc_142, knUp_row]; rfl) (fun _ => (knCw _)) (fun h => by rw [kdc_142] at h; cases h) (fun h => by rw [kdc_142] at h; cases h) dX13_keeps_29 ?_
    cases hb20
    refine kj_sub (L' := [(0, knO G 142)]) [0] rfl ?_
    exact j5 _ hf

def kfX13_remembers  (μ : knMem) : Option (knMem) :=
 Option.bind (kfX13_copies  μ) (fun q1 =>
  Option.bind (kfX13_keeps  q1) (fun q4 =>
   some q4))

theorem knWvX13_remembers : knWv yX13_remembers cX13_remembers 1 none 0 := ⟨(knGm 1611 (by decide +kernel) rfl), (knGm 124 (by decide +kernel) rfl), (knGm 1610 (by decide +kernel) rfl), (knGm 38 (by decide +kernel) rfl), by decide +kernel, by decide +kernel, by decide +kernel⟩
set_option maxHeartbeats 4000000 in
set_option maxRecDepth 100000 in
theorem kcX13_remembers {G : knGT} (l : Launch)   {μ : knMem} {q : knMem} (hf : kfX13_remembers  μ = some q) : knC0 G l yX13_remembers cX13_remembers 1 none 1 22 [knO G 142] μ True none q := by
  unfold kfX13_remembers at hf
  refine kn_ofJ (plainFor_of_name (by decide)) (Nat.le_of_ble_eq_true rfl) (L := [(0, knO G 142)]) rfl ?_
  intro p e s m args below meth c X K hr hlk
  refine kj_aloadn X 0 dX13_remembers_0 rfl ?_
  obtain ⟨q1, h2, hf⟩ := knBd_inv hf
  refine kj_callV (As := []) (rest := []) X K (kcX13_copies l  h2) knWvX13_copies (knGm 1612 (by decide +kernel) rfl) (by decide) (knKd_in kdc_142 (by decide)) (knEnt_10 kdc_142) rfl rfl rfl (Nat.le_of_ble_eq_true rfl) (by decide) dX13_remembers_1 rfl (fun h3 => ?_)
  refine kj_aloadn X 0 dX13_remembers_4 rfl ?_
  obtain ⟨q4, h5, hf⟩ := knBd_inv hf
  refine kj_callV (As := []) (rest := []) X K (kcX13_keeps l  h5) knWvX13_keeps (knGm 1616 (by decide +kernel) rfl) (by decide) (knKd_in kdc_142 (by decide)) (knEnt_10 kdc_142) rfl rfl rfl (Nat.le_of_ble_eq_true rfl) (by decide) dX13_remembers_5 rfl (fun h6 => ?_)
  cases hf
  exact kj_vret X trivial hr dX13_remembers_8 hlk

def kfX13_loads_l12    (kc : (knMem) → Option (knMem)) : Nat → Int → knMem → Option (knMem)
  | 0, _, _ => none
  | n + 1, x1, μ =>
    if 14 ≤ x1 then
     kc μ
    else
     knGd (0 ≤ (knW (22 + x1)) ∧ (knW (22 + x1)) < 50)
      (knGd (0 ≤ x1 ∧ x1 < 14)
      (knGd (0 ≤ (knW (36 + x1)) ∧ (knW (36 + x1)) < 50)
      (kfX13_loads_l12   kc n (knW (x1 + 1)) (knUp (knUp μ 147 x1 (μ 143 (knW (22 + x1)))) 148 x1 ((knUp μ 147 x1 (μ 143 (knW (22 + x1)))) 143 (knW (36 + x1)))))))

def kfX13_loads_l56    (kc : (knMem) → Option (knMem)) : Nat → Int → knMem → Option (knMem)
  | 0, _, _ => none
  | n + 1, x1, μ =>
    if 7 ≤ x1 then
     kc μ
    else
     knGd (0 ≤ (knW (15 + x1)) ∧ (knW (15 + x1)) < 50)
      (knGd (0 ≤ x1 ∧ x1 < 7)
      (kfX13_loads_l56   kc n (knW (x1 + 1)) (knUp μ 149 x1 (μ 143 (knW (15 + x1))))))

def kfX13_loads  (μ : knMem) : Option (knMem) :=
 knGd ((0 : Int) ≤ 0 ∧ (0 : Int) < 50)
  (kfX13_loads_l12   (fun w9 =>
  kfX13_loads_l56   (fun w14 =>
   some w14) knF 0 w9) knF 0 (knUp μ 142 8 (μ 143 0)))

theorem knWvX13_loads : knWv yX13_loads cX13_loads 2 none 0 := ⟨(knGm 1627 (by decide +kernel) rfl), (knGm 124 (by decide +kernel) rfl), (knGm 1626 (by decide +kernel) rfl), (knGm 42 (by decide +kernel) rfl), by decide +kernel, by decide +kernel, by decide +kernel⟩
set_option maxHeartbeats 4000000 in
set_option maxRecDepth 100000 in
theorem kfX13_loads_l12_ok {q : knMem} {kc : (knMem) → Option (knMem)} {G : knGT} {p : Program} {l : Launch} {e : Env} {s : State} {m : MethodId} {args : Array Value} {below : List Frame} {meth : Method} {c : Code} (X : knX p m c cX13_loads 2 s args yX13_loads.cls) (K : knK G s s.heap) (hr : meth.sig.returnType = none) (hlk : meth.locks = false)    (hk : ∀ (μ1 : knMem), kc μ1 = some q → knJ G p l e { frames := 0, cells := 0, slots := 0, locals := 0 } s m args below meth c 2 0 0 (MQ below (knPo G True none q) args s 0 0 (knA G)) 54 [(0, knO G 142)] [] μ1) : ∀ (n : Nat) (x1 : Int) (hx1 : knC x1) (μ : knMem), kfX13_loads_l12   kc n x1 μ = some q → knJ G p l e { frames := 0, cells := 0, slots := 0, locals := 0 } s m args below meth c 2 0 0 (MQ below (knPo G True none q) args s 0 0 (knA G)) 12 [(0, knO G 142), (1, knV x1)] [] μ := by
  intro n
  induction n with
  | zero => intro x1 hx1 μ hf; cases hf
  | succ n ih =>
    intro x1 hx1 μ hf
    unfold kfX13_loads_l12 at hf
    refine kj_iloadn X 1 dX13_loads_12 rfl ?_
    refine kj_bipush X (n := 14) dX13_loads_13 rfl ?_
    refine kj_ic_ge X (tgt := 54) dX13_loads_15 (by decide) hx1 (show knC (14) from ⟨by omega, by omega⟩) (fun h3 => ?_) (fun h3 => ?_)
    · replace hf := knIp hf h3
      refine kj_sub (L' := [(0, knO G 142)]) [0] rfl ?_
      exact hk _ hf
    · replace hf := knIq hf h3
      refine kj_aloadn X 0 dX13_loads_18 rfl ?_
      refine kj_geto (k := 9) (o2 := 147) X K kdc_142 (by decide) (knEnt_10 kdc_142) rfl (by decide) knInX13 (knGm 1513 (by decide +kernel) rfl) rfl rfl dX13_loads_19 ?_
      refine kj_iloadn X 1 dX13_loads_22 rfl ?_
      refine kj_aloadn X 0 dX13_loads_23 rfl ?_
      refine kj_geto (k := 1) (o2 := 143) X K kdc_142 (by decide) (knEnt_10 kdc_142) rfl (by decide) knInX13 (knGm 1505 (by decide +kernel) rfl) rfl rfl dX13_loads_24 ?_
      refine kj_bipush X (n := 22) dX13_loads_27 rfl ?_
      refine kj_iloadn X 1 dX13_loads_29 rfl ?_
      refine kj_iadd X dX13_loads_30 ?_
      obtain ⟨h4, hf⟩ := knGd_inv hf
      refine kj_iald X K kdc_143 (knCw _) lnc_143 h4 dX13_loads_31 (fun h5 => ?_)
      obtain ⟨h6, hf⟩ := knGd_inv hf
      refine kj_iast X K kdc_147 hx1 h5 lnc_147 h6 dX13_loads_32 ?_
      refine kj_aloadn X 0 dX13_loads_33 rfl ?_
      refine kj_geto (k := 10) (o2 := 148) X K kdc_142 (by decide) (knEnt_10 kdc_142) rfl (by decide) knInX13 (knGm 1514 (by decide +kernel) rfl) rfl rfl dX13_loads_34 ?_
      refine kj_iloadn X 1 dX13_loads_37 rfl ?_
      refine kj_aloadn X 0 dX13_loads_38 rfl ?_
      refine kj_geto (k := 1) (o2 := 143) X K kdc_142 (by decide) (knEnt_10 kdc_142) rfl (by decide) knInX13 (knGm 1505 (by decide +kernel) rfl) rfl rfl dX13_loads_39 ?_
      refine kj_bipush X (n := 36) dX13_loads_42 rfl ?_
      refine kj_iloadn X 1 dX13_loads_44 rfl ?_
      refine kj_iadd X dX13_loads_45 ?_
      obtain ⟨h7, hf⟩ := knGd_inv hf
      refine kj_iald X K kdc_143 (knCw _) lnc_143 h7 dX13_loads_46 (fun h8 => ?_)
      refine kj_iast X K kdc_148 hx1 h8 lnc_148 h6 dX13_loads_47 ?_
      refine kj_iinc X 1 (L' := [(1, knV (knW (x1 + 1))), (0, knO G 142)]) dX13_loads_48 rfl (by decide) rfl ?_
      refine kj_goto X (tgt := 12) dX13_loads_51 (by decide) ?_
      refine kj_sub (L' := [(0, knO G 142), (1, knV (knW (x1 + 1)))]) [1, 0] rfl ?_
      exact ih _ (knCw _) _ hf

set_option maxHeartbeats 4000000 in
set_option maxRecDepth 100000 in
theorem kfX13_loads_l56_ok {q : knMem} {kc : (knMem) → Option (knMem)} {G : knGT} {p : Program} {l : Launch} {e : Env} {s : State} {m : MethodId} {args : Array Value} {below : List Frame} {meth : Method} {c : Code} (X : knX p m c cX13_loads 2 s args yX13_loads.cls) (K : knK G s s.heap) (hr : meth.sig.returnType = none) (hlk : meth.locks = false)    (hk : ∀ (μ1 : knMem), kc μ1 = some q → knJ G p l e { frames := 0, cells := 0, slots := 0, locals := 0 } s m args below meth c 2 0 0 (MQ below (knPo G True none q) args s 0 0 (knA G)) 83 [] [] μ1) : ∀ (n : Nat) (x1 : Int) (hx1 : knC x1) (μ : knMem), kfX13_loads_l56   kc n x1 μ = some q → knJ G p l e { frames := 0, cells := 0, slots := 0, locals := 0 } s m args below meth c 2 0 0 (MQ below (knPo G True none q) args s 0 0 (knA G)) 56 [(0, knO G 142), (1, knV x1)] [] μ := by
  intro n
  induction n with
  | zero => intro x1 hx1 μ hf; cases hf
  | succ n ih =>
    intro x1 hx1 μ hf
    unfold kfX13_loads_l56 at hf
    refine kj_iloadn X 1 dX13_loads_56 rfl ?_
    refine kj_bipush X (n := 7) dX13_loads_57 rfl ?_
    refine kj_ic_ge X (tgt := 83) dX13_loads_59 (by decide) hx1 (show knC (7) from ⟨by omega, by omega⟩) (fun h10 => ?_) (fun h10 => ?_)
    · replace hf := knIp hf h10
      refine kj_sub (L' := []) [] rfl ?_
      exact hk _ hf
    · replace hf := knIq hf h10
      refine kj_aloadn X 0 dX13_loads_62 rfl ?_
      refine kj_geto (k := 11) (o2 := 149) X K kdc_142 (by decide) (knEnt_10 kdc_142) rfl (by decide) knInX13 (knGm 1515 (by decide +kernel) rfl) rfl rfl dX13_loads_63 ?_
      refine kj_iloadn X 1 dX13_loads_66 rfl ?_
      refine kj_aloadn X 0 dX13_loads_67 rfl ?_
      refine kj_geto (k := 1) (o2 := 143) X K kdc_142 (by decide) (knEnt_10 kdc_142) rfl (by decide) knInX13 (knGm 1505 (by decide +kernel) rfl) rfl rfl dX13_loads_68 ?_
      refine kj_bipush X (n := 15) dX13_loads_71 rfl ?_
      refine kj_iloadn X 1 dX13_loads_73 rfl ?_
      refine kj_iadd X dX13_loads_74 ?_
      obtain ⟨h11, hf⟩ := knGd_inv hf
      refine kj_iald X K kdc_143 (knCw _) lnc_143 h11 dX13_loads_75 (fun h12 => ?_)
      obtain ⟨h13, hf⟩ := knGd_inv hf
      refine kj_iast X K kdc_149 hx1 h12 lnc_149 h13 dX13_loads_76 ?_
      refine kj_iinc X 1 (L' := [(1, knV (knW (x1 + 1))), (0, knO G 142)]) dX13_loads_77 rfl (by decide) rfl ?_
      refine kj_goto X (tgt := 56) dX13_loads_80 (by decide) ?_
      refine kj_sub (L' := [(0, knO G 142), (1, knV (knW (x1 + 1)))]) [1, 0] rfl ?_
      exact ih _ (knCw _) _ hf

set_option maxHeartbeats 4000000 in
set_option maxRecDepth 100000 in
theorem kcX13_loads {G : knGT} (l : Launch)   {μ : knMem} {q : knMem} (hf : kfX13_loads  μ = some q) : knC0 G l yX13_loads cX13_loads 2 none 0 0 [knO G 142] μ True none q := by
  unfold kfX13_loads at hf
  refine kn_ofJ (plainFor_of_name (by decide)) (Nat.le_of_ble_eq_true rfl) (L := [(0, knO G 142)]) rfl ?_
  intro p e s m args below meth c X K hr hlk
  refine kj_aloadn X 0 dX13_loads_0 rfl ?_
  refine kj_aloadn X 0 dX13_loads_1 rfl ?_
  refine kj_geto (k := 1) (o2 := 143) X K kdc_142 (by decide) (knEnt_10 kdc_142) rfl (by decide) knInX13 (knGm 1505 (by decide +kernel) rfl) rfl rfl dX13_loads_2 ?_
  refine kj_iconst X dX13_loads_5 ?_
  obtain ⟨h1, hf⟩ := knGd_inv hf
  refine kj_iald X K kdc_143 (show knC (0) from ⟨by omega, by omega⟩) lnc_143 h1 dX13_loads_6 (fun h2 => ?_)
  refine kj_putf (k := 8) (ki := 8) (x := (μ 143 0)) (ty := .int) X K rfl (knKd_in kdc_142 (by decide)) (knEnt_10 kdc_142) rfl (by decide) knInX13 tyX13_ok nmX13 (knGm 1512 (by decide +kernel) rfl) rfl rfl (by decide +kernel) rfl rfl (by simp) (by rw [knEnt_10 kdc_142, knUp_row]; rfl) (fun _ => h2) (fun h => by rw [kdc_142] at h; cases h) (fun h => by rw [kdc_142] at h; cases h) dX13_loads_7 ?_
  refine kj_iconst X dX13_loads_10 ?_
  refine kj_istoren X (L' := [(1, knV 0), (0, knO G 142)]) dX13_loads_11 (by decide) rfl ?_
  refine kj_sub (L' := [(0, knO G 142), (1, knV 0)]) [1, 0] rfl ?_
  refine kfX13_loads_l12_ok X K hr hlk    ?_ knF _ (show knC (0) from ⟨by omega, by omega⟩) _ hf
  intro w9_m
  intro hf
  refine kj_iconst X dX13_loads_54 ?_
  refine kj_istoren X (L' := [(1, knV 0), (0, knO G 142)]) dX13_loads_55 (by decide) rfl ?_
  refine kj_sub (L' := [(0, knO G 142), (1, knV 0)]) [1, 0] rfl ?_
  refine kfX13_loads_l56_ok X K hr hlk    ?_ knF _ (show knC (0) from ⟨by omega, by omega⟩) _ hf
  intro w15_m
  intro hf
  cases hf
  exact kj_vret X trivial hr dX13_loads_83 hlk

def kfX13_stores_l12    (kc : (knMem) → Option (knMem)) : Nat → Int → knMem → Option (knMem)
  | 0, _, _ => none
  | n + 1, x1, μ =>
    if 14 ≤ x1 then
     kc μ
    else
     Option.bind (α := Int)
      (if (knW (2 * (μ 142 8))) ≤ x1 then
       some 0
      else
       knGd (0 ≤ x1 ∧ x1 < 14)
        (some (μ 147 x1)))
      (fun q8 =>
      knGd (0 ≤ (knW (22 + x1)) ∧ (knW (22 + x1)) < 50)
       (Option.bind (α := Int)
       (if (knW (2 * ((knUp μ 143 (knW (22 + x1)) q8) 142 8))) ≤ x1 then
        some 0
       else
        knGd (0 ≤ x1 ∧ x1 < 14)
         (some ((knUp μ 143 (knW (22 + x1)) q8) 148 x1)))
       (fun q14 =>
       knGd (0 ≤ (knW (36 + x1)) ∧ (knW (36 + x1)) < 50)
        (kfX13_stores_l12   kc n (knW (x1 + 1)) (knUp (knUp μ 143 (knW (22 + x1)) q8) 143 (knW (36 + x1)) q14)))))

def kfX13_stores_l84    (kc : (knMem) → Option (knMem)) : Nat → Int → knMem → Option (knMem)
  | 0, _, _ => none
  | n + 1, x1, μ =>
    if 7 ≤ x1 then
     kc μ
    else
     Option.bind (α := Int)
      (if (μ 142 8) ≤ x1 then
       some 0
      else
       knGd (0 ≤ x1 ∧ x1 < 7)
        (some (μ 149 x1)))
      (fun q43 =>
      knGd (0 ≤ (knW (15 + x1)) ∧ (knW (15 + x1)) < 50)
       (kfX13_stores_l84   kc n (knW (x1 + 1)) (knUp μ 143 (knW (15 + x1)) q43)))

def kfX13_stores  (μ : knMem) : Option (knMem) :=
 knGd ((0 : Int) ≤ 0 ∧ (0 : Int) < 50)
  (kfX13_stores_l12   (fun w37 =>
  kfX13_stores_l84   (fun w50 =>
   some w50) knF 0 w37) knF 0 (knUp μ 143 0 (μ 142 8)))

theorem knWvX13_stores : knWv yX13_stores cX13_stores 2 none 0 := ⟨(knGm 1635 (by decide +kernel) rfl), (knGm 124 (by decide +kernel) rfl), (knGm 1634 (by decide +kernel) rfl), (knGm 44 (by decide +kernel) rfl), by decide +kernel, by decide +kernel, by decide +kernel⟩
set_option maxHeartbeats 4000000 in
set_option maxRecDepth 100000 in
theorem kfX13_stores_l12_ok {q : knMem} {kc : (knMem) → Option (knMem)} {G : knGT} {p : Program} {l : Launch} {e : Env} {s : State} {m : MethodId} {args : Array Value} {below : List Frame} {meth : Method} {c : Code} (X : knX p m c cX13_stores 2 s args yX13_stores.cls) (K : knK G s s.heap) (hr : meth.sig.returnType = none) (hlk : meth.locks = false)    (hk : ∀ (μ1 : knMem), kc μ1 = some q → knJ G p l e { frames := 0, cells := 0, slots := 0, locals := 0 } s m args below meth c 2 0 0 (MQ below (knPo G True none q) args s 0 0 (knA G)) 82 [(0, knO G 142)] [] μ1) : ∀ (n : Nat) (x1 : Int) (hx1 : knC x1) (μ : knMem), kfX13_stores_l12   kc n x1 μ = some q → knJ G p l e { frames := 0, cells := 0, slots := 0, locals := 0 } s m args below meth c 2 0 0 (MQ below (knPo G True none q) args s 0 0 (knA G)) 12 [(0, knO G 142), (1, knV x1)] [] μ := by
  intro n
  induction n with
  | zero => intro x1 hx1 μ hf; cases hf
  | succ n ih =>
    intro x1 hx1 μ hf
    unfold kfX13_stores_l12 at hf
    refine kj_iloadn X 1 dX13_stores_12 rfl ?_
    refine kj_bipush X (n := 14) dX13_stores_13 rfl ?_
    refine kj_ic_ge X (tgt := 82) dX13_stores_15 (by decide) hx1 (show knC (14) from ⟨by omega, by omega⟩) (fun h3 => ?_) (fun h3 => ?_)
    · replace hf := knIp hf h3
      refine kj_sub (L' := [(0, knO G 142)]) [0] rfl ?_
      exact hk _ hf
    · replace hf := knIq hf h3
      refine kj_aloadn X 0 dX13_stores_18 rfl ?_
      refine kj_geto (k := 1) (o2 := 143) X K kdc_142 (by decide) (knEnt_10 kdc_142) rfl (by decide) knInX13 (knGm 1505 (by decide +kernel) rfl) rfl rfl dX13_stores_19 ?_
      refine kj_bipush X (n := 22) dX13_stores_22 rfl ?_
      refine kj_iloadn X 1 dX13_stores_24 rfl ?_
      refine kj_iadd X dX13_stores_25 ?_
      refine kj_iloadn X 1 dX13_stores_26 rfl ?_
      refine kj_iconst X dX13_stores_27 ?_
      refine kj_aloadn X 0 dX13_stores_28 rfl ?_
      refine kj_geti (k := 8) (ki := 8) X K rfl kdc_142 (by decide) (knEnt_10 kdc_142) rfl (by decide) knInX13 (knGm 1512 (by decide +kernel) rfl) rfl rfl dX13_stores_29 (fun h4 => ?_)
      refine kj_imul X dX13_stores_32 ?_
      have j8 : ∀ (t8_0 : Int) (ht8_0 : knC t8_0), (fun q8 =>
       knGd (0 ≤ (knW (22 + x1)) ∧ (knW (22 + x1)) < 50)
        (Option.bind (α := Int)
        (if (knW (2 * ((knUp μ 143 (knW (22 + x1)) q8) 142 8))) ≤ x1 then
         some 0
        else
         knGd (0 ≤ x1 ∧ x1 < 14)
          (some ((knUp μ 143 (knW (22 + x1)) q8) 148 x1)))
        (fun q14 =>
        knGd (0 ≤ (knW (36 + x1)) ∧ (knW (36 + x1)) < 50)
         (kfX13_stores_l12   kc n (knW (x1 + 1)) (knUp (knUp μ 143 (knW (22 + x1)) q8) 143 (knW (36 + x1)) q14))))) t8_0 = some q → knJ G p l e { frames := 0, cells := 0, slots := 0, locals := 0 } s m args below meth c 2 0 0 (MQ below (knPo G True none q) args s 0 0 (knA G)) 46 [(0, knO G 142), (1, knV x1)] [knV t8_0, knV (knW (22 + x1)), knO G 143] μ := by
        intro t8_0 ht8_0
        intro hf
        obtain ⟨h21, hf⟩ := knGd_inv hf
        refine kj_iast X K kdc_143 (knCw _) ht8_0 lnc_143 h21 dX13_stores_46 ?_
        refine kj_aloadn X 0 dX13_stores_47 rfl ?_
        refine kj_geto (k := 1) (o2 := 143) X K kdc_142 (by decide) (knEnt_10 kdc_142) rfl (by decide) knInX13 (knGm 1505 (by decide +kernel) rfl) rfl rfl dX13_stores_48 ?_
        refine kj_bipush X (n := 36) dX13_stores_51 rfl ?_
        refine kj_iloadn X 1 dX13_stores_53 rfl ?_
        refine kj_iadd X dX13_stores_54 ?_
        refine kj_iloadn X 1 dX13_stores_55 rfl ?_
        refine kj_iconst X dX13_stores_56 ?_
        refine kj_aloadn X 0 dX13_stores_57 rfl ?_
        refine kj_geti (k := 8) (ki := 8) X K rfl kdc_142 (by decide) (knEnt_10 kdc_142) rfl (by decide) knInX13 (knGm 1512 (by decide +kernel) rfl) rfl rfl dX13_stores_58 (fun h22 => ?_)
        refine kj_imul X dX13_stores_61 ?_
        have j26 : ∀ (t26_0 : Int) (ht26_0 : knC t26_0), (fun q26 =>
         knGd (0 ≤ (knW (36 + x1)) ∧ (knW (36 + x1)) < 50)
          (kfX13_stores_l12   kc n (knW (x1 + 1)) (knUp (knUp μ 143 (knW (22 + x1)) t8_0) 143 (knW (36 + x1)) q26))) t26_0 = some q → knJ G p l e { frames := 0, cells := 0, slots := 0, locals := 0 } s m args below meth c 2 0 0 (MQ below (knPo G True none q) args s 0 0 (knA G)) 75 [(0, knO G 142), (1, knV x1)] [knV t26_0, knV (knW (36 + x1)), knO G 143] (knUp μ 143 (knW (22 + x1)) t8_0) := by
          intro t26_0 ht26_0
          intro hf
          obtain ⟨h28, hf⟩ := knGd_inv hf
          refine kj_iast X K kdc_143 (knCw _) ht26_0 lnc_143 h28 dX13_stores_75 ?_
          refine kj_iinc X 1 (L' := [(1, knV (knW (x1 + 1))), (0, knO G 142)]) dX13_stores_76 rfl (by decide) rfl ?_
          refine kj_goto X (tgt := 12) dX13_stores_79 (by decide) ?_
          refine kj_sub (L' := [(0, knO G 142), (1, knV (knW (x1 + 1)))]) [1, 0] rfl ?_
          exact ih _ (knCw _) _ hf
        obtain ⟨b29, hb29, hf⟩ := knBd_inv hf
        refine kj_ic_ge X (tgt := 74) dX13_stores_62 (by decide) hx1 (knCw _) (fun h30 => ?_) (fun h30 => ?_)
        · replace hb29 := knIp hb29 h30
          refine kj_iconst X dX13_stores_74 ?_
          cases hb29
          refine kj_sub (L' := [(0, knO G 142), (1, knV x1)]) [0, 1] rfl ?_
          exact j26 _ (show knC (0) from ⟨by omega, by omega⟩) hf
        · replace hb29 := knIq hb29 h30
          refine kj_aloadn X 0 dX13_stores_65 rfl ?_
          refine kj_geto (k := 10) (o2 := 148) X K kdc_142 (by decide) (knEnt_10 kdc_142) rfl (by decide) knInX13 (knGm 1514 (by decide +kernel) rfl) rfl rfl dX13_stores_66 ?_
          refine kj_iloadn X 1 dX13_stores_69 rfl ?_
          obtain ⟨h31, hb29⟩ := knGd_inv hb29
          refine kj_iald X K kdc_148 hx1 lnc_148 h31 dX13_stores_70 (fun h32 => ?_)
          refine kj_goto X (tgt := 75) dX13_stores_71 (by decide) ?_
          cases hb29
          refine kj_sub (L' := [(0, knO G 142), (1, knV x1)]) [0, 1] rfl ?_
          exact j26 _ h32 hf
      obtain ⟨b33, hb33, hf⟩ := knBd_inv hf
      refine kj_ic_ge X (tgt := 45) dX13_stores_33 (by decide) hx1 (knCw _) (fun h34 => ?_) (fun h34 => ?_)
      · replace hb33 := knIp hb33 h34
        refine kj_iconst X dX13_stores_45 ?_
        cases hb33
        refine kj_sub (L' := [(0, knO G 142), (1, knV x1)]) [0, 1] rfl ?_
        exact j8 _ (show knC (0) from ⟨by omega, by omega⟩) hf
      · replace hb33 := knIq hb33 h34
        refine kj_aloadn X 0 dX13_stores_36 rfl ?_
        refine kj_geto (k := 9) (o2 := 147) X K kdc_142 (by decide) (knEnt_10 kdc_142) rfl (by decide) knInX13 (knGm 1513 (by decide +kernel) rfl) rfl rfl dX13_stores_37 ?_
        refine kj_iloadn X 1 dX13_stores_40 rfl ?_
        obtain ⟨h35, hb33⟩ := knGd_inv hb33
        refine kj_iald X K kdc_147 hx1 lnc_147 h35 dX13_stores_41 (fun h36 => ?_)
        refine kj_goto X (tgt := 46) dX13_stores_42 (by decide) ?_
        cases hb33
        refine kj_sub (L' := [(0, knO G 142), (1, knV x1)]) [0, 1] rfl ?_
        exact j8 _ h36 hf

set_option maxHeartbeats 4000000 in
set_option maxRecDepth 100000 in
theorem kfX13_stores_l84_ok {q : knMem} {kc : (knMem) → Option (knMem)} {G : knGT} {p : Program} {l : Launch} {e : Env} {s : State} {m : MethodId} {args : Array Value} {below : List Frame} {meth : Method} {c : Code} (X : knX p m c cX13_stores 2 s args yX13_stores.cls) (K : knK G s s.heap) (hr : meth.sig.returnType = none) (hlk : meth.locks = false)    (hk : ∀ (μ1 : knMem), kc μ1 = some q → knJ G p l e { frames := 0, cells := 0, slots := 0, locals := 0 } s m args below meth c 2 0 0 (MQ below (knPo G True none q) args s 0 0 (knA G)) 123 [] [] μ1) : ∀ (n : Nat) (x1 : Int) (hx1 : knC x1) (μ : knMem), kfX13_stores_l84   kc n x1 μ = some q → knJ G p l e { frames := 0, cells := 0, slots := 0, locals := 0 } s m args below meth c 2 0 0 (MQ below (knPo G True none q) args s 0 0 (knA G)) 84 [(0, knO G 142), (1, knV x1)] [] μ := by
  intro n
  induction n with
  | zero => intro x1 hx1 μ hf; cases hf
  | succ n ih =>
    intro x1 hx1 μ hf
    unfold kfX13_stores_l84 at hf
    refine kj_iloadn X 1 dX13_stores_84 rfl ?_
    refine kj_bipush X (n := 7) dX13_stores_85 rfl ?_
    refine kj_ic_ge X (tgt := 123) dX13_stores_87 (by decide) hx1 (show knC (7) from ⟨by omega, by omega⟩) (fun h38 => ?_) (fun h38 => ?_)
    · replace hf := knIp hf h38
      refine kj_sub (L' := []) [] rfl ?_
      exact hk _ hf
    · replace hf := knIq hf h38
      refine kj_aloadn X 0 dX13_stores_90 rfl ?_
      refine kj_geto (k := 1) (o2 := 143) X K kdc_142 (by decide) (knEnt_10 kdc_142) rfl (by decide) knInX13 (knGm 1505 (by decide +kernel) rfl) rfl rfl dX13_stores_91 ?_
      refine kj_bipush X (n := 15) dX13_stores_94 rfl ?_
      refine kj_iloadn X 1 dX13_stores_96 rfl ?_
      refine kj_iadd X dX13_stores_97 ?_
      refine kj_iloadn X 1 dX13_stores_98 rfl ?_
      refine kj_aloadn X 0 dX13_stores_99 rfl ?_
      refine kj_geti (k := 8) (ki := 8) X K rfl kdc_142 (by decide) (knEnt_10 kdc_142) rfl (by decide) knInX13 (knGm 1512 (by decide +kernel) rfl) rfl rfl dX13_stores_100 (fun h39 => ?_)
      have j43 : ∀ (t43_0 : Int) (ht43_0 : knC t43_0), (fun q43 =>
       knGd (0 ≤ (knW (15 + x1)) ∧ (knW (15 + x1)) < 50)
        (kfX13_stores_l84   kc n (knW (x1 + 1)) (knUp μ 143 (knW (15 + x1)) q43))) t43_0 = some q → knJ G p l e { frames := 0, cells := 0, slots := 0, locals := 0 } s m args below meth c 2 0 0 (MQ below (knPo G True none q) args s 0 0 (knA G)) 116 [(0, knO G 142), (1, knV x1)] [knV t43_0, knV (knW (15 + x1)), knO G 143] μ := by
        intro t43_0 ht43_0
        intro hf
        obtain ⟨h45, hf⟩ := knGd_inv hf
        refine kj_iast X K kdc_143 (knCw _) ht43_0 lnc_143 h45 dX13_stores_116 ?_
        refine kj_iinc X 1 (L' := [(1, knV (knW (x1 + 1))), (0, knO G 142)]) dX13_stores_117 rfl (by decide) rfl ?_
        refine kj_goto X (tgt := 84) dX13_stores_120 (by decide) ?_
        refine kj_sub (L' := [(0, knO G 142), (1, knV (knW (x1 + 1)))]) [1, 0] rfl ?_
        exact ih _ (knCw _) _ hf
      obtain ⟨b46, hb46, hf⟩ := knBd_inv hf
      refine kj_ic_ge X (tgt := 115) dX13_stores_103 (by decide) hx1 h39 (fun h47 => ?_) (fun h47 => ?_)
      · replace hb46 := knIp hb46 h47
        refine kj_iconst X dX13_stores_115 ?_
        cases hb46
        refine kj_sub (L' := [(0, knO G 142), (1, knV x1)]) [0, 1] rfl ?_
        exact j43 _ (show knC (0) from ⟨by omega, by omega⟩) hf
      · replace hb46 := knIq hb46 h47
        refine kj_aloadn X 0 dX13_stores_106 rfl ?_
        refine kj_geto (k := 11) (o2 := 149) X K kdc_142 (by decide) (knEnt_10 kdc_142) rfl (by decide) knInX13 (knGm 1515 (by decide +kernel) rfl) rfl rfl dX13_stores_107 ?_
        refine kj_iloadn X 1 dX13_stores_110 rfl ?_
        obtain ⟨h48, hb46⟩ := knGd_inv hb46
        refine kj_iald X K kdc_149 hx1 lnc_149 h48 dX13_stores_111 (fun h49 => ?_)
        refine kj_goto X (tgt := 116) dX13_stores_112 (by decide) ?_
        cases hb46
        refine kj_sub (L' := [(0, knO G 142), (1, knV x1)]) [0, 1] rfl ?_
        exact j43 _ h49 hf

set_option maxHeartbeats 4000000 in
set_option maxRecDepth 100000 in
theorem kcX13_stores {G : knGT} (l : Launch)   {μ : knMem} {q : knMem} (hf : kfX13_stores  μ = some q) : knC0 G l yX13_stores cX13_stores 2 none 0 0 [knO G 142] μ True none q := by
  unfold kfX13_stores at hf
  refine kn_ofJ (plainFor_of_name (by decide)) (Nat.le_of_ble_eq_true rfl) (L := [(0, knO G 142)]) rfl ?_
  intro p e s m args below meth c X K hr hlk
  refine kj_aloadn X 0 dX13_stores_0 rfl ?_
  refine kj_geto (k := 1) (o2 := 143) X K kdc_142 (by decide) (knEnt_10 kdc_142) rfl (by decide) knInX13 (knGm 1505 (by decide +kernel) rfl) rfl rfl dX13_stores_1 ?_
  refine kj_iconst X dX13_stores_4 ?_
  refine kj_aloadn X 0 dX13_stores_5 rfl ?_
  refine kj_geti (k := 8) (ki := 8) X K rfl kdc_142 (by decide) (knEnt_10 kdc_142) rfl (by decide) knInX13 (knGm 1512 (by decide +kernel) rfl) rfl rfl dX13_stores_6 (fun h1 => ?_)
  obtain ⟨h2, hf⟩ := knGd_inv hf
  refine kj_iast X K kdc_143 (show knC (0) from ⟨by omega, by omega⟩) h1 lnc_143 h2 dX13_stores_9 ?_
  refine kj_iconst X dX13_stores_10 ?_
  refine kj_istoren X (L' := [(1, knV 0), (0, knO G 142)]) dX13_stores_11 (by decide) rfl ?_
  refine kj_sub (L' := [(0, knO G 142), (1, knV 0)]) [1, 0] rfl ?_
  refine kfX13_stores_l12_ok X K hr hlk    ?_ knF _ (show knC (0) from ⟨by omega, by omega⟩) _ hf
  intro w37_m
  intro hf
  refine kj_iconst X dX13_stores_82 ?_
  refine kj_istoren X (L' := [(1, knV 0), (0, knO G 142)]) dX13_stores_83 (by decide) rfl ?_
  refine kj_sub (L' := [(0, knO G 142), (1, knV 0)]) [1, 0] rfl ?_
  refine kfX13_stores_l84_ok X K hr hlk    ?_ knF _ (show knC (0) from ⟨by omega, by omega⟩) _ hf
  intro w51_m
  intro hf
  cases hf
  exact kj_vret X trivial hr dX13_stores_123 hlk

def kfX13_passOf_l2  (x1 : Int) (x2 : Int) (μ : knMem) (kc : (Int) → Option (Int)) : Nat → Int → Option (Int)
  | 0, _ => none
  | n + 1, x3 =>
    knGd (0 ≤ x3 ∧ x3 < 14)
     ((fun (k6 : (Unit) → Option (Int)) =>
     if (μ 147 x3) = x1 then
      if (μ 148 x3) = x2 then
       kc x3
      else
       k6 ()
     else
      k6 ())
     (fun _ =>
     kfX13_passOf_l2  x1 x2 μ kc n (knW (x3 + 1))))

def kfX13_passOf (a1 : Int) (a2 : Int) (μ : knMem) : Option (Int) :=
 kfX13_passOf_l2 a1 a2 μ (fun w11 =>
  some w11) knF 0

theorem knWvX13_passOf : knWv yX13_passOf cX13_passOf 4 (some .int) 2 := ⟨(knGm 1655 (by decide +kernel) rfl), (knGm 124 (by decide +kernel) rfl), (knGm 1654 (by decide +kernel) rfl), (knGm 48 (by decide +kernel) rfl), by decide +kernel, by decide +kernel, by decide +kernel⟩
set_option maxHeartbeats 4000000 in
set_option maxRecDepth 100000 in
theorem kfX13_passOf_l2_ok {q : Int} {kc : (Int) → Option (Int)} {G : knGT} {p : Program} {l : Launch} {e : Env} {s : State} {m : MethodId} {args : Array Value} {below : List Frame} {meth : Method} {c : Code} (X : knX p m c cX13_passOf 4 s args yX13_passOf.cls) (K : knK G s s.heap) (hr : meth.sig.returnType = (some .int)) (hlk : meth.locks = false) (x1 : Int) (x2 : Int) (hx1 : knC x1) (hx2 : knC x2) (μ : knMem) (hk : ∀ (y3 : Int) (hy3 : knC y3), kc y3 = some q → knJ G p l e { frames := 0, cells := 0, slots := 0, locals := 0 } s m args below meth c 4 0 0 (MQ below (knPo G (knC q) (some (knV q)) μ) args s 0 0 (knA G)) 28 [(3, knV y3)] [] μ) : ∀ (n : Nat) (x3 : Int) (hx3 : knC x3) , kfX13_passOf_l2  x1 x2 μ kc n x3 = some q → knJ G p l e { frames := 0, cells := 0, slots := 0, locals := 0 } s m args below meth c 4 0 0 (MQ below (knPo G (knC q) (some (knV q)) μ) args s 0 0 (knA G)) 2 [(0, knO G 142), (1, knV x1), (2, knV x2), (3, knV x3)] [] μ := by
  intro n
  induction n with
  | zero => intro x3 hx3 hf; cases hf
  | succ n ih =>
    intro x3 hx3 hf
    unfold kfX13_passOf_l2 at hf
    refine kj_aloadn X 0 dX13_passOf_2 rfl ?_
    refine kj_geto (k := 9) (o2 := 147) X K kdc_142 (by decide) (knEnt_10 kdc_142) rfl (by decide) knInX13 (knGm 1513 (by decide +kernel) rfl) rfl rfl dX13_passOf_3 ?_
    refine kj_iloadn X 3 dX13_passOf_6 rfl ?_
    obtain ⟨h1, hf⟩ := knGd_inv hf
    refine kj_iald X K kdc_147 hx3 lnc_147 h1 dX13_passOf_7 (fun h2 => ?_)
    refine kj_iloadn X 1 dX13_passOf_8 rfl ?_
    have j6 : (fun _ =>
     kfX13_passOf_l2  x1 x2 μ kc n (knW (x3 + 1))) () = some q → knJ G p l e { frames := 0, cells := 0, slots := 0, locals := 0 } s m args below meth c 4 0 0 (MQ below (knPo G (knC q) (some (knV q)) μ) args s 0 0 (knA G)) 22 [(0, knO G 142), (1, knV x1), (2, knV x2), (3, knV x3)] [] μ := by
      intro hf
      refine kj_iinc X 3 (L' := [(3, knV (knW (x3 + 1))), (0, knO G 142), (1, knV x1), (2, knV x2)]) dX13_passOf_22 rfl (by decide) rfl ?_
      refine kj_goto X (tgt := 2) dX13_passOf_25 (by decide) ?_
      refine kj_sub (L' := [(0, knO G 142), (1, knV x1), (2, knV x2), (3, knV (knW (x3 + 1)))]) [1, 2, 3, 0] rfl ?_
      exact ih _ (knCw _)  hf
    refine kj_ic_ne X (tgt := 22) dX13_passOf_9 (by decide) h2 hx1 (fun h8 => ?_) (fun h8 => ?_)
    · replace hf := knIq hf h8
      refine kj_sub (L' := [(0, knO G 142), (1, knV x1), (2, knV x2), (3, knV x3)]) [0, 1, 2, 3] rfl ?_
      exact j6  hf
    · replace hf := knIp hf h8
      refine kj_aloadn X 0 dX13_passOf_12 rfl ?_
      refine kj_geto (k := 10) (o2 := 148) X K kdc_142 (by decide) (knEnt_10 kdc_142) rfl (by decide) knInX13 (knGm 1514 (by decide +kernel) rfl) rfl rfl dX13_passOf_13 ?_
      refine kj_iloadn X 3 dX13_passOf_16 rfl ?_
      refine kj_iald X K kdc_148 hx3 lnc_148 h1 dX13_passOf_17 (fun h9 => ?_)
      refine kj_iloadn X 2 dX13_passOf_18 rfl ?_
      refine kj_ic_eq X (tgt := 28) dX13_passOf_19 (by decide) h9 hx2 (fun h10 => ?_) (fun h10 => ?_)
      · replace hf := knIp hf h10
        refine kj_sub (L' := [(3, knV x3)]) [3] rfl ?_
        exact hk _ hx3 hf
      · replace hf := knIq hf h10
        refine kj_sub (L' := [(0, knO G 142), (1, knV x1), (2, knV x2), (3, knV x3)]) [0, 1, 2, 3] rfl ?_
        exact j6  hf

set_option maxHeartbeats 4000000 in
set_option maxRecDepth 100000 in
theorem kcX13_passOf {G : knGT} (l : Launch) {a1 : Int} {a2 : Int} (ha1 : knC a1) (ha2 : knC a2) {μ : knMem} {q : Int} (hf : kfX13_passOf a1 a2 μ = some q) : knC0 G l yX13_passOf cX13_passOf 4 (some .int) 0 0 [knO G 142, knV a1, knV a2] μ (knC q) (some (knV q)) μ := by
  unfold kfX13_passOf at hf
  refine kn_ofJ (plainFor_of_name (by decide)) (Nat.le_of_ble_eq_true rfl) (L := [(0, knO G 142), (1, knV a1), (2, knV a2)]) rfl ?_
  intro p e s m args below meth c X K hr hlk
  refine kj_iconst X dX13_passOf_0 ?_
  refine kj_istoren X (L' := [(3, knV 0), (0, knO G 142), (1, knV a1), (2, knV a2)]) dX13_passOf_1 (by decide) rfl ?_
  refine kj_sub (L' := [(0, knO G 142), (1, knV a1), (2, knV a2), (3, knV 0)]) [1, 2, 3, 0] rfl ?_
  refine kfX13_passOf_l2_ok X K hr hlk a1 a2 ha1 ha2 μ ?_ knF _ (show knC (0) from ⟨by omega, by omega⟩)  hf
  intro w11_0 hw11_0
  intro hf
  refine kj_iloadn X 0 dX13_passOf_28 rfl ?_
  cases hf
  exact kj_iret X hw11_0 hr dX13_passOf_29 hlk

def kfX13_areNext (a1 : Int) (a2 : Int) (μ : knMem) : Option (Int) :=
 (fun (k7 : (Unit) → Option (Int)) =>
  if (if a2 ≤ a1 then (knW (a1 - a2)) else (knW (a2 - a1)) : Int) = 1 then
   k7 ()
  else
   if (if a2 ≤ a1 then (knW (a1 - a2)) else (knW (a2 - a1)) : Int) = (knW ((knW (2 * (μ 142 8))) - 1)) then
    k7 ()
   else
    some 0)
  (fun _ =>
  some 1)

theorem knWvX13_areNext : knWv yX13_areNext cX13_areNext 4 (some .boolean) 2 := ⟨(knGm 1659 (by decide +kernel) rfl), (knGm 124 (by decide +kernel) rfl), (knGm 1658 (by decide +kernel) rfl), (knGm 49 (by decide +kernel) rfl), by decide +kernel, by decide +kernel, by decide +kernel⟩
set_option maxHeartbeats 4000000 in
set_option maxRecDepth 100000 in
theorem kcX13_areNext {G : knGT} (l : Launch) {a1 : Int} {a2 : Int} (ha1 : knC a1) (ha2 : knC a2) {μ : knMem} {q : Int} (hf : kfX13_areNext a1 a2 μ = some q) : knC0 G l yX13_areNext cX13_areNext 4 (some .boolean) 0 0 [knO G 142, knV a1, knV a2] μ (knZ q) (some (knV q)) μ := by
  unfold kfX13_areNext at hf
  refine kn_ofJ (plainFor_of_name (by decide)) (Nat.le_of_ble_eq_true rfl) (L := [(0, knO G 142), (1, knV a1), (2, knV a2)]) rfl ?_
  intro p e s m args below meth c X K hr hlk
  refine kj_iloadn X 1 dX13_areNext_0 rfl ?_
  refine kj_iloadn X 2 dX13_areNext_1 rfl ?_
  have j2 : ∀ (t2_0 : Int) (et2_0 : t2_0 = (if a2 ≤ a1 then (knW (a1 - a2)) else (knW (a2 - a1)) : Int)) (ht2_0 : knC t2_0), knJ G p l e { frames := 0, cells := 0, slots := 0, locals := 0 } s m args below meth c 4 0 0 (MQ below (knPo G (knZ q) (some (knV q)) μ) args s 0 0 (knA G)) 14 [(0, knO G 142)] [knV t2_0] μ := by
    intro t2_0 et2_0 ht2_0
    subst et2_0
    refine kj_istoren X (L' := [(3, knV (if a2 ≤ a1 then (knW (a1 - a2)) else (knW (a2 - a1)) : Int)), (0, knO G 142)]) dX13_areNext_14 (by decide) rfl ?_
    refine kj_iloadn X 0 dX13_areNext_15 rfl ?_
    refine kj_iconst X dX13_areNext_16 ?_
    have j7 : (fun _ =>
     some 1) () = some q → knJ G p l e { frames := 0, cells := 0, slots := 0, locals := 0 } s m args below meth c 4 0 0 (MQ below (knPo G (knZ q) (some (knV q)) μ) args s 0 0 (knA G)) 32 [] [] μ := by
      intro hf
      refine kj_iconst X dX13_areNext_32 ?_
      refine kj_goto X (tgt := 37) dX13_areNext_33 (by decide) ?_
      cases hf
      exact kj_zret X (Or.inr rfl) hr (kn_nb (Or.inr rfl)) dX13_areNext_37 hlk
    refine kj_ic_eq X (tgt := 32) dX13_areNext_17 (by decide) ht2_0 (show knC (1) from ⟨by omega, by omega⟩) (fun h9 => ?_) (fun h9 => ?_)
    · replace hf := knIp hf h9
      refine kj_sub (L' := []) [] rfl ?_
      exact j7  hf
    · replace hf := knIq hf h9
      refine kj_iloadn X 0 dX13_areNext_20 rfl ?_
      refine kj_iconst X dX13_areNext_21 ?_
      refine kj_aloadn X 1 dX13_areNext_22 rfl ?_
      refine kj_geti (k := 8) (ki := 8) X K rfl kdc_142 (by decide) (knEnt_10 kdc_142) rfl (by decide) knInX13 (knGm 1512 (by decide +kernel) rfl) rfl rfl dX13_areNext_23 (fun h10 => ?_)
      refine kj_imul X dX13_areNext_26 ?_
      refine kj_iconst X dX13_areNext_27 ?_
      refine kj_isub X dX13_areNext_28 ?_
      refine kj_ic_ne X (tgt := 36) dX13_areNext_29 (by decide) ht2_0 (knCw _) (fun h11 => ?_) (fun h11 => ?_)
      · replace hf := knIq hf h11
        refine kj_iconst X dX13_areNext_36 ?_
        cases hf
        exact kj_zret X (Or.inl rfl) hr (kn_nb (Or.inl rfl)) dX13_areNext_37 hlk
      · replace hf := knIp hf h11
        refine kj_sub (L' := []) [] rfl ?_
        exact j7  hf
  refine kj_ic_ge X (tgt := 11) dX13_areNext_2 (by decide) ha1 ha2 (fun h12 => ?_) (fun h12 => ?_)
  · refine kj_iloadn X 1 dX13_areNext_11 rfl ?_
    refine kj_iloadn X 2 dX13_areNext_12 rfl ?_
    refine kj_isub X dX13_areNext_13 ?_
    refine kj_sub (L' := [(0, knO G 142)]) [0] rfl ?_
    exact j2 (knW (a1 - a2)) (by rw [if_pos h12]) (knCw _)
  · refine kj_iloadn X 2 dX13_areNext_5 rfl ?_
    refine kj_iloadn X 1 dX13_areNext_6 rfl ?_
    refine kj_isub X dX13_areNext_7 ?_
    refine kj_goto X (tgt := 14) dX13_areNext_8 (by decide) ?_
    refine kj_sub (L' := [(0, knO G 142)]) [0] rfl ?_
    exact j2 (knW (a2 - a1)) (by rw [if_neg h12]) (knCw _)

def kfX13_curls (a1 : Int) (μ : knMem) : Option (Int) :=
 Option.bind (kfX13_passOf a1 1 μ) (fun q1 =>
  Option.bind (kfX13_passOf a1 0 μ) (fun q4 =>
   Option.bind (kfX13_areNext q1 q4 μ) (fun q7 =>
    some q7)))

theorem knWvX13_curls : knWv yX13_curls cX13_curls 2 (some .boolean) 1 := ⟨(knGm 1651 (by decide +kernel) rfl), (knGm 124 (by decide +kernel) rfl), (knGm 1650 (by decide +kernel) rfl), (knGm 47 (by decide +kernel) rfl), by decide +kernel, by decide +kernel, by decide +kernel⟩
set_option maxHeartbeats 4000000 in
set_option maxRecDepth 100000 in
theorem kcX13_curls {G : knGT} (l : Launch) {a1 : Int} (ha1 : knC a1) {μ : knMem} {q : Int} (hf : kfX13_curls a1 μ = some q) : knC0 G l yX13_curls cX13_curls 2 (some .boolean) 1 23 [knO G 142, knV a1] μ (knZ q) (some (knV q)) μ := by
  unfold kfX13_curls at hf
  refine kn_ofJ (plainFor_of_name (by decide)) (Nat.le_of_ble_eq_true rfl) (L := [(0, knO G 142), (1, knV a1)]) rfl ?_
  intro p e s m args below meth c X K hr hlk
  refine kj_aloadn X 0 dX13_curls_0 rfl ?_
  refine kj_aloadn X 0 dX13_curls_1 rfl ?_
  refine kj_iloadn X 1 dX13_curls_2 rfl ?_
  refine kj_iconst X dX13_curls_3 ?_
  obtain ⟨q1, h2, hf⟩ := knBd_inv hf
  refine kj_callV (As := [knV a1, knV 1]) (rest := [knO G 142]) X K (kcX13_passOf l ha1 (show knC (1) from ⟨by omega, by omega⟩) h2) knWvX13_passOf (knGm 1652 (by decide +kernel) rfl) (by decide) (knKd_in kdc_142 (by decide)) (knEnt_10 kdc_142) rfl rfl rfl (Nat.le_of_ble_eq_true rfl) (by decide) dX13_curls_4 rfl (fun h3 => ?_)
  refine kj_aloadn X 0 dX13_curls_7 rfl ?_
  refine kj_iloadn X 1 dX13_curls_8 rfl ?_
  refine kj_iconst X dX13_curls_9 ?_
  obtain ⟨q4, h5, hf⟩ := knBd_inv hf
  refine kj_callV (As := [knV a1, knV 0]) (rest := [knV q1, knO G 142]) X K (kcX13_passOf l ha1 (show knC (0) from ⟨by omega, by omega⟩) h5) knWvX13_passOf (knGm 1652 (by decide +kernel) rfl) (by decide) (knKd_in kdc_142 (by decide)) (knEnt_10 kdc_142) rfl rfl rfl (Nat.le_of_ble_eq_true rfl) (by decide) dX13_curls_10 rfl (fun h6 => ?_)
  obtain ⟨q7, h8, hf⟩ := knBd_inv hf
  refine kj_callV (As := [knV q1, knV q4]) (rest := []) X K (kcX13_areNext l h3 h6 h8) knWvX13_areNext (knGm 1656 (by decide +kernel) rfl) (by decide) (knKd_in kdc_142 (by decide)) (knEnt_10 kdc_142) rfl rfl rfl (Nat.le_of_ble_eq_true rfl) (by decide) dX13_curls_13 rfl (fun h9 => ?_)
  cases hf
  exact kj_zret X h9 hr (kn_nb h9) dX13_curls_16 hlk

def kfX13_pokes (a1 : Int) (a2 : Int) (μ : knMem) : Option (Int) :=
 (fun (k40 : (Unit) → Option (Int)) =>
  if a1 = a2 then
   k40 ()
  else
   knGd (0 ≤ a1 ∧ a1 < 7)
    (knGd (0 ≤ a2 ∧ a2 < 7)
    (if (μ 149 a1) = (μ 149 a2) then
    k40 ()
   else
    Option.bind (kfX13_passOf a1 1 μ) (fun q48 =>
     Option.bind (kfX13_passOf a2 1 μ) (fun q51 =>
      Option.bind (kfX13_areNext q48 q51 μ) (fun q54 =>
       (fun (k68 : (Unit) → Option (Int)) =>
        if q54 = 0 then
         k68 ()
        else
         Option.bind (kfX13_passOf a1 0 μ) (fun q71 =>
          Option.bind (kfX13_passOf a2 0 μ) (fun q74 =>
           Option.bind (kfX13_areNext q71 q74 μ) (fun q77 =>
            if q77 = 0 then
             k68 ()
            else
             some 1))))
        (fun _ =>
        some 0)))))))
  (fun _ =>
  some 0)

theorem knWvX13_pokes : knWv yX13_pokes cX13_pokes 3 (some .boolean) 2 := ⟨(knGm 1695 (by decide +kernel) rfl), (knGm 124 (by decide +kernel) rfl), (knGm 1694 (by decide +kernel) rfl), (knGm 56 (by decide +kernel) rfl), by decide +kernel, by decide +kernel, by decide +kernel⟩
set_option maxHeartbeats 4000000 in
set_option maxRecDepth 100000 in
theorem kcX13_pokes {G : knGT} (l : Launch) {a1 : Int} {a2 : Int} (ha1 : knC a1) (ha2 : knC a2) {μ : knMem} {q : Int} (hf : kfX13_pokes a1 a2 μ = some q) : knC0 G l yX13_pokes cX13_pokes 3 (some .boolean) 1 23 [knO G 142, knV a1, knV a2] μ (knZ q) (some (knV q)) μ := by
  unfold kfX13_pokes at hf
  refine kn_ofJ (plainFor_of_name (by decide)) (Nat.le_of_ble_eq_true rfl) (L := [(0, knO G 142), (1, knV a1), (2, knV a2)]) rfl ?_
  intro p e s m args below meth c X K hr hlk
  refine kj_iloadn X 1 dX13_pokes_0 rfl ?_
  refine kj_iloadn X 2 dX13_pokes_1 rfl ?_
  have j40 : (fun _ =>
   some 0) () = some q → knJ G p l e { frames := 1, cells := 0, slots := 0, locals := 23 } s m args below meth c 3 0 0 (MQ below (knPo G (knZ q) (some (knV q)) μ) args s 0 0 (knA G)) 20 [] [] μ := by
    intro hf
    refine kj_iconst X dX13_pokes_20 ?_
    cases hf
    exact kj_zret X (Or.inl rfl) hr (kn_nb (Or.inl rfl)) dX13_pokes_21 hlk
  refine kj_ic_eq X (tgt := 20) dX13_pokes_2 (by decide) ha1 ha2 (fun h42 => ?_) (fun h42 => ?_)
  · replace hf := knIp hf h42
    refine kj_sub (L' := []) [] rfl ?_
    exact j40  hf
  · replace hf := knIq hf h42
    refine kj_aloadn X 0 dX13_pokes_5 rfl ?_
    refine kj_geto (k := 11) (o2 := 149) X K kdc_142 (by decide) (knEnt_10 kdc_142) rfl (by decide) knInX13 (knGm 1515 (by decide +kernel) rfl) rfl rfl dX13_pokes_6 ?_
    refine kj_iloadn X 1 dX13_pokes_9 rfl ?_
    obtain ⟨h43, hf⟩ := knGd_inv hf
    refine kj_iald X K kdc_149 ha1 lnc_149 h43 dX13_pokes_10 (fun h44 => ?_)
    refine kj_aloadn X 0 dX13_pokes_11 rfl ?_
    refine kj_geto (k := 11) (o2 := 149) X K kdc_142 (by decide) (knEnt_10 kdc_142) rfl (by decide) knInX13 (knGm 1515 (by decide +kernel) rfl) rfl rfl dX13_pokes_12 ?_
    refine kj_iloadn X 2 dX13_pokes_15 rfl ?_
    obtain ⟨h45, hf⟩ := knGd_inv hf
    refine kj_iald X K kdc_149 ha2 lnc_149 h45 dX13_pokes_16 (fun h46 => ?_)
    refine kj_ic_ne X (tgt := 22) dX13_pokes_17 (by decide) h44 h46 (fun h47 => ?_) (fun h47 => ?_)
    · replace hf := knIq hf h47
      refine kj_aloadn X 0 dX13_pokes_22 rfl ?_
      refine kj_aloadn X 0 dX13_pokes_23 rfl ?_
      refine kj_iloadn X 1 dX13_pokes_24 rfl ?_
      refine kj_iconst X dX13_pokes_25 ?_
      obtain ⟨q48, h49, hf⟩ := knBd_inv hf
      refine kj_callV (As := [knV a1, knV 1]) (rest := [knO G 142]) X K (kcX13_passOf l ha1 (show knC (1) from ⟨by omega, by omega⟩) h49) knWvX13_passOf (knGm 1652 (by decide +kernel) rfl) (by decide) (knKd_in kdc_142 (by decide)) (knEnt_10 kdc_142) rfl rfl rfl (Nat.le_of_ble_eq_true rfl) (by decide) dX13_pokes_26 rfl (fun h50 => ?_)
      refine kj_aloadn X 0 dX13_pokes_29 rfl ?_
      refine kj_iloadn X 2 dX13_pokes_30 rfl ?_
      refine kj_iconst X dX13_pokes_31 ?_
      obtain ⟨q51, h52, hf⟩ := knBd_inv hf
      refine kj_callV (As := [knV a2, knV 1]) (rest := [knV q48, knO G 142]) X K (kcX13_passOf l ha2 (show knC (1) from ⟨by omega, by omega⟩) h52) knWvX13_passOf (knGm 1652 (by decide +kernel) rfl) (by decide) (knKd_in kdc_142 (by decide)) (knEnt_10 kdc_142) rfl rfl rfl (Nat.le_of_ble_eq_true rfl) (by decide) dX13_pokes_32 rfl (fun h53 => ?_)
      obtain ⟨q54, h55, hf⟩ := knBd_inv hf
      refine kj_callV (As := [knV q48, knV q51]) (rest := []) X K (kcX13_areNext l h50 h53 h55) knWvX13_areNext (knGm 1656 (by decide +kernel) rfl) (by decide) (knKd_in kdc_142 (by decide)) (knEnt_10 kdc_142) rfl rfl rfl (Nat.le_of_ble_eq_true rfl) (by decide) dX13_pokes_35 rfl (fun h56 => ?_)
      have j68 : (fun _ =>
       some 0) () = some q → knJ G p l e { frames := 1, cells := 0, slots := 0, locals := 23 } s m args below meth c 3 0 0 (MQ below (knPo G (knZ q) (some (knV q)) μ) args s 0 0 (knA G)) 64 [] [] μ := by
        intro hf
        refine kj_iconst X dX13_pokes_64 ?_
        cases hf
        exact kj_zret X (Or.inl rfl) hr (kn_nb (Or.inl rfl)) dX13_pokes_65 hlk
      refine kj_if_eq X (tgt := 64) dX13_pokes_38 (by decide) (knZ_c h56) (fun h70 => ?_) (fun h70 => ?_)
      · replace hf := knIp hf h70
        refine kj_sub (L' := []) [] rfl ?_
        exact j68  hf
      · replace hf := knIq hf h70
        refine kj_aloadn X 0 dX13_pokes_41 rfl ?_
        refine kj_aloadn X 0 dX13_pokes_42 rfl ?_
        refine kj_iloadn X 1 dX13_pokes_43 rfl ?_
        refine kj_iconst X dX13_pokes_44 ?_
        obtain ⟨q71, h72, hf⟩ := knBd_inv hf
        refine kj_callV (As := [knV a1, knV 0]) (rest := [knO G 142]) X K (kcX13_passOf l ha1 (show knC (0) from ⟨by omega, by omega⟩) h72) knWvX13_passOf (knGm 1652 (by decide +kernel) rfl) (by decide) (knKd_in kdc_142 (by decide)) (knEnt_10 kdc_142) rfl rfl rfl (Nat.le_of_ble_eq_true rfl) (by decide) dX13_pokes_45 rfl (fun h73 => ?_)
        refine kj_aloadn X 0 dX13_pokes_48 rfl ?_
        refine kj_iloadn X 2 dX13_pokes_49 rfl ?_
        refine kj_iconst X dX13_pokes_50 ?_
        obtain ⟨q74, h75, hf⟩ := knBd_inv hf
        refine kj_callV (As := [knV a2, knV 0]) (rest := [knV q71, knO G 142]) X K (kcX13_passOf l ha2 (show knC (0) from ⟨by omega, by omega⟩) h75) knWvX13_passOf (knGm 1652 (by decide +kernel) rfl) (by decide) (knKd_in kdc_142 (by decide)) (knEnt_10 kdc_142) rfl rfl rfl (Nat.le_of_ble_eq_true rfl) (by decide) dX13_pokes_51 rfl (fun h76 => ?_)
        obtain ⟨q77, h78, hf⟩ := knBd_inv hf
        refine kj_callV (As := [knV q71, knV q74]) (rest := []) X K (kcX13_areNext l h73 h76 h78) knWvX13_areNext (knGm 1656 (by decide +kernel) rfl) (by decide) (knKd_in kdc_142 (by decide)) (knEnt_10 kdc_142) rfl rfl rfl (Nat.le_of_ble_eq_true rfl) (by decide) dX13_pokes_54 rfl (fun h79 => ?_)
        refine kj_if_eq X (tgt := 64) dX13_pokes_57 (by decide) (knZ_c h79) (fun h80 => ?_) (fun h80 => ?_)
        · replace hf := knIp hf h80
          refine kj_sub (L' := []) [] rfl ?_
          exact j68  hf
        · replace hf := knIq hf h80
          refine kj_iconst X dX13_pokes_60 ?_
          refine kj_goto X (tgt := 65) dX13_pokes_61 (by decide) ?_
          cases hf
          exact kj_zret X (Or.inr rfl) hr (kn_nb (Or.inr rfl)) dX13_pokes_65 hlk
    · replace hf := knIp hf h47
      refine kj_sub (L' := []) [] rfl ?_
      exact j40  hf

def kfX13_flips_l2  (x1 : Int)  (kc : (knMem) → Option (knMem)) : Nat → Int → knMem → Option (knMem)
  | 0, _, _ => none
  | n + 1, x2, μ =>
    if (knW (2 * (μ 142 8))) ≤ x2 then
     kc μ
    else
     knGd (0 ≤ x2 ∧ x2 < 14)
      (Option.bind (α := knMem)
      (if (μ 147 x2) = x1 then
       some (knUp μ 148 x2 (knW (1 - (μ 148 x2))))
      else
       some μ)
      (fun q7 =>
      kfX13_flips_l2  x1 kc n (knW (x2 + 1)) q7))

def kfX13_flips (a1 : Int) (μ : knMem) : Option (knMem) :=
 kfX13_flips_l2 a1  (fun w11 =>
  knGd (0 ≤ a1 ∧ a1 < 7)
   (some (knUp w11 149 a1 (knW (1 - (w11 149 a1)))))) knF 0 μ

theorem knWvX13_flips : knWv yX13_flips cX13_flips 3 none 1 := ⟨(knGm 1715 (by decide +kernel) rfl), (knGm 124 (by decide +kernel) rfl), (knGm 1714 (by decide +kernel) rfl), (knGm 60 (by decide +kernel) rfl), by decide +kernel, by decide +kernel, by decide +kernel⟩
set_option maxHeartbeats 4000000 in
set_option maxRecDepth 100000 in
theorem kfX13_flips_l2_ok {q : knMem} {kc : (knMem) → Option (knMem)} {G : knGT} {p : Program} {l : Launch} {e : Env} {s : State} {m : MethodId} {args : Array Value} {below : List Frame} {meth : Method} {c : Code} (X : knX p m c cX13_flips 3 s args yX13_flips.cls) (K : knK G s s.heap) (hr : meth.sig.returnType = none) (hlk : meth.locks = false) (x1 : Int) (hx1 : knC x1)  (hk : ∀ (μ1 : knMem), kc μ1 = some q → knJ G p l e { frames := 0, cells := 0, slots := 0, locals := 0 } s m args below meth c 3 0 0 (MQ below (knPo G True none q) args s 0 0 (knA G)) 42 [(0, knO G 142), (1, knV x1)] [] μ1) : ∀ (n : Nat) (x2 : Int) (hx2 : knC x2) (μ : knMem), kfX13_flips_l2  x1 kc n x2 μ = some q → knJ G p l e { frames := 0, cells := 0, slots := 0, locals := 0 } s m args below meth c 3 0 0 (MQ below (knPo G True none q) args s 0 0 (knA G)) 2 [(0, knO G 142), (1, knV x1), (2, knV x2)] [] μ := by
  intro n
  induction n with
  | zero => intro x2 hx2 μ hf; cases hf
  | succ n ih =>
    intro x2 hx2 μ hf
    unfold kfX13_flips_l2 at hf
    refine kj_iloadn X 2 dX13_flips_2 rfl ?_
    refine kj_iconst X dX13_flips_3 ?_
    refine kj_aloadn X 0 dX13_flips_4 rfl ?_
    refine kj_geti (k := 8) (ki := 8) X K rfl kdc_142 (by decide) (knEnt_10 kdc_142) rfl (by decide) knInX13 (knGm 1512 (by decide +kernel) rfl) rfl rfl dX13_flips_5 (fun h1 => ?_)
    refine kj_imul X dX13_flips_8 ?_
    refine kj_ic_ge X (tgt := 42) dX13_flips_9 (by decide) hx2 (knCw _) (fun h2 => ?_) (fun h2 => ?_)
    · replace hf := knIp hf h2
      refine kj_sub (L' := [(0, knO G 142), (1, knV x1)]) [0, 1] rfl ?_
      exact hk _ hf
    · replace hf := knIq hf h2
      refine kj_aloadn X 0 dX13_flips_12 rfl ?_
      refine kj_geto (k := 9) (o2 := 147) X K kdc_142 (by decide) (knEnt_10 kdc_142) rfl (by decide) knInX13 (knGm 1513 (by decide +kernel) rfl) rfl rfl dX13_flips_13 ?_
      refine kj_iloadn X 2 dX13_flips_16 rfl ?_
      obtain ⟨h3, hf⟩ := knGd_inv hf
      refine kj_iald X K kdc_147 hx2 lnc_147 h3 dX13_flips_17 (fun h4 => ?_)
      refine kj_iloadn X 1 dX13_flips_18 rfl ?_
      have j7 : ∀ (m7 : knMem), (fun q7 =>
       kfX13_flips_l2  x1 kc n (knW (x2 + 1)) q7) m7 = some q → knJ G p l e { frames := 0, cells := 0, slots := 0, locals := 0 } s m args below meth c 3 0 0 (MQ below (knPo G True none q) args s 0 0 (knA G)) 36 [(0, knO G 142), (1, knV x1), (2, knV x2)] [] m7 := by
        intro m7
        intro hf
        refine kj_iinc X 2 (L' := [(2, knV (knW (x2 + 1))), (0, knO G 142), (1, knV x1)]) dX13_flips_36 rfl (by decide) rfl ?_
        refine kj_goto X (tgt := 2) dX13_flips_39 (by decide) ?_
        refine kj_sub (L' := [(0, knO G 142), (1, knV x1), (2, knV (knW (x2 + 1)))]) [1, 2, 0] rfl ?_
        exact ih _ (knCw _) _ hf
      obtain ⟨b8, hb8, hf⟩ := knBd_inv hf
      refine kj_ic_ne X (tgt := 36) dX13_flips_19 (by decide) h4 hx1 (fun h9 => ?_) (fun h9 => ?_)
      · replace hb8 := knIq hb8 h9
        cases hb8
        refine kj_sub (L' := [(0, knO G 142), (1, knV x1), (2, knV x2)]) [0, 1, 2] rfl ?_
        exact j7 _ hf
      · replace hb8 := knIp hb8 h9
        refine kj_aloadn X 0 dX13_flips_22 rfl ?_
        refine kj_geto (k := 10) (o2 := 148) X K kdc_142 (by decide) (knEnt_10 kdc_142) rfl (by decide) knInX13 (knGm 1514 (by decide +kernel) rfl) rfl rfl dX13_flips_23 ?_
        refine kj_iloadn X 2 dX13_flips_26 rfl ?_
        refine kj_iconst X dX13_flips_27 ?_
        refine kj_aloadn X 0 dX13_flips_28 rfl ?_
        refine kj_geto (k := 10) (o2 := 148) X K kdc_142 (by decide) (knEnt_10 kdc_142) rfl (by decide) knInX13 (knGm 1514 (by decide +kernel) rfl) rfl rfl dX13_flips_29 ?_
        refine kj_iloadn X 2 dX13_flips_32 rfl ?_
        refine kj_iald X K kdc_148 hx2 lnc_148 h3 dX13_flips_33 (fun h10 => ?_)
        refine kj_isub X dX13_flips_34 ?_
        refine kj_iast X K kdc_148 hx2 (knCw _) lnc_148 h3 dX13_flips_35 ?_
        cases hb8
        refine kj_sub (L' := [(0, knO G 142), (1, knV x1), (2, knV x2)]) [0, 1, 2] rfl ?_
        exact j7 _ hf

set_option maxHeartbeats 4000000 in
set_option maxRecDepth 100000 in
theorem kcX13_flips {G : knGT} (l : Launch) {a1 : Int} (ha1 : knC a1) {μ : knMem} {q : knMem} (hf : kfX13_flips a1 μ = some q) : knC0 G l yX13_flips cX13_flips 3 none 0 0 [knO G 142, knV a1] μ True none q := by
  unfold kfX13_flips at hf
  refine kn_ofJ (plainFor_of_name (by decide)) (Nat.le_of_ble_eq_true rfl) (L := [(0, knO G 142), (1, knV a1)]) rfl ?_
  intro p e s m args below meth c X K hr hlk
  refine kj_iconst X dX13_flips_0 ?_
  refine kj_istoren X (L' := [(2, knV 0), (0, knO G 142), (1, knV a1)]) dX13_flips_1 (by decide) rfl ?_
  refine kj_sub (L' := [(0, knO G 142), (1, knV a1), (2, knV 0)]) [1, 2, 0] rfl ?_
  refine kfX13_flips_l2_ok X K hr hlk a1 ha1  ?_ knF _ (show knC (0) from ⟨by omega, by omega⟩) _ hf
  intro w11_m
  intro hf
  refine kj_aloadn X 0 dX13_flips_42 rfl ?_
  refine kj_geto (k := 11) (o2 := 149) X K kdc_142 (by decide) (knEnt_10 kdc_142) rfl (by decide) knInX13 (knGm 1515 (by decide +kernel) rfl) rfl rfl dX13_flips_43 ?_
  refine kj_iloadn X 1 dX13_flips_46 rfl ?_
  refine kj_iconst X dX13_flips_47 ?_
  refine kj_aloadn X 0 dX13_flips_48 rfl ?_
  refine kj_geto (k := 11) (o2 := 149) X K kdc_142 (by decide) (knEnt_10 kdc_142) rfl (by decide) knInX13 (knGm 1515 (by decide +kernel) rfl) rfl rfl dX13_flips_49 ?_
  refine kj_iloadn X 1 dX13_flips_52 rfl ?_
  obtain ⟨h14, hf⟩ := knGd_inv hf
  refine kj_iald X K kdc_149 ha1 lnc_149 h14 dX13_flips_53 (fun h15 => ?_)
  refine kj_isub X dX13_flips_54 ?_
  refine kj_iast X K kdc_149 ha1 (knCw _) lnc_149 h14 dX13_flips_55 ?_
  cases hf
  exact kj_vret X trivial hr dX13_flips_56 hlk

def kfX13_removes_l4  (x1 : Int)  (kc : (knMem) → Option (knMem)) : Nat → Int → Int → knMem → Option (knMem)
  | 0, _, _, _ => none
  | n + 1, x2, x3, μ =>
    if (knW (2 * (μ 142 8))) ≤ x3 then
     kc μ
    else
     knGd (0 ≤ x3 ∧ x3 < 14)
      (Option.bind (α := Int × knMem)
      (if (μ 147 x3) = x1 then
       some (x2, μ)
      else
       knGd (0 ≤ x2 ∧ x2 < 14)
        (some ((knW (x2 + 1)), (knUp (knUp μ 147 x2 (if (μ 147 x3) ≤ x1 then (μ 147 x3) else (knW ((μ 147 x3) - 1)) : Int)) 148 x2 ((knUp μ 147 x2 (if (μ 147 x3) ≤ x1 then (μ 147 x3) else (knW ((μ 147 x3) - 1)) : Int)) 148 x3)))))
      (fun q19 =>
      kfX13_removes_l4  x1 kc n q19.1 (knW (x3 + 1)) q19.2))

def kfX13_removes_l93    (kc : (knMem) → Option (knMem)) : Nat → Int → knMem → Option (knMem)
  | 0, _, _ => none
  | n + 1, x3, μ =>
    if (μ 142 8) ≤ x3 then
     kc μ
    else
     knGd (0 ≤ (knW (x3 + 1)) ∧ (knW (x3 + 1)) < 7)
      (knGd (0 ≤ x3 ∧ x3 < 7)
      (kfX13_removes_l93   kc n (knW (x3 + 1)) (knUp μ 149 x3 (μ 149 (knW (x3 + 1))))))

def kfX13_removes (a1 : Int) (μ : knMem) : Option (knMem) :=
 kfX13_removes_l4 a1  (fun w35 =>
  kfX13_removes_l93   (fun w42 =>
   some w42) knF a1 (knUp w35 142 8 (knW ((w35 142 8) - 1)))) knF 0 0 μ

theorem knWvX13_removes : knWv yX13_removes cX13_removes 4 none 1 := ⟨(knGm 1667 (by decide +kernel) rfl), (knGm 124 (by decide +kernel) rfl), (knGm 1666 (by decide +kernel) rfl), (knGm 51 (by decide +kernel) rfl), by decide +kernel, by decide +kernel, by decide +kernel⟩
set_option maxHeartbeats 4000000 in
set_option maxRecDepth 100000 in
theorem kfX13_removes_l4_ok {q : knMem} {kc : (knMem) → Option (knMem)} {G : knGT} {p : Program} {l : Launch} {e : Env} {s : State} {m : MethodId} {args : Array Value} {below : List Frame} {meth : Method} {c : Code} (X : knX p m c cX13_removes 4 s args yX13_removes.cls) (K : knK G s s.heap) (hr : meth.sig.returnType = none) (hlk : meth.locks = false) (x1 : Int) (hx1 : knC x1)  (hk : ∀ (μ1 : knMem), kc μ1 = some q → knJ G p l e { frames := 0, cells := 0, slots := 0, locals := 0 } s m args below meth c 4 0 0 (MQ below (knPo G True none q) args s 0 0 (knA G)) 81 [(0, knO G 142), (1, knV x1)] [] μ1) : ∀ (n : Nat) (x2 : Int) (hx2 : knC x2) (x3 : Int) (hx3 : knC x3) (μ : knMem), kfX13_removes_l4  x1 kc n x2 x3 μ = some q → knJ G p l e { frames := 0, cells := 0, slots := 0, locals := 0 } s m args below meth c 4 0 0 (MQ below (knPo G True none q) args s 0 0 (knA G)) 4 [(0, knO G 142), (1, knV x1), (2, knV x2), (3, knV x3)] [] μ := by
  intro n
  induction n with
  | zero => intro x2 hx2 x3 hx3 μ hf; cases hf
  | succ n ih =>
    intro x2 hx2 x3 hx3 μ hf
    unfold kfX13_removes_l4 at hf
    refine kj_iloadn X 3 dX13_removes_4 rfl ?_
    refine kj_iconst X dX13_removes_5 ?_
    refine kj_aloadn X 0 dX13_removes_6 rfl ?_
    refine kj_geti (k := 8) (ki := 8) X K rfl kdc_142 (by decide) (knEnt_10 kdc_142) rfl (by decide) knInX13 (knGm 1512 (by decide +kernel) rfl) rfl rfl dX13_removes_7 (fun h1 => ?_)
    refine kj_imul X dX13_removes_10 ?_
    refine kj_ic_ge X (tgt := 81) dX13_removes_11 (by decide) hx3 (knCw _) (fun h2 => ?_) (fun h2 => ?_)
    · replace hf := knIp hf h2
      refine kj_sub (L' := [(0, knO G 142), (1, knV x1)]) [0, 1] rfl ?_
      exact hk _ hf
    · replace hf := knIq hf h2
      refine kj_aloadn X 0 dX13_removes_14 rfl ?_
      refine kj_geto (k := 9) (o2 := 147) X K kdc_142 (by decide) (knEnt_10 kdc_142) rfl (by decide) knInX13 (knGm 1513 (by decide +kernel) rfl) rfl rfl dX13_removes_15 ?_
      refine kj_iloadn X 3 dX13_removes_18 rfl ?_
      obtain ⟨h3, hf⟩ := knGd_inv hf
      refine kj_iald X K kdc_147 hx3 lnc_147 h3 dX13_removes_19 (fun h4 => ?_)
      refine kj_iloadn X 1 dX13_removes_20 rfl ?_
      have j19 : ∀ (t19_0 : Int) (ht19_0 : knC t19_0) (m19 : knMem), (fun q19 =>
       kfX13_removes_l4  x1 kc n q19.1 (knW (x3 + 1)) q19.2) (t19_0, m19) = some q → knJ G p l e { frames := 0, cells := 0, slots := 0, locals := 0 } s m args below meth c 4 0 0 (MQ below (knPo G True none q) args s 0 0 (knA G)) 75 [(0, knO G 142), (1, knV x1), (2, knV t19_0), (3, knV x3)] [] m19 := by
        intro t19_0 ht19_0 m19
        intro hf
        refine kj_iinc X 3 (L' := [(3, knV (knW (x3 + 1))), (0, knO G 142), (1, knV x1), (2, knV t19_0)]) dX13_removes_75 rfl (by decide) rfl ?_
        refine kj_goto X (tgt := 4) dX13_removes_78 (by decide) ?_
        refine kj_sub (L' := [(0, knO G 142), (1, knV x1), (2, knV t19_0), (3, knV (knW (x3 + 1)))]) [1, 2, 3, 0] rfl ?_
        exact ih _ ht19_0 _ (knCw _) _ hf
      obtain ⟨b20, hb20, hf⟩ := knBd_inv hf
      refine kj_ic_ne X (tgt := 27) dX13_removes_21 (by decide) h4 hx1 (fun h21 => ?_) (fun h21 => ?_)
      · replace hb20 := knIq hb20 h21
        refine kj_aloadn X 0 dX13_removes_27 rfl ?_
        refine kj_geto (k := 9) (o2 := 147) X K kdc_142 (by decide) (knEnt_10 kdc_142) rfl (by decide) knInX13 (knGm 1513 (by decide +kernel) rfl) rfl rfl dX13_removes_28 ?_
        refine kj_iloadn X 2 dX13_removes_31 rfl ?_
        refine kj_aloadn X 0 dX13_removes_32 rfl ?_
        refine kj_geto (k := 9) (o2 := 147) X K kdc_142 (by decide) (knEnt_10 kdc_142) rfl (by decide) knInX13 (knGm 1513 (by decide +kernel) rfl) rfl rfl dX13_removes_33 ?_
        refine kj_iloadn X 3 dX13_removes_36 rfl ?_
        refine kj_iald X K kdc_147 hx3 lnc_147 h3 dX13_removes_37 (fun h22 => ?_)
        refine kj_iloadn X 1 dX13_removes_38 rfl ?_
        have j26 : ∀ (t26_0 : Int) (et26_0 : t26_0 = (if (μ 147 x3) ≤ x1 then (μ 147 x3) else (knW ((μ 147 x3) - 1)) : Int)) (ht26_0 : knC t26_0), knJ G p l e { frames := 0, cells := 0, slots := 0, locals := 0 } s m args below meth c 4 0 0 (MQ below (knPo G True none q) args s 0 0 (knA G)) 59 [(0, knO G 142), (1, knV x1), (2, knV x2), (3, knV x3)] [knV t26_0, knV x2, knO G 147] μ := by
          intro t26_0 et26_0 ht26_0
          subst et26_0
          obtain ⟨h30, hb20⟩ := knGd_inv hb20
          refine kj_iast X K kdc_147 hx2 ht26_0 lnc_147 h30 dX13_removes_59 ?_
          refine kj_aloadn X 0 dX13_removes_60 rfl ?_
          refine kj_geto (k := 10) (o2 := 148) X K kdc_142 (by decide) (knEnt_10 kdc_142) rfl (by decide) knInX13 (knGm 1514 (by decide +kernel) rfl) rfl rfl dX13_removes_61 ?_
          refine kj_iloadn X 2 dX13_removes_64 rfl ?_
          refine kj_aloadn X 0 dX13_removes_65 rfl ?_
          refine kj_geto (k := 10) (o2 := 148) X K kdc_142 (by decide) (knEnt_10 kdc_142) rfl (by decide) knInX13 (knGm 1514 (by decide +kernel) rfl) rfl rfl dX13_removes_66 ?_
          refine kj_iloadn X 3 dX13_removes_69 rfl ?_
          refine kj_iald X K kdc_148 hx3 lnc_148 h3 dX13_removes_70 (fun h31 => ?_)
          refine kj_iast X K kdc_148 hx2 h31 lnc_148 h30 dX13_removes_71 ?_
          refine kj_iinc X 2 (L' := [(2, knV (knW (x2 + 1))), (0, knO G 142), (1, knV x1), (3, knV x3)]) dX13_removes_72 rfl (by decide) rfl ?_
          cases hb20
          refine kj_sub (L' := [(0, knO G 142), (1, knV x1), (2, knV (knW (x2 + 1))), (3, knV x3)]) [1, 2, 0, 3] rfl ?_
          exact j19 _ (knCw _) _ hf
        refine kj_ic_le X (tgt := 53) dX13_removes_39 (by decide) h22 hx1 (fun h32 => ?_) (fun h32 => ?_)
        · refine kj_aloadn X 0 dX13_removes_53 rfl ?_
          refine kj_geto (k := 9) (o2 := 147) X K kdc_142 (by decide) (knEnt_10 kdc_142) rfl (by decide) knInX13 (knGm 1513 (by decide +kernel) rfl) rfl rfl dX13_removes_54 ?_
          refine kj_iloadn X 3 dX13_removes_57 rfl ?_
          refine kj_iald X K kdc_147 hx3 lnc_147 h3 dX13_removes_58 (fun h33 => ?_)
          refine kj_sub (L' := [(0, knO G 142), (1, knV x1), (2, knV x2), (3, knV x3)]) [0, 1, 2, 3] rfl ?_
          exact j26 (μ 147 x3) (by rw [if_pos h32]) h33
        · refine kj_aloadn X 0 dX13_removes_42 rfl ?_
          refine kj_geto (k := 9) (o2 := 147) X K kdc_142 (by decide) (knEnt_10 kdc_142) rfl (by decide) knInX13 (knGm 1513 (by decide +kernel) rfl) rfl rfl dX13_removes_43 ?_
          refine kj_iloadn X 3 dX13_removes_46 rfl ?_
          refine kj_iald X K kdc_147 hx3 lnc_147 h3 dX13_removes_47 (fun h34 => ?_)
          refine kj_iconst X dX13_removes_48 ?_
          refine kj_isub X dX13_removes_49 ?_
          refine kj_goto X (tgt := 59) dX13_removes_50 (by decide) ?_
          refine kj_sub (L' := [(0, knO G 142), (1, knV x1), (2, knV x2), (3, knV x3)]) [0, 1, 2, 3] rfl ?_
          exact j26 (knW ((μ 147 x3) - 1)) (by rw [if_neg h32]) (knCw _)
      · replace hb20 := knIp hb20 h21
        refine kj_goto X (tgt := 75) dX13_removes_24 (by decide) ?_
        cases hb20
        refine kj_sub (L' := [(0, knO G 142), (1, knV x1), (2, knV x2), (3, knV x3)]) [0, 1, 2, 3] rfl ?_
        exact j19 _ hx2 _ hf

set_option maxHeartbeats 4000000 in
set_option maxRecDepth 100000 in
theorem kfX13_removes_l93_ok {q : knMem} {kc : (knMem) → Option (knMem)} {G : knGT} {p : Program} {l : Launch} {e : Env} {s : State} {m : MethodId} {args : Array Value} {below : List Frame} {meth : Method} {c : Code} (X : knX p m c cX13_removes 4 s args yX13_removes.cls) (K : knK G s s.heap) (hr : meth.sig.returnType = none) (hlk : meth.locks = false)    (hk : ∀ (μ1 : knMem), kc μ1 = some q → knJ G p l e { frames := 0, cells := 0, slots := 0, locals := 0 } s m args below meth c 4 0 0 (MQ below (knPo G True none q) args s 0 0 (knA G)) 121 [] [] μ1) : ∀ (n : Nat) (x3 : Int) (hx3 : knC x3) (μ : knMem), kfX13_removes_l93   kc n x3 μ = some q → knJ G p l e { frames := 0, cells := 0, slots := 0, locals := 0 } s m args below meth c 4 0 0 (MQ below (knPo G True none q) args s 0 0 (knA G)) 93 [(0, knO G 142), (3, knV x3)] [] μ := by
  intro n
  induction n with
  | zero => intro x3 hx3 μ hf; cases hf
  | succ n ih =>
    intro x3 hx3 μ hf
    unfold kfX13_removes_l93 at hf
    refine kj_iloadn X 1 dX13_removes_93 rfl ?_
    refine kj_aloadn X 0 dX13_removes_94 rfl ?_
    refine kj_geti (k := 8) (ki := 8) X K rfl kdc_142 (by decide) (knEnt_10 kdc_142) rfl (by decide) knInX13 (knGm 1512 (by decide +kernel) rfl) rfl rfl dX13_removes_95 (fun h37 => ?_)
    refine kj_ic_ge X (tgt := 121) dX13_removes_98 (by decide) hx3 h37 (fun h38 => ?_) (fun h38 => ?_)
    · replace hf := knIp hf h38
      refine kj_sub (L' := []) [] rfl ?_
      exact hk _ hf
    · replace hf := knIq hf h38
      refine kj_aloadn X 0 dX13_removes_101 rfl ?_
      refine kj_geto (k := 11) (o2 := 149) X K kdc_142 (by decide) (knEnt_10 kdc_142) rfl (by decide) knInX13 (knGm 1515 (by decide +kernel) rfl) rfl rfl dX13_removes_102 ?_
      refine kj_iloadn X 1 dX13_removes_105 rfl ?_
      refine kj_aloadn X 0 dX13_removes_106 rfl ?_
      refine kj_geto (k := 11) (o2 := 149) X K kdc_142 (by decide) (knEnt_10 kdc_142) rfl (by decide) knInX13 (knGm 1515 (by decide +kernel) rfl) rfl rfl dX13_removes_107 ?_
      refine kj_iloadn X 1 dX13_removes_110 rfl ?_
      refine kj_iconst X dX13_removes_111 ?_
      refine kj_iadd X dX13_removes_112 ?_
      obtain ⟨h39, hf⟩ := knGd_inv hf
      refine kj_iald X K kdc_149 (knCw _) lnc_149 h39 dX13_removes_113 (fun h40 => ?_)
      obtain ⟨h41, hf⟩ := knGd_inv hf
      refine kj_iast X K kdc_149 hx3 h40 lnc_149 h41 dX13_removes_114 ?_
      refine kj_iinc X 1 (L' := [(3, knV (knW (x3 + 1))), (0, knO G 142)]) dX13_removes_115 rfl (by decide) rfl ?_
      refine kj_goto X (tgt := 93) dX13_removes_118 (by decide) ?_
      refine kj_sub (L' := [(0, knO G 142), (3, knV (knW (x3 + 1)))]) [1, 0] rfl ?_
      exact ih _ (knCw _) _ hf

set_option maxHeartbeats 4000000 in
set_option maxRecDepth 100000 in
theorem kcX13_removes {G : knGT} (l : Launch) {a1 : Int} (ha1 : knC a1) {μ : knMem} {q : knMem} (hf : kfX13_removes a1 μ = some q) : knC0 G l yX13_removes cX13_removes 4 none 0 0 [knO G 142, knV a1] μ True none q := by
  unfold kfX13_removes at hf
  refine kn_ofJ (plainFor_of_name (by decide)) (Nat.le_of_ble_eq_true rfl) (L := [(0, knO G 142), (1, knV a1)]) rfl ?_
  intro p e s m args below meth c X K hr hlk
  refine kj_iconst X dX13_removes_0 ?_
  refine kj_istoren X (L' := [(2, knV 0), (0, knO G 142), (1, knV a1)]) dX13_removes_1 (by decide) rfl ?_
  refine kj_iconst X dX13_removes_2 ?_
  refine kj_istoren X (L' := [(3, knV 0), (2, knV 0), (0, knO G 142), (1, knV a1)]) dX13_removes_3 (by decide) rfl ?_
  refine kj_sub (L' := [(0, knO G 142), (1, knV a1), (2, knV 0), (3, knV 0)]) [2, 3, 1, 0] rfl ?_
  refine kfX13_removes_l4_ok X K hr hlk a1 ha1  ?_ knF _ (show knC (0) from ⟨by omega, by omega⟩) _ (show knC (0) from ⟨by omega, by omega⟩) _ hf
  intro w35_m
  intro hf
  refine kj_aloadn X 0 dX13_removes_81 rfl ?_
  refine kj_dup X dX13_removes_82 rfl ?_
  refine kj_geti (k := 8) (ki := 8) X K rfl kdc_142 (by decide) (knEnt_10 kdc_142) rfl (by decide) knInX13 (knGm 1512 (by decide +kernel) rfl) rfl rfl dX13_removes_83 (fun h43 => ?_)
  refine kj_iconst X dX13_removes_86 ?_
  refine kj_isub X dX13_removes_87 ?_
  refine kj_putf (k := 8) (ki := 8) (x := (knW ((w35_m 142 8) - 1))) (ty := .int) X K rfl (knKd_in kdc_142 (by decide)) (knEnt_10 kdc_142) rfl (by decide) knInX13 tyX13_ok nmX13 (knGm 1512 (by decide +kernel) rfl) rfl rfl (by decide +kernel) rfl rfl (by simp) (by rw [knEnt_10 kdc_142, knUp_row]; rfl) (fun _ => (knCw _)) (fun h => by rw [kdc_142] at h; cases h) (fun h => by rw [kdc_142] at h; cases h) dX13_removes_88 ?_
  refine kj_iloadn X 1 dX13_removes_91 rfl ?_
  refine kj_istoren X (L' := [(3, knV a1), (0, knO G 142), (1, knV a1)]) dX13_removes_92 (by decide) rfl ?_
  refine kj_sub (L' := [(0, knO G 142), (3, knV a1)]) [1, 0] rfl ?_
  refine kfX13_removes_l93_ok X K hr hlk    ?_ knF _ ha1 _ hf
  intro w44_m
  intro hf
  cases hf
  exact kj_vret X trivial hr dX13_removes_121 hlk

def kfX13_reducesOnce_l2   (μ : knMem) (kc : (Unit) → Option (Int × knMem)) : Nat → Int → Option (Int × knMem)
  | 0, _ => none
  | n + 1, x1 =>
    if (μ 142 8) ≤ x1 then
     kc ()
    else
     Option.bind (kfX13_curls x1 μ) (fun q3 =>
      if q3 = 0 then
       kfX13_reducesOnce_l2   μ kc n (knW (x1 + 1))
      else
       Option.bind (kfX13_removes x1 μ) (fun q7 =>
        some (1, q7)))

def kfX13_reducesOnce_l45  (x1 : Int) (μ : knMem) (kc : (Unit) → Option (Int × knMem)) : Nat → Int → Option (Int × knMem)
  | 0, _ => none
  | n + 1, x2 =>
    if (μ 142 8) ≤ x2 then
     kc ()
    else
     Option.bind (kfX13_pokes x1 x2 μ) (fun q15 =>
      if q15 = 0 then
       kfX13_reducesOnce_l45  x1 μ kc n (knW (x2 + 1))
      else
       Option.bind (kfX13_removes x2 μ) (fun q19 =>
        Option.bind (kfX13_removes x1 q19) (fun q22 =>
         some (1, q22))))

def kfX13_reducesOnce_l33   (μ : knMem) (kc : (Unit) → Option (Int × knMem)) : Nat → Int → Option (Int × knMem)
  | 0, _ => none
  | n + 1, x1 =>
    if (μ 142 8) ≤ x1 then
     kc ()
    else
     kfX13_reducesOnce_l45 x1 μ (fun _ =>
      kfX13_reducesOnce_l33   μ kc n (knW (x1 + 1))) knF (knW (x1 + 1))

def kfX13_reducesOnce  (μ : knMem) : Option (Int × knMem) :=
 kfX13_reducesOnce_l2  μ (fun _ =>
  kfX13_reducesOnce_l33  μ (fun _ =>
   some (0, μ)) knF 0) knF 0

theorem knWvX13_reducesOnce : knWv yX13_reducesOnce cX13_reducesOnce 3 (some .boolean) 0 := ⟨(knGm 1767 (by decide +kernel) rfl), (knGm 124 (by decide +kernel) rfl), (knGm 1766 (by decide +kernel) rfl), (knGm 69 (by decide +kernel) rfl), by decide +kernel, by decide +kernel, by decide +kernel⟩
set_option maxHeartbeats 4000000 in
set_option maxRecDepth 100000 in
theorem kfX13_reducesOnce_l2_ok {q : Int × knMem} {kc : (Unit) → Option (Int × knMem)} {G : knGT} {p : Program} {l : Launch} {e : Env} {s : State} {m : MethodId} {args : Array Value} {below : List Frame} {meth : Method} {c : Code} (X : knX p m c cX13_reducesOnce 3 s args yX13_reducesOnce.cls) (K : knK G s s.heap) (hr : meth.sig.returnType = (some .boolean)) (hlk : meth.locks = false)   (μ : knMem) (hk : kc () = some q → knJ G p l e { frames := 2, cells := 0, slots := 0, locals := 45 } s m args below meth c 3 0 0 (MQ below (knPo G (knZ q.1) (some (knV q.1)) q.2) args s 0 0 (knA G)) 31 [(0, knO G 142)] [] μ) : ∀ (n : Nat) (x1 : Int) (hx1 : knC x1) , kfX13_reducesOnce_l2   μ kc n x1 = some q → knJ G p l e { frames := 2, cells := 0, slots := 0, locals := 45 } s m args below meth c 3 0 0 (MQ below (knPo G (knZ q.1) (some (knV q.1)) q.2) args s 0 0 (knA G)) 2 [(0, knO G 142), (1, knV x1)] [] μ := by
  intro n
  induction n with
  | zero => intro x1 hx1 hf; cases hf
  | succ n ih =>
    intro x1 hx1 hf
    unfold kfX13_reducesOnce_l2 at hf
    refine kj_iloadn X 1 dX13_reducesOnce_2 rfl ?_
    refine kj_aloadn X 0 dX13_reducesOnce_3 rfl ?_
    refine kj_geti (k := 8) (ki := 8) X K rfl kdc_142 (by decide) (knEnt_10 kdc_142) rfl (by decide) knInX13 (knGm 1512 (by decide +kernel) rfl) rfl rfl dX13_reducesOnce_4 (fun h1 => ?_)
    refine kj_ic_ge X (tgt := 31) dX13_reducesOnce_7 (by decide) hx1 h1 (fun h2 => ?_) (fun h2 => ?_)
    · replace hf := knIp hf h2
      refine kj_sub (L' := [(0, knO G 142)]) [0] rfl ?_
      exact hk  hf
    · replace hf := knIq hf h2
      refine kj_aloadn X 0 dX13_reducesOnce_10 rfl ?_
      refine kj_iloadn X 1 dX13_reducesOnce_11 rfl ?_
      obtain ⟨q3, h4, hf⟩ := knBd_inv hf
      refine kj_callV (As := [knV x1]) (rest := []) X K (kcX13_curls l hx1 h4) knWvX13_curls (knGm 1648 (by decide +kernel) rfl) (by decide) (knKd_in kdc_142 (by decide)) (knEnt_10 kdc_142) rfl rfl rfl (Nat.le_of_ble_eq_true rfl) (by decide) dX13_reducesOnce_12 rfl (fun h5 => ?_)
      refine kj_if_eq X (tgt := 25) dX13_reducesOnce_15 (by decide) (knZ_c h5) (fun h6 => ?_) (fun h6 => ?_)
      · replace hf := knIp hf h6
        refine kj_iinc X 1 (L' := [(1, knV (knW (x1 + 1))), (0, knO G 142)]) dX13_reducesOnce_25 rfl (by decide) rfl ?_
        refine kj_goto X (tgt := 2) dX13_reducesOnce_28 (by decide) ?_
        refine kj_sub (L' := [(0, knO G 142), (1, knV (knW (x1 + 1)))]) [1, 0] rfl ?_
        exact ih _ (knCw _)  hf
      · replace hf := knIq hf h6
        refine kj_aloadn X 0 dX13_reducesOnce_18 rfl ?_
        refine kj_iloadn X 1 dX13_reducesOnce_19 rfl ?_
        obtain ⟨q7, h8, hf⟩ := knBd_inv hf
        refine kj_callV (As := [knV x1]) (rest := []) X K (kcX13_removes l hx1 h8) knWvX13_removes (knGm 1664 (by decide +kernel) rfl) (by decide) (knKd_in kdc_142 (by decide)) (knEnt_10 kdc_142) rfl rfl rfl (Nat.le_of_ble_eq_true rfl) (by decide) dX13_reducesOnce_20 rfl (fun h9 => ?_)
        refine kj_iconst X dX13_reducesOnce_23 ?_
        cases hf
        exact kj_zret X (Or.inr rfl) hr (kn_nb (Or.inr rfl)) dX13_reducesOnce_24 hlk

set_option maxHeartbeats 4000000 in
set_option maxRecDepth 100000 in
theorem kfX13_reducesOnce_l45_ok {q : Int × knMem} {kc : (Unit) → Option (Int × knMem)} {G : knGT} {p : Program} {l : Launch} {e : Env} {s : State} {m : MethodId} {args : Array Value} {below : List Frame} {meth : Method} {c : Code} (X : knX p m c cX13_reducesOnce 3 s args yX13_reducesOnce.cls) (K : knK G s s.heap) (hr : meth.sig.returnType = (some .boolean)) (hlk : meth.locks = false) (x1 : Int) (hx1 : knC x1) (μ : knMem) (hk : kc () = some q → knJ G p l e { frames := 2, cells := 0, slots := 0, locals := 45 } s m args below meth c 3 0 0 (MQ below (knPo G (knZ q.1) (some (knV q.1)) q.2) args s 0 0 (knA G)) 83 [(0, knO G 142), (1, knV x1)] [] μ) : ∀ (n : Nat) (x2 : Int) (hx2 : knC x2) , kfX13_reducesOnce_l45  x1 μ kc n x2 = some q → knJ G p l e { frames := 2, cells := 0, slots := 0, locals := 45 } s m args below meth c 3 0 0 (MQ below (knPo G (knZ q.1) (some (knV q.1)) q.2) args s 0 0 (knA G)) 45 [(0, knO G 142), (1, knV x1), (2, knV x2)] [] μ := by
  intro n
  induction n with
  | zero => intro x2 hx2 hf; cases hf
  | succ n ih =>
    intro x2 hx2 hf
    unfold kfX13_reducesOnce_l45 at hf
    refine kj_iloadn X 2 dX13_reducesOnce_45 rfl ?_
    refine kj_aloadn X 0 dX13_reducesOnce_46 rfl ?_
    refine kj_geti (k := 8) (ki := 8) X K rfl kdc_142 (by decide) (knEnt_10 kdc_142) rfl (by decide) knInX13 (knGm 1512 (by decide +kernel) rfl) rfl rfl dX13_reducesOnce_47 (fun h13 => ?_)
    refine kj_ic_ge X (tgt := 83) dX13_reducesOnce_50 (by decide) hx2 h13 (fun h14 => ?_) (fun h14 => ?_)
    · replace hf := knIp hf h14
      refine kj_sub (L' := [(0, knO G 142), (1, knV x1)]) [0, 1] rfl ?_
      exact hk  hf
    · replace hf := knIq hf h14
      refine kj_aloadn X 0 dX13_reducesOnce_53 rfl ?_
      refine kj_iloadn X 1 dX13_reducesOnce_54 rfl ?_
      refine kj_iloadn X 2 dX13_reducesOnce_55 rfl ?_
      obtain ⟨q15, h16, hf⟩ := knBd_inv hf
      refine kj_callV (As := [knV x1, knV x2]) (rest := []) X K (kcX13_pokes l hx1 hx2 h16) knWvX13_pokes (knGm 1692 (by decide +kernel) rfl) (by decide) (knKd_in kdc_142 (by decide)) (knEnt_10 kdc_142) rfl rfl rfl (Nat.le_of_ble_eq_true rfl) (by decide) dX13_reducesOnce_56 rfl (fun h17 => ?_)
      refine kj_if_ne X (tgt := 65) dX13_reducesOnce_59 (by decide) (knZ_c h17) (fun h18 => ?_) (fun h18 => ?_)
      · replace hf := knIq hf h18
        refine kj_aloadn X 0 dX13_reducesOnce_65 rfl ?_
        refine kj_iloadn X 2 dX13_reducesOnce_66 rfl ?_
        obtain ⟨q19, h20, hf⟩ := knBd_inv hf
        refine kj_callV (As := [knV x2]) (rest := []) X K (kcX13_removes l hx2 h20) knWvX13_removes (knGm 1664 (by decide +kernel) rfl) (by decide) (knKd_in kdc_142 (by decide)) (knEnt_10 kdc_142) rfl rfl rfl (Nat.le_of_ble_eq_true rfl) (by decide) dX13_reducesOnce_67 rfl (fun h21 => ?_)
        refine kj_aloadn X 0 dX13_reducesOnce_70 rfl ?_
        refine kj_iloadn X 1 dX13_reducesOnce_71 rfl ?_
        obtain ⟨q22, h23, hf⟩ := knBd_inv hf
        refine kj_callV (As := [knV x1]) (rest := []) X K (kcX13_removes l hx1 h23) knWvX13_removes (knGm 1664 (by decide +kernel) rfl) (by decide) (knKd_in kdc_142 (by decide)) (knEnt_10 kdc_142) rfl rfl rfl (Nat.le_of_ble_eq_true rfl) (by decide) dX13_reducesOnce_72 rfl (fun h24 => ?_)
        refine kj_iconst X dX13_reducesOnce_75 ?_
        cases hf
        exact kj_zret X (Or.inr rfl) hr (kn_nb (Or.inr rfl)) dX13_reducesOnce_76 hlk
      · replace hf := knIp hf h18
        refine kj_goto X (tgt := 77) dX13_reducesOnce_62 (by decide) ?_
        refine kj_iinc X 2 (L' := [(2, knV (knW (x2 + 1))), (0, knO G 142), (1, knV x1)]) dX13_reducesOnce_77 rfl (by decide) rfl ?_
        refine kj_goto X (tgt := 45) dX13_reducesOnce_80 (by decide) ?_
        refine kj_sub (L' := [(0, knO G 142), (1, knV x1), (2, knV (knW (x2 + 1)))]) [1, 2, 0] rfl ?_
        exact ih _ (knCw _)  hf

set_option maxHeartbeats 4000000 in
set_option maxRecDepth 100000 in
theorem kfX13_reducesOnce_l33_ok {q : Int × knMem} {kc : (Unit) → Option (Int × knMem)} {G : knGT} {p : Program} {l : Launch} {e : Env} {s : State} {m : MethodId} {args : Array Value} {below : List Frame} {meth : Method} {c : Code} (X : knX p m c cX13_reducesOnce 3 s args yX13_reducesOnce.cls) (K : knK G s s.heap) (hr : meth.sig.returnType = (some .boolean)) (hlk : meth.locks = false)   (μ : knMem) (hk : kc () = some q → knJ G p l e { frames := 2, cells := 0, slots := 0, locals := 45 } s m args below meth c 3 0 0 (MQ below (knPo G (knZ q.1) (some (knV q.1)) q.2) args s 0 0 (knA G)) 89 [] [] μ) : ∀ (n : Nat) (x1 : Int) (hx1 : knC x1) , kfX13_reducesOnce_l33   μ kc n x1 = some q → knJ G p l e { frames := 2, cells := 0, slots := 0, locals := 45 } s m args below meth c 3 0 0 (MQ below (knPo G (knZ q.1) (some (knV q.1)) q.2) args s 0 0 (knA G)) 33 [(0, knO G 142), (1, knV x1)] [] μ := by
  intro n
  induction n with
  | zero => intro x1 hx1 hf; cases hf
  | succ n ih =>
    intro x1 hx1 hf
    unfold kfX13_reducesOnce_l33 at hf
    refine kj_iloadn X 1 dX13_reducesOnce_33 rfl ?_
    refine kj_aloadn X 0 dX13_reducesOnce_34 rfl ?_
    refine kj_geti (k := 8) (ki := 8) X K rfl kdc_142 (by decide) (knEnt_10 kdc_142) rfl (by decide) knInX13 (knGm 1512 (by decide +kernel) rfl) rfl rfl dX13_reducesOnce_35 (fun h11 => ?_)
    refine kj_ic_ge X (tgt := 89) dX13_reducesOnce_38 (by decide) hx1 h11 (fun h12 => ?_) (fun h12 => ?_)
    · replace hf := knIp hf h12
      refine kj_sub (L' := []) [] rfl ?_
      exact hk  hf
    · replace hf := knIq hf h12
      refine kj_iloadn X 1 dX13_reducesOnce_41 rfl ?_
      refine kj_iconst X dX13_reducesOnce_42 ?_
      refine kj_iadd X dX13_reducesOnce_43 ?_
      refine kj_istoren X (L' := [(2, knV (knW (x1 + 1))), (0, knO G 142), (1, knV x1)]) dX13_reducesOnce_44 (by decide) rfl ?_
      refine kj_sub (L' := [(0, knO G 142), (1, knV x1), (2, knV (knW (x1 + 1)))]) [1, 2, 0] rfl ?_
      refine kfX13_reducesOnce_l45_ok X K hr hlk x1 hx1 μ ?_ knF _ (knCw _)  hf
      intro hf
      refine kj_iinc X 1 (L' := [(1, knV (knW (x1 + 1))), (0, knO G 142)]) dX13_reducesOnce_83 rfl (by decide) rfl ?_
      refine kj_goto X (tgt := 33) dX13_reducesOnce_86 (by decide) ?_
      refine kj_sub (L' := [(0, knO G 142), (1, knV (knW (x1 + 1)))]) [1, 0] rfl ?_
      exact ih _ (knCw _)  hf

set_option maxHeartbeats 4000000 in
set_option maxRecDepth 100000 in
theorem kcX13_reducesOnce {G : knGT} (l : Launch)   {μ : knMem} {q : Int × knMem} (hf : kfX13_reducesOnce  μ = some q) : knC0 G l yX13_reducesOnce cX13_reducesOnce 3 (some .boolean) 2 45 [knO G 142] μ (knZ q.1) (some (knV q.1)) q.2 := by
  unfold kfX13_reducesOnce at hf
  refine kn_ofJ (plainFor_of_name (by decide)) (Nat.le_of_ble_eq_true rfl) (L := [(0, knO G 142)]) rfl ?_
  intro p e s m args below meth c X K hr hlk
  refine kj_iconst X dX13_reducesOnce_0 ?_
  refine kj_istoren X (L' := [(1, knV 0), (0, knO G 142)]) dX13_reducesOnce_1 (by decide) rfl ?_
  refine kj_sub (L' := [(0, knO G 142), (1, knV 0)]) [1, 0] rfl ?_
  refine kfX13_reducesOnce_l2_ok X K hr hlk   μ ?_ knF _ (show knC (0) from ⟨by omega, by omega⟩)  hf
  intro hf
  refine kj_iconst X dX13_reducesOnce_31 ?_
  refine kj_istoren X (L' := [(1, knV 0), (0, knO G 142)]) dX13_reducesOnce_32 (by decide) rfl ?_
  refine kj_sub (L' := [(0, knO G 142), (1, knV 0)]) [1, 0] rfl ?_
  refine kfX13_reducesOnce_l33_ok X K hr hlk   μ ?_ knF _ (show knC (0) from ⟨by omega, by omega⟩)  hf
  intro hf
  refine kj_iconst X dX13_reducesOnce_89 ?_
  cases hf
  exact kj_zret X (Or.inl rfl) hr (kn_nb (Or.inl rfl)) dX13_reducesOnce_90 hlk

def kfX13_reduces_l2    (kc : (knMem) → Option (knMem)) : Nat → Int → knMem → Option (knMem)
  | 0, _, _ => none
  | n + 1, x1, μ =>
    if x1 = 0 then
     kc μ
    else
     Option.bind (kfX13_reducesOnce  μ) (fun q2 =>
      kfX13_reduces_l2   kc n q2.1 q2.2)

def kfX13_reduces  (μ : knMem) : Option (knMem) :=
 kfX13_reduces_l2   (fun w5 =>
  some w5) knF 1 μ

theorem knWvX13_reduces : knWv yX13_reduces cX13_reduces 2 none 0 := ⟨(knGm 1763 (by decide +kernel) rfl), (knGm 124 (by decide +kernel) rfl), (knGm 1762 (by decide +kernel) rfl), (knGm 68 (by decide +kernel) rfl), by decide +kernel, by decide +kernel, by decide +kernel⟩
set_option maxHeartbeats 4000000 in
set_option maxRecDepth 100000 in
theorem kfX13_reduces_l2_ok {q : knMem} {kc : (knMem) → Option (knMem)} {G : knGT} {p : Program} {l : Launch} {e : Env} {s : State} {m : MethodId} {args : Array Value} {below : List Frame} {meth : Method} {c : Code} (X : knX p m c cX13_reduces 2 s args yX13_reduces.cls) (K : knK G s s.heap) (hr : meth.sig.returnType = none) (hlk : meth.locks = false)    (hk : ∀ (μ1 : knMem), kc μ1 = some q → knJ G p l e { frames := 3, cells := 0, slots := 0, locals := 67 } s m args below meth c 2 0 0 (MQ below (knPo G True none q) args s 0 0 (knA G)) 14 [] [] μ1) : ∀ (n : Nat) (x1 : Int) (hx1 : knC x1) (μ : knMem), kfX13_reduces_l2   kc n x1 μ = some q → knJ G p l e { frames := 3, cells := 0, slots := 0, locals := 67 } s m args below meth c 2 0 0 (MQ below (knPo G True none q) args s 0 0 (knA G)) 2 [(0, knO G 142), (1, knV x1)] [] μ := by
  intro n
  induction n with
  | zero => intro x1 hx1 μ hf; cases hf
  | succ n ih =>
    intro x1 hx1 μ hf
    unfold kfX13_reduces_l2 at hf
    refine kj_iloadn X 1 dX13_reduces_2 rfl ?_
    refine kj_if_eq X (tgt := 14) dX13_reduces_3 (by decide) hx1 (fun h1 => ?_) (fun h1 => ?_)
    · replace hf := knIp hf h1
      refine kj_sub (L' := []) [] rfl ?_
      exact hk _ hf
    · replace hf := knIq hf h1
      refine kj_aloadn X 0 dX13_reduces_6 rfl ?_
      obtain ⟨q2, h3, hf⟩ := knBd_inv hf
      refine kj_callV (As := []) (rest := []) X K (kcX13_reducesOnce l  h3) knWvX13_reducesOnce (knGm 1764 (by decide +kernel) rfl) (by decide) (knKd_in kdc_142 (by decide)) (knEnt_10 kdc_142) rfl rfl rfl (Nat.le_of_ble_eq_true rfl) (by decide) dX13_reduces_7 rfl (fun h4 => ?_)
      refine kj_istoren X (L' := [(1, knV q2.1), (0, knO G 142)]) dX13_reduces_10 (by decide) rfl ?_
      refine kj_goto X (tgt := 2) dX13_reduces_11 (by decide) ?_
      refine kj_sub (L' := [(0, knO G 142), (1, knV q2.1)]) [1, 0] rfl ?_
      exact ih _ (knZ_c h4) _ hf

set_option maxHeartbeats 4000000 in
set_option maxRecDepth 100000 in
theorem kcX13_reduces {G : knGT} (l : Launch)   {μ : knMem} {q : knMem} (hf : kfX13_reduces  μ = some q) : knC0 G l yX13_reduces cX13_reduces 2 none 3 67 [knO G 142] μ True none q := by
  unfold kfX13_reduces at hf
  refine kn_ofJ (plainFor_of_name (by decide)) (Nat.le_of_ble_eq_true rfl) (L := [(0, knO G 142)]) rfl ?_
  intro p e s m args below meth c X K hr hlk
  refine kj_iconst X dX13_reduces_0 ?_
  refine kj_istoren X (L' := [(1, knV 1), (0, knO G 142)]) dX13_reduces_1 (by decide) rfl ?_
  refine kj_sub (L' := [(0, knO G 142), (1, knV 1)]) [1, 0] rfl ?_
  refine kfX13_reduces_l2_ok X K hr hlk    ?_ knF _ (show knC (1) from ⟨by omega, by omega⟩) _ hf
  intro w5_m
  intro hf
  cases hf
  exact kj_vret X trivial hr dX13_reduces_14 hlk

def kfX13_inserts_l4  (x1 : Int) (x2 : Int) (x3 : Int)  (kc : (knMem) → Option (knMem)) : Nat → Int → knMem → Option (knMem)
  | 0, _, _ => none
  | n + 1, x5, μ =>
    if x5 ≤ x1 then
     kc μ
    else
     knGd (0 ≤ (knW (x5 - 1)) ∧ (knW (x5 - 1)) < 14)
      (knGd (0 ≤ x5 ∧ x5 < 14)
      (kfX13_inserts_l4  x1 x2 x3 kc n (knW (x5 + (-1))) (knUp (knUp μ 147 x5 (μ 147 (knW (x5 - 1)))) 148 x5 ((knUp μ 147 x5 (μ 147 (knW (x5 - 1)))) 148 (knW (x5 - 1))))))

def kfX13_inserts (a1 : Int) (a2 : Int) (a3 : Int) (a4 : Int) (μ : knMem) : Option (knMem) :=
 kfX13_inserts_l4 a1 a2 a3  (fun w6 =>
  knGd (0 ≤ a1 ∧ a1 < 14)
   (some (knUp (knUp w6 147 a1 a2) 148 a1 a3))) knF a4 μ

theorem knWvX13_inserts : knWv yX13_inserts cX13_inserts 6 none 4 := ⟨(knGm 1631 (by decide +kernel) rfl), (knGm 124 (by decide +kernel) rfl), (knGm 1630 (by decide +kernel) rfl), (knGm 43 (by decide +kernel) rfl), by decide +kernel, by decide +kernel, by decide +kernel⟩
set_option maxHeartbeats 4000000 in
set_option maxRecDepth 100000 in
theorem kfX13_inserts_l4_ok {q : knMem} {kc : (knMem) → Option (knMem)} {G : knGT} {p : Program} {l : Launch} {e : Env} {s : State} {m : MethodId} {args : Array Value} {below : List Frame} {meth : Method} {c : Code} (X : knX p m c cX13_inserts 6 s args yX13_inserts.cls) (K : knK G s s.heap) (hr : meth.sig.returnType = none) (hlk : meth.locks = false) (x1 : Int) (x2 : Int) (x3 : Int) (hx1 : knC x1) (hx2 : knC x2) (hx3 : knC x3)  (hk : ∀ (μ1 : knMem), kc μ1 = some q → knJ G p l e { frames := 0, cells := 0, slots := 0, locals := 0 } s m args below meth c 6 0 0 (MQ below (knPo G True none q) args s 0 0 (knA G)) 48 [(0, knO G 142), (1, knV x1), (2, knV x2), (3, knV x3)] [] μ1) : ∀ (n : Nat) (x5 : Int) (hx5 : knC x5) (μ : knMem), kfX13_inserts_l4  x1 x2 x3 kc n x5 μ = some q → knJ G p l e { frames := 0, cells := 0, slots := 0, locals := 0 } s m args below meth c 6 0 0 (MQ below (knPo G True none q) args s 0 0 (knA G)) 4 [(0, knO G 142), (1, knV x1), (2, knV x2), (3, knV x3), (5, knV x5)] [] μ := by
  intro n
  induction n with
  | zero => intro x5 hx5 μ hf; cases hf
  | succ n ih =>
    intro x5 hx5 μ hf
    unfold kfX13_inserts_l4 at hf
    refine kj_iload X 4 dX13_inserts_4 rfl ?_
    refine kj_iloadn X 1 dX13_inserts_6 rfl ?_
    refine kj_ic_le X (tgt := 48) dX13_inserts_7 (by decide) hx5 hx1 (fun h1 => ?_) (fun h1 => ?_)
    · replace hf := knIp hf h1
      refine kj_sub (L' := [(0, knO G 142), (1, knV x1), (2, knV x2), (3, knV x3)]) [0, 1, 2, 3] rfl ?_
      exact hk _ hf
    · replace hf := knIq hf h1
      refine kj_aloadn X 0 dX13_inserts_10 rfl ?_
      refine kj_geto (k := 9) (o2 := 147) X K kdc_142 (by decide) (knEnt_10 kdc_142) rfl (by decide) knInX13 (knGm 1513 (by decide +kernel) rfl) rfl rfl dX13_inserts_11 ?_
      refine kj_iload X 4 dX13_inserts_14 rfl ?_
      refine kj_aloadn X 0 dX13_inserts_16 rfl ?_
      refine kj_geto (k := 9) (o2 := 147) X K kdc_142 (by decide) (knEnt_10 kdc_142) rfl (by decide) knInX13 (knGm 1513 (by decide +kernel) rfl) rfl rfl dX13_inserts_17 ?_
      refine kj_iload X 4 dX13_inserts_20 rfl ?_
      refine kj_iconst X dX13_inserts_22 ?_
      refine kj_isub X dX13_inserts_23 ?_
      obtain ⟨h2, hf⟩ := knGd_inv hf
      refine kj_iald X K kdc_147 (knCw _) lnc_147 h2 dX13_inserts_24 (fun h3 => ?_)
      obtain ⟨h4, hf⟩ := knGd_inv hf
      refine kj_iast X K kdc_147 hx5 h3 lnc_147 h4 dX13_inserts_25 ?_
      refine kj_aloadn X 0 dX13_inserts_26 rfl ?_
      refine kj_geto (k := 10) (o2 := 148) X K kdc_142 (by decide) (knEnt_10 kdc_142) rfl (by decide) knInX13 (knGm 1514 (by decide +kernel) rfl) rfl rfl dX13_inserts_27 ?_
      refine kj_iload X 4 dX13_inserts_30 rfl ?_
      refine kj_aloadn X 0 dX13_inserts_32 rfl ?_
      refine kj_geto (k := 10) (o2 := 148) X K kdc_142 (by decide) (knEnt_10 kdc_142) rfl (by decide) knInX13 (knGm 1514 (by decide +kernel) rfl) rfl rfl dX13_inserts_33 ?_
      refine kj_iload X 4 dX13_inserts_36 rfl ?_
      refine kj_iconst X dX13_inserts_38 ?_
      refine kj_isub X dX13_inserts_39 ?_
      refine kj_iald X K kdc_148 (knCw _) lnc_148 h2 dX13_inserts_40 (fun h5 => ?_)
      refine kj_iast X K kdc_148 hx5 h5 lnc_148 h4 dX13_inserts_41 ?_
      refine kj_iinc X 4 (L' := [(5, knV (knW (x5 + (-1)))), (0, knO G 142), (1, knV x1), (2, knV x2), (3, knV x3)]) dX13_inserts_42 rfl (by decide) rfl ?_
      refine kj_goto X (tgt := 4) dX13_inserts_45 (by decide) ?_
      refine kj_sub (L' := [(0, knO G 142), (1, knV x1), (2, knV x2), (3, knV x3), (5, knV (knW (x5 + (-1))))]) [1, 2, 3, 4, 0] rfl ?_
      exact ih _ (knCw _) _ hf

set_option maxHeartbeats 4000000 in
set_option maxRecDepth 100000 in
theorem kcX13_inserts {G : knGT} (l : Launch) {a1 : Int} {a2 : Int} {a3 : Int} {a4 : Int} (ha1 : knC a1) (ha2 : knC a2) (ha3 : knC a3) (ha4 : knC a4) {μ : knMem} {q : knMem} (hf : kfX13_inserts a1 a2 a3 a4 μ = some q) : knC0 G l yX13_inserts cX13_inserts 6 none 0 0 [knO G 142, knV a1, knV a2, knV a3, knV a4] μ True none q := by
  unfold kfX13_inserts at hf
  refine kn_ofJ (plainFor_of_name (by decide)) (Nat.le_of_ble_eq_true rfl) (L := [(0, knO G 142), (1, knV a1), (2, knV a2), (3, knV a3), (4, knV a4)]) rfl ?_
  intro p e s m args below meth c X K hr hlk
  refine kj_iload X 4 dX13_inserts_0 rfl ?_
  refine kj_istore X (L' := [(5, knV a4), (0, knO G 142), (1, knV a1), (2, knV a2), (3, knV a3), (4, knV a4)]) dX13_inserts_2 (by decide) rfl ?_
  refine kj_sub (L' := [(0, knO G 142), (1, knV a1), (2, knV a2), (3, knV a3), (5, knV a4)]) [1, 2, 3, 4, 0] rfl ?_
  refine kfX13_inserts_l4_ok X K hr hlk a1 a2 a3 ha1 ha2 ha3  ?_ knF _ ha4 _ hf
  intro w6_m
  intro hf
  refine kj_aloadn X 0 dX13_inserts_48 rfl ?_
  refine kj_geto (k := 9) (o2 := 147) X K kdc_142 (by decide) (knEnt_10 kdc_142) rfl (by decide) knInX13 (knGm 1513 (by decide +kernel) rfl) rfl rfl dX13_inserts_49 ?_
  refine kj_iloadn X 1 dX13_inserts_52 rfl ?_
  refine kj_iloadn X 2 dX13_inserts_53 rfl ?_
  obtain ⟨h8, hf⟩ := knGd_inv hf
  refine kj_iast X K kdc_147 ha1 ha2 lnc_147 h8 dX13_inserts_54 ?_
  refine kj_aloadn X 0 dX13_inserts_55 rfl ?_
  refine kj_geto (k := 10) (o2 := 148) X K kdc_142 (by decide) (knEnt_10 kdc_142) rfl (by decide) knInX13 (knGm 1514 (by decide +kernel) rfl) rfl rfl dX13_inserts_56 ?_
  refine kj_iloadn X 1 dX13_inserts_59 rfl ?_
  refine kj_iloadn X 3 dX13_inserts_60 rfl ?_
  refine kj_iast X K kdc_148 ha1 ha3 lnc_148 h8 dX13_inserts_61 ?_
  cases hf
  exact kj_vret X trivial hr dX13_inserts_62 hlk

def kfX13_notCurl (a1 : Int) (μ : knMem) : Option (Int) :=
 knGd ((0 : Int) ≤ 0 ∧ (0 : Int) < 50)
  (Option.bind (kfX13_isBetween a1 0 (knW (2 * (μ 143 0))) μ) (fun q3 =>
  if q3 = 0 then
   some 1
  else
   some (if (μ 143 0) = 7 then 2 else 0 : Int)))

theorem knWvX13_notCurl : knWv yX13_notCurl cX13_notCurl 2 (some .int) 1 := ⟨(knGm 1600 (by decide +kernel) rfl), (knGm 124 (by decide +kernel) rfl), (knGm 1599 (by decide +kernel) rfl), (knGm 36 (by decide +kernel) rfl), by decide +kernel, by decide +kernel, by decide +kernel⟩
set_option maxHeartbeats 4000000 in
set_option maxRecDepth 100000 in
theorem kcX13_notCurl {G : knGT} (l : Launch) {a1 : Int} (ha1 : knC a1) {μ : knMem} {q : Int} (hf : kfX13_notCurl a1 μ = some q) : knC0 G l yX13_notCurl cX13_notCurl 2 (some .int) 1 22 [knO G 142, knV a1] μ (knC q) (some (knV q)) μ := by
  unfold kfX13_notCurl at hf
  refine kn_ofJ (plainFor_of_name (by decide)) (Nat.le_of_ble_eq_true rfl) (L := [(0, knO G 142), (1, knV a1)]) rfl ?_
  intro p e s m args below meth c X K hr hlk
  refine kj_iloadn X 1 dX13_notCurl_0 rfl ?_
  refine kj_iconst X dX13_notCurl_1 ?_
  refine kj_iconst X dX13_notCurl_2 ?_
  refine kj_aloadn X 0 dX13_notCurl_3 rfl ?_
  refine kj_geto (k := 1) (o2 := 143) X K kdc_142 (by decide) (knEnt_10 kdc_142) rfl (by decide) knInX13 (knGm 1505 (by decide +kernel) rfl) rfl rfl dX13_notCurl_4 ?_
  refine kj_iconst X dX13_notCurl_7 ?_
  obtain ⟨h1, hf⟩ := knGd_inv hf
  refine kj_iald X K kdc_143 (show knC (0) from ⟨by omega, by omega⟩) lnc_143 h1 dX13_notCurl_8 (fun h2 => ?_)
  refine kj_imul X dX13_notCurl_9 ?_
  obtain ⟨q3, h4, hf⟩ := knBd_inv hf
  refine kj_callS (As := [knV a1, knV 0, knV (knW (2 * (μ 143 0)))]) (rest := []) X K (kcX13_isBetween l ha1 (show knC (0) from ⟨by omega, by omega⟩) (knCw _) h4) knWkX13_isBetween (knGm 1601 (by decide +kernel) rfl) (by decide)  rfl (Nat.le_of_ble_eq_true rfl) (by decide) dX13_notCurl_10 rfl (fun h5 => ?_)
  refine kj_if_ne X (tgt := 18) dX13_notCurl_13 (by decide) (knZ_c h5) (fun h6 => ?_) (fun h6 => ?_)
  · replace hf := knIq hf h6
    refine kj_aloadn X 0 dX13_notCurl_18 rfl ?_
    refine kj_geto (k := 1) (o2 := 143) X K kdc_142 (by decide) (knEnt_10 kdc_142) rfl (by decide) knInX13 (knGm 1505 (by decide +kernel) rfl) rfl rfl dX13_notCurl_19 ?_
    refine kj_iconst X dX13_notCurl_22 ?_
    refine kj_iald X K kdc_143 (show knC (0) from ⟨by omega, by omega⟩) lnc_143 h1 dX13_notCurl_23 (fun h7 => ?_)
    refine kj_bipush X (n := 7) dX13_notCurl_24 rfl ?_
    have j9 : ∀ (t9_0 : Int) (et9_0 : t9_0 = (if (μ 143 0) = 7 then 2 else 0 : Int)) (ht9_0 : knH t9_0), knJ G p l e { frames := 1, cells := 0, slots := 0, locals := 22 } s m args below meth c 2 0 0 (MQ below (knPo G (knC q) (some (knV q)) μ) args s 0 0 (knA G)) 34 [] [knV t9_0] μ := by
      intro t9_0 et9_0 ht9_0
      subst et9_0
      cases hf
      exact kj_iret X (knH_c ht9_0) hr dX13_notCurl_34 hlk
    refine kj_ic_ne X (tgt := 33) dX13_notCurl_26 (by decide) h7 (show knC (7) from ⟨by omega, by omega⟩) (fun h11 => ?_) (fun h11 => ?_)
    · refine kj_iconst X dX13_notCurl_33 ?_
      refine kj_sub (L' := []) [] rfl ?_
      exact j9 0 (by rw [if_neg h11]) (show knH (0) from ⟨by omega, by omega⟩)
    · refine kj_iconst X dX13_notCurl_29 ?_
      refine kj_goto X (tgt := 34) dX13_notCurl_30 (by decide) ?_
      refine kj_sub (L' := []) [] rfl ?_
      exact j9 2 (by rw [if_pos h11]) (show knH (2) from ⟨by omega, by omega⟩)
  · replace hf := knIp hf h6
    refine kj_iconst X dX13_notCurl_16 ?_
    cases hf
    exact kj_iret X (show knC (1) from ⟨by omega, by omega⟩) hr dX13_notCurl_17 hlk

def kfX13_addsCurl (a1 : Int) (a2 : Int) (a3 : Int) (μ : knMem) : Option (Int × knMem) :=
 Option.bind (kfX13_loads  μ) (fun q1 =>
  Option.bind (kfX13_inserts a1 (q1 142 8) a3 (knW (2 * (q1 142 8))) q1) (fun q6 =>
   Option.bind (kfX13_inserts (knW (a1 + 1)) (q6 142 8) (knW (1 - a3)) (knW ((knW (2 * (q6 142 8))) + 1)) q6) (fun q11 =>
    knGd (0 ≤ (q11 142 8) ∧ (q11 142 8) < 7)
     (Option.bind (kfX13_stores  (knUp (knUp q11 149 (q11 142 8) a2) 142 8 (knW (((knUp q11 149 (q11 142 8) a2) 142 8) + 1)))) (fun q17 =>
     some ((knW ((q17 142 8) - 1)), q17))))))

theorem knWvX13_addsCurl : knWv yX13_addsCurl cX13_addsCurl 4 (some .int) 3 := ⟨(knGm 1623 (by decide +kernel) rfl), (knGm 124 (by decide +kernel) rfl), (knGm 1622 (by decide +kernel) rfl), (knGm 41 (by decide +kernel) rfl), by decide +kernel, by decide +kernel, by decide +kernel⟩
set_option maxHeartbeats 4000000 in
set_option maxRecDepth 100000 in
theorem kcX13_addsCurl {G : knGT} (l : Launch) {a1 : Int} {a2 : Int} {a3 : Int} (ha1 : knC a1) (ha2 : knC a2) (ha3 : knC a3) {μ : knMem} {q : Int × knMem} (hf : kfX13_addsCurl a1 a2 a3 μ = some q) : knC0 G l yX13_addsCurl cX13_addsCurl 4 (some .int) 1 25 [knO G 142, knV a1, knV a2, knV a3] μ (knC q.1) (some (knV q.1)) q.2 := by
  unfold kfX13_addsCurl at hf
  refine kn_ofJ (plainFor_of_name (by decide)) (Nat.le_of_ble_eq_true rfl) (L := [(0, knO G 142), (1, knV a1), (2, knV a2), (3, knV a3)]) rfl ?_
  intro p e s m args below meth c X K hr hlk
  refine kj_aloadn X 0 dX13_addsCurl_0 rfl ?_
  obtain ⟨q1, h2, hf⟩ := knBd_inv hf
  refine kj_callV (As := []) (rest := []) X K (kcX13_loads l  h2) knWvX13_loads (knGm 1624 (by decide +kernel) rfl) (by decide) (knKd_in kdc_142 (by decide)) (knEnt_10 kdc_142) rfl rfl rfl (Nat.le_of_ble_eq_true rfl) (by decide) dX13_addsCurl_1 rfl (fun h3 => ?_)
  refine kj_aloadn X 0 dX13_addsCurl_4 rfl ?_
  refine kj_iloadn X 1 dX13_addsCurl_5 rfl ?_
  refine kj_aloadn X 0 dX13_addsCurl_6 rfl ?_
  refine kj_geti (k := 8) (ki := 8) X K rfl kdc_142 (by decide) (knEnt_10 kdc_142) rfl (by decide) knInX13 (knGm 1512 (by decide +kernel) rfl) rfl rfl dX13_addsCurl_7 (fun h4 => ?_)
  refine kj_iloadn X 3 dX13_addsCurl_10 rfl ?_
  refine kj_iconst X dX13_addsCurl_11 ?_
  refine kj_aloadn X 0 dX13_addsCurl_12 rfl ?_
  refine kj_geti (k := 8) (ki := 8) X K rfl kdc_142 (by decide) (knEnt_10 kdc_142) rfl (by decide) knInX13 (knGm 1512 (by decide +kernel) rfl) rfl rfl dX13_addsCurl_13 (fun h5 => ?_)
  refine kj_imul X dX13_addsCurl_16 ?_
  obtain ⟨q6, h7, hf⟩ := knBd_inv hf
  refine kj_callV (As := [knV a1, knV (q1 142 8), knV a3, knV (knW (2 * (q1 142 8)))]) (rest := []) X K (kcX13_inserts l ha1 h4 ha3 (knCw _) h7) knWvX13_inserts (knGm 1628 (by decide +kernel) rfl) (by decide) (knKd_in kdc_142 (by decide)) (knEnt_10 kdc_142) rfl rfl rfl (Nat.le_of_ble_eq_true rfl) (by decide) dX13_addsCurl_17 rfl (fun h8 => ?_)
  refine kj_aloadn X 0 dX13_addsCurl_20 rfl ?_
  refine kj_iloadn X 1 dX13_addsCurl_21 rfl ?_
  refine kj_iconst X dX13_addsCurl_22 ?_
  refine kj_iadd X dX13_addsCurl_23 ?_
  refine kj_aloadn X 0 dX13_addsCurl_24 rfl ?_
  refine kj_geti (k := 8) (ki := 8) X K rfl kdc_142 (by decide) (knEnt_10 kdc_142) rfl (by decide) knInX13 (knGm 1512 (by decide +kernel) rfl) rfl rfl dX13_addsCurl_25 (fun h9 => ?_)
  refine kj_iconst X dX13_addsCurl_28 ?_
  refine kj_iloadn X 3 dX13_addsCurl_29 rfl ?_
  refine kj_isub X dX13_addsCurl_30 ?_
  refine kj_iconst X dX13_addsCurl_31 ?_
  refine kj_aloadn X 0 dX13_addsCurl_32 rfl ?_
  refine kj_geti (k := 8) (ki := 8) X K rfl kdc_142 (by decide) (knEnt_10 kdc_142) rfl (by decide) knInX13 (knGm 1512 (by decide +kernel) rfl) rfl rfl dX13_addsCurl_33 (fun h10 => ?_)
  refine kj_imul X dX13_addsCurl_36 ?_
  refine kj_iconst X dX13_addsCurl_37 ?_
  refine kj_iadd X dX13_addsCurl_38 ?_
  obtain ⟨q11, h12, hf⟩ := knBd_inv hf
  refine kj_callV (As := [knV (knW (a1 + 1)), knV (q6 142 8), knV (knW (1 - a3)), knV (knW ((knW (2 * (q6 142 8))) + 1))]) (rest := []) X K (kcX13_inserts l (knCw _) h9 (knCw _) (knCw _) h12) knWvX13_inserts (knGm 1628 (by decide +kernel) rfl) (by decide) (knKd_in kdc_142 (by decide)) (knEnt_10 kdc_142) rfl rfl rfl (Nat.le_of_ble_eq_true rfl) (by decide) dX13_addsCurl_39 rfl (fun h13 => ?_)
  refine kj_aloadn X 0 dX13_addsCurl_42 rfl ?_
  refine kj_geto (k := 11) (o2 := 149) X K kdc_142 (by decide) (knEnt_10 kdc_142) rfl (by decide) knInX13 (knGm 1515 (by decide +kernel) rfl) rfl rfl dX13_addsCurl_43 ?_
  refine kj_aloadn X 0 dX13_addsCurl_46 rfl ?_
  refine kj_geti (k := 8) (ki := 8) X K rfl kdc_142 (by decide) (knEnt_10 kdc_142) rfl (by decide) knInX13 (knGm 1512 (by decide +kernel) rfl) rfl rfl dX13_addsCurl_47 (fun h14 => ?_)
  refine kj_iloadn X 2 dX13_addsCurl_50 rfl ?_
  obtain ⟨h15, hf⟩ := knGd_inv hf
  refine kj_iast X K kdc_149 h14 ha2 lnc_149 h15 dX13_addsCurl_51 ?_
  refine kj_aloadn X 0 dX13_addsCurl_52 rfl ?_
  refine kj_dup X dX13_addsCurl_53 rfl ?_
  refine kj_geti (k := 8) (ki := 8) X K rfl kdc_142 (by decide) (knEnt_10 kdc_142) rfl (by decide) knInX13 (knGm 1512 (by decide +kernel) rfl) rfl rfl dX13_addsCurl_54 (fun h16 => ?_)
  refine kj_iconst X dX13_addsCurl_57 ?_
  refine kj_iadd X dX13_addsCurl_58 ?_
  refine kj_putf (k := 8) (ki := 8) (x := (knW (((knUp q11 149 (q11 142 8) a2) 142 8) + 1))) (ty := .int) X K rfl (knKd_in kdc_142 (by decide)) (knEnt_10 kdc_142) rfl (by decide) knInX13 tyX13_ok nmX13 (knGm 1512 (by decide +kernel) rfl) rfl rfl (by decide +kernel) rfl rfl (by simp) (by rw [knEnt_10 kdc_142, knUp_row]; rfl) (fun _ => (knCw _)) (fun h => by rw [kdc_142] at h; cases h) (fun h => by rw [kdc_142] at h; cases h) dX13_addsCurl_59 ?_
  refine kj_aloadn X 0 dX13_addsCurl_62 rfl ?_
  obtain ⟨q17, h18, hf⟩ := knBd_inv hf
  refine kj_callV (As := []) (rest := []) X K (kcX13_stores l  h18) knWvX13_stores (knGm 1632 (by decide +kernel) rfl) (by decide) (knKd_in kdc_142 (by decide)) (knEnt_10 kdc_142) rfl rfl rfl (Nat.le_of_ble_eq_true rfl) (by decide) dX13_addsCurl_63 rfl (fun h19 => ?_)
  refine kj_aloadn X 0 dX13_addsCurl_66 rfl ?_
  refine kj_geti (k := 8) (ki := 8) X K rfl kdc_142 (by decide) (knEnt_10 kdc_142) rfl (by decide) knInX13 (knGm 1512 (by decide +kernel) rfl) rfl rfl dX13_addsCurl_67 (fun h20 => ?_)
  refine kj_iconst X dX13_addsCurl_70 ?_
  refine kj_isub X dX13_addsCurl_71 ?_
  cases hf
  exact kj_iret X (knCw _) hr dX13_addsCurl_72 hlk

def kfX13_addCurl (a1 : Int) (a2 : Int) (a3 : Int) (μ : knMem) : Option (Int × knMem) :=
 Option.bind (kfX13_notCurl a1 (knUp μ 142 0 0)) (fun q1 =>
  if q1 = 0 then
   Option.bind (kfX13_remembers  (knUp μ 142 0 0)) (fun q5 =>
    Option.bind (kfX13_addsCurl a1 (if a2 = 0 then 0 else 1 : Int) (if a3 = 0 then 0 else 1 : Int) q5) (fun q14 =>
     some (q14.1, q14.2)))
  else
   Option.bind (kfX13_fails q1 (knUp μ 142 0 0)) (fun q19 =>
    some (q19.1, q19.2)))

theorem knWvX13_addCurl : knWv yX13_addCurl cX13_addCurl 5 (some .int) 3 := ⟨(knGm 1596 (by decide +kernel) rfl), (knGm 124 (by decide +kernel) rfl), (knGm 1594 (by decide +kernel) rfl), (knGm 1595 (by decide +kernel) rfl), by decide +kernel, by decide +kernel, by decide +kernel⟩
set_option maxHeartbeats 4000000 in
set_option maxRecDepth 100000 in
theorem kcX13_addCurl {G : knGT} (l : Launch) {a1 : Int} {a2 : Int} {a3 : Int} (ha1 : knC a1) (ha2 : knZ a2) (ha3 : knZ a3) {μ : knMem} {q : Int × knMem} (hf : kfX13_addCurl a1 a2 a3 μ = some q) : knC0 G l yX13_addCurl cX13_addCurl 5 (some .int) 2 48 [knO G 142, knV a1, knV a2, knV a3] μ (knC q.1) (some (knV q.1)) q.2 := by
  unfold kfX13_addCurl at hf
  refine kn_ofJ (plainFor_of_name (by decide)) (Nat.le_of_ble_eq_true rfl) (L := [(0, knO G 142), (1, knV a1), (2, knV a2), (3, knV a3)]) rfl ?_
  intro p e s m args below meth c X K hr hlk
  refine kj_aloadn X 0 dX13_addCurl_0 rfl ?_
  refine kj_iconst X dX13_addCurl_1 ?_
  refine kj_putf (k := 0) (ki := 0) (x := 0) (ty := .int) X K rfl (knKd_in kdc_142 (by decide)) (knEnt_10 kdc_142) rfl (by decide) knInX13 tyX13_ok nmX13 (knGm 1504 (by decide +kernel) rfl) rfl rfl (by decide +kernel) rfl rfl (by simp) (by rw [knEnt_10 kdc_142, knUp_row]; rfl) (fun _ => (show knC (0) from ⟨by omega, by omega⟩)) (fun h => by rw [kdc_142] at h; cases h) (fun h => by rw [kdc_142] at h; cases h) dX13_addCurl_2 ?_
  refine kj_aloadn X 0 dX13_addCurl_5 rfl ?_
  refine kj_iloadn X 1 dX13_addCurl_6 rfl ?_
  obtain ⟨q1, h2, hf⟩ := knBd_inv hf
  refine kj_callV (As := [knV a1]) (rest := []) X K (kcX13_notCurl l ha1 h2) knWvX13_notCurl (knGm 1597 (by decide +kernel) rfl) (by decide) (knKd_in kdc_142 (by decide)) (knEnt_10 kdc_142) rfl rfl rfl (Nat.le_of_ble_eq_true rfl) (by decide) dX13_addCurl_7 rfl (fun h3 => ?_)
  refine kj_istore X (L' := [(4, knV q1), (0, knO G 142), (1, knV a1), (2, knV a2), (3, knV a3)]) dX13_addCurl_10 (by decide) rfl ?_
  refine kj_iload X 0 dX13_addCurl_12 rfl ?_
  refine kj_if_eq X (tgt := 24) dX13_addCurl_14 (by decide) h3 (fun h4 => ?_) (fun h4 => ?_)
  · replace hf := knIp hf h4
    refine kj_aloadn X 1 dX13_addCurl_24 rfl ?_
    obtain ⟨q5, h6, hf⟩ := knBd_inv hf
    refine kj_callV (As := []) (rest := []) X K (kcX13_remembers l  h6) knWvX13_remembers (knGm 1608 (by decide +kernel) rfl) (by decide) (knKd_in kdc_142 (by decide)) (knEnt_10 kdc_142) rfl rfl rfl (Nat.le_of_ble_eq_true rfl) (by decide) dX13_addCurl_25 rfl (fun h7 => ?_)
    refine kj_aloadn X 1 dX13_addCurl_28 rfl ?_
    refine kj_iloadn X 2 dX13_addCurl_29 rfl ?_
    refine kj_iloadn X 3 dX13_addCurl_30 rfl ?_
    have j9 : ∀ (t9_0 : Int) (et9_0 : t9_0 = (if a2 = 0 then 0 else 1 : Int)) (ht9_0 : knZ t9_0), knJ G p l e { frames := 2, cells := 0, slots := 0, locals := 48 } s m args below meth c 5 0 0 (MQ below (knPo G (knC q.1) (some (knV q.1)) q.2) args s 0 0 (knA G)) 39 [(3, knV a3)] [knV t9_0, knV a1, knO G 142] q5 := by
      intro t9_0 et9_0 ht9_0
      subst et9_0
      refine kj_iloadn X 0 dX13_addCurl_39 rfl ?_
      have j12 : ∀ (t12_0 : Int) (et12_0 : t12_0 = (if a3 = 0 then 0 else 1 : Int)) (ht12_0 : knZ t12_0), knJ G p l e { frames := 2, cells := 0, slots := 0, locals := 48 } s m args below meth c 5 0 0 (MQ below (knPo G (knC q.1) (some (knV q.1)) q.2) args s 0 0 (knA G)) 48 [] [knV t12_0, knV (if a2 = 0 then 0 else 1 : Int), knV a1, knO G 142] q5 := by
        intro t12_0 et12_0 ht12_0
        subst et12_0
        obtain ⟨q14, h15, hf⟩ := knBd_inv hf
        refine kj_callV (As := [knV a1, knV (if a2 = 0 then 0 else 1 : Int), knV (if a3 = 0 then 0 else 1 : Int)]) (rest := []) X K (kcX13_addsCurl l ha1 (knZ_c ht9_0) (knZ_c ht12_0) h15) knWvX13_addsCurl (knGm 1620 (by decide +kernel) rfl) (by decide) (knKd_in kdc_142 (by decide)) (knEnt_10 kdc_142) rfl rfl rfl (Nat.le_of_ble_eq_true rfl) (by decide) dX13_addCurl_48 rfl (fun h16 => ?_)
        cases hf
        exact kj_iret X h16 hr dX13_addCurl_51 hlk
      refine kj_if_eq X (tgt := 47) dX13_addCurl_40 (by decide) (knZ_c ha3) (fun h17 => ?_) (fun h17 => ?_)
      · refine kj_iconst X dX13_addCurl_47 ?_
        refine kj_sub (L' := []) [] rfl ?_
        exact j12 0 (by rw [if_pos h17]) (Or.inl rfl)
      · refine kj_iconst X dX13_addCurl_43 ?_
        refine kj_goto X (tgt := 48) dX13_addCurl_44 (by decide) ?_
        refine kj_sub (L' := []) [] rfl ?_
        exact j12 1 (by rw [if_neg h17]) (Or.inr rfl)
    refine kj_if_eq X (tgt := 38) dX13_addCurl_31 (by decide) (knZ_c ha2) (fun h18 => ?_) (fun h18 => ?_)
    · refine kj_iconst X dX13_addCurl_38 ?_
      refine kj_sub (L' := [(3, knV a3)]) [4] rfl ?_
      exact j9 0 (by rw [if_pos h18]) (Or.inl rfl)
    · refine kj_iconst X dX13_addCurl_34 ?_
      refine kj_goto X (tgt := 39) dX13_addCurl_35 (by decide) ?_
      refine kj_sub (L' := [(3, knV a3)]) [4] rfl ?_
      exact j9 1 (by rw [if_neg h18]) (Or.inr rfl)
  · replace hf := knIq hf h4
    refine kj_aloadn X 1 dX13_addCurl_17 rfl ?_
    refine kj_iload X 0 dX13_addCurl_18 rfl ?_
    obtain ⟨q19, h20, hf⟩ := knBd_inv hf
    refine kj_callV (As := [knV q1]) (rest := []) X K (kcX13_fails l h3 h20) knWvX13_fails (knGm 1604 (by decide +kernel) rfl) (by decide) (knKd_in kdc_142 (by decide)) (knEnt_10 kdc_142) rfl rfl rfl (Nat.le_of_ble_eq_true rfl) (by decide) dX13_addCurl_20 rfl (fun h21 => ?_)
    cases hf
    exact kj_iret X h21 hr dX13_addCurl_23 hlk

def kfX13_isCrossing (a1 : Int) (μ : knMem) : Option (Int) :=
 knGd ((0 : Int) ≤ 0 ∧ (0 : Int) < 50)
  (Option.bind (kfX13_isBetween a1 0 (knW ((μ 143 0) - 1)) μ) (fun q3 =>
  some q3))

theorem knWvX13_isCrossing : knWv yX13_isCrossing cX13_isCrossing 2 (some .boolean) 1 := ⟨(knGm 1647 (by decide +kernel) rfl), (knGm 124 (by decide +kernel) rfl), (knGm 1646 (by decide +kernel) rfl), (knGm 46 (by decide +kernel) rfl), by decide +kernel, by decide +kernel, by decide +kernel⟩
set_option maxHeartbeats 4000000 in
set_option maxRecDepth 100000 in
theorem kcX13_isCrossing {G : knGT} (l : Launch) {a1 : Int} (ha1 : knC a1) {μ : knMem} {q : Int} (hf : kfX13_isCrossing a1 μ = some q) : knC0 G l yX13_isCrossing cX13_isCrossing 2 (some .boolean) 1 22 [knO G 142, knV a1] μ (knZ q) (some (knV q)) μ := by
  unfold kfX13_isCrossing at hf
  refine kn_ofJ (plainFor_of_name (by decide)) (Nat.le_of_ble_eq_true rfl) (L := [(0, knO G 142), (1, knV a1)]) rfl ?_
  intro p e s m args below meth c X K hr hlk
  refine kj_iloadn X 1 dX13_isCrossing_0 rfl ?_
  refine kj_iconst X dX13_isCrossing_1 ?_
  refine kj_aloadn X 0 dX13_isCrossing_2 rfl ?_
  refine kj_geto (k := 1) (o2 := 143) X K kdc_142 (by decide) (knEnt_10 kdc_142) rfl (by decide) knInX13 (knGm 1505 (by decide +kernel) rfl) rfl rfl dX13_isCrossing_3 ?_
  refine kj_iconst X dX13_isCrossing_6 ?_
  obtain ⟨h1, hf⟩ := knGd_inv hf
  refine kj_iald X K kdc_143 (show knC (0) from ⟨by omega, by omega⟩) lnc_143 h1 dX13_isCrossing_7 (fun h2 => ?_)
  refine kj_iconst X dX13_isCrossing_8 ?_
  refine kj_isub X dX13_isCrossing_9 ?_
  obtain ⟨q3, h4, hf⟩ := knBd_inv hf
  refine kj_callS (As := [knV a1, knV 0, knV (knW ((μ 143 0) - 1))]) (rest := []) X K (kcX13_isBetween l ha1 (show knC (0) from ⟨by omega, by omega⟩) (knCw _) h4) knWkX13_isBetween (knGm 1601 (by decide +kernel) rfl) (by decide)  rfl (Nat.le_of_ble_eq_true rfl) (by decide) dX13_isCrossing_10 rfl (fun h5 => ?_)
  cases hf
  exact kj_zret X h5 hr (kn_nb h5) dX13_isCrossing_13 hlk

def kfX13_notUncurl (a1 : Int) (μ : knMem) : Option (Int × knMem) :=
 Option.bind (kfX13_isCrossing a1 μ) (fun q1 =>
  if q1 = 0 then
   some (1, μ)
  else
   Option.bind (kfX13_loads  μ) (fun q5 =>
    Option.bind (kfX13_curls a1 q5) (fun q8 =>
     some ((if q8 = 0 then 2 else 0 : Int), q5))))

theorem knWvX13_notUncurl : knWv yX13_notUncurl cX13_notUncurl 2 (some .int) 1 := ⟨(knGm 1643 (by decide +kernel) rfl), (knGm 124 (by decide +kernel) rfl), (knGm 1642 (by decide +kernel) rfl), (knGm 45 (by decide +kernel) rfl), by decide +kernel, by decide +kernel, by decide +kernel⟩
set_option maxHeartbeats 4000000 in
set_option maxRecDepth 100000 in
theorem kcX13_notUncurl {G : knGT} (l : Launch) {a1 : Int} (ha1 : knC a1) {μ : knMem} {q : Int × knMem} (hf : kfX13_notUncurl a1 μ = some q) : knC0 G l yX13_notUncurl cX13_notUncurl 2 (some .int) 2 44 [knO G 142, knV a1] μ (knC q.1) (some (knV q.1)) q.2 := by
  unfold kfX13_notUncurl at hf
  refine kn_ofJ (plainFor_of_name (by decide)) (Nat.le_of_ble_eq_true rfl) (L := [(0, knO G 142), (1, knV a1)]) rfl ?_
  intro p e s m args below meth c X K hr hlk
  refine kj_aloadn X 0 dX13_notUncurl_0 rfl ?_
  refine kj_iloadn X 1 dX13_notUncurl_1 rfl ?_
  obtain ⟨q1, h2, hf⟩ := knBd_inv hf
  refine kj_callV (As := [knV a1]) (rest := []) X K (kcX13_isCrossing l ha1 h2) knWvX13_isCrossing (knGm 1644 (by decide +kernel) rfl) (by decide) (knKd_in kdc_142 (by decide)) (knEnt_10 kdc_142) rfl rfl rfl (Nat.le_of_ble_eq_true rfl) (by decide) dX13_notUncurl_2 rfl (fun h3 => ?_)
  refine kj_if_ne X (tgt := 10) dX13_notUncurl_5 (by decide) (knZ_c h3) (fun h4 => ?_) (fun h4 => ?_)
  · replace hf := knIq hf h4
    refine kj_aloadn X 0 dX13_notUncurl_10 rfl ?_
    obtain ⟨q5, h6, hf⟩ := knBd_inv hf
    refine kj_callV (As := []) (rest := []) X K (kcX13_loads l  h6) knWvX13_loads (knGm 1624 (by decide +kernel) rfl) (by decide) (knKd_in kdc_142 (by decide)) (knEnt_10 kdc_142) rfl rfl rfl (Nat.le_of_ble_eq_true rfl) (by decide) dX13_notUncurl_11 rfl (fun h7 => ?_)
    refine kj_aloadn X 0 dX13_notUncurl_14 rfl ?_
    refine kj_iloadn X 1 dX13_notUncurl_15 rfl ?_
    obtain ⟨q8, h9, hf⟩ := knBd_inv hf
    refine kj_callV (As := [knV a1]) (rest := []) X K (kcX13_curls l ha1 h9) knWvX13_curls (knGm 1648 (by decide +kernel) rfl) (by decide) (knKd_in kdc_142 (by decide)) (knEnt_10 kdc_142) rfl rfl rfl (Nat.le_of_ble_eq_true rfl) (by decide) dX13_notUncurl_16 rfl (fun h10 => ?_)
    have j12 : ∀ (t12_0 : Int) (et12_0 : t12_0 = (if q8 = 0 then 2 else 0 : Int)) (ht12_0 : knH t12_0), knJ G p l e { frames := 2, cells := 0, slots := 0, locals := 44 } s m args below meth c 2 0 0 (MQ below (knPo G (knC q.1) (some (knV q.1)) q.2) args s 0 0 (knA G)) 27 [] [knV t12_0] q5 := by
      intro t12_0 et12_0 ht12_0
      subst et12_0
      cases hf
      exact kj_iret X (knH_c ht12_0) hr dX13_notUncurl_27 hlk
    refine kj_if_eq X (tgt := 26) dX13_notUncurl_19 (by decide) (knZ_c h10) (fun h14 => ?_) (fun h14 => ?_)
    · refine kj_iconst X dX13_notUncurl_26 ?_
      refine kj_sub (L' := []) [] rfl ?_
      exact j12 2 (by rw [if_pos h14]) (show knH (2) from ⟨by omega, by omega⟩)
    · refine kj_iconst X dX13_notUncurl_22 ?_
      refine kj_goto X (tgt := 27) dX13_notUncurl_23 (by decide) ?_
      refine kj_sub (L' := []) [] rfl ?_
      exact j12 0 (by rw [if_neg h14]) (show knH (0) from ⟨by omega, by omega⟩)
  · replace hf := knIp hf h4
    refine kj_iconst X dX13_notUncurl_8 ?_
    cases hf
    exact kj_iret X (show knC (1) from ⟨by omega, by omega⟩) hr dX13_notUncurl_9 hlk

def kfX13_uncurls (a1 : Int) (μ : knMem) : Option (Int × knMem) :=
 Option.bind (kfX13_loads  μ) (fun q1 =>
  Option.bind (kfX13_removes a1 q1) (fun q4 =>
   Option.bind (kfX13_stores  q4) (fun q7 =>
    some ((q7 142 8), q7))))

theorem knWvX13_uncurls : knWv yX13_uncurls cX13_uncurls 2 (some .int) 1 := ⟨(knGm 1663 (by decide +kernel) rfl), (knGm 124 (by decide +kernel) rfl), (knGm 1662 (by decide +kernel) rfl), (knGm 50 (by decide +kernel) rfl), by decide +kernel, by decide +kernel, by decide +kernel⟩
set_option maxHeartbeats 4000000 in
set_option maxRecDepth 100000 in
theorem kcX13_uncurls {G : knGT} (l : Launch) {a1 : Int} (ha1 : knC a1) {μ : knMem} {q : Int × knMem} (hf : kfX13_uncurls a1 μ = some q) : knC0 G l yX13_uncurls cX13_uncurls 2 (some .int) 1 23 [knO G 142, knV a1] μ (knC q.1) (some (knV q.1)) q.2 := by
  unfold kfX13_uncurls at hf
  refine kn_ofJ (plainFor_of_name (by decide)) (Nat.le_of_ble_eq_true rfl) (L := [(0, knO G 142), (1, knV a1)]) rfl ?_
  intro p e s m args below meth c X K hr hlk
  refine kj_aloadn X 0 dX13_uncurls_0 rfl ?_
  obtain ⟨q1, h2, hf⟩ := knBd_inv hf
  refine kj_callV (As := []) (rest := []) X K (kcX13_loads l  h2) knWvX13_loads (knGm 1624 (by decide +kernel) rfl) (by decide) (knKd_in kdc_142 (by decide)) (knEnt_10 kdc_142) rfl rfl rfl (Nat.le_of_ble_eq_true rfl) (by decide) dX13_uncurls_1 rfl (fun h3 => ?_)
  refine kj_aloadn X 0 dX13_uncurls_4 rfl ?_
  refine kj_iloadn X 1 dX13_uncurls_5 rfl ?_
  obtain ⟨q4, h5, hf⟩ := knBd_inv hf
  refine kj_callV (As := [knV a1]) (rest := []) X K (kcX13_removes l ha1 h5) knWvX13_removes (knGm 1664 (by decide +kernel) rfl) (by decide) (knKd_in kdc_142 (by decide)) (knEnt_10 kdc_142) rfl rfl rfl (Nat.le_of_ble_eq_true rfl) (by decide) dX13_uncurls_6 rfl (fun h6 => ?_)
  refine kj_aloadn X 0 dX13_uncurls_9 rfl ?_
  obtain ⟨q7, h8, hf⟩ := knBd_inv hf
  refine kj_callV (As := []) (rest := []) X K (kcX13_stores l  h8) knWvX13_stores (knGm 1632 (by decide +kernel) rfl) (by decide) (knKd_in kdc_142 (by decide)) (knEnt_10 kdc_142) rfl rfl rfl (Nat.le_of_ble_eq_true rfl) (by decide) dX13_uncurls_10 rfl (fun h9 => ?_)
  refine kj_aloadn X 0 dX13_uncurls_13 rfl ?_
  refine kj_geti (k := 8) (ki := 8) X K rfl kdc_142 (by decide) (knEnt_10 kdc_142) rfl (by decide) knInX13 (knGm 1512 (by decide +kernel) rfl) rfl rfl dX13_uncurls_14 (fun h10 => ?_)
  cases hf
  exact kj_iret X h10 hr dX13_uncurls_17 hlk

def kfX13_removeCurl (a1 : Int) (μ : knMem) : Option (Int × knMem) :=
 Option.bind (kfX13_notUncurl a1 (knUp μ 142 0 0)) (fun q1 =>
  if q1.1 = 0 then
   Option.bind (kfX13_remembers  q1.2) (fun q5 =>
    Option.bind (kfX13_uncurls a1 q5) (fun q8 =>
     some (q8.1, q8.2)))
  else
   Option.bind (kfX13_fails q1.1 q1.2) (fun q11 =>
    some (q11.1, q11.2)))

theorem knWvX13_removeCurl : knWv yX13_removeCurl cX13_removeCurl 3 (some .int) 1 := ⟨(knGm 1639 (by decide +kernel) rfl), (knGm 124 (by decide +kernel) rfl), (knGm 1637 (by decide +kernel) rfl), (knGm 1638 (by decide +kernel) rfl), by decide +kernel, by decide +kernel, by decide +kernel⟩
set_option maxHeartbeats 4000000 in
set_option maxRecDepth 100000 in
theorem kcX13_removeCurl {G : knGT} (l : Launch) {a1 : Int} (ha1 : knC a1) {μ : knMem} {q : Int × knMem} (hf : kfX13_removeCurl a1 μ = some q) : knC0 G l yX13_removeCurl cX13_removeCurl 3 (some .int) 3 65 [knO G 142, knV a1] μ (knC q.1) (some (knV q.1)) q.2 := by
  unfold kfX13_removeCurl at hf
  refine kn_ofJ (plainFor_of_name (by decide)) (Nat.le_of_ble_eq_true rfl) (L := [(0, knO G 142), (1, knV a1)]) rfl ?_
  intro p e s m args below meth c X K hr hlk
  refine kj_aloadn X 0 dX13_removeCurl_0 rfl ?_
  refine kj_iconst X dX13_removeCurl_1 ?_
  refine kj_putf (k := 0) (ki := 0) (x := 0) (ty := .int) X K rfl (knKd_in kdc_142 (by decide)) (knEnt_10 kdc_142) rfl (by decide) knInX13 tyX13_ok nmX13 (knGm 1504 (by decide +kernel) rfl) rfl rfl (by decide +kernel) rfl rfl (by simp) (by rw [knEnt_10 kdc_142, knUp_row]; rfl) (fun _ => (show knC (0) from ⟨by omega, by omega⟩)) (fun h => by rw [kdc_142] at h; cases h) (fun h => by rw [kdc_142] at h; cases h) dX13_removeCurl_2 ?_
  refine kj_aloadn X 0 dX13_removeCurl_5 rfl ?_
  refine kj_iloadn X 1 dX13_removeCurl_6 rfl ?_
  obtain ⟨q1, h2, hf⟩ := knBd_inv hf
  refine kj_callV (As := [knV a1]) (rest := []) X K (kcX13_notUncurl l ha1 h2) knWvX13_notUncurl (knGm 1640 (by decide +kernel) rfl) (by decide) (knKd_in kdc_142 (by decide)) (knEnt_10 kdc_142) rfl rfl rfl (Nat.le_of_ble_eq_true rfl) (by decide) dX13_removeCurl_7 rfl (fun h3 => ?_)
  refine kj_istoren X (L' := [(2, knV q1.1), (0, knO G 142), (1, knV a1)]) dX13_removeCurl_10 (by decide) rfl ?_
  refine kj_iloadn X 0 dX13_removeCurl_11 rfl ?_
  refine kj_if_eq X (tgt := 21) dX13_removeCurl_12 (by decide) h3 (fun h4 => ?_) (fun h4 => ?_)
  · replace hf := knIp hf h4
    refine kj_aloadn X 1 dX13_removeCurl_21 rfl ?_
    obtain ⟨q5, h6, hf⟩ := knBd_inv hf
    refine kj_callV (As := []) (rest := []) X K (kcX13_remembers l  h6) knWvX13_remembers (knGm 1608 (by decide +kernel) rfl) (by decide) (knKd_in kdc_142 (by decide)) (knEnt_10 kdc_142) rfl rfl rfl (Nat.le_of_ble_eq_true rfl) (by decide) dX13_removeCurl_22 rfl (fun h7 => ?_)
    refine kj_aloadn X 1 dX13_removeCurl_25 rfl ?_
    refine kj_iloadn X 2 dX13_removeCurl_26 rfl ?_
    obtain ⟨q8, h9, hf⟩ := knBd_inv hf
    refine kj_callV (As := [knV a1]) (rest := []) X K (kcX13_uncurls l ha1 h9) knWvX13_uncurls (knGm 1660 (by decide +kernel) rfl) (by decide) (knKd_in kdc_142 (by decide)) (knEnt_10 kdc_142) rfl rfl rfl (Nat.le_of_ble_eq_true rfl) (by decide) dX13_removeCurl_27 rfl (fun h10 => ?_)
    cases hf
    exact kj_iret X h10 hr dX13_removeCurl_30 hlk
  · replace hf := knIq hf h4
    refine kj_aloadn X 1 dX13_removeCurl_15 rfl ?_
    refine kj_iloadn X 0 dX13_removeCurl_16 rfl ?_
    obtain ⟨q11, h12, hf⟩ := knBd_inv hf
    refine kj_callV (As := [knV q1.1]) (rest := []) X K (kcX13_fails l h3 h12) knWvX13_fails (knGm 1604 (by decide +kernel) rfl) (by decide) (knKd_in kdc_142 (by decide)) (knEnt_10 kdc_142) rfl rfl rfl (Nat.le_of_ble_eq_true rfl) (by decide) dX13_removeCurl_17 rfl (fun h13 => ?_)
    cases hf
    exact kj_iret X h13 hr dX13_removeCurl_20 hlk

def kfX13_notPoke (a1 : Int) (a2 : Int) (μ : knMem) : Option (Int) :=
 knGd ((0 : Int) ≤ 0 ∧ (0 : Int) < 50)
  (Option.bind (kfX13_isBetween a1 0 (knW (2 * (μ 143 0))) μ) (fun q3 =>
  (fun (k16 : (Unit) → Option (Int)) =>
   if q3 = 0 then
    k16 ()
   else
    Option.bind (kfX13_isBetween a2 0 (knW (2 * (μ 143 0))) μ) (fun q19 =>
     if q19 = 0 then
      k16 ()
     else
      some (if (μ 143 0) ≤ 5 then 0 else 2 : Int)))
   (fun _ =>
   some 1)))

theorem knWvX13_notPoke : knWv yX13_notPoke cX13_notPoke 4 (some .int) 2 := ⟨(knGm 1675 (by decide +kernel) rfl), (knGm 124 (by decide +kernel) rfl), (knGm 1674 (by decide +kernel) rfl), (knGm 52 (by decide +kernel) rfl), by decide +kernel, by decide +kernel, by decide +kernel⟩
set_option maxHeartbeats 4000000 in
set_option maxRecDepth 100000 in
theorem kcX13_notPoke {G : knGT} (l : Launch) {a1 : Int} {a2 : Int} (ha1 : knC a1) (ha2 : knC a2) {μ : knMem} {q : Int} (hf : kfX13_notPoke a1 a2 μ = some q) : knC0 G l yX13_notPoke cX13_notPoke 4 (some .int) 1 22 [knO G 142, knV a1, knV a2] μ (knC q) (some (knV q)) μ := by
  unfold kfX13_notPoke at hf
  refine kn_ofJ (plainFor_of_name (by decide)) (Nat.le_of_ble_eq_true rfl) (L := [(0, knO G 142), (1, knV a1), (2, knV a2)]) rfl ?_
  intro p e s m args below meth c X K hr hlk
  refine kj_iconst X dX13_notPoke_0 ?_
  refine kj_aloadn X 0 dX13_notPoke_1 rfl ?_
  refine kj_geto (k := 1) (o2 := 143) X K kdc_142 (by decide) (knEnt_10 kdc_142) rfl (by decide) knInX13 (knGm 1505 (by decide +kernel) rfl) rfl rfl dX13_notPoke_2 ?_
  refine kj_iconst X dX13_notPoke_5 ?_
  obtain ⟨h1, hf⟩ := knGd_inv hf
  refine kj_iald X K kdc_143 (show knC (0) from ⟨by omega, by omega⟩) lnc_143 h1 dX13_notPoke_6 (fun h2 => ?_)
  refine kj_imul X dX13_notPoke_7 ?_
  refine kj_istoren X (L' := [(3, knV (knW (2 * (μ 143 0)))), (0, knO G 142), (1, knV a1), (2, knV a2)]) dX13_notPoke_8 (by decide) rfl ?_
  refine kj_iloadn X 2 dX13_notPoke_9 rfl ?_
  refine kj_iconst X dX13_notPoke_10 ?_
  refine kj_iloadn X 0 dX13_notPoke_11 rfl ?_
  obtain ⟨q3, h4, hf⟩ := knBd_inv hf
  refine kj_callS (As := [knV a1, knV 0, knV (knW (2 * (μ 143 0)))]) (rest := []) X K (kcX13_isBetween l ha1 (show knC (0) from ⟨by omega, by omega⟩) (knCw _) h4) knWkX13_isBetween (knGm 1601 (by decide +kernel) rfl) (by decide)  rfl (Nat.le_of_ble_eq_true rfl) (by decide) dX13_notPoke_12 rfl (fun h5 => ?_)
  have j16 : (fun _ =>
   some 1) () = some q → knJ G p l e { frames := 1, cells := 0, slots := 0, locals := 22 } s m args below meth c 4 0 0 (MQ below (knPo G (knC q) (some (knV q)) μ) args s 0 0 (knA G)) 27 [] [] μ := by
    intro hf
    refine kj_iconst X dX13_notPoke_27 ?_
    cases hf
    exact kj_iret X (show knC (1) from ⟨by omega, by omega⟩) hr dX13_notPoke_28 hlk
  refine kj_if_eq X (tgt := 27) dX13_notPoke_15 (by decide) (knZ_c h5) (fun h18 => ?_) (fun h18 => ?_)
  · replace hf := knIp hf h18
    refine kj_sub (L' := []) [] rfl ?_
    exact j16  hf
  · replace hf := knIq hf h18
    refine kj_iloadn X 3 dX13_notPoke_18 rfl ?_
    refine kj_iconst X dX13_notPoke_19 ?_
    refine kj_iloadn X 0 dX13_notPoke_20 rfl ?_
    obtain ⟨q19, h20, hf⟩ := knBd_inv hf
    refine kj_callS (As := [knV a2, knV 0, knV (knW (2 * (μ 143 0)))]) (rest := []) X K (kcX13_isBetween l ha2 (show knC (0) from ⟨by omega, by omega⟩) (knCw _) h20) knWkX13_isBetween (knGm 1601 (by decide +kernel) rfl) (by decide)  rfl (Nat.le_of_ble_eq_true rfl) (by decide) dX13_notPoke_21 rfl (fun h21 => ?_)
    refine kj_if_ne X (tgt := 29) dX13_notPoke_24 (by decide) (knZ_c h21) (fun h22 => ?_) (fun h22 => ?_)
    · replace hf := knIq hf h22
      refine kj_aloadn X 1 dX13_notPoke_29 rfl ?_
      refine kj_geto (k := 1) (o2 := 143) X K kdc_142 (by decide) (knEnt_10 kdc_142) rfl (by decide) knInX13 (knGm 1505 (by decide +kernel) rfl) rfl rfl dX13_notPoke_30 ?_
      refine kj_iconst X dX13_notPoke_33 ?_
      refine kj_iald X K kdc_143 (show knC (0) from ⟨by omega, by omega⟩) lnc_143 h1 dX13_notPoke_34 (fun h23 => ?_)
      refine kj_iconst X dX13_notPoke_35 ?_
      have j25 : ∀ (t25_0 : Int) (et25_0 : t25_0 = (if (μ 143 0) ≤ 5 then 0 else 2 : Int)) (ht25_0 : knH t25_0), knJ G p l e { frames := 1, cells := 0, slots := 0, locals := 22 } s m args below meth c 4 0 0 (MQ below (knPo G (knC q) (some (knV q)) μ) args s 0 0 (knA G)) 44 [] [knV t25_0] μ := by
        intro t25_0 et25_0 ht25_0
        subst et25_0
        cases hf
        exact kj_iret X (knH_c ht25_0) hr dX13_notPoke_44 hlk
      refine kj_ic_le X (tgt := 43) dX13_notPoke_36 (by decide) h23 (show knC (5) from ⟨by omega, by omega⟩) (fun h27 => ?_) (fun h27 => ?_)
      · refine kj_iconst X dX13_notPoke_43 ?_
        refine kj_sub (L' := []) [] rfl ?_
        exact j25 0 (by rw [if_pos h27]) (show knH (0) from ⟨by omega, by omega⟩)
      · refine kj_iconst X dX13_notPoke_39 ?_
        refine kj_goto X (tgt := 44) dX13_notPoke_40 (by decide) ?_
        refine kj_sub (L' := []) [] rfl ?_
        exact j25 2 (by rw [if_neg h27]) (show knH (2) from ⟨by omega, by omega⟩)
    · replace hf := knIp hf h22
      refine kj_sub (L' := []) [] rfl ?_
      exact j16  hf

def kfX13_insertsTwo (a1 : Int) (a2 : Int) (a3 : Int) (a4 : Int) (a5 : Int) (μ : knMem) : Option (knMem) :=
 Option.bind (kfX13_inserts a1 a2 a4 a5 μ) (fun q1 =>
  Option.bind (kfX13_inserts (knW (a1 + 1)) a3 a4 (knW (a5 + 1)) q1) (fun q4 =>
   some q4))

theorem knWvX13_insertsTwo : knWv yX13_insertsTwo cX13_insertsTwo 6 none 5 := ⟨(knGm 1683 (by decide +kernel) rfl), (knGm 124 (by decide +kernel) rfl), (knGm 1682 (by decide +kernel) rfl), (knGm 54 (by decide +kernel) rfl), by decide +kernel, by decide +kernel, by decide +kernel⟩
set_option maxHeartbeats 4000000 in
set_option maxRecDepth 100000 in
theorem kcX13_insertsTwo {G : knGT} (l : Launch) {a1 : Int} {a2 : Int} {a3 : Int} {a4 : Int} {a5 : Int} (ha1 : knC a1) (ha2 : knC a2) (ha3 : knC a3) (ha4 : knC a4) (ha5 : knC a5) {μ : knMem} {q : knMem} (hf : kfX13_insertsTwo a1 a2 a3 a4 a5 μ = some q) : knC0 G l yX13_insertsTwo cX13_insertsTwo 6 none 1 25 [knO G 142, knV a1, knV a2, knV a3, knV a4, knV a5] μ True none q := by
  unfold kfX13_insertsTwo at hf
  refine kn_ofJ (plainFor_of_name (by decide)) (Nat.le_of_ble_eq_true rfl) (L := [(0, knO G 142), (1, knV a1), (2, knV a2), (3, knV a3), (4, knV a4), (5, knV a5)]) rfl ?_
  intro p e s m args below meth c X K hr hlk
  refine kj_aloadn X 0 dX13_insertsTwo_0 rfl ?_
  refine kj_iloadn X 1 dX13_insertsTwo_1 rfl ?_
  refine kj_iloadn X 2 dX13_insertsTwo_2 rfl ?_
  refine kj_iload X 4 dX13_insertsTwo_3 rfl ?_
  refine kj_iload X 5 dX13_insertsTwo_5 rfl ?_
  obtain ⟨q1, h2, hf⟩ := knBd_inv hf
  refine kj_callV (As := [knV a1, knV a2, knV a4, knV a5]) (rest := []) X K (kcX13_inserts l ha1 ha2 ha4 ha5 h2) knWvX13_inserts (knGm 1628 (by decide +kernel) rfl) (by decide) (knKd_in kdc_142 (by decide)) (knEnt_10 kdc_142) rfl rfl rfl (Nat.le_of_ble_eq_true rfl) (by decide) dX13_insertsTwo_7 rfl (fun h3 => ?_)
  refine kj_aloadn X 0 dX13_insertsTwo_10 rfl ?_
  refine kj_iloadn X 1 dX13_insertsTwo_11 rfl ?_
  refine kj_iconst X dX13_insertsTwo_12 ?_
  refine kj_iadd X dX13_insertsTwo_13 ?_
  refine kj_iloadn X 3 dX13_insertsTwo_14 rfl ?_
  refine kj_iload X 4 dX13_insertsTwo_15 rfl ?_
  refine kj_iload X 5 dX13_insertsTwo_17 rfl ?_
  refine kj_iconst X dX13_insertsTwo_19 ?_
  refine kj_iadd X dX13_insertsTwo_20 ?_
  obtain ⟨q4, h5, hf⟩ := knBd_inv hf
  refine kj_callV (As := [knV (knW (a1 + 1)), knV a3, knV a4, knV (knW (a5 + 1))]) (rest := []) X K (kcX13_inserts l (knCw _) ha3 ha4 (knCw _) h5) knWvX13_inserts (knGm 1628 (by decide +kernel) rfl) (by decide) (knKd_in kdc_142 (by decide)) (knEnt_10 kdc_142) rfl rfl rfl (Nat.le_of_ble_eq_true rfl) (by decide) dX13_insertsTwo_21 rfl (fun h6 => ?_)
  cases hf
  exact kj_vret X trivial hr dX13_insertsTwo_24 hlk

def kfX13_addsPoke (a1 : Int) (a2 : Int) (a3 : Int) (a4 : Int) (μ : knMem) : Option (Int × knMem) :=
 Option.bind (kfX13_loads  μ) (fun q1 =>
  Option.bind (α := knMem)
   (if a2 < a1 then
    Option.bind (kfX13_insertsTwo a2 (if a3 = 1 then (q1 142 8) else (knW ((q1 142 8) + 1)) : Int) (if a3 = 1 then (knW ((q1 142 8) + 1)) else (q1 142 8) : Int) 0 (knW (2 * (q1 142 8))) q1) (fun q39 =>
     Option.bind (kfX13_insertsTwo (knW (a1 + 2)) (q1 142 8) (knW ((q1 142 8) + 1)) 1 (knW ((knW (2 * (q1 142 8))) + 2)) q39) (fun q42 =>
      some q42))
   else
    Option.bind (kfX13_insertsTwo a1 (q1 142 8) (knW ((q1 142 8) + 1)) 1 (knW (2 * (q1 142 8))) q1) (fun q45 =>
     Option.bind (kfX13_insertsTwo (knW (a2 + 2)) (if a3 = 1 then (q1 142 8) else (knW ((q1 142 8) + 1)) : Int) (if a3 = 1 then (knW ((q1 142 8) + 1)) else (q1 142 8) : Int) 0 (knW ((knW (2 * (q1 142 8))) + 2)) q45) (fun q48 =>
      some q48)))
   (fun q24 =>
   knGd (0 ≤ (q1 142 8) ∧ (q1 142 8) < 7)
    (knGd (0 ≤ (knW ((q1 142 8) + 1)) ∧ (knW ((q1 142 8) + 1)) < 7)
    (Option.bind (kfX13_stores  (knUp (knUp (knUp q24 149 (q1 142 8) a4) 149 (knW ((q1 142 8) + 1)) (knW (1 - a4))) 142 8 (knW (((knUp (knUp q24 149 (q1 142 8) a4) 149 (knW ((q1 142 8) + 1)) (knW (1 - a4))) 142 8) + 2)))) (fun q28 =>
    some ((q1 142 8), q28))))))

theorem knWvX13_addsPoke : knWv yX13_addsPoke cX13_addsPoke 8 (some .int) 4 := ⟨(knGm 1679 (by decide +kernel) rfl), (knGm 124 (by decide +kernel) rfl), (knGm 1678 (by decide +kernel) rfl), (knGm 53 (by decide +kernel) rfl), by decide +kernel, by decide +kernel, by decide +kernel⟩
set_option maxHeartbeats 4000000 in
set_option maxRecDepth 100000 in
theorem kcX13_addsPoke {G : knGT} (l : Launch) {a1 : Int} {a2 : Int} {a3 : Int} {a4 : Int} (ha1 : knC a1) (ha2 : knC a2) (ha3 : knC a3) (ha4 : knC a4) {μ : knMem} {q : Int × knMem} (hf : kfX13_addsPoke a1 a2 a3 a4 μ = some q) : knC0 G l yX13_addsPoke cX13_addsPoke 8 (some .int) 2 50 [knO G 142, knV a1, knV a2, knV a3, knV a4] μ (knC q.1) (some (knV q.1)) q.2 := by
  unfold kfX13_addsPoke at hf
  refine kn_ofJ (plainFor_of_name (by decide)) (Nat.le_of_ble_eq_true rfl) (L := [(0, knO G 142), (1, knV a1), (2, knV a2), (3, knV a3), (4, knV a4)]) rfl ?_
  intro p e s m args below meth c X K hr hlk
  refine kj_aloadn X 0 dX13_addsPoke_0 rfl ?_
  obtain ⟨q1, h2, hf⟩ := knBd_inv hf
  refine kj_callV (As := []) (rest := []) X K (kcX13_loads l  h2) knWvX13_loads (knGm 1624 (by decide +kernel) rfl) (by decide) (knKd_in kdc_142 (by decide)) (knEnt_10 kdc_142) rfl rfl rfl (Nat.le_of_ble_eq_true rfl) (by decide) dX13_addsPoke_1 rfl (fun h3 => ?_)
  refine kj_aloadn X 0 dX13_addsPoke_4 rfl ?_
  refine kj_geti (k := 8) (ki := 8) X K rfl kdc_142 (by decide) (knEnt_10 kdc_142) rfl (by decide) knInX13 (knGm 1512 (by decide +kernel) rfl) rfl rfl dX13_addsPoke_5 (fun h4 => ?_)
  refine kj_istore X (L' := [(5, knV (q1 142 8)), (0, knO G 142), (1, knV a1), (2, knV a2), (3, knV a3), (4, knV a4)]) dX13_addsPoke_8 (by decide) rfl ?_
  refine kj_iloadn X 4 dX13_addsPoke_10 rfl ?_
  refine kj_iconst X dX13_addsPoke_11 ?_
  have j6 : ∀ (t6_0 : Int) (et6_0 : t6_0 = (if a3 = 1 then (q1 142 8) else (knW ((q1 142 8) + 1)) : Int)) (ht6_0 : knC t6_0), knJ G p l e { frames := 2, cells := 0, slots := 0, locals := 50 } s m args below meth c 8 0 0 (MQ below (knPo G (knC q.1) (some (knV q.1)) q.2) args s 0 0 (knA G)) 24 [(0, knO G 142), (1, knV a1), (2, knV a2), (3, knV a3), (4, knV a4), (5, knV (q1 142 8))] [knV t6_0] q1 := by
    intro t6_0 et6_0 ht6_0
    subst et6_0
    refine kj_istore X (L' := [(6, knV (if a3 = 1 then (q1 142 8) else (knW ((q1 142 8) + 1)) : Int)), (0, knO G 142), (1, knV a1), (2, knV a2), (3, knV a3), (4, knV a4), (5, knV (q1 142 8))]) dX13_addsPoke_24 (by decide) rfl ?_
    refine kj_iloadn X 4 dX13_addsPoke_26 rfl ?_
    refine kj_iconst X dX13_addsPoke_27 ?_
    have j9 : ∀ (t9_0 : Int) (et9_0 : t9_0 = (if a3 = 1 then (knW ((q1 142 8) + 1)) else (q1 142 8) : Int)) (ht9_0 : knC t9_0), knJ G p l e { frames := 2, cells := 0, slots := 0, locals := 50 } s m args below meth c 8 0 0 (MQ below (knPo G (knC q.1) (some (knV q.1)) q.2) args s 0 0 (knA G)) 40 [(0, knO G 142), (1, knV a1), (2, knV a2), (4, knV a4), (5, knV (q1 142 8)), (6, knV (if a3 = 1 then (q1 142 8) else (knW ((q1 142 8) + 1)) : Int))] [knV t9_0] q1 := by
      intro t9_0 et9_0 ht9_0
      subst et9_0
      refine kj_istore X (L' := [(7, knV (if a3 = 1 then (knW ((q1 142 8) + 1)) else (q1 142 8) : Int)), (0, knO G 142), (1, knV a1), (2, knV a2), (4, knV a4), (5, knV (q1 142 8)), (6, knV (if a3 = 1 then (q1 142 8) else (knW ((q1 142 8) + 1)) : Int))]) dX13_addsPoke_40 (by decide) rfl ?_
      refine kj_iloadn X 3 dX13_addsPoke_42 rfl ?_
      refine kj_iloadn X 2 dX13_addsPoke_43 rfl ?_
      have j24 : ∀ (m24 : knMem), (fun q24 =>
       knGd (0 ≤ (q1 142 8) ∧ (q1 142 8) < 7)
        (knGd (0 ≤ (knW ((q1 142 8) + 1)) ∧ (knW ((q1 142 8) + 1)) < 7)
        (Option.bind (kfX13_stores  (knUp (knUp (knUp q24 149 (q1 142 8) a4) 149 (knW ((q1 142 8) + 1)) (knW (1 - a4))) 142 8 (knW (((knUp (knUp q24 149 (q1 142 8) a4) 149 (knW ((q1 142 8) + 1)) (knW (1 - a4))) 142 8) + 2)))) (fun q28 =>
        some ((q1 142 8), q28))))) m24 = some q → knJ G p l e { frames := 2, cells := 0, slots := 0, locals := 50 } s m args below meth c 8 0 0 (MQ below (knPo G (knC q.1) (some (knV q.1)) q.2) args s 0 0 (knA G)) 118 [(0, knO G 142), (4, knV a4), (5, knV (q1 142 8))] [] m24 := by
        intro m24
        intro hf
        refine kj_aloadn X 0 dX13_addsPoke_118 rfl ?_
        refine kj_geto (k := 11) (o2 := 149) X K kdc_142 (by decide) (knEnt_10 kdc_142) rfl (by decide) knInX13 (knGm 1515 (by decide +kernel) rfl) rfl rfl dX13_addsPoke_119 ?_
        refine kj_iload X 2 dX13_addsPoke_122 rfl ?_
        refine kj_iload X 1 dX13_addsPoke_124 rfl ?_
        obtain ⟨h31, hf⟩ := knGd_inv hf
        refine kj_iast X K kdc_149 h4 ha4 lnc_149 h31 dX13_addsPoke_126 ?_
        refine kj_aloadn X 0 dX13_addsPoke_127 rfl ?_
        refine kj_geto (k := 11) (o2 := 149) X K kdc_142 (by decide) (knEnt_10 kdc_142) rfl (by decide) knInX13 (knGm 1515 (by decide +kernel) rfl) rfl rfl dX13_addsPoke_128 ?_
        refine kj_iload X 2 dX13_addsPoke_131 rfl ?_
        refine kj_iconst X dX13_addsPoke_133 ?_
        refine kj_iadd X dX13_addsPoke_134 ?_
        refine kj_iconst X dX13_addsPoke_135 ?_
        refine kj_iload X 1 dX13_addsPoke_136 rfl ?_
        refine kj_isub X dX13_addsPoke_138 ?_
        obtain ⟨h32, hf⟩ := knGd_inv hf
        refine kj_iast X K kdc_149 (knCw _) (knCw _) lnc_149 h32 dX13_addsPoke_139 ?_
        refine kj_aloadn X 0 dX13_addsPoke_140 rfl ?_
        refine kj_dup X dX13_addsPoke_141 rfl ?_
        refine kj_geti (k := 8) (ki := 8) X K rfl kdc_142 (by decide) (knEnt_10 kdc_142) rfl (by decide) knInX13 (knGm 1512 (by decide +kernel) rfl) rfl rfl dX13_addsPoke_142 (fun h33 => ?_)
        refine kj_iconst X dX13_addsPoke_145 ?_
        refine kj_iadd X dX13_addsPoke_146 ?_
        refine kj_putf (k := 8) (ki := 8) (x := (knW (((knUp (knUp m24 149 (q1 142 8) a4) 149 (knW ((q1 142 8) + 1)) (knW (1 - a4))) 142 8) + 2))) (ty := .int) X K rfl (knKd_in kdc_142 (by decide)) (knEnt_10 kdc_142) rfl (by decide) knInX13 tyX13_ok nmX13 (knGm 1512 (by decide +kernel) rfl) rfl rfl (by decide +kernel) rfl rfl (by simp) (by rw [knEnt_10 kdc_142, knUp_row]; rfl) (fun _ => (knCw _)) (fun h => by rw [kdc_142] at h; cases h) (fun h => by rw [kdc_142] at h; cases h) dX13_addsPoke_147 ?_
        refine kj_aloadn X 0 dX13_addsPoke_150 rfl ?_
        obtain ⟨q34, h35, hf⟩ := knBd_inv hf
        refine kj_callV (As := []) (rest := []) X K (kcX13_stores l  h35) knWvX13_stores (knGm 1632 (by decide +kernel) rfl) (by decide) (knKd_in kdc_142 (by decide)) (knEnt_10 kdc_142) rfl rfl rfl (Nat.le_of_ble_eq_true rfl) (by decide) dX13_addsPoke_151 rfl (fun h36 => ?_)
        refine kj_iload X 2 dX13_addsPoke_154 rfl ?_
        cases hf
        exact kj_iret X h4 hr dX13_addsPoke_156 hlk
      obtain ⟨b37, hb37, hf⟩ := knBd_inv hf
      refine kj_ic_lt X (tgt := 84) dX13_addsPoke_44 (by decide) ha2 ha1 (fun h38 => ?_) (fun h38 => ?_)
      · replace hb37 := knIp hb37 h38
        refine kj_aloadn X 1 dX13_addsPoke_84 rfl ?_
        refine kj_iloadn X 3 dX13_addsPoke_85 rfl ?_
        refine kj_iload X 6 dX13_addsPoke_86 rfl ?_
        refine kj_iload X 0 dX13_addsPoke_88 rfl ?_
        refine kj_iconst X dX13_addsPoke_90 ?_
        refine kj_iconst X dX13_addsPoke_91 ?_
        refine kj_iload X 5 dX13_addsPoke_92 rfl ?_
        refine kj_imul X dX13_addsPoke_94 ?_
        obtain ⟨q39, h40, hb37⟩ := knBd_inv hb37
        refine kj_callV (As := [knV a2, knV (if a3 = 1 then (q1 142 8) else (knW ((q1 142 8) + 1)) : Int), knV (if a3 = 1 then (knW ((q1 142 8) + 1)) else (q1 142 8) : Int), knV 0, knV (knW (2 * (q1 142 8)))]) (rest := []) X K (kcX13_insertsTwo l ha2 ht6_0 ht9_0 (show knC (0) from ⟨by omega, by omega⟩) (knCw _) h40) knWvX13_insertsTwo (knGm 1680 (by decide +kernel) rfl) (by decide) (knKd_in kdc_142 (by decide)) (knEnt_10 kdc_142) rfl rfl rfl (Nat.le_of_ble_eq_true rfl) (by decide) dX13_addsPoke_95 rfl (fun h41 => ?_)
        refine kj_aloadn X 1 dX13_addsPoke_98 rfl ?_
        refine kj_iloadn X 2 dX13_addsPoke_99 rfl ?_
        refine kj_iconst X dX13_addsPoke_100 ?_
        refine kj_iadd X dX13_addsPoke_101 ?_
        refine kj_iload X 5 dX13_addsPoke_102 rfl ?_
        refine kj_iload X 5 dX13_addsPoke_104 rfl ?_
        refine kj_iconst X dX13_addsPoke_106 ?_
        refine kj_iadd X dX13_addsPoke_107 ?_
        refine kj_iconst X dX13_addsPoke_108 ?_
        refine kj_iconst X dX13_addsPoke_109 ?_
        refine kj_iload X 5 dX13_addsPoke_110 rfl ?_
        refine kj_imul X dX13_addsPoke_112 ?_
        refine kj_iconst X dX13_addsPoke_113 ?_
        refine kj_iadd X dX13_addsPoke_114 ?_
        obtain ⟨q42, h43, hb37⟩ := knBd_inv hb37
        refine kj_callV (As := [knV (knW (a1 + 2)), knV (q1 142 8), knV (knW ((q1 142 8) + 1)), knV 1, knV (knW ((knW (2 * (q1 142 8))) + 2))]) (rest := []) X K (kcX13_insertsTwo l (knCw _) h4 (knCw _) (show knC (1) from ⟨by omega, by omega⟩) (knCw _) h43) knWvX13_insertsTwo (knGm 1680 (by decide +kernel) rfl) (by decide) (knKd_in kdc_142 (by decide)) (knEnt_10 kdc_142) rfl rfl rfl (Nat.le_of_ble_eq_true rfl) (by decide) dX13_addsPoke_115 rfl (fun h44 => ?_)
        cases hb37
        refine kj_sub (L' := [(0, knO G 142), (4, knV a4), (5, knV (q1 142 8))]) [1, 4, 5] rfl ?_
        exact j24 _ hf
      · replace hb37 := knIq hb37 h38
        refine kj_aloadn X 1 dX13_addsPoke_47 rfl ?_
        refine kj_iloadn X 2 dX13_addsPoke_48 rfl ?_
        refine kj_iload X 5 dX13_addsPoke_49 rfl ?_
        refine kj_iload X 5 dX13_addsPoke_51 rfl ?_
        refine kj_iconst X dX13_addsPoke_53 ?_
        refine kj_iadd X dX13_addsPoke_54 ?_
        refine kj_iconst X dX13_addsPoke_55 ?_
        refine kj_iconst X dX13_addsPoke_56 ?_
        refine kj_iload X 5 dX13_addsPoke_57 rfl ?_
        refine kj_imul X dX13_addsPoke_59 ?_
        obtain ⟨q45, h46, hb37⟩ := knBd_inv hb37
        refine kj_callV (As := [knV a1, knV (q1 142 8), knV (knW ((q1 142 8) + 1)), knV 1, knV (knW (2 * (q1 142 8)))]) (rest := []) X K (kcX13_insertsTwo l ha1 h4 (knCw _) (show knC (1) from ⟨by omega, by omega⟩) (knCw _) h46) knWvX13_insertsTwo (knGm 1680 (by decide +kernel) rfl) (by decide) (knKd_in kdc_142 (by decide)) (knEnt_10 kdc_142) rfl rfl rfl (Nat.le_of_ble_eq_true rfl) (by decide) dX13_addsPoke_60 rfl (fun h47 => ?_)
        refine kj_aloadn X 1 dX13_addsPoke_63 rfl ?_
        refine kj_iloadn X 3 dX13_addsPoke_64 rfl ?_
        refine kj_iconst X dX13_addsPoke_65 ?_
        refine kj_iadd X dX13_addsPoke_66 ?_
        refine kj_iload X 6 dX13_addsPoke_67 rfl ?_
        refine kj_iload X 0 dX13_addsPoke_69 rfl ?_
        refine kj_iconst X dX13_addsPoke_71 ?_
        refine kj_iconst X dX13_addsPoke_72 ?_
        refine kj_iload X 5 dX13_addsPoke_73 rfl ?_
        refine kj_imul X dX13_addsPoke_75 ?_
        refine kj_iconst X dX13_addsPoke_76 ?_
        refine kj_iadd X dX13_addsPoke_77 ?_
        obtain ⟨q48, h49, hb37⟩ := knBd_inv hb37
        refine kj_callV (As := [knV (knW (a2 + 2)), knV (if a3 = 1 then (q1 142 8) else (knW ((q1 142 8) + 1)) : Int), knV (if a3 = 1 then (knW ((q1 142 8) + 1)) else (q1 142 8) : Int), knV 0, knV (knW ((knW (2 * (q1 142 8))) + 2))]) (rest := []) X K (kcX13_insertsTwo l (knCw _) ht6_0 ht9_0 (show knC (0) from ⟨by omega, by omega⟩) (knCw _) h49) knWvX13_insertsTwo (knGm 1680 (by decide +kernel) rfl) (by decide) (knKd_in kdc_142 (by decide)) (knEnt_10 kdc_142) rfl rfl rfl (Nat.le_of_ble_eq_true rfl) (by decide) dX13_addsPoke_78 rfl (fun h50 => ?_)
        refine kj_goto X (tgt := 118) dX13_addsPoke_81 (by decide) ?_
        cases hb37
        refine kj_sub (L' := [(0, knO G 142), (4, knV a4), (5, knV (q1 142 8))]) [1, 4, 5] rfl ?_
        exact j24 _ hf
    refine kj_ic_ne X (tgt := 38) dX13_addsPoke_28 (by decide) ha3 (show knC (1) from ⟨by omega, by omega⟩) (fun h51 => ?_) (fun h51 => ?_)
    · refine kj_iload X 6 dX13_addsPoke_38 rfl ?_
      refine kj_sub (L' := [(0, knO G 142), (1, knV a1), (2, knV a2), (4, knV a4), (5, knV (q1 142 8)), (6, knV (if a3 = 1 then (q1 142 8) else (knW ((q1 142 8) + 1)) : Int))]) [1, 2, 3, 5, 6, 0] rfl ?_
      exact j9 (q1 142 8) (by rw [if_neg h51]) h4
    · refine kj_iload X 6 dX13_addsPoke_31 rfl ?_
      refine kj_iconst X dX13_addsPoke_33 ?_
      refine kj_iadd X dX13_addsPoke_34 ?_
      refine kj_goto X (tgt := 40) dX13_addsPoke_35 (by decide) ?_
      refine kj_sub (L' := [(0, knO G 142), (1, knV a1), (2, knV a2), (4, knV a4), (5, knV (q1 142 8)), (6, knV (if a3 = 1 then (q1 142 8) else (knW ((q1 142 8) + 1)) : Int))]) [1, 2, 3, 5, 6, 0] rfl ?_
      exact j9 (knW ((q1 142 8) + 1)) (by rw [if_pos h51]) (knCw _)
  refine kj_ic_ne X (tgt := 20) dX13_addsPoke_12 (by decide) ha3 (show knC (1) from ⟨by omega, by omega⟩) (fun h52 => ?_) (fun h52 => ?_)
  · refine kj_iload X 0 dX13_addsPoke_20 rfl ?_
    refine kj_iconst X dX13_addsPoke_22 ?_
    refine kj_iadd X dX13_addsPoke_23 ?_
    refine kj_sub (L' := [(0, knO G 142), (1, knV a1), (2, knV a2), (3, knV a3), (4, knV a4), (5, knV (q1 142 8))]) [1, 2, 3, 4, 5, 0] rfl ?_
    exact j6 (knW ((q1 142 8) + 1)) (by rw [if_neg h52]) (knCw _)
  · refine kj_iload X 0 dX13_addsPoke_15 rfl ?_
    refine kj_goto X (tgt := 24) dX13_addsPoke_17 (by decide) ?_
    refine kj_sub (L' := [(0, knO G 142), (1, knV a1), (2, knV a2), (3, knV a3), (4, knV a4), (5, knV (q1 142 8))]) [1, 2, 3, 4, 5, 0] rfl ?_
    exact j6 (q1 142 8) (by rw [if_pos h52]) h4

def kfX13_addPoke (a1 : Int) (a2 : Int) (a3 : Int) (a4 : Int) (μ : knMem) : Option (Int × knMem) :=
 Option.bind (kfX13_notPoke a1 a2 (knUp μ 142 0 0)) (fun q1 =>
  if q1 = 0 then
   Option.bind (kfX13_remembers  (knUp μ 142 0 0)) (fun q5 =>
    Option.bind (kfX13_addsPoke a1 a2 (if a3 = 0 then 0 else 1 : Int) (if a4 = 0 then 0 else 1 : Int) q5) (fun q14 =>
     some (q14.1, q14.2)))
  else
   Option.bind (kfX13_fails q1 (knUp μ 142 0 0)) (fun q19 =>
    some (q19.1, q19.2)))

theorem knWvX13_addPoke : knWv yX13_addPoke cX13_addPoke 6 (some .int) 4 := ⟨(knGm 1671 (by decide +kernel) rfl), (knGm 124 (by decide +kernel) rfl), (knGm 1669 (by decide +kernel) rfl), (knGm 1670 (by decide +kernel) rfl), by decide +kernel, by decide +kernel, by decide +kernel⟩
set_option maxHeartbeats 4000000 in
set_option maxRecDepth 100000 in
theorem kcX13_addPoke {G : knGT} (l : Launch) {a1 : Int} {a2 : Int} {a3 : Int} {a4 : Int} (ha1 : knC a1) (ha2 : knC a2) (ha3 : knZ a3) (ha4 : knZ a4) {μ : knMem} {q : Int × knMem} (hf : kfX13_addPoke a1 a2 a3 a4 μ = some q) : knC0 G l yX13_addPoke cX13_addPoke 6 (some .int) 3 77 [knO G 142, knV a1, knV a2, knV a3, knV a4] μ (knC q.1) (some (knV q.1)) q.2 := by
  unfold kfX13_addPoke at hf
  refine kn_ofJ (plainFor_of_name (by decide)) (Nat.le_of_ble_eq_true rfl) (L := [(0, knO G 142), (1, knV a1), (2, knV a2), (3, knV a3), (4, knV a4)]) rfl ?_
  intro p e s m args below meth c X K hr hlk
  refine kj_aloadn X 0 dX13_addPoke_0 rfl ?_
  refine kj_iconst X dX13_addPoke_1 ?_
  refine kj_putf (k := 0) (ki := 0) (x := 0) (ty := .int) X K rfl (knKd_in kdc_142 (by decide)) (knEnt_10 kdc_142) rfl (by decide) knInX13 tyX13_ok nmX13 (knGm 1504 (by decide +kernel) rfl) rfl rfl (by decide +kernel) rfl rfl (by simp) (by rw [knEnt_10 kdc_142, knUp_row]; rfl) (fun _ => (show knC (0) from ⟨by omega, by omega⟩)) (fun h => by rw [kdc_142] at h; cases h) (fun h => by rw [kdc_142] at h; cases h) dX13_addPoke_2 ?_
  refine kj_aloadn X 0 dX13_addPoke_5 rfl ?_
  refine kj_iloadn X 1 dX13_addPoke_6 rfl ?_
  refine kj_iloadn X 2 dX13_addPoke_7 rfl ?_
  obtain ⟨q1, h2, hf⟩ := knBd_inv hf
  refine kj_callV (As := [knV a1, knV a2]) (rest := []) X K (kcX13_notPoke l ha1 ha2 h2) knWvX13_notPoke (knGm 1672 (by decide +kernel) rfl) (by decide) (knKd_in kdc_142 (by decide)) (knEnt_10 kdc_142) rfl rfl rfl (Nat.le_of_ble_eq_true rfl) (by decide) dX13_addPoke_8 rfl (fun h3 => ?_)
  refine kj_istore X (L' := [(5, knV q1), (0, knO G 142), (1, knV a1), (2, knV a2), (3, knV a3), (4, knV a4)]) dX13_addPoke_11 (by decide) rfl ?_
  refine kj_iload X 0 dX13_addPoke_13 rfl ?_
  refine kj_if_eq X (tgt := 25) dX13_addPoke_15 (by decide) h3 (fun h4 => ?_) (fun h4 => ?_)
  · replace hf := knIp hf h4
    refine kj_aloadn X 1 dX13_addPoke_25 rfl ?_
    obtain ⟨q5, h6, hf⟩ := knBd_inv hf
    refine kj_callV (As := []) (rest := []) X K (kcX13_remembers l  h6) knWvX13_remembers (knGm 1608 (by decide +kernel) rfl) (by decide) (knKd_in kdc_142 (by decide)) (knEnt_10 kdc_142) rfl rfl rfl (Nat.le_of_ble_eq_true rfl) (by decide) dX13_addPoke_26 rfl (fun h7 => ?_)
    refine kj_aloadn X 1 dX13_addPoke_29 rfl ?_
    refine kj_iloadn X 2 dX13_addPoke_30 rfl ?_
    refine kj_iloadn X 3 dX13_addPoke_31 rfl ?_
    refine kj_iloadn X 4 dX13_addPoke_32 rfl ?_
    have j9 : ∀ (t9_0 : Int) (et9_0 : t9_0 = (if a3 = 0 then 0 else 1 : Int)) (ht9_0 : knZ t9_0), knJ G p l e { frames := 3, cells := 0, slots := 0, locals := 77 } s m args below meth c 6 0 0 (MQ below (knPo G (knC q.1) (some (knV q.1)) q.2) args s 0 0 (knA G)) 41 [(4, knV a4)] [knV t9_0, knV a2, knV a1, knO G 142] q5 := by
      intro t9_0 et9_0 ht9_0
      subst et9_0
      refine kj_iload X 0 dX13_addPoke_41 rfl ?_
      have j12 : ∀ (t12_0 : Int) (et12_0 : t12_0 = (if a4 = 0 then 0 else 1 : Int)) (ht12_0 : knZ t12_0), knJ G p l e { frames := 3, cells := 0, slots := 0, locals := 77 } s m args below meth c 6 0 0 (MQ below (knPo G (knC q.1) (some (knV q.1)) q.2) args s 0 0 (knA G)) 51 [] [knV t12_0, knV (if a3 = 0 then 0 else 1 : Int), knV a2, knV a1, knO G 142] q5 := by
        intro t12_0 et12_0 ht12_0
        subst et12_0
        obtain ⟨q14, h15, hf⟩ := knBd_inv hf
        refine kj_callV (As := [knV a1, knV a2, knV (if a3 = 0 then 0 else 1 : Int), knV (if a4 = 0 then 0 else 1 : Int)]) (rest := []) X K (kcX13_addsPoke l ha1 ha2 (knZ_c ht9_0) (knZ_c ht12_0) h15) knWvX13_addsPoke (knGm 1676 (by decide +kernel) rfl) (by decide) (knKd_in kdc_142 (by decide)) (knEnt_10 kdc_142) rfl rfl rfl (Nat.le_of_ble_eq_true rfl) (by decide) dX13_addPoke_51 rfl (fun h16 => ?_)
        cases hf
        exact kj_iret X h16 hr dX13_addPoke_54 hlk
      refine kj_if_eq X (tgt := 50) dX13_addPoke_43 (by decide) (knZ_c ha4) (fun h17 => ?_) (fun h17 => ?_)
      · refine kj_iconst X dX13_addPoke_50 ?_
        refine kj_sub (L' := []) [] rfl ?_
        exact j12 0 (by rw [if_pos h17]) (Or.inl rfl)
      · refine kj_iconst X dX13_addPoke_46 ?_
        refine kj_goto X (tgt := 51) dX13_addPoke_47 (by decide) ?_
        refine kj_sub (L' := []) [] rfl ?_
        exact j12 1 (by rw [if_neg h17]) (Or.inr rfl)
    refine kj_if_eq X (tgt := 40) dX13_addPoke_33 (by decide) (knZ_c ha3) (fun h18 => ?_) (fun h18 => ?_)
    · refine kj_iconst X dX13_addPoke_40 ?_
      refine kj_sub (L' := [(4, knV a4)]) [5] rfl ?_
      exact j9 0 (by rw [if_pos h18]) (Or.inl rfl)
    · refine kj_iconst X dX13_addPoke_36 ?_
      refine kj_goto X (tgt := 41) dX13_addPoke_37 (by decide) ?_
      refine kj_sub (L' := [(4, knV a4)]) [5] rfl ?_
      exact j9 1 (by rw [if_neg h18]) (Or.inr rfl)
  · replace hf := knIq hf h4
    refine kj_aloadn X 1 dX13_addPoke_18 rfl ?_
    refine kj_iload X 0 dX13_addPoke_19 rfl ?_
    obtain ⟨q19, h20, hf⟩ := knBd_inv hf
    refine kj_callV (As := [knV q1]) (rest := []) X K (kcX13_fails l h3 h20) knWvX13_fails (knGm 1604 (by decide +kernel) rfl) (by decide) (knKd_in kdc_142 (by decide)) (knEnt_10 kdc_142) rfl rfl rfl (Nat.le_of_ble_eq_true rfl) (by decide) dX13_addPoke_21 rfl (fun h21 => ?_)
    cases hf
    exact kj_iret X h21 hr dX13_addPoke_24 hlk

def kfX13_notUnpoke (a1 : Int) (a2 : Int) (μ : knMem) : Option (Int × knMem) :=
 Option.bind (kfX13_isCrossing a1 μ) (fun q1 =>
  (fun (k19 : (Unit) → Option (Int × knMem)) =>
   if q1 = 0 then
    k19 ()
   else
    Option.bind (kfX13_isCrossing a2 μ) (fun q22 =>
     if q22 = 0 then
      k19 ()
     else
      Option.bind (kfX13_loads  μ) (fun q26 =>
       Option.bind (kfX13_pokes a1 a2 q26) (fun q29 =>
        some ((if q29 = 0 then 2 else 0 : Int), q26)))))
   (fun _ =>
   some (1, μ)))

theorem knWvX13_notUnpoke : knWv yX13_notUnpoke cX13_notUnpoke 3 (some .int) 2 := ⟨(knGm 1691 (by decide +kernel) rfl), (knGm 124 (by decide +kernel) rfl), (knGm 1690 (by decide +kernel) rfl), (knGm 55 (by decide +kernel) rfl), by decide +kernel, by decide +kernel, by decide +kernel⟩
set_option maxHeartbeats 4000000 in
set_option maxRecDepth 100000 in
theorem kcX13_notUnpoke {G : knGT} (l : Launch) {a1 : Int} {a2 : Int} (ha1 : knC a1) (ha2 : knC a2) {μ : knMem} {q : Int × knMem} (hf : kfX13_notUnpoke a1 a2 μ = some q) : knC0 G l yX13_notUnpoke cX13_notUnpoke 3 (some .int) 2 45 [knO G 142, knV a1, knV a2] μ (knC q.1) (some (knV q.1)) q.2 := by
  unfold kfX13_notUnpoke at hf
  refine kn_ofJ (plainFor_of_name (by decide)) (Nat.le_of_ble_eq_true rfl) (L := [(0, knO G 142), (1, knV a1), (2, knV a2)]) rfl ?_
  intro p e s m args below meth c X K hr hlk
  refine kj_aloadn X 0 dX13_notUnpoke_0 rfl ?_
  refine kj_iloadn X 1 dX13_notUnpoke_1 rfl ?_
  obtain ⟨q1, h2, hf⟩ := knBd_inv hf
  refine kj_callV (As := [knV a1]) (rest := []) X K (kcX13_isCrossing l ha1 h2) knWvX13_isCrossing (knGm 1644 (by decide +kernel) rfl) (by decide) (knKd_in kdc_142 (by decide)) (knEnt_10 kdc_142) rfl rfl rfl (Nat.le_of_ble_eq_true rfl) (by decide) dX13_notUnpoke_2 rfl (fun h3 => ?_)
  have j19 : (fun _ =>
   some (1, μ)) () = some q → knJ G p l e { frames := 2, cells := 0, slots := 0, locals := 45 } s m args below meth c 3 0 0 (MQ below (knPo G (knC q.1) (some (knV q.1)) q.2) args s 0 0 (knA G)) 16 [] [] μ := by
    intro hf
    refine kj_iconst X dX13_notUnpoke_16 ?_
    cases hf
    exact kj_iret X (show knC (1) from ⟨by omega, by omega⟩) hr dX13_notUnpoke_17 hlk
  refine kj_if_eq X (tgt := 16) dX13_notUnpoke_5 (by decide) (knZ_c h3) (fun h21 => ?_) (fun h21 => ?_)
  · replace hf := knIp hf h21
    refine kj_sub (L' := []) [] rfl ?_
    exact j19  hf
  · replace hf := knIq hf h21
    refine kj_aloadn X 0 dX13_notUnpoke_8 rfl ?_
    refine kj_iloadn X 2 dX13_notUnpoke_9 rfl ?_
    obtain ⟨q22, h23, hf⟩ := knBd_inv hf
    refine kj_callV (As := [knV a2]) (rest := []) X K (kcX13_isCrossing l ha2 h23) knWvX13_isCrossing (knGm 1644 (by decide +kernel) rfl) (by decide) (knKd_in kdc_142 (by decide)) (knEnt_10 kdc_142) rfl rfl rfl (Nat.le_of_ble_eq_true rfl) (by decide) dX13_notUnpoke_10 rfl (fun h24 => ?_)
    refine kj_if_ne X (tgt := 18) dX13_notUnpoke_13 (by decide) (knZ_c h24) (fun h25 => ?_) (fun h25 => ?_)
    · replace hf := knIq hf h25
      refine kj_aloadn X 0 dX13_notUnpoke_18 rfl ?_
      obtain ⟨q26, h27, hf⟩ := knBd_inv hf
      refine kj_callV (As := []) (rest := []) X K (kcX13_loads l  h27) knWvX13_loads (knGm 1624 (by decide +kernel) rfl) (by decide) (knKd_in kdc_142 (by decide)) (knEnt_10 kdc_142) rfl rfl rfl (Nat.le_of_ble_eq_true rfl) (by decide) dX13_notUnpoke_19 rfl (fun h28 => ?_)
      refine kj_aloadn X 0 dX13_notUnpoke_22 rfl ?_
      refine kj_iloadn X 1 dX13_notUnpoke_23 rfl ?_
      refine kj_iloadn X 2 dX13_notUnpoke_24 rfl ?_
      obtain ⟨q29, h30, hf⟩ := knBd_inv hf
      refine kj_callV (As := [knV a1, knV a2]) (rest := []) X K (kcX13_pokes l ha1 ha2 h30) knWvX13_pokes (knGm 1692 (by decide +kernel) rfl) (by decide) (knKd_in kdc_142 (by decide)) (knEnt_10 kdc_142) rfl rfl rfl (Nat.le_of_ble_eq_true rfl) (by decide) dX13_notUnpoke_25 rfl (fun h31 => ?_)
      have j33 : ∀ (t33_0 : Int) (et33_0 : t33_0 = (if q29 = 0 then 2 else 0 : Int)) (ht33_0 : knH t33_0), knJ G p l e { frames := 2, cells := 0, slots := 0, locals := 45 } s m args below meth c 3 0 0 (MQ below (knPo G (knC q.1) (some (knV q.1)) q.2) args s 0 0 (knA G)) 36 [] [knV t33_0] q26 := by
        intro t33_0 et33_0 ht33_0
        subst et33_0
        cases hf
        exact kj_iret X (knH_c ht33_0) hr dX13_notUnpoke_36 hlk
      refine kj_if_eq X (tgt := 35) dX13_notUnpoke_28 (by decide) (knZ_c h31) (fun h35 => ?_) (fun h35 => ?_)
      · refine kj_iconst X dX13_notUnpoke_35 ?_
        refine kj_sub (L' := []) [] rfl ?_
        exact j33 2 (by rw [if_pos h35]) (show knH (2) from ⟨by omega, by omega⟩)
      · refine kj_iconst X dX13_notUnpoke_31 ?_
        refine kj_goto X (tgt := 36) dX13_notUnpoke_32 (by decide) ?_
        refine kj_sub (L' := []) [] rfl ?_
        exact j33 0 (by rw [if_neg h35]) (show knH (0) from ⟨by omega, by omega⟩)
    · replace hf := knIp hf h25
      refine kj_sub (L' := []) [] rfl ?_
      exact j19  hf

def kfX13_unpokes (a1 : Int) (a2 : Int) (μ : knMem) : Option (Int × knMem) :=
 Option.bind (kfX13_loads  μ) (fun q1 =>
  Option.bind (kfX13_removes (if a1 ≤ a2 then a2 else a1 : Int) q1) (fun q7 =>
   Option.bind (kfX13_removes (if a1 ≤ a2 then a1 else a2 : Int) q7) (fun q13 =>
    Option.bind (kfX13_stores  q13) (fun q16 =>
     some ((q16 142 8), q16)))))

theorem knWvX13_unpokes : knWv yX13_unpokes cX13_unpokes 3 (some .int) 2 := ⟨(knGm 1699 (by decide +kernel) rfl), (knGm 124 (by decide +kernel) rfl), (knGm 1698 (by decide +kernel) rfl), (knGm 57 (by decide +kernel) rfl), by decide +kernel, by decide +kernel, by decide +kernel⟩
set_option maxHeartbeats 4000000 in
set_option maxRecDepth 100000 in
theorem kcX13_unpokes {G : knGT} (l : Launch) {a1 : Int} {a2 : Int} (ha1 : knC a1) (ha2 : knC a2) {μ : knMem} {q : Int × knMem} (hf : kfX13_unpokes a1 a2 μ = some q) : knC0 G l yX13_unpokes cX13_unpokes 3 (some .int) 1 23 [knO G 142, knV a1, knV a2] μ (knC q.1) (some (knV q.1)) q.2 := by
  unfold kfX13_unpokes at hf
  refine kn_ofJ (plainFor_of_name (by decide)) (Nat.le_of_ble_eq_true rfl) (L := [(0, knO G 142), (1, knV a1), (2, knV a2)]) rfl ?_
  intro p e s m args below meth c X K hr hlk
  refine kj_aloadn X 0 dX13_unpokes_0 rfl ?_
  obtain ⟨q1, h2, hf⟩ := knBd_inv hf
  refine kj_callV (As := []) (rest := []) X K (kcX13_loads l  h2) knWvX13_loads (knGm 1624 (by decide +kernel) rfl) (by decide) (knKd_in kdc_142 (by decide)) (knEnt_10 kdc_142) rfl rfl rfl (Nat.le_of_ble_eq_true rfl) (by decide) dX13_unpokes_1 rfl (fun h3 => ?_)
  refine kj_aloadn X 0 dX13_unpokes_4 rfl ?_
  refine kj_iloadn X 1 dX13_unpokes_5 rfl ?_
  refine kj_iloadn X 2 dX13_unpokes_6 rfl ?_
  have j5 : ∀ (t5_0 : Int) (et5_0 : t5_0 = (if a1 ≤ a2 then a2 else a1 : Int)) (ht5_0 : knC t5_0), knJ G p l e { frames := 1, cells := 0, slots := 0, locals := 23 } s m args below meth c 3 0 0 (MQ below (knPo G (knC q.1) (some (knV q.1)) q.2) args s 0 0 (knA G)) 15 [(0, knO G 142), (1, knV a1), (2, knV a2)] [knV t5_0, knO G 142] q1 := by
    intro t5_0 et5_0 ht5_0
    subst et5_0
    obtain ⟨q7, h8, hf⟩ := knBd_inv hf
    refine kj_callV (As := [knV (if a1 ≤ a2 then a2 else a1 : Int)]) (rest := []) X K (kcX13_removes l ht5_0 h8) knWvX13_removes (knGm 1664 (by decide +kernel) rfl) (by decide) (knKd_in kdc_142 (by decide)) (knEnt_10 kdc_142) rfl rfl rfl (Nat.le_of_ble_eq_true rfl) (by decide) dX13_unpokes_15 rfl (fun h9 => ?_)
    refine kj_aloadn X 0 dX13_unpokes_18 rfl ?_
    refine kj_iloadn X 1 dX13_unpokes_19 rfl ?_
    refine kj_iloadn X 2 dX13_unpokes_20 rfl ?_
    have j11 : ∀ (t11_0 : Int) (et11_0 : t11_0 = (if a1 ≤ a2 then a1 else a2 : Int)) (ht11_0 : knC t11_0), knJ G p l e { frames := 1, cells := 0, slots := 0, locals := 23 } s m args below meth c 3 0 0 (MQ below (knPo G (knC q.1) (some (knV q.1)) q.2) args s 0 0 (knA G)) 29 [(0, knO G 142)] [knV t11_0, knO G 142] q7 := by
      intro t11_0 et11_0 ht11_0
      subst et11_0
      obtain ⟨q13, h14, hf⟩ := knBd_inv hf
      refine kj_callV (As := [knV (if a1 ≤ a2 then a1 else a2 : Int)]) (rest := []) X K (kcX13_removes l ht11_0 h14) knWvX13_removes (knGm 1664 (by decide +kernel) rfl) (by decide) (knKd_in kdc_142 (by decide)) (knEnt_10 kdc_142) rfl rfl rfl (Nat.le_of_ble_eq_true rfl) (by decide) dX13_unpokes_29 rfl (fun h15 => ?_)
      refine kj_aloadn X 0 dX13_unpokes_32 rfl ?_
      obtain ⟨q16, h17, hf⟩ := knBd_inv hf
      refine kj_callV (As := []) (rest := []) X K (kcX13_stores l  h17) knWvX13_stores (knGm 1632 (by decide +kernel) rfl) (by decide) (knKd_in kdc_142 (by decide)) (knEnt_10 kdc_142) rfl rfl rfl (Nat.le_of_ble_eq_true rfl) (by decide) dX13_unpokes_33 rfl (fun h18 => ?_)
      refine kj_aloadn X 0 dX13_unpokes_36 rfl ?_
      refine kj_geti (k := 8) (ki := 8) X K rfl kdc_142 (by decide) (knEnt_10 kdc_142) rfl (by decide) knInX13 (knGm 1512 (by decide +kernel) rfl) rfl rfl dX13_unpokes_37 (fun h19 => ?_)
      cases hf
      exact kj_iret X h19 hr dX13_unpokes_40 hlk
    refine kj_ic_le X (tgt := 28) dX13_unpokes_21 (by decide) ha1 ha2 (fun h20 => ?_) (fun h20 => ?_)
    · refine kj_iloadn X 1 dX13_unpokes_28 rfl ?_
      refine kj_sub (L' := [(0, knO G 142)]) [0] rfl ?_
      exact j11 a1 (by rw [if_pos h20]) ha1
    · refine kj_iloadn X 2 dX13_unpokes_24 rfl ?_
      refine kj_goto X (tgt := 29) dX13_unpokes_25 (by decide) ?_
      refine kj_sub (L' := [(0, knO G 142)]) [0] rfl ?_
      exact j11 a2 (by rw [if_neg h20]) ha2
  refine kj_ic_le X (tgt := 14) dX13_unpokes_7 (by decide) ha1 ha2 (fun h21 => ?_) (fun h21 => ?_)
  · refine kj_iloadn X 2 dX13_unpokes_14 rfl ?_
    refine kj_sub (L' := [(0, knO G 142), (1, knV a1), (2, knV a2)]) [0, 1, 2] rfl ?_
    exact j5 a2 (by rw [if_pos h21]) ha2
  · refine kj_iloadn X 1 dX13_unpokes_10 rfl ?_
    refine kj_goto X (tgt := 15) dX13_unpokes_11 (by decide) ?_
    refine kj_sub (L' := [(0, knO G 142), (1, knV a1), (2, knV a2)]) [0, 1, 2] rfl ?_
    exact j5 a1 (by rw [if_neg h21]) ha1

def kfX13_removePoke (a1 : Int) (a2 : Int) (μ : knMem) : Option (Int × knMem) :=
 Option.bind (kfX13_notUnpoke a1 a2 (knUp μ 142 0 0)) (fun q1 =>
  if q1.1 = 0 then
   Option.bind (kfX13_remembers  q1.2) (fun q5 =>
    Option.bind (kfX13_unpokes a1 a2 q5) (fun q8 =>
     some (q8.1, q8.2)))
  else
   Option.bind (kfX13_fails q1.1 q1.2) (fun q11 =>
    some (q11.1, q11.2)))

theorem knWvX13_removePoke : knWv yX13_removePoke cX13_removePoke 4 (some .int) 2 := ⟨(knGm 1687 (by decide +kernel) rfl), (knGm 124 (by decide +kernel) rfl), (knGm 1685 (by decide +kernel) rfl), (knGm 1686 (by decide +kernel) rfl), by decide +kernel, by decide +kernel, by decide +kernel⟩
set_option maxHeartbeats 4000000 in
set_option maxRecDepth 100000 in
theorem kcX13_removePoke {G : knGT} (l : Launch) {a1 : Int} {a2 : Int} (ha1 : knC a1) (ha2 : knC a2) {μ : knMem} {q : Int × knMem} (hf : kfX13_removePoke a1 a2 μ = some q) : knC0 G l yX13_removePoke cX13_removePoke 4 (some .int) 3 67 [knO G 142, knV a1, knV a2] μ (knC q.1) (some (knV q.1)) q.2 := by
  unfold kfX13_removePoke at hf
  refine kn_ofJ (plainFor_of_name (by decide)) (Nat.le_of_ble_eq_true rfl) (L := [(0, knO G 142), (1, knV a1), (2, knV a2)]) rfl ?_
  intro p e s m args below meth c X K hr hlk
  refine kj_aloadn X 0 dX13_removePoke_0 rfl ?_
  refine kj_iconst X dX13_removePoke_1 ?_
  refine kj_putf (k := 0) (ki := 0) (x := 0) (ty := .int) X K rfl (knKd_in kdc_142 (by decide)) (knEnt_10 kdc_142) rfl (by decide) knInX13 tyX13_ok nmX13 (knGm 1504 (by decide +kernel) rfl) rfl rfl (by decide +kernel) rfl rfl (by simp) (by rw [knEnt_10 kdc_142, knUp_row]; rfl) (fun _ => (show knC (0) from ⟨by omega, by omega⟩)) (fun h => by rw [kdc_142] at h; cases h) (fun h => by rw [kdc_142] at h; cases h) dX13_removePoke_2 ?_
  refine kj_aloadn X 0 dX13_removePoke_5 rfl ?_
  refine kj_iloadn X 1 dX13_removePoke_6 rfl ?_
  refine kj_iloadn X 2 dX13_removePoke_7 rfl ?_
  obtain ⟨q1, h2, hf⟩ := knBd_inv hf
  refine kj_callV (As := [knV a1, knV a2]) (rest := []) X K (kcX13_notUnpoke l ha1 ha2 h2) knWvX13_notUnpoke (knGm 1688 (by decide +kernel) rfl) (by decide) (knKd_in kdc_142 (by decide)) (knEnt_10 kdc_142) rfl rfl rfl (Nat.le_of_ble_eq_true rfl) (by decide) dX13_removePoke_8 rfl (fun h3 => ?_)
  refine kj_istoren X (L' := [(3, knV q1.1), (0, knO G 142), (1, knV a1), (2, knV a2)]) dX13_removePoke_11 (by decide) rfl ?_
  refine kj_iloadn X 0 dX13_removePoke_12 rfl ?_
  refine kj_if_eq X (tgt := 22) dX13_removePoke_13 (by decide) h3 (fun h4 => ?_) (fun h4 => ?_)
  · replace hf := knIp hf h4
    refine kj_aloadn X 1 dX13_removePoke_22 rfl ?_
    obtain ⟨q5, h6, hf⟩ := knBd_inv hf
    refine kj_callV (As := []) (rest := []) X K (kcX13_remembers l  h6) knWvX13_remembers (knGm 1608 (by decide +kernel) rfl) (by decide) (knKd_in kdc_142 (by decide)) (knEnt_10 kdc_142) rfl rfl rfl (Nat.le_of_ble_eq_true rfl) (by decide) dX13_removePoke_23 rfl (fun h7 => ?_)
    refine kj_aloadn X 1 dX13_removePoke_26 rfl ?_
    refine kj_iloadn X 2 dX13_removePoke_27 rfl ?_
    refine kj_iloadn X 3 dX13_removePoke_28 rfl ?_
    obtain ⟨q8, h9, hf⟩ := knBd_inv hf
    refine kj_callV (As := [knV a1, knV a2]) (rest := []) X K (kcX13_unpokes l ha1 ha2 h9) knWvX13_unpokes (knGm 1696 (by decide +kernel) rfl) (by decide) (knKd_in kdc_142 (by decide)) (knEnt_10 kdc_142) rfl rfl rfl (Nat.le_of_ble_eq_true rfl) (by decide) dX13_removePoke_29 rfl (fun h10 => ?_)
    cases hf
    exact kj_iret X h10 hr dX13_removePoke_32 hlk
  · replace hf := knIq hf h4
    refine kj_aloadn X 1 dX13_removePoke_16 rfl ?_
    refine kj_iloadn X 0 dX13_removePoke_17 rfl ?_
    obtain ⟨q11, h12, hf⟩ := knBd_inv hf
    refine kj_callV (As := [knV q1.1]) (rest := []) X K (kcX13_fails l h3 h12) knWvX13_fails (knGm 1604 (by decide +kernel) rfl) (by decide) (knKd_in kdc_142 (by decide)) (knEnt_10 kdc_142) rfl rfl rfl (Nat.le_of_ble_eq_true rfl) (by decide) dX13_removePoke_18 rfl (fun h13 => ?_)
    cases hf
    exact kj_iret X h13 hr dX13_removePoke_21 hlk

def kfX13_notSwitch (a1 : Int) (μ : knMem) : Option (Int) :=
 Option.bind (kfX13_isCrossing a1 μ) (fun q1 =>
  some (if q1 = 0 then 1 else 0 : Int))

theorem knWvX13_notSwitch : knWv yX13_notSwitch cX13_notSwitch 2 (some .int) 1 := ⟨(knGm 1707 (by decide +kernel) rfl), (knGm 124 (by decide +kernel) rfl), (knGm 1706 (by decide +kernel) rfl), (knGm 58 (by decide +kernel) rfl), by decide +kernel, by decide +kernel, by decide +kernel⟩
set_option maxHeartbeats 4000000 in
set_option maxRecDepth 100000 in
theorem kcX13_notSwitch {G : knGT} (l : Launch) {a1 : Int} (ha1 : knC a1) {μ : knMem} {q : Int} (hf : kfX13_notSwitch a1 μ = some q) : knC0 G l yX13_notSwitch cX13_notSwitch 2 (some .int) 2 43 [knO G 142, knV a1] μ (knC q) (some (knV q)) μ := by
  unfold kfX13_notSwitch at hf
  refine kn_ofJ (plainFor_of_name (by decide)) (Nat.le_of_ble_eq_true rfl) (L := [(0, knO G 142), (1, knV a1)]) rfl ?_
  intro p e s m args below meth c X K hr hlk
  refine kj_aloadn X 0 dX13_notSwitch_0 rfl ?_
  refine kj_iloadn X 1 dX13_notSwitch_1 rfl ?_
  obtain ⟨q1, h2, hf⟩ := knBd_inv hf
  refine kj_callV (As := [knV a1]) (rest := []) X K (kcX13_isCrossing l ha1 h2) knWvX13_isCrossing (knGm 1644 (by decide +kernel) rfl) (by decide) (knKd_in kdc_142 (by decide)) (knEnt_10 kdc_142) rfl rfl rfl (Nat.le_of_ble_eq_true rfl) (by decide) dX13_notSwitch_2 rfl (fun h3 => ?_)
  have j5 : ∀ (t5_0 : Int) (et5_0 : t5_0 = (if q1 = 0 then 1 else 0 : Int)) (ht5_0 : knZ t5_0), knJ G p l e { frames := 2, cells := 0, slots := 0, locals := 43 } s m args below meth c 2 0 0 (MQ below (knPo G (knC q) (some (knV q)) μ) args s 0 0 (knA G)) 13 [] [knV t5_0] μ := by
    intro t5_0 et5_0 ht5_0
    subst et5_0
    cases hf
    exact kj_iret X (knZ_c ht5_0) hr dX13_notSwitch_13 hlk
  refine kj_if_eq X (tgt := 12) dX13_notSwitch_5 (by decide) (knZ_c h3) (fun h7 => ?_) (fun h7 => ?_)
  · refine kj_iconst X dX13_notSwitch_12 ?_
    refine kj_sub (L' := []) [] rfl ?_
    exact j5 1 (by rw [if_pos h7]) (Or.inr rfl)
  · refine kj_iconst X dX13_notSwitch_8 ?_
    refine kj_goto X (tgt := 13) dX13_notSwitch_9 (by decide) ?_
    refine kj_sub (L' := []) [] rfl ?_
    exact j5 0 (by rw [if_neg h7]) (Or.inl rfl)

def kfX13_switchesOne (a1 : Int) (μ : knMem) : Option (Int × knMem) :=
 Option.bind (kfX13_loads  μ) (fun q1 =>
  Option.bind (kfX13_flips a1 q1) (fun q4 =>
   Option.bind (kfX13_stores  q4) (fun q7 =>
    knGd (0 ≤ a1 ∧ a1 < 7)
     (some ((q7 149 a1), q7)))))

theorem knWvX13_switchesOne : knWv yX13_switchesOne cX13_switchesOne 2 (some .int) 1 := ⟨(knGm 1711 (by decide +kernel) rfl), (knGm 124 (by decide +kernel) rfl), (knGm 1710 (by decide +kernel) rfl), (knGm 59 (by decide +kernel) rfl), by decide +kernel, by decide +kernel, by decide +kernel⟩
set_option maxHeartbeats 4000000 in
set_option maxRecDepth 100000 in
theorem kcX13_switchesOne {G : knGT} (l : Launch) {a1 : Int} (ha1 : knC a1) {μ : knMem} {q : Int × knMem} (hf : kfX13_switchesOne a1 μ = some q) : knC0 G l yX13_switchesOne cX13_switchesOne 2 (some .int) 1 22 [knO G 142, knV a1] μ (knC q.1) (some (knV q.1)) q.2 := by
  unfold kfX13_switchesOne at hf
  refine kn_ofJ (plainFor_of_name (by decide)) (Nat.le_of_ble_eq_true rfl) (L := [(0, knO G 142), (1, knV a1)]) rfl ?_
  intro p e s m args below meth c X K hr hlk
  refine kj_aloadn X 0 dX13_switchesOne_0 rfl ?_
  obtain ⟨q1, h2, hf⟩ := knBd_inv hf
  refine kj_callV (As := []) (rest := []) X K (kcX13_loads l  h2) knWvX13_loads (knGm 1624 (by decide +kernel) rfl) (by decide) (knKd_in kdc_142 (by decide)) (knEnt_10 kdc_142) rfl rfl rfl (Nat.le_of_ble_eq_true rfl) (by decide) dX13_switchesOne_1 rfl (fun h3 => ?_)
  refine kj_aloadn X 0 dX13_switchesOne_4 rfl ?_
  refine kj_iloadn X 1 dX13_switchesOne_5 rfl ?_
  obtain ⟨q4, h5, hf⟩ := knBd_inv hf
  refine kj_callV (As := [knV a1]) (rest := []) X K (kcX13_flips l ha1 h5) knWvX13_flips (knGm 1712 (by decide +kernel) rfl) (by decide) (knKd_in kdc_142 (by decide)) (knEnt_10 kdc_142) rfl rfl rfl (Nat.le_of_ble_eq_true rfl) (by decide) dX13_switchesOne_6 rfl (fun h6 => ?_)
  refine kj_aloadn X 0 dX13_switchesOne_9 rfl ?_
  obtain ⟨q7, h8, hf⟩ := knBd_inv hf
  refine kj_callV (As := []) (rest := []) X K (kcX13_stores l  h8) knWvX13_stores (knGm 1632 (by decide +kernel) rfl) (by decide) (knKd_in kdc_142 (by decide)) (knEnt_10 kdc_142) rfl rfl rfl (Nat.le_of_ble_eq_true rfl) (by decide) dX13_switchesOne_10 rfl (fun h9 => ?_)
  refine kj_aloadn X 0 dX13_switchesOne_13 rfl ?_
  refine kj_geto (k := 11) (o2 := 149) X K kdc_142 (by decide) (knEnt_10 kdc_142) rfl (by decide) knInX13 (knGm 1515 (by decide +kernel) rfl) rfl rfl dX13_switchesOne_14 ?_
  refine kj_iloadn X 1 dX13_switchesOne_17 rfl ?_
  obtain ⟨h10, hf⟩ := knGd_inv hf
  refine kj_iald X K kdc_149 ha1 lnc_149 h10 dX13_switchesOne_18 (fun h11 => ?_)
  cases hf
  exact kj_iret X h11 hr dX13_switchesOne_19 hlk

def kfX13_switchCrossing (a1 : Int) (μ : knMem) : Option (Int × knMem) :=
 Option.bind (kfX13_notSwitch a1 (knUp μ 142 0 0)) (fun q1 =>
  if q1 = 0 then
   Option.bind (kfX13_remembers  (knUp μ 142 0 0)) (fun q5 =>
    Option.bind (kfX13_switchesOne a1 q5) (fun q8 =>
     some ((if q8.1 = 1 then 1 else 0 : Int), q8.2)))
  else
   Option.bind (kfX13_fails 1 (knUp μ 142 0 0)) (fun q15 =>
    some ((if q15.1 ≤ 0 then 0 else 1 : Int), q15.2)))

theorem knWvX13_switchCrossing : knWv yX13_switchCrossing cX13_switchCrossing 2 (some .boolean) 1 := ⟨(knGm 1703 (by decide +kernel) rfl), (knGm 124 (by decide +kernel) rfl), (knGm 1701 (by decide +kernel) rfl), (knGm 1702 (by decide +kernel) rfl), by decide +kernel, by decide +kernel, by decide +kernel⟩
set_option maxHeartbeats 4000000 in
set_option maxRecDepth 100000 in
theorem kcX13_switchCrossing {G : knGT} (l : Launch) {a1 : Int} (ha1 : knC a1) {μ : knMem} {q : Int × knMem} (hf : kfX13_switchCrossing a1 μ = some q) : knC0 G l yX13_switchCrossing cX13_switchCrossing 2 (some .boolean) 3 64 [knO G 142, knV a1] μ (knZ q.1) (some (knV q.1)) q.2 := by
  unfold kfX13_switchCrossing at hf
  refine kn_ofJ (plainFor_of_name (by decide)) (Nat.le_of_ble_eq_true rfl) (L := [(0, knO G 142), (1, knV a1)]) rfl ?_
  intro p e s m args below meth c X K hr hlk
  refine kj_aloadn X 0 dX13_switchCrossing_0 rfl ?_
  refine kj_iconst X dX13_switchCrossing_1 ?_
  refine kj_putf (k := 0) (ki := 0) (x := 0) (ty := .int) X K rfl (knKd_in kdc_142 (by decide)) (knEnt_10 kdc_142) rfl (by decide) knInX13 tyX13_ok nmX13 (knGm 1504 (by decide +kernel) rfl) rfl rfl (by decide +kernel) rfl rfl (by simp) (by rw [knEnt_10 kdc_142, knUp_row]; rfl) (fun _ => (show knC (0) from ⟨by omega, by omega⟩)) (fun h => by rw [kdc_142] at h; cases h) (fun h => by rw [kdc_142] at h; cases h) dX13_switchCrossing_2 ?_
  refine kj_aloadn X 0 dX13_switchCrossing_5 rfl ?_
  refine kj_iloadn X 1 dX13_switchCrossing_6 rfl ?_
  obtain ⟨q1, h2, hf⟩ := knBd_inv hf
  refine kj_callV (As := [knV a1]) (rest := []) X K (kcX13_notSwitch l ha1 h2) knWvX13_notSwitch (knGm 1704 (by decide +kernel) rfl) (by decide) (knKd_in kdc_142 (by decide)) (knEnt_10 kdc_142) rfl rfl rfl (Nat.le_of_ble_eq_true rfl) (by decide) dX13_switchCrossing_7 rfl (fun h3 => ?_)
  refine kj_if_eq X (tgt := 27) dX13_switchCrossing_10 (by decide) h3 (fun h4 => ?_) (fun h4 => ?_)
  · replace hf := knIp hf h4
    refine kj_aloadn X 0 dX13_switchCrossing_27 rfl ?_
    obtain ⟨q5, h6, hf⟩ := knBd_inv hf
    refine kj_callV (As := []) (rest := []) X K (kcX13_remembers l  h6) knWvX13_remembers (knGm 1608 (by decide +kernel) rfl) (by decide) (knKd_in kdc_142 (by decide)) (knEnt_10 kdc_142) rfl rfl rfl (Nat.le_of_ble_eq_true rfl) (by decide) dX13_switchCrossing_28 rfl (fun h7 => ?_)
    refine kj_aloadn X 0 dX13_switchCrossing_31 rfl ?_
    refine kj_iloadn X 1 dX13_switchCrossing_32 rfl ?_
    obtain ⟨q8, h9, hf⟩ := knBd_inv hf
    refine kj_callV (As := [knV a1]) (rest := []) X K (kcX13_switchesOne l ha1 h9) knWvX13_switchesOne (knGm 1708 (by decide +kernel) rfl) (by decide) (knKd_in kdc_142 (by decide)) (knEnt_10 kdc_142) rfl rfl rfl (Nat.le_of_ble_eq_true rfl) (by decide) dX13_switchCrossing_33 rfl (fun h10 => ?_)
    refine kj_iconst X dX13_switchCrossing_36 ?_
    have j12 : ∀ (t12_0 : Int) (et12_0 : t12_0 = (if q8.1 = 1 then 1 else 0 : Int)) (ht12_0 : knZ t12_0), knJ G p l e { frames := 3, cells := 0, slots := 0, locals := 64 } s m args below meth c 2 0 0 (MQ below (knPo G (knZ q.1) (some (knV q.1)) q.2) args s 0 0 (knA G)) 45 [] [knV t12_0] q8.2 := by
      intro t12_0 et12_0 ht12_0
      subst et12_0
      cases hf
      exact kj_zret X ht12_0 hr (kn_nb ht12_0) dX13_switchCrossing_45 hlk
    refine kj_ic_ne X (tgt := 44) dX13_switchCrossing_37 (by decide) h10 (show knC (1) from ⟨by omega, by omega⟩) (fun h14 => ?_) (fun h14 => ?_)
    · refine kj_iconst X dX13_switchCrossing_44 ?_
      refine kj_sub (L' := []) [] rfl ?_
      exact j12 0 (by rw [if_neg h14]) (Or.inl rfl)
    · refine kj_iconst X dX13_switchCrossing_40 ?_
      refine kj_goto X (tgt := 45) dX13_switchCrossing_41 (by decide) ?_
      refine kj_sub (L' := []) [] rfl ?_
      exact j12 1 (by rw [if_pos h14]) (Or.inr rfl)
  · replace hf := knIq hf h4
    refine kj_aloadn X 0 dX13_switchCrossing_13 rfl ?_
    refine kj_iconst X dX13_switchCrossing_14 ?_
    obtain ⟨q15, h16, hf⟩ := knBd_inv hf
    refine kj_callV (As := [knV 1]) (rest := []) X K (kcX13_fails l (show knC (1) from ⟨by omega, by omega⟩) h16) knWvX13_fails (knGm 1604 (by decide +kernel) rfl) (by decide) (knKd_in kdc_142 (by decide)) (knEnt_10 kdc_142) rfl rfl rfl (Nat.le_of_ble_eq_true rfl) (by decide) dX13_switchCrossing_15 rfl (fun h17 => ?_)
    have j19 : ∀ (t19_0 : Int) (et19_0 : t19_0 = (if q15.1 ≤ 0 then 0 else 1 : Int)) (ht19_0 : knZ t19_0), knJ G p l e { frames := 3, cells := 0, slots := 0, locals := 64 } s m args below meth c 2 0 0 (MQ below (knPo G (knZ q.1) (some (knV q.1)) q.2) args s 0 0 (knA G)) 26 [] [knV t19_0] q15.2 := by
      intro t19_0 et19_0 ht19_0
      subst et19_0
      cases hf
      exact kj_zret X ht19_0 hr (kn_nb ht19_0) dX13_switchCrossing_26 hlk
    refine kj_if_le X (tgt := 25) dX13_switchCrossing_18 (by decide) h17 (fun h21 => ?_) (fun h21 => ?_)
    · refine kj_iconst X dX13_switchCrossing_25 ?_
      refine kj_sub (L' := []) [] rfl ?_
      exact j19 0 (by rw [if_pos h21]) (Or.inl rfl)
    · refine kj_iconst X dX13_switchCrossing_21 ?_
      refine kj_goto X (tgt := 26) dX13_switchCrossing_22 (by decide) ?_
      refine kj_sub (L' := []) [] rfl ?_
      exact j19 1 (by rw [if_neg h21]) (Or.inr rfl)

def kfX13_turns_l4   (μ : knMem) (kc : (Int) → Option (Int)) : Nat → Int → Int → Option (Int)
  | 0, _, _ => none
  | n + 1, x1, x2 =>
    if (μ 142 8) ≤ x2 then
     kc x1
    else
     knGd (0 ≤ x2 ∧ x2 < 7)
      (kfX13_turns_l4   μ kc n (knW (x1 + (knW ((knW (2 * (μ 149 x2))) - 1)))) (knW (x2 + 1)))

def kfX13_turns  (μ : knMem) : Option (Int) :=
 kfX13_turns_l4  μ (fun w5 =>
  some w5) knF 0 0

theorem knWvX13_turns : knWv yX13_turns cX13_turns 3 (some .int) 0 := ⟨(knGm 1727 (by decide +kernel) rfl), (knGm 124 (by decide +kernel) rfl), (knGm 1726 (by decide +kernel) rfl), (knGm 62 (by decide +kernel) rfl), by decide +kernel, by decide +kernel, by decide +kernel⟩
set_option maxHeartbeats 4000000 in
set_option maxRecDepth 100000 in
theorem kfX13_turns_l4_ok {q : Int} {kc : (Int) → Option (Int)} {G : knGT} {p : Program} {l : Launch} {e : Env} {s : State} {m : MethodId} {args : Array Value} {below : List Frame} {meth : Method} {c : Code} (X : knX p m c cX13_turns 3 s args yX13_turns.cls) (K : knK G s s.heap) (hr : meth.sig.returnType = (some .int)) (hlk : meth.locks = false)   (μ : knMem) (hk : ∀ (y1 : Int) (hy1 : knC y1), kc y1 = some q → knJ G p l e { frames := 0, cells := 0, slots := 0, locals := 0 } s m args below meth c 3 0 0 (MQ below (knPo G (knC q) (some (knV q)) μ) args s 0 0 (knA G)) 31 [(1, knV y1)] [] μ) : ∀ (n : Nat) (x1 : Int) (hx1 : knC x1) (x2 : Int) (hx2 : knC x2) , kfX13_turns_l4   μ kc n x1 x2 = some q → knJ G p l e { frames := 0, cells := 0, slots := 0, locals := 0 } s m args below meth c 3 0 0 (MQ below (knPo G (knC q) (some (knV q)) μ) args s 0 0 (knA G)) 4 [(0, knO G 142), (1, knV x1), (2, knV x2)] [] μ := by
  intro n
  induction n with
  | zero => intro x1 hx1 x2 hx2 hf; cases hf
  | succ n ih =>
    intro x1 hx1 x2 hx2 hf
    unfold kfX13_turns_l4 at hf
    refine kj_iloadn X 2 dX13_turns_4 rfl ?_
    refine kj_aloadn X 0 dX13_turns_5 rfl ?_
    refine kj_geti (k := 8) (ki := 8) X K rfl kdc_142 (by decide) (knEnt_10 kdc_142) rfl (by decide) knInX13 (knGm 1512 (by decide +kernel) rfl) rfl rfl dX13_turns_6 (fun h1 => ?_)
    refine kj_ic_ge X (tgt := 31) dX13_turns_9 (by decide) hx2 h1 (fun h2 => ?_) (fun h2 => ?_)
    · replace hf := knIp hf h2
      refine kj_sub (L' := [(1, knV x1)]) [1] rfl ?_
      exact hk _ hx1 hf
    · replace hf := knIq hf h2
      refine kj_iloadn X 1 dX13_turns_12 rfl ?_
      refine kj_iconst X dX13_turns_13 ?_
      refine kj_aloadn X 0 dX13_turns_14 rfl ?_
      refine kj_geto (k := 11) (o2 := 149) X K kdc_142 (by decide) (knEnt_10 kdc_142) rfl (by decide) knInX13 (knGm 1515 (by decide +kernel) rfl) rfl rfl dX13_turns_15 ?_
      refine kj_iloadn X 2 dX13_turns_18 rfl ?_
      obtain ⟨h3, hf⟩ := knGd_inv hf
      refine kj_iald X K kdc_149 hx2 lnc_149 h3 dX13_turns_19 (fun h4 => ?_)
      refine kj_imul X dX13_turns_20 ?_
      refine kj_iconst X dX13_turns_21 ?_
      refine kj_isub X dX13_turns_22 ?_
      refine kj_iadd X dX13_turns_23 ?_
      refine kj_istoren X (L' := [(1, knV (knW (x1 + (knW ((knW (2 * (μ 149 x2))) - 1))))), (0, knO G 142), (2, knV x2)]) dX13_turns_24 (by decide) rfl ?_
      refine kj_iinc X 2 (L' := [(2, knV (knW (x2 + 1))), (1, knV (knW (x1 + (knW ((knW (2 * (μ 149 x2))) - 1))))), (0, knO G 142)]) dX13_turns_25 rfl (by decide) rfl ?_
      refine kj_goto X (tgt := 4) dX13_turns_28 (by decide) ?_
      refine kj_sub (L' := [(0, knO G 142), (1, knV (knW (x1 + (knW ((knW (2 * (μ 149 x2))) - 1))))), (2, knV (knW (x2 + 1)))]) [2, 1, 0] rfl ?_
      exact ih _ (knCw _) _ (knCw _)  hf

set_option maxHeartbeats 4000000 in
set_option maxRecDepth 100000 in
theorem kcX13_turns {G : knGT} (l : Launch)   {μ : knMem} {q : Int} (hf : kfX13_turns  μ = some q) : knC0 G l yX13_turns cX13_turns 3 (some .int) 0 0 [knO G 142] μ (knC q) (some (knV q)) μ := by
  unfold kfX13_turns at hf
  refine kn_ofJ (plainFor_of_name (by decide)) (Nat.le_of_ble_eq_true rfl) (L := [(0, knO G 142)]) rfl ?_
  intro p e s m args below meth c X K hr hlk
  refine kj_iconst X dX13_turns_0 ?_
  refine kj_istoren X (L' := [(1, knV 0), (0, knO G 142)]) dX13_turns_1 (by decide) rfl ?_
  refine kj_iconst X dX13_turns_2 ?_
  refine kj_istoren X (L' := [(2, knV 0), (1, knV 0), (0, knO G 142)]) dX13_turns_3 (by decide) rfl ?_
  refine kj_sub (L' := [(0, knO G 142), (1, knV 0), (2, knV 0)]) [2, 1, 0] rfl ?_
  refine kfX13_turns_l4_ok X K hr hlk   μ ?_ knF _ (show knC (0) from ⟨by omega, by omega⟩) _ (show knC (0) from ⟨by omega, by omega⟩)  hf
  intro w5_0 hw5_0
  intro hf
  refine kj_iloadn X 0 dX13_turns_31 rfl ?_
  cases hf
  exact kj_iret X hw5_0 hr dX13_turns_32 hlk

def kfX13_mirrors_l6    (kc : (knMem) → Option (Int × knMem)) : Nat → Int → knMem → Option (Int × knMem)
  | 0, _, _ => none
  | n + 1, x1, μ =>
    if (μ 142 8) ≤ x1 then
     kc μ
    else
     Option.bind (kfX13_flips x1 μ) (fun q6 =>
      kfX13_mirrors_l6   kc n (knW (x1 + 1)) q6)

def kfX13_mirrors  (μ : knMem) : Option (Int × knMem) :=
 Option.bind (kfX13_loads  μ) (fun q1 =>
  kfX13_mirrors_l6   (fun w9 =>
   Option.bind (kfX13_stores  w9) (fun q10 =>
    Option.bind (kfX13_turns  q10) (fun q13 =>
     some (q13, q10)))) knF 0 q1)

theorem knWvX13_mirrors : knWv yX13_mirrors cX13_mirrors 2 (some .int) 0 := ⟨(knGm 1723 (by decide +kernel) rfl), (knGm 124 (by decide +kernel) rfl), (knGm 1722 (by decide +kernel) rfl), (knGm 61 (by decide +kernel) rfl), by decide +kernel, by decide +kernel, by decide +kernel⟩
set_option maxHeartbeats 4000000 in
set_option maxRecDepth 100000 in
theorem kfX13_mirrors_l6_ok {q : Int × knMem} {kc : (knMem) → Option (Int × knMem)} {G : knGT} {p : Program} {l : Launch} {e : Env} {s : State} {m : MethodId} {args : Array Value} {below : List Frame} {meth : Method} {c : Code} (X : knX p m c cX13_mirrors 2 s args yX13_mirrors.cls) (K : knK G s s.heap) (hr : meth.sig.returnType = (some .int)) (hlk : meth.locks = false)    (hk : ∀ (μ1 : knMem), kc μ1 = some q → knJ G p l e { frames := 1, cells := 0, slots := 0, locals := 22 } s m args below meth c 2 0 0 (MQ below (knPo G (knC q.1) (some (knV q.1)) q.2) args s 0 0 (knA G)) 25 [(0, knO G 142)] [] μ1) : ∀ (n : Nat) (x1 : Int) (hx1 : knC x1) (μ : knMem), kfX13_mirrors_l6   kc n x1 μ = some q → knJ G p l e { frames := 1, cells := 0, slots := 0, locals := 22 } s m args below meth c 2 0 0 (MQ below (knPo G (knC q.1) (some (knV q.1)) q.2) args s 0 0 (knA G)) 6 [(0, knO G 142), (1, knV x1)] [] μ := by
  intro n
  induction n with
  | zero => intro x1 hx1 μ hf; cases hf
  | succ n ih =>
    intro x1 hx1 μ hf
    unfold kfX13_mirrors_l6 at hf
    refine kj_iloadn X 1 dX13_mirrors_6 rfl ?_
    refine kj_aloadn X 0 dX13_mirrors_7 rfl ?_
    refine kj_geti (k := 8) (ki := 8) X K rfl kdc_142 (by decide) (knEnt_10 kdc_142) rfl (by decide) knInX13 (knGm 1512 (by decide +kernel) rfl) rfl rfl dX13_mirrors_8 (fun h4 => ?_)
    refine kj_ic_ge X (tgt := 25) dX13_mirrors_11 (by decide) hx1 h4 (fun h5 => ?_) (fun h5 => ?_)
    · replace hf := knIp hf h5
      refine kj_sub (L' := [(0, knO G 142)]) [0] rfl ?_
      exact hk _ hf
    · replace hf := knIq hf h5
      refine kj_aloadn X 0 dX13_mirrors_14 rfl ?_
      refine kj_iloadn X 1 dX13_mirrors_15 rfl ?_
      obtain ⟨q6, h7, hf⟩ := knBd_inv hf
      refine kj_callV (As := [knV x1]) (rest := []) X K (kcX13_flips l hx1 h7) knWvX13_flips (knGm 1712 (by decide +kernel) rfl) (by decide) (knKd_in kdc_142 (by decide)) (knEnt_10 kdc_142) rfl rfl rfl (Nat.le_of_ble_eq_true rfl) (by decide) dX13_mirrors_16 rfl (fun h8 => ?_)
      refine kj_iinc X 1 (L' := [(1, knV (knW (x1 + 1))), (0, knO G 142)]) dX13_mirrors_19 rfl (by decide) rfl ?_
      refine kj_goto X (tgt := 6) dX13_mirrors_22 (by decide) ?_
      refine kj_sub (L' := [(0, knO G 142), (1, knV (knW (x1 + 1)))]) [1, 0] rfl ?_
      exact ih _ (knCw _) _ hf

set_option maxHeartbeats 4000000 in
set_option maxRecDepth 100000 in
theorem kcX13_mirrors {G : knGT} (l : Launch)   {μ : knMem} {q : Int × knMem} (hf : kfX13_mirrors  μ = some q) : knC0 G l yX13_mirrors cX13_mirrors 2 (some .int) 1 22 [knO G 142] μ (knC q.1) (some (knV q.1)) q.2 := by
  unfold kfX13_mirrors at hf
  refine kn_ofJ (plainFor_of_name (by decide)) (Nat.le_of_ble_eq_true rfl) (L := [(0, knO G 142)]) rfl ?_
  intro p e s m args below meth c X K hr hlk
  refine kj_aloadn X 0 dX13_mirrors_0 rfl ?_
  obtain ⟨q1, h2, hf⟩ := knBd_inv hf
  refine kj_callV (As := []) (rest := []) X K (kcX13_loads l  h2) knWvX13_loads (knGm 1624 (by decide +kernel) rfl) (by decide) (knKd_in kdc_142 (by decide)) (knEnt_10 kdc_142) rfl rfl rfl (Nat.le_of_ble_eq_true rfl) (by decide) dX13_mirrors_1 rfl (fun h3 => ?_)
  refine kj_iconst X dX13_mirrors_4 ?_
  refine kj_istoren X (L' := [(1, knV 0), (0, knO G 142)]) dX13_mirrors_5 (by decide) rfl ?_
  refine kj_sub (L' := [(0, knO G 142), (1, knV 0)]) [1, 0] rfl ?_
  refine kfX13_mirrors_l6_ok X K hr hlk    ?_ knF _ (show knC (0) from ⟨by omega, by omega⟩) _ hf
  intro w9_m
  intro hf
  refine kj_aloadn X 0 dX13_mirrors_25 rfl ?_
  obtain ⟨q16, h17, hf⟩ := knBd_inv hf
  refine kj_callV (As := []) (rest := []) X K (kcX13_stores l  h17) knWvX13_stores (knGm 1632 (by decide +kernel) rfl) (by decide) (knKd_in kdc_142 (by decide)) (knEnt_10 kdc_142) rfl rfl rfl (Nat.le_of_ble_eq_true rfl) (by decide) dX13_mirrors_26 rfl (fun h18 => ?_)
  refine kj_aloadn X 0 dX13_mirrors_29 rfl ?_
  obtain ⟨q19, h20, hf⟩ := knBd_inv hf
  refine kj_callV (As := []) (rest := []) X K (kcX13_turns l  h20) knWvX13_turns (knGm 1724 (by decide +kernel) rfl) (by decide) (knKd_in kdc_142 (by decide)) (knEnt_10 kdc_142) rfl rfl rfl (Nat.le_of_ble_eq_true rfl) (by decide) dX13_mirrors_30 rfl (fun h21 => ?_)
  cases hf
  exact kj_iret X h21 hr dX13_mirrors_33 hlk

def kfX13_mirror  (μ : knMem) : Option (Int × knMem) :=
 Option.bind (kfX13_remembers  (knUp μ 142 0 0)) (fun q1 =>
  Option.bind (kfX13_mirrors  q1) (fun q4 =>
   some (q4.1, q4.2)))

theorem knWvX13_mirror : knWv yX13_mirror cX13_mirror 1 (some .int) 0 := ⟨(knGm 1719 (by decide +kernel) rfl), (knGm 124 (by decide +kernel) rfl), (knGm 1717 (by decide +kernel) rfl), (knGm 1718 (by decide +kernel) rfl), by decide +kernel, by decide +kernel, by decide +kernel⟩
set_option maxHeartbeats 4000000 in
set_option maxRecDepth 100000 in
theorem kcX13_mirror {G : knGT} (l : Launch)   {μ : knMem} {q : Int × knMem} (hf : kfX13_mirror  μ = some q) : knC0 G l yX13_mirror cX13_mirror 1 (some .int) 2 43 [knO G 142] μ (knC q.1) (some (knV q.1)) q.2 := by
  unfold kfX13_mirror at hf
  refine kn_ofJ (plainFor_of_name (by decide)) (Nat.le_of_ble_eq_true rfl) (L := [(0, knO G 142)]) rfl ?_
  intro p e s m args below meth c X K hr hlk
  refine kj_aloadn X 0 dX13_mirror_0 rfl ?_
  refine kj_iconst X dX13_mirror_1 ?_
  refine kj_putf (k := 0) (ki := 0) (x := 0) (ty := .int) X K rfl (knKd_in kdc_142 (by decide)) (knEnt_10 kdc_142) rfl (by decide) knInX13 tyX13_ok nmX13 (knGm 1504 (by decide +kernel) rfl) rfl rfl (by decide +kernel) rfl rfl (by simp) (by rw [knEnt_10 kdc_142, knUp_row]; rfl) (fun _ => (show knC (0) from ⟨by omega, by omega⟩)) (fun h => by rw [kdc_142] at h; cases h) (fun h => by rw [kdc_142] at h; cases h) dX13_mirror_2 ?_
  refine kj_aloadn X 0 dX13_mirror_5 rfl ?_
  obtain ⟨q1, h2, hf⟩ := knBd_inv hf
  refine kj_callV (As := []) (rest := []) X K (kcX13_remembers l  h2) knWvX13_remembers (knGm 1608 (by decide +kernel) rfl) (by decide) (knKd_in kdc_142 (by decide)) (knEnt_10 kdc_142) rfl rfl rfl (Nat.le_of_ble_eq_true rfl) (by decide) dX13_mirror_6 rfl (fun h3 => ?_)
  refine kj_aloadn X 0 dX13_mirror_9 rfl ?_
  obtain ⟨q4, h5, hf⟩ := knBd_inv hf
  refine kj_callV (As := []) (rest := []) X K (kcX13_mirrors l  h5) knWvX13_mirrors (knGm 1720 (by decide +kernel) rfl) (by decide) (knKd_in kdc_142 (by decide)) (knEnt_10 kdc_142) rfl rfl rfl (Nat.le_of_ble_eq_true rfl) (by decide) dX13_mirror_10 rfl (fun h6 => ?_)
  cases hf
  exact kj_iret X h6 hr dX13_mirror_13 hlk

def kfX13_reverses_l6    (kc : (knMem) → Option (Int × knMem)) : Nat → Int → knMem → Option (Int × knMem)
  | 0, _, _ => none
  | n + 1, x1, μ =>
    if (μ 142 8) ≤ x1 then
     kc μ
    else
     knGd (0 ≤ x1 ∧ x1 < 14)
      (knGd (0 ≤ (knW ((knW ((knW (2 * (μ 142 8))) - 1)) - x1)) ∧ (knW ((knW ((knW (2 * (μ 142 8))) - 1)) - x1)) < 14)
      (kfX13_reverses_l6   kc n (knW (x1 + 1)) (knUp (knUp (knUp (knUp μ 147 x1 (μ 147 (knW ((knW ((knW (2 * (μ 142 8))) - 1)) - x1)))) 148 x1 ((knUp μ 147 x1 (μ 147 (knW ((knW ((knW (2 * (μ 142 8))) - 1)) - x1)))) 148 (knW ((knW ((knW (2 * (μ 142 8))) - 1)) - x1)))) 147 (knW ((knW ((knW (2 * (μ 142 8))) - 1)) - x1)) (μ 147 x1)) 148 (knW ((knW ((knW (2 * (μ 142 8))) - 1)) - x1)) (μ 148 x1))))

def kfX13_reverses  (μ : knMem) : Option (Int × knMem) :=
 Option.bind (kfX13_loads  μ) (fun q1 =>
  kfX13_reverses_l6   (fun w13 =>
   Option.bind (kfX13_stores  w13) (fun q14 =>
    Option.bind (α := Int)
     (if (q14 142 8) = 0 then
      some (-1)
     else
      knGd ((0 : Int) ≤ 0 ∧ (0 : Int) < 14)
       (some (q14 147 0)))
     (fun q21 =>
     some (q21, q14)))) knF 0 q1)

theorem knWvX13_reverses : knWv yX13_reverses cX13_reverses 5 (some .int) 0 := ⟨(knGm 1735 (by decide +kernel) rfl), (knGm 124 (by decide +kernel) rfl), (knGm 1734 (by decide +kernel) rfl), (knGm 63 (by decide +kernel) rfl), by decide +kernel, by decide +kernel, by decide +kernel⟩
set_option maxHeartbeats 4000000 in
set_option maxRecDepth 100000 in
theorem kfX13_reverses_l6_ok {q : Int × knMem} {kc : (knMem) → Option (Int × knMem)} {G : knGT} {p : Program} {l : Launch} {e : Env} {s : State} {m : MethodId} {args : Array Value} {below : List Frame} {meth : Method} {c : Code} (X : knX p m c cX13_reverses 5 s args yX13_reverses.cls) (K : knK G s s.heap) (hr : meth.sig.returnType = (some .int)) (hlk : meth.locks = false)    (hk : ∀ (μ1 : knMem), kc μ1 = some q → knJ G p l e { frames := 1, cells := 0, slots := 0, locals := 21 } s m args below meth c 5 0 0 (MQ below (knPo G (knC q.1) (some (knV q.1)) q.2) args s 0 0 (knA G)) 85 [(0, knO G 142)] [] μ1) : ∀ (n : Nat) (x1 : Int) (hx1 : knC x1) (μ : knMem), kfX13_reverses_l6   kc n x1 μ = some q → knJ G p l e { frames := 1, cells := 0, slots := 0, locals := 21 } s m args below meth c 5 0 0 (MQ below (knPo G (knC q.1) (some (knV q.1)) q.2) args s 0 0 (knA G)) 6 [(0, knO G 142), (1, knV x1)] [] μ := by
  intro n
  induction n with
  | zero => intro x1 hx1 μ hf; cases hf
  | succ n ih =>
    intro x1 hx1 μ hf
    unfold kfX13_reverses_l6 at hf
    refine kj_iloadn X 1 dX13_reverses_6 rfl ?_
    refine kj_aloadn X 0 dX13_reverses_7 rfl ?_
    refine kj_geti (k := 8) (ki := 8) X K rfl kdc_142 (by decide) (knEnt_10 kdc_142) rfl (by decide) knInX13 (knGm 1512 (by decide +kernel) rfl) rfl rfl dX13_reverses_8 (fun h4 => ?_)
    refine kj_ic_ge X (tgt := 85) dX13_reverses_11 (by decide) hx1 h4 (fun h5 => ?_) (fun h5 => ?_)
    · replace hf := knIp hf h5
      refine kj_sub (L' := [(0, knO G 142)]) [0] rfl ?_
      exact hk _ hf
    · replace hf := knIq hf h5
      refine kj_iconst X dX13_reverses_14 ?_
      refine kj_aloadn X 0 dX13_reverses_15 rfl ?_
      refine kj_geti (k := 8) (ki := 8) X K rfl kdc_142 (by decide) (knEnt_10 kdc_142) rfl (by decide) knInX13 (knGm 1512 (by decide +kernel) rfl) rfl rfl dX13_reverses_16 (fun h6 => ?_)
      refine kj_imul X dX13_reverses_19 ?_
      refine kj_iconst X dX13_reverses_20 ?_
      refine kj_isub X dX13_reverses_21 ?_
      refine kj_iloadn X 1 dX13_reverses_22 rfl ?_
      refine kj_isub X dX13_reverses_23 ?_
      refine kj_istoren X (L' := [(2, knV (knW ((knW ((knW (2 * (μ 142 8))) - 1)) - x1))), (0, knO G 142), (1, knV x1)]) dX13_reverses_24 (by decide) rfl ?_
      refine kj_aloadn X 1 dX13_reverses_25 rfl ?_
      refine kj_geto (k := 9) (o2 := 147) X K kdc_142 (by decide) (knEnt_10 kdc_142) rfl (by decide) knInX13 (knGm 1513 (by decide +kernel) rfl) rfl rfl dX13_reverses_26 ?_
      refine kj_iloadn X 2 dX13_reverses_29 rfl ?_
      obtain ⟨h7, hf⟩ := knGd_inv hf
      refine kj_iald X K kdc_147 hx1 lnc_147 h7 dX13_reverses_30 (fun h8 => ?_)
      refine kj_istoren X (L' := [(3, knV (μ 147 x1)), (2, knV (knW ((knW ((knW (2 * (μ 142 8))) - 1)) - x1))), (0, knO G 142), (1, knV x1)]) dX13_reverses_31 (by decide) rfl ?_
      refine kj_aloadn X 2 dX13_reverses_32 rfl ?_
      refine kj_geto (k := 10) (o2 := 148) X K kdc_142 (by decide) (knEnt_10 kdc_142) rfl (by decide) knInX13 (knGm 1514 (by decide +kernel) rfl) rfl rfl dX13_reverses_33 ?_
      refine kj_iloadn X 3 dX13_reverses_36 rfl ?_
      refine kj_iald X K kdc_148 hx1 lnc_148 h7 dX13_reverses_37 (fun h9 => ?_)
      refine kj_istore X (L' := [(4, knV (μ 148 x1)), (3, knV (μ 147 x1)), (2, knV (knW ((knW ((knW (2 * (μ 142 8))) - 1)) - x1))), (0, knO G 142), (1, knV x1)]) dX13_reverses_38 (by decide) rfl ?_
      refine kj_aloadn X 3 dX13_reverses_40 rfl ?_
      refine kj_geto (k := 9) (o2 := 147) X K kdc_142 (by decide) (knEnt_10 kdc_142) rfl (by decide) knInX13 (knGm 1513 (by decide +kernel) rfl) rfl rfl dX13_reverses_41 ?_
      refine kj_iloadn X 4 dX13_reverses_44 rfl ?_
      refine kj_aloadn X 3 dX13_reverses_45 rfl ?_
      refine kj_geto (k := 9) (o2 := 147) X K kdc_142 (by decide) (knEnt_10 kdc_142) rfl (by decide) knInX13 (knGm 1513 (by decide +kernel) rfl) rfl rfl dX13_reverses_46 ?_
      refine kj_iloadn X 2 dX13_reverses_49 rfl ?_
      obtain ⟨h10, hf⟩ := knGd_inv hf
      refine kj_iald X K kdc_147 (knCw _) lnc_147 h10 dX13_reverses_50 (fun h11 => ?_)
      refine kj_iast X K kdc_147 hx1 h11 lnc_147 h7 dX13_reverses_51 ?_
      refine kj_aloadn X 3 dX13_reverses_52 rfl ?_
      refine kj_geto (k := 10) (o2 := 148) X K kdc_142 (by decide) (knEnt_10 kdc_142) rfl (by decide) knInX13 (knGm 1514 (by decide +kernel) rfl) rfl rfl dX13_reverses_53 ?_
      refine kj_iloadn X 4 dX13_reverses_56 rfl ?_
      refine kj_aloadn X 3 dX13_reverses_57 rfl ?_
      refine kj_geto (k := 10) (o2 := 148) X K kdc_142 (by decide) (knEnt_10 kdc_142) rfl (by decide) knInX13 (knGm 1514 (by decide +kernel) rfl) rfl rfl dX13_reverses_58 ?_
      refine kj_iloadn X 2 dX13_reverses_61 rfl ?_
      refine kj_iald X K kdc_148 (knCw _) lnc_148 h10 dX13_reverses_62 (fun h12 => ?_)
      refine kj_iast X K kdc_148 hx1 h12 lnc_148 h7 dX13_reverses_63 ?_
      refine kj_aloadn X 3 dX13_reverses_64 rfl ?_
      refine kj_geto (k := 9) (o2 := 147) X K kdc_142 (by decide) (knEnt_10 kdc_142) rfl (by decide) knInX13 (knGm 1513 (by decide +kernel) rfl) rfl rfl dX13_reverses_65 ?_
      refine kj_iloadn X 2 dX13_reverses_68 rfl ?_
      refine kj_iloadn X 1 dX13_reverses_69 rfl ?_
      refine kj_iast X K kdc_147 (knCw _) h8 lnc_147 h10 dX13_reverses_70 ?_
      refine kj_aloadn X 3 dX13_reverses_71 rfl ?_
      refine kj_geto (k := 10) (o2 := 148) X K kdc_142 (by decide) (knEnt_10 kdc_142) rfl (by decide) knInX13 (knGm 1514 (by decide +kernel) rfl) rfl rfl dX13_reverses_72 ?_
      refine kj_iloadn X 2 dX13_reverses_75 rfl ?_
      refine kj_iload X 0 dX13_reverses_76 rfl ?_
      refine kj_iast X K kdc_148 (knCw _) h9 lnc_148 h10 dX13_reverses_78 ?_
      refine kj_iinc X 4 (L' := [(1, knV (knW (x1 + 1))), (4, knV (μ 148 x1)), (3, knV (μ 147 x1)), (2, knV (knW ((knW ((knW (2 * (μ 142 8))) - 1)) - x1))), (0, knO G 142)]) dX13_reverses_79 rfl (by decide) rfl ?_
      refine kj_goto X (tgt := 6) dX13_reverses_82 (by decide) ?_
      refine kj_sub (L' := [(0, knO G 142), (1, knV (knW (x1 + 1)))]) [4, 0] rfl ?_
      exact ih _ (knCw _) _ hf

set_option maxHeartbeats 4000000 in
set_option maxRecDepth 100000 in
theorem kcX13_reverses {G : knGT} (l : Launch)   {μ : knMem} {q : Int × knMem} (hf : kfX13_reverses  μ = some q) : knC0 G l yX13_reverses cX13_reverses 5 (some .int) 1 21 [knO G 142] μ (knC q.1) (some (knV q.1)) q.2 := by
  unfold kfX13_reverses at hf
  refine kn_ofJ (plainFor_of_name (by decide)) (Nat.le_of_ble_eq_true rfl) (L := [(0, knO G 142)]) rfl ?_
  intro p e s m args below meth c X K hr hlk
  refine kj_aloadn X 0 dX13_reverses_0 rfl ?_
  obtain ⟨q1, h2, hf⟩ := knBd_inv hf
  refine kj_callV (As := []) (rest := []) X K (kcX13_loads l  h2) knWvX13_loads (knGm 1624 (by decide +kernel) rfl) (by decide) (knKd_in kdc_142 (by decide)) (knEnt_10 kdc_142) rfl rfl rfl (Nat.le_of_ble_eq_true rfl) (by decide) dX13_reverses_1 rfl (fun h3 => ?_)
  refine kj_iconst X dX13_reverses_4 ?_
  refine kj_istoren X (L' := [(1, knV 0), (0, knO G 142)]) dX13_reverses_5 (by decide) rfl ?_
  refine kj_sub (L' := [(0, knO G 142), (1, knV 0)]) [1, 0] rfl ?_
  refine kfX13_reverses_l6_ok X K hr hlk    ?_ knF _ (show knC (0) from ⟨by omega, by omega⟩) _ hf
  intro w13_m
  intro hf
  refine kj_aloadn X 0 dX13_reverses_85 rfl ?_
  obtain ⟨q26, h27, hf⟩ := knBd_inv hf
  refine kj_callV (As := []) (rest := []) X K (kcX13_stores l  h27) knWvX13_stores (knGm 1632 (by decide +kernel) rfl) (by decide) (knKd_in kdc_142 (by decide)) (knEnt_10 kdc_142) rfl rfl rfl (Nat.le_of_ble_eq_true rfl) (by decide) dX13_reverses_86 rfl (fun h28 => ?_)
  refine kj_aloadn X 0 dX13_reverses_89 rfl ?_
  refine kj_geti (k := 8) (ki := 8) X K rfl kdc_142 (by decide) (knEnt_10 kdc_142) rfl (by decide) knInX13 (knGm 1512 (by decide +kernel) rfl) rfl rfl dX13_reverses_90 (fun h29 => ?_)
  have j33 : ∀ (t33_0 : Int) (ht33_0 : knC t33_0), (fun q33 =>
   some (q33, q26)) t33_0 = some q → knJ G p l e { frames := 1, cells := 0, slots := 0, locals := 21 } s m args below meth c 5 0 0 (MQ below (knPo G (knC q.1) (some (knV q.1)) q.2) args s 0 0 (knA G)) 106 [] [knV t33_0] q26 := by
    intro t33_0 ht33_0
    intro hf
    cases hf
    exact kj_iret X ht33_0 hr dX13_reverses_106 hlk
  obtain ⟨b34, hb34, hf⟩ := knBd_inv hf
  refine kj_if_ne X (tgt := 100) dX13_reverses_93 (by decide) h29 (fun h35 => ?_) (fun h35 => ?_)
  · replace hb34 := knIq hb34 h35
    refine kj_aloadn X 0 dX13_reverses_100 rfl ?_
    refine kj_geto (k := 9) (o2 := 147) X K kdc_142 (by decide) (knEnt_10 kdc_142) rfl (by decide) knInX13 (knGm 1513 (by decide +kernel) rfl) rfl rfl dX13_reverses_101 ?_
    refine kj_iconst X dX13_reverses_104 ?_
    obtain ⟨h36, hb34⟩ := knGd_inv hb34
    refine kj_iald X K kdc_147 (show knC (0) from ⟨by omega, by omega⟩) lnc_147 h36 dX13_reverses_105 (fun h37 => ?_)
    cases hb34
    refine kj_sub (L' := []) [] rfl ?_
    exact j33 _ h37 hf
  · replace hb34 := knIp hb34 h35
    refine kj_iconst X dX13_reverses_96 ?_
    refine kj_goto X (tgt := 106) dX13_reverses_97 (by decide) ?_
    cases hb34
    refine kj_sub (L' := []) [] rfl ?_
    exact j33 _ (show knC (-1) from ⟨by omega, by omega⟩) hf

def kfX13_reverse  (μ : knMem) : Option (Int × knMem) :=
 Option.bind (kfX13_remembers  (knUp μ 142 0 0)) (fun q1 =>
  Option.bind (kfX13_reverses  q1) (fun q4 =>
   some (q4.1, q4.2)))

theorem knWvX13_reverse : knWv yX13_reverse cX13_reverse 1 (some .int) 0 := ⟨(knGm 1731 (by decide +kernel) rfl), (knGm 124 (by decide +kernel) rfl), (knGm 1729 (by decide +kernel) rfl), (knGm 1730 (by decide +kernel) rfl), by decide +kernel, by decide +kernel, by decide +kernel⟩
set_option maxHeartbeats 4000000 in
set_option maxRecDepth 100000 in
theorem kcX13_reverse {G : knGT} (l : Launch)   {μ : knMem} {q : Int × knMem} (hf : kfX13_reverse  μ = some q) : knC0 G l yX13_reverse cX13_reverse 1 (some .int) 2 45 [knO G 142] μ (knC q.1) (some (knV q.1)) q.2 := by
  unfold kfX13_reverse at hf
  refine kn_ofJ (plainFor_of_name (by decide)) (Nat.le_of_ble_eq_true rfl) (L := [(0, knO G 142)]) rfl ?_
  intro p e s m args below meth c X K hr hlk
  refine kj_aloadn X 0 dX13_reverse_0 rfl ?_
  refine kj_iconst X dX13_reverse_1 ?_
  refine kj_putf (k := 0) (ki := 0) (x := 0) (ty := .int) X K rfl (knKd_in kdc_142 (by decide)) (knEnt_10 kdc_142) rfl (by decide) knInX13 tyX13_ok nmX13 (knGm 1504 (by decide +kernel) rfl) rfl rfl (by decide +kernel) rfl rfl (by simp) (by rw [knEnt_10 kdc_142, knUp_row]; rfl) (fun _ => (show knC (0) from ⟨by omega, by omega⟩)) (fun h => by rw [kdc_142] at h; cases h) (fun h => by rw [kdc_142] at h; cases h) dX13_reverse_2 ?_
  refine kj_aloadn X 0 dX13_reverse_5 rfl ?_
  obtain ⟨q1, h2, hf⟩ := knBd_inv hf
  refine kj_callV (As := []) (rest := []) X K (kcX13_remembers l  h2) knWvX13_remembers (knGm 1608 (by decide +kernel) rfl) (by decide) (knKd_in kdc_142 (by decide)) (knEnt_10 kdc_142) rfl rfl rfl (Nat.le_of_ble_eq_true rfl) (by decide) dX13_reverse_6 rfl (fun h3 => ?_)
  refine kj_aloadn X 0 dX13_reverse_9 rfl ?_
  obtain ⟨q4, h5, hf⟩ := knBd_inv hf
  refine kj_callV (As := []) (rest := []) X K (kcX13_reverses l  h5) knWvX13_reverses (knGm 1732 (by decide +kernel) rfl) (by decide) (knKd_in kdc_142 (by decide)) (knEnt_10 kdc_142) rfl rfl rfl (Nat.le_of_ble_eq_true rfl) (by decide) dX13_reverse_10 rfl (fun h6 => ?_)
  cases hf
  exact kj_iret X h6 hr dX13_reverse_13 hlk

def kfX13_isPass (a1 : Int) (μ : knMem) : Option (Int) :=
 knGd ((0 : Int) ≤ 0 ∧ (0 : Int) < 50)
  (Option.bind (kfX13_isBetween a1 0 (knW ((knW (2 * (μ 143 0))) - 1)) μ) (fun q3 =>
  some q3))

theorem knWvX13_isPass : knWv yX13_isPass cX13_isPass 2 (some .boolean) 1 := ⟨(knGm 1747 (by decide +kernel) rfl), (knGm 124 (by decide +kernel) rfl), (knGm 1746 (by decide +kernel) rfl), (knGm 65 (by decide +kernel) rfl), by decide +kernel, by decide +kernel, by decide +kernel⟩
set_option maxHeartbeats 4000000 in
set_option maxRecDepth 100000 in
theorem kcX13_isPass {G : knGT} (l : Launch) {a1 : Int} (ha1 : knC a1) {μ : knMem} {q : Int} (hf : kfX13_isPass a1 μ = some q) : knC0 G l yX13_isPass cX13_isPass 2 (some .boolean) 1 22 [knO G 142, knV a1] μ (knZ q) (some (knV q)) μ := by
  unfold kfX13_isPass at hf
  refine kn_ofJ (plainFor_of_name (by decide)) (Nat.le_of_ble_eq_true rfl) (L := [(0, knO G 142), (1, knV a1)]) rfl ?_
  intro p e s m args below meth c X K hr hlk
  refine kj_iloadn X 1 dX13_isPass_0 rfl ?_
  refine kj_iconst X dX13_isPass_1 ?_
  refine kj_iconst X dX13_isPass_2 ?_
  refine kj_aloadn X 0 dX13_isPass_3 rfl ?_
  refine kj_geto (k := 1) (o2 := 143) X K kdc_142 (by decide) (knEnt_10 kdc_142) rfl (by decide) knInX13 (knGm 1505 (by decide +kernel) rfl) rfl rfl dX13_isPass_4 ?_
  refine kj_iconst X dX13_isPass_7 ?_
  obtain ⟨h1, hf⟩ := knGd_inv hf
  refine kj_iald X K kdc_143 (show knC (0) from ⟨by omega, by omega⟩) lnc_143 h1 dX13_isPass_8 (fun h2 => ?_)
  refine kj_imul X dX13_isPass_9 ?_
  refine kj_iconst X dX13_isPass_10 ?_
  refine kj_isub X dX13_isPass_11 ?_
  obtain ⟨q3, h4, hf⟩ := knBd_inv hf
  refine kj_callS (As := [knV a1, knV 0, knV (knW ((knW (2 * (μ 143 0))) - 1))]) (rest := []) X K (kcX13_isBetween l ha1 (show knC (0) from ⟨by omega, by omega⟩) (knCw _) h4) knWkX13_isBetween (knGm 1601 (by decide +kernel) rfl) (by decide)  rfl (Nat.le_of_ble_eq_true rfl) (by decide) dX13_isPass_12 rfl (fun h5 => ?_)
  cases hf
  exact kj_zret X h5 hr (kn_nb h5) dX13_isPass_15 hlk

def kfX13_notTurn (a1 : Int) (μ : knMem) : Option (Int) :=
 Option.bind (kfX13_isPass a1 μ) (fun q1 =>
  some (if q1 = 0 then 1 else 0 : Int))

theorem knWvX13_notTurn : knWv yX13_notTurn cX13_notTurn 2 (some .int) 1 := ⟨(knGm 1743 (by decide +kernel) rfl), (knGm 124 (by decide +kernel) rfl), (knGm 1742 (by decide +kernel) rfl), (knGm 64 (by decide +kernel) rfl), by decide +kernel, by decide +kernel, by decide +kernel⟩
set_option maxHeartbeats 4000000 in
set_option maxRecDepth 100000 in
theorem kcX13_notTurn {G : knGT} (l : Launch) {a1 : Int} (ha1 : knC a1) {μ : knMem} {q : Int} (hf : kfX13_notTurn a1 μ = some q) : knC0 G l yX13_notTurn cX13_notTurn 2 (some .int) 2 43 [knO G 142, knV a1] μ (knC q) (some (knV q)) μ := by
  unfold kfX13_notTurn at hf
  refine kn_ofJ (plainFor_of_name (by decide)) (Nat.le_of_ble_eq_true rfl) (L := [(0, knO G 142), (1, knV a1)]) rfl ?_
  intro p e s m args below meth c X K hr hlk
  refine kj_aloadn X 0 dX13_notTurn_0 rfl ?_
  refine kj_iloadn X 1 dX13_notTurn_1 rfl ?_
  obtain ⟨q1, h2, hf⟩ := knBd_inv hf
  refine kj_callV (As := [knV a1]) (rest := []) X K (kcX13_isPass l ha1 h2) knWvX13_isPass (knGm 1744 (by decide +kernel) rfl) (by decide) (knKd_in kdc_142 (by decide)) (knEnt_10 kdc_142) rfl rfl rfl (Nat.le_of_ble_eq_true rfl) (by decide) dX13_notTurn_2 rfl (fun h3 => ?_)
  have j5 : ∀ (t5_0 : Int) (et5_0 : t5_0 = (if q1 = 0 then 1 else 0 : Int)) (ht5_0 : knZ t5_0), knJ G p l e { frames := 2, cells := 0, slots := 0, locals := 43 } s m args below meth c 2 0 0 (MQ below (knPo G (knC q) (some (knV q)) μ) args s 0 0 (knA G)) 13 [] [knV t5_0] μ := by
    intro t5_0 et5_0 ht5_0
    subst et5_0
    cases hf
    exact kj_iret X (knZ_c ht5_0) hr dX13_notTurn_13 hlk
  refine kj_if_eq X (tgt := 12) dX13_notTurn_5 (by decide) (knZ_c h3) (fun h7 => ?_) (fun h7 => ?_)
  · refine kj_iconst X dX13_notTurn_12 ?_
    refine kj_sub (L' := []) [] rfl ?_
    exact j5 1 (by rw [if_pos h7]) (Or.inr rfl)
  · refine kj_iconst X dX13_notTurn_8 ?_
    refine kj_goto X (tgt := 13) dX13_notTurn_9 (by decide) ?_
    refine kj_sub (L' := []) [] rfl ?_
    exact j5 0 (by rw [if_neg h7]) (Or.inl rfl)

def kfX13_turnsTo_l13  (x1 : Int) (x2 : Int)  (kc : (knMem) → Option (Int × knMem)) : Nat → Int → knMem → Option (Int × knMem)
  | 0, _, _ => none
  | n + 1, x3, μ =>
    if x2 ≤ x3 then
     kc μ
    else
     knGd (x2 ≠ 0)
      (knGd (0 ≤ (knW (22 + (knRem (knW (x3 + x1)) x2))) ∧ (knW (22 + (knRem (knW (x3 + x1)) x2))) < 50)
      (knGd (0 ≤ x3 ∧ x3 < 14)
      (knGd (0 ≤ (knW (36 + (knRem (knW (x3 + x1)) x2))) ∧ (knW (36 + (knRem (knW (x3 + x1)) x2))) < 50)
      (kfX13_turnsTo_l13  x1 x2 kc n (knW (x3 + 1)) (knUp (knUp μ 147 x3 (μ 143 (knW (22 + (knRem (knW (x3 + x1)) x2))))) 148 x3 ((knUp μ 147 x3 (μ 143 (knW (22 + (knRem (knW (x3 + x1)) x2))))) 143 (knW (36 + (knRem (knW (x3 + x1)) x2)))))))))

def kfX13_turnsTo (a1 : Int) (μ : knMem) : Option (Int × knMem) :=
 Option.bind (kfX13_loads  μ) (fun q1 =>
  kfX13_turnsTo_l13 a1 (knW (2 * (q1 142 8)))  (fun w12 =>
   Option.bind (kfX13_stores  w12) (fun q13 =>
    knGd ((0 : Int) ≤ 0 ∧ (0 : Int) < 14)
     (some ((q13 147 0), q13)))) knF 0 q1)

theorem knWvX13_turnsTo : knWv yX13_turnsTo cX13_turnsTo 4 (some .int) 1 := ⟨(knGm 1751 (by decide +kernel) rfl), (knGm 124 (by decide +kernel) rfl), (knGm 1750 (by decide +kernel) rfl), (knGm 66 (by decide +kernel) rfl), by decide +kernel, by decide +kernel, by decide +kernel⟩
set_option maxHeartbeats 4000000 in
set_option maxRecDepth 100000 in
theorem kfX13_turnsTo_l13_ok {q : Int × knMem} {kc : (knMem) → Option (Int × knMem)} {G : knGT} {p : Program} {l : Launch} {e : Env} {s : State} {m : MethodId} {args : Array Value} {below : List Frame} {meth : Method} {c : Code} (X : knX p m c cX13_turnsTo 4 s args yX13_turnsTo.cls) (K : knK G s s.heap) (hr : meth.sig.returnType = (some .int)) (hlk : meth.locks = false) (x1 : Int) (x2 : Int) (hx1 : knC x1) (hx2 : knC x2)  (hk : ∀ (μ1 : knMem), kc μ1 = some q → knJ G p l e { frames := 1, cells := 0, slots := 0, locals := 21 } s m args below meth c 4 0 0 (MQ below (knPo G (knC q.1) (some (knV q.1)) q.2) args s 0 0 (knA G)) 62 [(0, knO G 142)] [] μ1) : ∀ (n : Nat) (x3 : Int) (hx3 : knC x3) (μ : knMem), kfX13_turnsTo_l13  x1 x2 kc n x3 μ = some q → knJ G p l e { frames := 1, cells := 0, slots := 0, locals := 21 } s m args below meth c 4 0 0 (MQ below (knPo G (knC q.1) (some (knV q.1)) q.2) args s 0 0 (knA G)) 13 [(0, knO G 142), (1, knV x1), (2, knV x2), (3, knV x3)] [] μ := by
  intro n
  induction n with
  | zero => intro x3 hx3 μ hf; cases hf
  | succ n ih =>
    intro x3 hx3 μ hf
    unfold kfX13_turnsTo_l13 at hf
    refine kj_iloadn X 3 dX13_turnsTo_13 rfl ?_
    refine kj_iloadn X 2 dX13_turnsTo_14 rfl ?_
    refine kj_ic_ge X (tgt := 62) dX13_turnsTo_15 (by decide) hx3 hx2 (fun h5 => ?_) (fun h5 => ?_)
    · replace hf := knIp hf h5
      refine kj_sub (L' := [(0, knO G 142)]) [0] rfl ?_
      exact hk _ hf
    · replace hf := knIq hf h5
      refine kj_aloadn X 0 dX13_turnsTo_18 rfl ?_
      refine kj_geto (k := 9) (o2 := 147) X K kdc_142 (by decide) (knEnt_10 kdc_142) rfl (by decide) knInX13 (knGm 1513 (by decide +kernel) rfl) rfl rfl dX13_turnsTo_19 ?_
      refine kj_iloadn X 3 dX13_turnsTo_22 rfl ?_
      refine kj_aloadn X 0 dX13_turnsTo_23 rfl ?_
      refine kj_geto (k := 1) (o2 := 143) X K kdc_142 (by decide) (knEnt_10 kdc_142) rfl (by decide) knInX13 (knGm 1505 (by decide +kernel) rfl) rfl rfl dX13_turnsTo_24 ?_
      refine kj_bipush X (n := 22) dX13_turnsTo_27 rfl ?_
      refine kj_iloadn X 3 dX13_turnsTo_29 rfl ?_
      refine kj_iloadn X 1 dX13_turnsTo_30 rfl ?_
      refine kj_iadd X dX13_turnsTo_31 ?_
      refine kj_iloadn X 2 dX13_turnsTo_32 rfl ?_
      obtain ⟨h6, hf⟩ := knGd_inv hf
      refine kj_irem X dX13_turnsTo_33 hx2 h6 ?_
      refine kj_iadd X dX13_turnsTo_34 ?_
      obtain ⟨h7, hf⟩ := knGd_inv hf
      refine kj_iald X K kdc_143 (knCw _) lnc_143 h7 dX13_turnsTo_35 (fun h8 => ?_)
      obtain ⟨h9, hf⟩ := knGd_inv hf
      refine kj_iast X K kdc_147 hx3 h8 lnc_147 h9 dX13_turnsTo_36 ?_
      refine kj_aloadn X 0 dX13_turnsTo_37 rfl ?_
      refine kj_geto (k := 10) (o2 := 148) X K kdc_142 (by decide) (knEnt_10 kdc_142) rfl (by decide) knInX13 (knGm 1514 (by decide +kernel) rfl) rfl rfl dX13_turnsTo_38 ?_
      refine kj_iloadn X 3 dX13_turnsTo_41 rfl ?_
      refine kj_aloadn X 0 dX13_turnsTo_42 rfl ?_
      refine kj_geto (k := 1) (o2 := 143) X K kdc_142 (by decide) (knEnt_10 kdc_142) rfl (by decide) knInX13 (knGm 1505 (by decide +kernel) rfl) rfl rfl dX13_turnsTo_43 ?_
      refine kj_bipush X (n := 36) dX13_turnsTo_46 rfl ?_
      refine kj_iloadn X 3 dX13_turnsTo_48 rfl ?_
      refine kj_iloadn X 1 dX13_turnsTo_49 rfl ?_
      refine kj_iadd X dX13_turnsTo_50 ?_
      refine kj_iloadn X 2 dX13_turnsTo_51 rfl ?_
      refine kj_irem X dX13_turnsTo_52 hx2 h6 ?_
      refine kj_iadd X dX13_turnsTo_53 ?_
      obtain ⟨h10, hf⟩ := knGd_inv hf
      refine kj_iald X K kdc_143 (knCw _) lnc_143 h10 dX13_turnsTo_54 (fun h11 => ?_)
      refine kj_iast X K kdc_148 hx3 h11 lnc_148 h9 dX13_turnsTo_55 ?_
      refine kj_iinc X 3 (L' := [(3, knV (knW (x3 + 1))), (0, knO G 142), (1, knV x1), (2, knV x2)]) dX13_turnsTo_56 rfl (by decide) rfl ?_
      refine kj_goto X (tgt := 13) dX13_turnsTo_59 (by decide) ?_
      refine kj_sub (L' := [(0, knO G 142), (1, knV x1), (2, knV x2), (3, knV (knW (x3 + 1)))]) [1, 2, 3, 0] rfl ?_
      exact ih _ (knCw _) _ hf

set_option maxHeartbeats 4000000 in
set_option maxRecDepth 100000 in
theorem kcX13_turnsTo {G : knGT} (l : Launch) {a1 : Int} (ha1 : knC a1) {μ : knMem} {q : Int × knMem} (hf : kfX13_turnsTo a1 μ = some q) : knC0 G l yX13_turnsTo cX13_turnsTo 4 (some .int) 1 21 [knO G 142, knV a1] μ (knC q.1) (some (knV q.1)) q.2 := by
  unfold kfX13_turnsTo at hf
  refine kn_ofJ (plainFor_of_name (by decide)) (Nat.le_of_ble_eq_true rfl) (L := [(0, knO G 142), (1, knV a1)]) rfl ?_
  intro p e s m args below meth c X K hr hlk
  refine kj_aloadn X 0 dX13_turnsTo_0 rfl ?_
  obtain ⟨q1, h2, hf⟩ := knBd_inv hf
  refine kj_callV (As := []) (rest := []) X K (kcX13_loads l  h2) knWvX13_loads (knGm 1624 (by decide +kernel) rfl) (by decide) (knKd_in kdc_142 (by decide)) (knEnt_10 kdc_142) rfl rfl rfl (Nat.le_of_ble_eq_true rfl) (by decide) dX13_turnsTo_1 rfl (fun h3 => ?_)
  refine kj_iconst X dX13_turnsTo_4 ?_
  refine kj_aloadn X 0 dX13_turnsTo_5 rfl ?_
  refine kj_geti (k := 8) (ki := 8) X K rfl kdc_142 (by decide) (knEnt_10 kdc_142) rfl (by decide) knInX13 (knGm 1512 (by decide +kernel) rfl) rfl rfl dX13_turnsTo_6 (fun h4 => ?_)
  refine kj_imul X dX13_turnsTo_9 ?_
  refine kj_istoren X (L' := [(2, knV (knW (2 * (q1 142 8)))), (0, knO G 142), (1, knV a1)]) dX13_turnsTo_10 (by decide) rfl ?_
  refine kj_iconst X dX13_turnsTo_11 ?_
  refine kj_istoren X (L' := [(3, knV 0), (2, knV (knW (2 * (q1 142 8)))), (0, knO G 142), (1, knV a1)]) dX13_turnsTo_12 (by decide) rfl ?_
  refine kj_sub (L' := [(0, knO G 142), (1, knV a1), (2, knV (knW (2 * (q1 142 8)))), (3, knV 0)]) [2, 3, 1, 0] rfl ?_
  refine kfX13_turnsTo_l13_ok X K hr hlk a1 (knW (2 * (q1 142 8))) ha1 (knCw _)  ?_ knF _ (show knC (0) from ⟨by omega, by omega⟩) _ hf
  intro w12_m
  intro hf
  refine kj_aloadn X 0 dX13_turnsTo_62 rfl ?_
  obtain ⟨q18, h19, hf⟩ := knBd_inv hf
  refine kj_callV (As := []) (rest := []) X K (kcX13_stores l  h19) knWvX13_stores (knGm 1632 (by decide +kernel) rfl) (by decide) (knKd_in kdc_142 (by decide)) (knEnt_10 kdc_142) rfl rfl rfl (Nat.le_of_ble_eq_true rfl) (by decide) dX13_turnsTo_63 rfl (fun h20 => ?_)
  refine kj_aloadn X 0 dX13_turnsTo_66 rfl ?_
  refine kj_geto (k := 9) (o2 := 147) X K kdc_142 (by decide) (knEnt_10 kdc_142) rfl (by decide) knInX13 (knGm 1513 (by decide +kernel) rfl) rfl rfl dX13_turnsTo_67 ?_
  refine kj_iconst X dX13_turnsTo_70 ?_
  obtain ⟨h21, hf⟩ := knGd_inv hf
  refine kj_iald X K kdc_147 (show knC (0) from ⟨by omega, by omega⟩) lnc_147 h21 dX13_turnsTo_71 (fun h22 => ?_)
  cases hf
  exact kj_iret X h22 hr dX13_turnsTo_72 hlk

