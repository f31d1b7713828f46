def kfX5_copyFrom_l10  (x0 : Int) (x1 : Int)  (kc : (knMem) → Option (knMem)) : Nat → Int → knMem → Option (knMem)
  | 0, _, _ => none
  | n + 1, x2, μ =>
    if (μ x0 3) ≤ x2 then
     kc μ
    else
     knGd (0 ≤ x2 ∧ x2 < 7)
      (kfX5_copyFrom_l10  x0 x1 kc n (knW (x2 + 1)) (knUp (knUp (knUp μ (x0 + 1) x2 (μ (x1 + 1) x2)) (x0 + 2) x2 ((knUp μ (x0 + 1) x2 (μ (x1 + 1) x2)) (x1 + 2) x2)) (x0 + 3) x2 (knNz ((knUp (knUp μ (x0 + 1) x2 (μ (x1 + 1) x2)) (x0 + 2) x2 ((knUp μ (x0 + 1) x2 (μ (x1 + 1) x2)) (x1 + 2) x2)) (x1 + 3) x2))))

def kfX5_copyFrom (a0 : Int) (a1 : Int) (μ : knMem) : Option (knMem) :=
 kfX5_copyFrom_l10 a0 a1  (fun w8 =>
  some w8) knF 0 (knUp μ a0 3 (μ a1 3))

theorem knWvX5_copyFrom : knWv yX5_copyFrom cX5_copyFrom 3 none 1 := ⟨(knGm 419 (by decide +kernel) rfl), (knGm 116 (by decide +kernel) rfl), (knGm 417 (by decide +kernel) rfl), (knGm 418 (by decide +kernel) rfl), by decide +kernel, by decide +kernel, by decide +kernel⟩
set_option maxHeartbeats 4000000 in
set_option maxRecDepth 100000 in
theorem kfX5_copyFrom_l10_ok {q : knMem} {kc : (knMem) → Option (knMem)} {G : knGT} {p : Program} {l : Launch} {e : Env} {s : State} {m : MethodId} {args : Array Value} {below : List Frame} {meth : Method} {c : Code} (X : knX p m c cX5_copyFrom 3 s args yX5_copyFrom.cls) (K : knK G s s.heap) (hr : meth.sig.returnType = none) (hlk : meth.locks = false) (x0 : Int) (x1 : Int) (hx0 : knKd x0 = 3) (hx1 : knKd x1 = 3)  (hk : ∀ (μ1 : knMem), kc μ1 = some q → knJ G p l e { frames := 0, cells := 0, slots := 0, locals := 0 } s m args below meth c 3 0 0 (MQ below (knPo G True none q) args s 0 0 (knA G)) 60 [] [] μ1) : ∀ (n : Nat) (x2 : Int) (hx2 : knC x2) (μ : knMem), kfX5_copyFrom_l10  x0 x1 kc n x2 μ = some q → knJ G p l e { frames := 0, cells := 0, slots := 0, locals := 0 } s m args below meth c 3 0 0 (MQ below (knPo G True none q) args s 0 0 (knA G)) 10 [(0, knO G x0), (1, knO G x1), (2, knV x2)] [] μ := by
  intro n
  induction n with
  | zero => intro x2 hx2 μ hf; cases hf
  | succ n ih =>
    intro x2 hx2 μ hf
    unfold kfX5_copyFrom_l10 at hf
    refine kj_iloadn X 2 dX5_copyFrom_10 rfl ?_
    refine kj_aloadn X 0 dX5_copyFrom_11 rfl ?_
    refine kj_geti (k := 3) (ki := 3) X K rfl hx0 (by decide) (knEnt_3 hx0) rfl (by decide) knInX5 (knGm 177 (by decide +kernel) rfl) rfl rfl dX5_copyFrom_12 (fun h2 => ?_)
    refine kj_ic_ge X (tgt := 60) dX5_copyFrom_15 (by decide) hx2 h2 (fun h3 => ?_) (fun h3 => ?_)
    · replace hf := knIp hf h3
      refine kj_sub (L' := []) [] rfl ?_
      exact hk _ hf
    · replace hf := knIq hf h3
      refine kj_aloadn X 0 dX5_copyFrom_18 rfl ?_
      refine kj_geto (k := 0) (o2 := (x0 + 1)) X K hx0 (by decide) (knEnt_3 hx0) rfl (by decide) knInX5 (knGm 166 (by decide +kernel) rfl) rfl rfl dX5_copyFrom_19 ?_
      refine kj_iloadn X 2 dX5_copyFrom_22 rfl ?_
      refine kj_aloadn X 1 dX5_copyFrom_23 rfl ?_
      refine kj_geto (k := 0) (o2 := (x1 + 1)) X K hx1 (by decide) (knEnt_3 hx1) rfl (by decide) knInX5 (knGm 166 (by decide +kernel) rfl) rfl rfl dX5_copyFrom_24 ?_
      refine kj_iloadn X 2 dX5_copyFrom_27 rfl ?_
      obtain ⟨h4, hf⟩ := knGd_inv hf
      refine kj_iald X K (knD3 hx1).1.1 hx2 (knD3 hx1).2.1 h4 dX5_copyFrom_28 (fun h5 => ?_)
      refine kj_iast X K (knD3 hx0).1.1 hx2 h5 (knD3 hx0).2.1 h4 dX5_copyFrom_29 ?_
      refine kj_aloadn X 0 dX5_copyFrom_30 rfl ?_
      refine kj_geto (k := 1) (o2 := (x0 + 2)) X K hx0 (by decide) (knEnt_3 hx0) rfl (by decide) knInX5 (knGm 170 (by decide +kernel) rfl) rfl rfl dX5_copyFrom_31 ?_
      refine kj_iloadn X 2 dX5_copyFrom_34 rfl ?_
      refine kj_aloadn X 1 dX5_copyFrom_35 rfl ?_
      refine kj_geto (k := 1) (o2 := (x1 + 2)) X K hx1 (by decide) (knEnt_3 hx1) rfl (by decide) knInX5 (knGm 170 (by decide +kernel) rfl) rfl rfl dX5_copyFrom_36 ?_
      refine kj_iloadn X 2 dX5_copyFrom_39 rfl ?_
      refine kj_iald X K (knD3 hx1).1.2.1 hx2 (knD3 hx1).2.2.1 h4 dX5_copyFrom_40 (fun h6 => ?_)
      refine kj_iast X K (knD3 hx0).1.2.1 hx2 h6 (knD3 hx0).2.2.1 h4 dX5_copyFrom_41 ?_
      refine kj_aloadn X 0 dX5_copyFrom_42 rfl ?_
      refine kj_geto (k := 2) (o2 := (x0 + 3)) X K hx0 (by decide) (knEnt_3 hx0) rfl (by decide) knInX5 (knGm 174 (by decide +kernel) rfl) rfl rfl dX5_copyFrom_43 ?_
      refine kj_iloadn X 2 dX5_copyFrom_46 rfl ?_
      refine kj_aloadn X 1 dX5_copyFrom_47 rfl ?_
      refine kj_geto (k := 2) (o2 := (x1 + 3)) X K hx1 (by decide) (knEnt_3 hx1) rfl (by decide) knInX5 (knGm 174 (by decide +kernel) rfl) rfl rfl dX5_copyFrom_48 ?_
      refine kj_iloadn X 2 dX5_copyFrom_51 rfl ?_
      refine kj_zald X K (knD3 hx1).1.2.2 hx2 (knD3 hx1).2.2.2 h4 dX5_copyFrom_52 (fun h7 => ?_)
      refine kj_zast X K (knD3 hx0).1.2.2 hx2 (knD3 hx0).2.2.2 h4 dX5_copyFrom_53 ?_
      refine kj_iinc X 2 (L' := [(2, knV (knW (x2 + 1))), (0, knO G x0), (1, knO G x1)]) dX5_copyFrom_54 rfl (by decide) rfl ?_
      refine kj_goto X (tgt := 10) dX5_copyFrom_57 (by decide) ?_
      refine kj_sub (L' := [(0, knO G x0), (1, knO G x1), (2, knV (knW (x2 + 1)))]) [1, 2, 0] rfl ?_
      exact ih _ (knCw _) _ hf

set_option maxHeartbeats 4000000 in
set_option maxRecDepth 100000 in
theorem kcX5_copyFrom {G : knGT} (l : Launch) {a0 : Int} {a1 : Int} (ha0 : knKd a0 = 3) (ha1 : knKd a1 = 3) {μ : knMem} {q : knMem} (hf : kfX5_copyFrom a0 a1 μ = some q) : knC0 G l yX5_copyFrom cX5_copyFrom 3 none 0 0 [knO G a0, knO G a1] μ True none q := by
  unfold kfX5_copyFrom at hf
  refine kn_ofJ (plainFor_of_name (by decide)) (Nat.le_of_ble_eq_true rfl) (L := [(0, knO G a0), (1, knO G a1)]) rfl ?_
  intro p e s m args below meth c X K hr hlk
  refine kj_aloadn X 0 dX5_copyFrom_0 rfl ?_
  refine kj_aloadn X 1 dX5_copyFrom_1 rfl ?_
  refine kj_geti (k := 3) (ki := 3) X K rfl ha1 (by decide) (knEnt_3 ha1) rfl (by decide) knInX5 (knGm 177 (by decide +kernel) rfl) rfl rfl dX5_copyFrom_2 (fun h1 => ?_)
  refine kj_putf (k := 3) (ki := 3) (x := (μ a1 3)) (ty := .int) X K rfl (knKd_in ha0 (by decide)) (knEnt_3 ha0) rfl (by decide) knInX5 tyX5_ok nmX5 (knGm 177 (by decide +kernel) rfl) rfl rfl (by decide +kernel) rfl rfl (by simp) (by rw [knEnt_3 ha0, knUp_row]; rfl) (fun _ => h1) (fun h => by rw [ha0] at h; cases h) (fun h => by rw [ha0] at h; cases h) dX5_copyFrom_5 ?_
  refine kj_iconst X dX5_copyFrom_8 ?_
  refine kj_istoren X (L' := [(2, knV 0), (0, knO G a0), (1, knO G a1)]) dX5_copyFrom_9 (by decide) rfl ?_
  refine kj_sub (L' := [(0, knO G a0), (1, knO G a1), (2, knV 0)]) [1, 2, 0] rfl ?_
  refine kfX5_copyFrom_l10_ok X K hr hlk a0 a1 ha0 ha1  ?_ knF _ (show knC (0) from ⟨by omega, by omega⟩) _ hf
  intro w8_m
  intro hf
  cases hf
  exact kj_vret X trivial hr dX5_copyFrom_60 hlk

def kfX1_copyFrom_l18  (x0 : Int) (x1 : Int)  (kc : (knMem) → Option (knMem)) : Nat → Int → knMem → Option (knMem)
  | 0, _, _ => none
  | n + 1, x2, μ =>
    if (μ x0 3) ≤ x2 then
     kc μ
    else
     knGd (0 ≤ x2 ∧ x2 < 4)
      (kfX1_copyFrom_l18  x0 x1 kc n (knW (x2 + 1)) (knUp (knUp (knUp μ (x0 + 1) x2 (μ (x1 + 1) x2)) (x0 + 2) x2 ((knUp μ (x0 + 1) x2 (μ (x1 + 1) x2)) (x1 + 2) x2)) (x0 + 3) x2 ((knUp (knUp μ (x0 + 1) x2 (μ (x1 + 1) x2)) (x0 + 2) x2 ((knUp μ (x0 + 1) x2 (μ (x1 + 1) x2)) (x1 + 2) x2)) (x1 + 3) x2)))

def kfX1_copyFrom (a0 : Int) (a1 : Int) (μ : knMem) : Option (knMem) :=
 kfX1_copyFrom_l18 a0 a1  (fun w9 =>
  some w9) knF 0 (knUp (knUp μ a0 3 (μ a1 3)) a0 4 ((knUp μ a0 3 (μ a1 3)) a1 4))

theorem knWvX1_copyFrom : knWv yX1_copyFrom cX1_copyFrom 3 none 1 := ⟨(knGm 423 (by decide +kernel) rfl), (knGm 117 (by decide +kernel) rfl), (knGm 421 (by decide +kernel) rfl), (knGm 422 (by decide +kernel) rfl), by decide +kernel, by decide +kernel, by decide +kernel⟩
set_option maxHeartbeats 4000000 in
set_option maxRecDepth 100000 in
theorem kfX1_copyFrom_l18_ok {q : knMem} {kc : (knMem) → Option (knMem)} {G : knGT} {p : Program} {l : Launch} {e : Env} {s : State} {m : MethodId} {args : Array Value} {below : List Frame} {meth : Method} {c : Code} (X : knX p m c cX1_copyFrom 3 s args yX1_copyFrom.cls) (K : knK G s s.heap) (hr : meth.sig.returnType = none) (hlk : meth.locks = false) (x0 : Int) (x1 : Int) (hx0 : knKd x0 = 0) (hx1 : knKd x1 = 0)  (hk : ∀ (μ1 : knMem), kc μ1 = some q → knJ G p l e { frames := 0, cells := 0, slots := 0, locals := 0 } s m args below meth c 3 0 0 (MQ below (knPo G True none q) args s 0 0 (knA G)) 68 [] [] μ1) : ∀ (n : Nat) (x2 : Int) (hx2 : knC x2) (μ : knMem), kfX1_copyFrom_l18  x0 x1 kc n x2 μ = some q → knJ G p l e { frames := 0, cells := 0, slots := 0, locals := 0 } s m args below meth c 3 0 0 (MQ below (knPo G True none q) args s 0 0 (knA G)) 18 [(0, knO G x0), (1, knO G x1), (2, knV x2)] [] μ := by
  intro n
  induction n with
  | zero => intro x2 hx2 μ hf; cases hf
  | succ n ih =>
    intro x2 hx2 μ hf
    unfold kfX1_copyFrom_l18 at hf
    refine kj_iloadn X 2 dX1_copyFrom_18 rfl ?_
    refine kj_aloadn X 0 dX1_copyFrom_19 rfl ?_
    refine kj_geti (k := 3) (ki := 3) X K rfl hx0 (by decide) (knEnt_0 hx0) rfl (by decide) knInX1 (knGm 205 (by decide +kernel) rfl) rfl rfl dX1_copyFrom_20 (fun h3 => ?_)
    refine kj_ic_ge X (tgt := 68) dX1_copyFrom_23 (by decide) hx2 h3 (fun h4 => ?_) (fun h4 => ?_)
    · replace hf := knIp hf h4
      refine kj_sub (L' := []) [] rfl ?_
      exact hk _ hf
    · replace hf := knIq hf h4
      refine kj_aloadn X 0 dX1_copyFrom_26 rfl ?_
      refine kj_geto (k := 0) (o2 := (x0 + 1)) X K hx0 (by decide) (knEnt_0 hx0) rfl (by decide) knInX1 (knGm 199 (by decide +kernel) rfl) rfl rfl dX1_copyFrom_27 ?_
      refine kj_iloadn X 2 dX1_copyFrom_30 rfl ?_
      refine kj_aloadn X 1 dX1_copyFrom_31 rfl ?_
      refine kj_geto (k := 0) (o2 := (x1 + 1)) X K hx1 (by decide) (knEnt_0 hx1) rfl (by decide) knInX1 (knGm 199 (by decide +kernel) rfl) rfl rfl dX1_copyFrom_32 ?_
      refine kj_iloadn X 2 dX1_copyFrom_35 rfl ?_
      obtain ⟨h5, hf⟩ := knGd_inv hf
      refine kj_iald X K (knD0 hx1).1.1 hx2 (knD0 hx1).2.1 h5 dX1_copyFrom_36 (fun h6 => ?_)
      refine kj_iast X K (knD0 hx0).1.1 hx2 h6 (knD0 hx0).2.1 h5 dX1_copyFrom_37 ?_
      refine kj_aloadn X 0 dX1_copyFrom_38 rfl ?_
      refine kj_geto (k := 1) (o2 := (x0 + 2)) X K hx0 (by decide) (knEnt_0 hx0) rfl (by decide) knInX1 (knGm 201 (by decide +kernel) rfl) rfl rfl dX1_copyFrom_39 ?_
      refine kj_iloadn X 2 dX1_copyFrom_42 rfl ?_
      refine kj_aloadn X 1 dX1_copyFrom_43 rfl ?_
      refine kj_geto (k := 1) (o2 := (x1 + 2)) X K hx1 (by decide) (knEnt_0 hx1) rfl (by decide) knInX1 (knGm 201 (by decide +kernel) rfl) rfl rfl dX1_copyFrom_44 ?_
      refine kj_iloadn X 2 dX1_copyFrom_47 rfl ?_
      refine kj_iald X K (knD0 hx1).1.2.1 hx2 (knD0 hx1).2.2.1 h5 dX1_copyFrom_48 (fun h7 => ?_)
      refine kj_iast X K (knD0 hx0).1.2.1 hx2 h7 (knD0 hx0).2.2.1 h5 dX1_copyFrom_49 ?_
      refine kj_aloadn X 0 dX1_copyFrom_50 rfl ?_
      refine kj_geto (k := 2) (o2 := (x0 + 3)) X K hx0 (by decide) (knEnt_0 hx0) rfl (by decide) knInX1 (knGm 203 (by decide +kernel) rfl) rfl rfl dX1_copyFrom_51 ?_
      refine kj_iloadn X 2 dX1_copyFrom_54 rfl ?_
      refine kj_aloadn X 1 dX1_copyFrom_55 rfl ?_
      refine kj_geto (k := 2) (o2 := (x1 + 3)) X K hx1 (by decide) (knEnt_0 hx1) rfl (by decide) knInX1 (knGm 203 (by decide +kernel) rfl) rfl rfl dX1_copyFrom_56 ?_
      refine kj_iloadn X 2 dX1_copyFrom_59 rfl ?_
      refine kj_iald X K (knD0 hx1).1.2.2 hx2 (knD0 hx1).2.2.2 h5 dX1_copyFrom_60 (fun h8 => ?_)
      refine kj_iast X K (knD0 hx0).1.2.2 hx2 h8 (knD0 hx0).2.2.2 h5 dX1_copyFrom_61 ?_
      refine kj_iinc X 2 (L' := [(2, knV (knW (x2 + 1))), (0, knO G x0), (1, knO G x1)]) dX1_copyFrom_62 rfl (by decide) rfl ?_
      refine kj_goto X (tgt := 18) dX1_copyFrom_65 (by decide) ?_
      refine kj_sub (L' := [(0, knO G x0), (1, knO G x1), (2, knV (knW (x2 + 1)))]) [1, 2, 0] rfl ?_
      exact ih _ (knCw _) _ hf

set_option maxHeartbeats 4000000 in
set_option maxRecDepth 100000 in
theorem kcX1_copyFrom {G : knGT} (l : Launch) {a0 : Int} {a1 : Int} (ha0 : knKd a0 = 0) (ha1 : knKd a1 = 0) {μ : knMem} {q : knMem} (hf : kfX1_copyFrom a0 a1 μ = some q) : knC0 G l yX1_copyFrom cX1_copyFrom 3 none 0 0 [knO G a0, knO G a1] μ True none q := by
  unfold kfX1_copyFrom at hf
  refine kn_ofJ (plainFor_of_name (by decide)) (Nat.le_of_ble_eq_true rfl) (L := [(0, knO G a0), (1, knO G a1)]) rfl ?_
  intro p e s m args below meth c X K hr hlk
  refine kj_aloadn X 0 dX1_copyFrom_0 rfl ?_
  refine kj_aloadn X 1 dX1_copyFrom_1 rfl ?_
  refine kj_geti (k := 3) (ki := 3) X K rfl ha1 (by decide) (knEnt_0 ha1) rfl (by decide) knInX1 (knGm 205 (by decide +kernel) rfl) rfl rfl dX1_copyFrom_2 (fun h1 => ?_)
  refine kj_putf (k := 3) (ki := 3) (x := (μ a1 3)) (ty := .int) X K rfl (knKd_in ha0 (by decide)) (knEnt_0 ha0) rfl (by decide) knInX1 tyX1_ok nmX1 (knGm 205 (by decide +kernel) rfl) rfl rfl (by decide +kernel) rfl rfl (by simp) (by rw [knEnt_0 ha0, knUp_row]; rfl) (fun _ => h1) (fun h => by rw [ha0] at h; cases h) (fun h => by rw [ha0] at h; cases h) dX1_copyFrom_5 ?_
  refine kj_aloadn X 0 dX1_copyFrom_8 rfl ?_
  refine kj_aloadn X 1 dX1_copyFrom_9 rfl ?_
  refine kj_geti (k := 4) (ki := 4) X K rfl ha1 (by decide) (knEnt_0 ha1) rfl (by decide) knInX1 (knGm 207 (by decide +kernel) rfl) rfl rfl dX1_copyFrom_10 (fun h2 => ?_)
  refine kj_putf (k := 4) (ki := 4) (x := ((knUp μ a0 3 (μ a1 3)) a1 4)) (ty := .int) X K rfl (knKd_in ha0 (by decide)) (knEnt_0 ha0) rfl (by decide) knInX1 tyX1_ok nmX1 (knGm 207 (by decide +kernel) rfl) rfl rfl (by decide +kernel) rfl rfl (by simp) (by rw [knEnt_0 ha0, knUp_row]; rfl) (fun _ => h2) (fun h => by rw [ha0] at h; cases h) (fun h => by rw [ha0] at h; cases h) dX1_copyFrom_13 ?_
  refine kj_iconst X dX1_copyFrom_16 ?_
  refine kj_istoren X (L' := [(2, knV 0), (0, knO G a0), (1, knO G a1)]) dX1_copyFrom_17 (by decide) rfl ?_
  refine kj_sub (L' := [(0, knO G a0), (1, knO G a1), (2, knV 0)]) [1, 2, 0] rfl ?_
  refine kfX1_copyFrom_l18_ok X K hr hlk a0 a1 ha0 ha1  ?_ knF _ (show knC (0) from ⟨by omega, by omega⟩) _ hf
  intro w9_m
  intro hf
  cases hf
  exact kj_vret X trivial hr dX1_copyFrom_68 hlk

def kfX10_copyFrom (a0 : Int) (a1 : Int) (μ : knMem) : Option (knMem) :=
 Option.bind (kfX5_copyFrom (a0 + 1) (a1 + 1) μ) (fun q1 =>
  Option.bind (kfX1_copyFrom (a0 + 5) (a1 + 5) q1) (fun q4 =>
   some q4))

theorem knWvX10_copyFrom : knWv yX10_copyFrom cX10_copyFrom 2 none 1 := ⟨(knGm 415 (by decide +kernel) rfl), (knGm 115 (by decide +kernel) rfl), (knGm 413 (by decide +kernel) rfl), (knGm 414 (by decide +kernel) rfl), by decide +kernel, by decide +kernel, by decide +kernel⟩
set_option maxHeartbeats 4000000 in
set_option maxRecDepth 100000 in
theorem kcX10_copyFrom {G : knGT} (l : Launch) {a0 : Int} {a1 : Int} (ha0 : knKd a0 = 7) (ha1 : knKd a1 = 7) {μ : knMem} {q : knMem} (hf : kfX10_copyFrom a0 a1 μ = some q) : knC0 G l yX10_copyFrom cX10_copyFrom 2 none 1 22 [knO G a0, knO G a1] μ True none q := by
  unfold kfX10_copyFrom at hf
  refine kn_ofJ (plainFor_of_name (by decide)) (Nat.le_of_ble_eq_true rfl) (L := [(0, knO G a0), (1, knO G a1)]) rfl ?_
  intro p e s m args below meth c X K hr hlk
  refine kj_aloadn X 0 dX10_copyFrom_0 rfl ?_
  refine kj_geto (k := 0) (o2 := (a0 + 1)) X K ha0 (by decide) (knEnt_7 ha0) rfl (by decide) knInX10 (knGm 220 (by decide +kernel) rfl) rfl rfl dX10_copyFrom_1 ?_
  refine kj_aloadn X 1 dX10_copyFrom_4 rfl ?_
  refine kj_geto (k := 0) (o2 := (a1 + 1)) X K ha1 (by decide) (knEnt_7 ha1) rfl (by decide) knInX10 (knGm 220 (by decide +kernel) rfl) rfl rfl dX10_copyFrom_5 ?_
  obtain ⟨q1, h2, hf⟩ := knBd_inv hf
  refine kj_callV (As := [knO G (a1 + 1)]) (rest := []) X K (kcX5_copyFrom l (knD7 ha0).1 (knD7 ha1).1 h2) knWvX5_copyFrom (knGm 416 (by decide +kernel) rfl) (by decide) (knKd_in (knD7 ha0).1 (by decide)) (knEnt_3 (knD7 ha0).1) rfl rfl rfl (Nat.le_of_ble_eq_true rfl) (by decide) dX10_copyFrom_8 rfl (fun h3 => ?_)
  refine kj_aloadn X 0 dX10_copyFrom_11 rfl ?_
  refine kj_geto (k := 1) (o2 := (a0 + 5)) X K ha0 (by decide) (knEnt_7 ha0) rfl (by decide) knInX10 (knGm 222 (by decide +kernel) rfl) rfl rfl dX10_copyFrom_12 ?_
  refine kj_aloadn X 1 dX10_copyFrom_15 rfl ?_
  refine kj_geto (k := 1) (o2 := (a1 + 5)) X K ha1 (by decide) (knEnt_7 ha1) rfl (by decide) knInX10 (knGm 222 (by decide +kernel) rfl) rfl rfl dX10_copyFrom_16 ?_
  obtain ⟨q4, h5, hf⟩ := knBd_inv hf
  refine kj_callV (As := [knO G (a1 + 5)]) (rest := []) X K (kcX1_copyFrom l (knD7 ha0).2 (knD7 ha1).2 h5) knWvX1_copyFrom (knGm 420 (by decide +kernel) rfl) (by decide) (knKd_in (knD7 ha0).2 (by decide)) (knEnt_0 (knD7 ha0).2) rfl rfl rfl (Nat.le_of_ble_eq_true rfl) (by decide) dX10_copyFrom_19 rfl (fun h6 => ?_)
  cases hf
  exact kj_vret X trivial hr dX10_copyFrom_22 hlk

def kfX6_stage (a1 : Int) (μ : knMem) : Option (knMem) :=
 knGd (0 ≤ (μ 23 1) ∧ (μ 23 1) < 9)
  (Option.bind (kfX10_copyFrom (25 + 9 * (μ 23 1)) a1 μ) (fun q3 =>
  some q3))

theorem knWvX6_stage : knWv yX6_stage cX6_stage 2 none 1 := ⟨(knGm 411 (by decide +kernel) rfl), (knGm 118 (by decide +kernel) rfl), (knGm 409 (by decide +kernel) rfl), (knGm 410 (by decide +kernel) rfl), by decide +kernel, by decide +kernel, by decide +kernel⟩
set_option maxHeartbeats 4000000 in
set_option maxRecDepth 100000 in
theorem kcX6_stage {G : knGT} (l : Launch) {a1 : Int} (ha1 : knKd a1 = 7) {μ : knMem} {q : knMem} (hf : kfX6_stage a1 μ = some q) : knC0 G l yX6_stage cX6_stage 2 none 2 43 [knO G 23, knO G a1] μ True none q := by
  unfold kfX6_stage at hf
  refine kn_ofJ (plainFor_of_name (by decide)) (Nat.le_of_ble_eq_true rfl) (L := [(0, knO G 23), (1, knO G a1)]) rfl ?_
  intro p e s m args below meth c X K hr hlk
  refine kj_aloadn X 0 dX6_stage_0 rfl ?_
  refine kj_geto (k := 0) (o2 := 24) X K kdc_23 (by decide) (knEnt_4 kdc_23) rfl (by decide) knInX6 (knGm 240 (by decide +kernel) rfl) rfl rfl dX6_stage_1 ?_
  refine kj_aloadn X 0 dX6_stage_4 rfl ?_
  refine kj_geti (k := 1) (ki := 1) X K rfl kdc_23 (by decide) (knEnt_4 kdc_23) rfl (by decide) knInX6 (knGm 241 (by decide +kernel) rfl) rfl rfl dX6_stage_5 (fun h1 => ?_)
  obtain ⟨h2, hf⟩ := knGd_inv hf
  refine kj_ald23 X K h1 h2 dX6_stage_8 ?_
  refine kj_aloadn X 1 dX6_stage_9 rfl ?_
  obtain ⟨q3, h4, hf⟩ := knBd_inv hf
  refine kj_callV (As := [knO G a1]) (rest := []) X K (kcX10_copyFrom l (knSlots h2) ha1 h4) knWvX10_copyFrom (knGm 412 (by decide +kernel) rfl) (by decide) (knKd_in (knSlots h2) (by decide)) (knEnt_7 (knSlots h2)) rfl rfl rfl (Nat.le_of_ble_eq_true rfl) (by decide) dX6_stage_10 rfl (fun h5 => ?_)
  cases hf
  exact kj_vret X trivial hr dX6_stage_13 hlk

def kfX5_hasPlace (a0 : Int) (a1 : Int) (μ : knMem) : Option (Int) :=
 (fun (k4 : (Unit) → Option (Int)) =>
  if a1 < 0 then
   k4 ()
  else
   if (knW (2 * (μ a0 3))) < a1 then
    k4 ()
   else
    some 1)
  (fun _ =>
  some 0)

theorem knWvX5_hasPlace : knWv yX5_hasPlace cX5_hasPlace 2 (some .boolean) 1 := ⟨(knGm 951 (by decide +kernel) rfl), (knGm 116 (by decide +kernel) rfl), (knGm 949 (by decide +kernel) rfl), (knGm 950 (by decide +kernel) rfl), by decide +kernel, by decide +kernel, by decide +kernel⟩
set_option maxHeartbeats 4000000 in
set_option maxRecDepth 100000 in
theorem kcX5_hasPlace {G : knGT} (l : Launch) {a0 : Int} {a1 : Int} (ha0 : knKd a0 = 3) (ha1 : knC a1) {μ : knMem} {q : Int} (hf : kfX5_hasPlace a0 a1 μ = some q) : knC0 G l yX5_hasPlace cX5_hasPlace 2 (some .boolean) 0 0 [knO G a0, knV a1] μ (knZ q) (some (knV q)) μ := by
  unfold kfX5_hasPlace at hf
  refine kn_ofJ (plainFor_of_name (by decide)) (Nat.le_of_ble_eq_true rfl) (L := [(0, knO G a0), (1, knV a1)]) rfl ?_
  intro p e s m args below meth c X K hr hlk
  refine kj_iloadn X 1 dX5_hasPlace_0 rfl ?_
  have j4 : (fun _ =>
   some 0) () = some q → knJ G p l e { frames := 0, cells := 0, slots := 0, locals := 0 } s m args below meth c 2 0 0 (MQ below (knPo G (knZ q) (some (knV q)) μ) args s 0 0 (knA G)) 18 [] [] μ := by
    intro hf
    refine kj_iconst X dX5_hasPlace_18 ?_
    cases hf
    exact kj_zret X (Or.inl rfl) hr (kn_nb (Or.inl rfl)) dX5_hasPlace_19 hlk
  refine kj_if_lt X (tgt := 18) dX5_hasPlace_1 (by decide) ha1 (fun h6 => ?_) (fun h6 => ?_)
  · replace hf := knIp hf h6
    refine kj_sub (L' := []) [] rfl ?_
    exact j4  hf
  · replace hf := knIq hf h6
    refine kj_iloadn X 1 dX5_hasPlace_4 rfl ?_
    refine kj_iconst X dX5_hasPlace_5 ?_
    refine kj_aloadn X 0 dX5_hasPlace_6 rfl ?_
    refine kj_geti (k := 3) (ki := 3) X K rfl ha0 (by decide) (knEnt_3 ha0) rfl (by decide) knInX5 (knGm 177 (by decide +kernel) rfl) rfl rfl dX5_hasPlace_7 (fun h7 => ?_)
    refine kj_imul X dX5_hasPlace_10 ?_
    refine kj_ic_gt X (tgt := 18) dX5_hasPlace_11 (by decide) ha1 (knCw _) (fun h8 => ?_) (fun h8 => ?_)
    · replace hf := knIp hf h8
      refine kj_sub (L' := []) [] rfl ?_
      exact j4  hf
    · replace hf := knIq hf h8
      refine kj_iconst X dX5_hasPlace_14 ?_
      refine kj_goto X (tgt := 19) dX5_hasPlace_15 (by decide) ?_
      cases hf
      exact kj_zret X (Or.inr rfl) hr (kn_nb (Or.inr rfl)) dX5_hasPlace_19 hlk

def kfX5_widen_l2  (x0 : Int) (x1 : Int)  (kc : (knMem) → Option (knMem)) : Nat → Int → knMem → Option (knMem)
  | 0, _, _ => none
  | n + 1, x2, μ =>
    if (μ x0 3) ≤ x2 then
     kc μ
    else
     knGd (0 ≤ x2 ∧ x2 < 7)
      (kfX5_widen_l2  x0 x1 kc n (knW (x2 + 1)) (knUp (knUp μ (x0 + 1) x2 (knW ((μ (x0 + 1) x2) + (if (μ (x0 + 1) x2) < x1 then 0 else 2 : Int)))) (x0 + 2) x2 (knW (((knUp μ (x0 + 1) x2 (knW ((μ (x0 + 1) x2) + (if (μ (x0 + 1) x2) < x1 then 0 else 2 : Int)))) (x0 + 2) x2) + (if ((knUp μ (x0 + 1) x2 (knW ((μ (x0 + 1) x2) + (if (μ (x0 + 1) x2) < x1 then 0 else 2 : Int)))) (x0 + 2) x2) < x1 then 0 else 2 : Int)))))

def kfX5_widen (a0 : Int) (a1 : Int) (μ : knMem) : Option (knMem) :=
 kfX5_widen_l2 a0 a1  (fun w16 =>
  some w16) knF 0 μ

theorem knWvX5_widen : knWv yX5_widen cX5_widen 3 none 1 := ⟨(knGm 957 (by decide +kernel) rfl), (knGm 116 (by decide +kernel) rfl), (knGm 956 (by decide +kernel) rfl), (knGm 15 (by decide +kernel) rfl), by decide +kernel, by decide +kernel, by decide +kernel⟩
set_option maxHeartbeats 4000000 in
set_option maxRecDepth 100000 in
theorem kfX5_widen_l2_ok {q : knMem} {kc : (knMem) → Option (knMem)} {G : knGT} {p : Program} {l : Launch} {e : Env} {s : State} {m : MethodId} {args : Array Value} {below : List Frame} {meth : Method} {c : Code} (X : knX p m c cX5_widen 3 s args yX5_widen.cls) (K : knK G s s.heap) (hr : meth.sig.returnType = none) (hlk : meth.locks = false) (x0 : Int) (x1 : Int) (hx0 : knKd x0 = 3) (hx1 : knC x1)  (hk : ∀ (μ1 : knMem), kc μ1 = some q → knJ G p l e { frames := 0, cells := 0, slots := 0, locals := 0 } s m args below meth c 3 0 0 (MQ below (knPo G True none q) args s 0 0 (knA G)) 64 [] [] μ1) : ∀ (n : Nat) (x2 : Int) (hx2 : knC x2) (μ : knMem), kfX5_widen_l2  x0 x1 kc n x2 μ = some q → knJ G p l e { frames := 0, cells := 0, slots := 0, locals := 0 } s m args below meth c 3 0 0 (MQ below (knPo G True none q) args s 0 0 (knA G)) 2 [(0, knO G x0), (1, knV x1), (2, knV x2)] [] μ := by
  intro n
  induction n with
  | zero => intro x2 hx2 μ hf; cases hf
  | succ n ih =>
    intro x2 hx2 μ hf
    unfold kfX5_widen_l2 at hf
    refine kj_iloadn X 2 dX5_widen_2 rfl ?_
    refine kj_aloadn X 0 dX5_widen_3 rfl ?_
    refine kj_geti (k := 3) (ki := 3) X K rfl hx0 (by decide) (knEnt_3 hx0) rfl (by decide) knInX5 (knGm 177 (by decide +kernel) rfl) rfl rfl dX5_widen_4 (fun h1 => ?_)
    refine kj_ic_ge X (tgt := 64) dX5_widen_7 (by decide) hx2 h1 (fun h2 => ?_) (fun h2 => ?_)
    · replace hf := knIp hf h2
      refine kj_sub (L' := []) [] rfl ?_
      exact hk _ hf
    · replace hf := knIq hf h2
      refine kj_aloadn X 0 dX5_widen_10 rfl ?_
      refine kj_geto (k := 0) (o2 := (x0 + 1)) X K hx0 (by decide) (knEnt_3 hx0) rfl (by decide) knInX5 (knGm 166 (by decide +kernel) rfl) rfl rfl dX5_widen_11 ?_
      refine kj_iloadn X 2 dX5_widen_14 rfl ?_
      refine kj_dup2 X dX5_widen_15 rfl rfl ?_
      obtain ⟨h3, hf⟩ := knGd_inv hf
      refine kj_iald X K (knD3 hx0).1.1 hx2 (knD3 hx0).2.1 h3 dX5_widen_16 (fun h4 => ?_)
      refine kj_aloadn X 0 dX5_widen_17 rfl ?_
      refine kj_geto (k := 0) (o2 := (x0 + 1)) X K hx0 (by decide) (knEnt_3 hx0) rfl (by decide) knInX5 (knGm 166 (by decide +kernel) rfl) rfl rfl dX5_widen_18 ?_
      refine kj_iloadn X 2 dX5_widen_21 rfl ?_
      refine kj_iald X K (knD3 hx0).1.1 hx2 (knD3 hx0).2.1 h3 dX5_widen_22 (fun h5 => ?_)
      refine kj_iloadn X 1 dX5_widen_23 rfl ?_
      have j7 : ∀ (t7_0 : Int) (et7_0 : t7_0 = (if (μ (x0 + 1) x2) < x1 then 0 else 2 : Int)) (ht7_0 : knH t7_0), knJ G p l e { frames := 0, cells := 0, slots := 0, locals := 0 } s m args below meth c 3 0 0 (MQ below (knPo G True none q) args s 0 0 (knA G)) 32 [(0, knO G x0), (1, knV x1), (2, knV x2)] [knV t7_0, knV (μ (x0 + 1) x2), knV x2, knO G (x0 + 1)] μ := by
        intro t7_0 et7_0 ht7_0
        subst et7_0
        refine kj_iadd X dX5_widen_32 ?_
        refine kj_iast X K (knD3 hx0).1.1 hx2 (knCw _) (knD3 hx0).2.1 h3 dX5_widen_33 ?_
        refine kj_aloadn X 0 dX5_widen_34 rfl ?_
        refine kj_geto (k := 1) (o2 := (x0 + 2)) X K hx0 (by decide) (knEnt_3 hx0) rfl (by decide) knInX5 (knGm 170 (by decide +kernel) rfl) rfl rfl dX5_widen_35 ?_
        refine kj_iloadn X 2 dX5_widen_38 rfl ?_
        refine kj_dup2 X dX5_widen_39 rfl rfl ?_
        refine kj_iald X K (knD3 hx0).1.2.1 hx2 (knD3 hx0).2.2.1 h3 dX5_widen_40 (fun h9 => ?_)
        refine kj_aloadn X 0 dX5_widen_41 rfl ?_
        refine kj_geto (k := 1) (o2 := (x0 + 2)) X K hx0 (by decide) (knEnt_3 hx0) rfl (by decide) knInX5 (knGm 170 (by decide +kernel) rfl) rfl rfl dX5_widen_42 ?_
        refine kj_iloadn X 2 dX5_widen_45 rfl ?_
        refine kj_iald X K (knD3 hx0).1.2.1 hx2 (knD3 hx0).2.2.1 h3 dX5_widen_46 (fun h10 => ?_)
        refine kj_iloadn X 1 dX5_widen_47 rfl ?_
        have j12 : ∀ (t12_0 : Int) (et12_0 : t12_0 = (if ((knUp μ (x0 + 1) x2 (knW ((μ (x0 + 1) x2) + (if (μ (x0 + 1) x2) < x1 then 0 else 2 : Int)))) (x0 + 2) x2) < x1 then 0 else 2 : Int)) (ht12_0 : knH t12_0), knJ G p l e { frames := 0, cells := 0, slots := 0, locals := 0 } s m args below meth c 3 0 0 (MQ below (knPo G True none q) args s 0 0 (knA G)) 56 [(0, knO G x0), (1, knV x1), (2, knV x2)] [knV t12_0, knV ((knUp μ (x0 + 1) x2 (knW ((μ (x0 + 1) x2) + (if (μ (x0 + 1) x2) < x1 then 0 else 2 : Int)))) (x0 + 2) x2), knV x2, knO G (x0 + 2)] (knUp μ (x0 + 1) x2 (knW ((μ (x0 + 1) x2) + (if (μ (x0 + 1) x2) < x1 then 0 else 2 : Int)))) := by
          intro t12_0 et12_0 ht12_0
          subst et12_0
          refine kj_iadd X dX5_widen_56 ?_
          refine kj_iast X K (knD3 hx0).1.2.1 hx2 (knCw _) (knD3 hx0).2.2.1 h3 dX5_widen_57 ?_
          refine kj_iinc X 2 (L' := [(2, knV (knW (x2 + 1))), (0, knO G x0), (1, knV x1)]) dX5_widen_58 rfl (by decide) rfl ?_
          refine kj_goto X (tgt := 2) dX5_widen_61 (by decide) ?_
          refine kj_sub (L' := [(0, knO G x0), (1, knV x1), (2, knV (knW (x2 + 1)))]) [1, 2, 0] rfl ?_
          exact ih _ (knCw _) _ hf
        refine kj_ic_lt X (tgt := 55) dX5_widen_48 (by decide) h10 hx1 (fun h14 => ?_) (fun h14 => ?_)
        · refine kj_iconst X dX5_widen_55 ?_
          refine kj_sub (L' := [(0, knO G x0), (1, knV x1), (2, knV x2)]) [0, 1, 2] rfl ?_
          exact j12 0 (by rw [if_pos h14]) (show knH (0) from ⟨by omega, by omega⟩)
        · refine kj_iconst X dX5_widen_51 ?_
          refine kj_goto X (tgt := 56) dX5_widen_52 (by decide) ?_
          refine kj_sub (L' := [(0, knO G x0), (1, knV x1), (2, knV x2)]) [0, 1, 2] rfl ?_
          exact j12 2 (by rw [if_neg h14]) (show knH (2) from ⟨by omega, by omega⟩)
      refine kj_ic_lt X (tgt := 31) dX5_widen_24 (by decide) h5 hx1 (fun h15 => ?_) (fun h15 => ?_)
      · refine kj_iconst X dX5_widen_31 ?_
        refine kj_sub (L' := [(0, knO G x0), (1, knV x1), (2, knV x2)]) [0, 1, 2] rfl ?_
        exact j7 0 (by rw [if_pos h15]) (show knH (0) from ⟨by omega, by omega⟩)
      · refine kj_iconst X dX5_widen_27 ?_
        refine kj_goto X (tgt := 32) dX5_widen_28 (by decide) ?_
        refine kj_sub (L' := [(0, knO G x0), (1, knV x1), (2, knV x2)]) [0, 1, 2] rfl ?_
        exact j7 2 (by rw [if_neg h15]) (show knH (2) from ⟨by omega, by omega⟩)

set_option maxHeartbeats 4000000 in
set_option maxRecDepth 100000 in
theorem kcX5_widen {G : knGT} (l : Launch) {a0 : Int} {a1 : Int} (ha0 : knKd a0 = 3) (ha1 : knC a1) {μ : knMem} {q : knMem} (hf : kfX5_widen a0 a1 μ = some q) : knC0 G l yX5_widen cX5_widen 3 none 0 0 [knO G a0, knV a1] μ True none q := by
  unfold kfX5_widen at hf
  refine kn_ofJ (plainFor_of_name (by decide)) (Nat.le_of_ble_eq_true rfl) (L := [(0, knO G a0), (1, knV a1)]) rfl ?_
  intro p e s m args below meth c X K hr hlk
  refine kj_iconst X dX5_widen_0 ?_
  refine kj_istoren X (L' := [(2, knV 0), (0, knO G a0), (1, knV a1)]) dX5_widen_1 (by decide) rfl ?_
  refine kj_sub (L' := [(0, knO G a0), (1, knV a1), (2, knV 0)]) [1, 2, 0] rfl ?_
  refine kfX5_widen_l2_ok X K hr hlk a0 a1 ha0 ha1  ?_ knF _ (show knC (0) from ⟨by omega, by omega⟩) _ hf
  intro w16_m
  intro hf
  cases hf
  exact kj_vret X trivial hr dX5_widen_64 hlk

def kfX5_append (a0 : Int) (a1 : Int) (a2 : Int) (a3 : Int) (μ : knMem) : Option (knMem) :=
 knGd (0 ≤ (μ a0 3) ∧ (μ a0 3) < 7)
  (knGd (0 ≤ ((knUp μ (a0 + 1) (μ a0 3) a1) a0 3) ∧ ((knUp μ (a0 + 1) (μ a0 3) a1) a0 3) < 7)
  (knGd (0 ≤ ((knUp (knUp μ (a0 + 1) (μ a0 3) a1) (a0 + 2) ((knUp μ (a0 + 1) (μ a0 3) a1) a0 3) a2) a0 3) ∧ ((knUp (knUp μ (a0 + 1) (μ a0 3) a1) (a0 + 2) ((knUp μ (a0 + 1) (μ a0 3) a1) a0 3) a2) a0 3) < 7)
  (some (knUp (knUp (knUp (knUp μ (a0 + 1) (μ a0 3) a1) (a0 + 2) ((knUp μ (a0 + 1) (μ a0 3) a1) a0 3) a2) (a0 + 3) ((knUp (knUp μ (a0 + 1) (μ a0 3) a1) (a0 + 2) ((knUp μ (a0 + 1) (μ a0 3) a1) a0 3) a2) a0 3) (knNz a3)) a0 3 (knW (((knUp (knUp (knUp μ (a0 + 1) (μ a0 3) a1) (a0 + 2) ((knUp μ (a0 + 1) (μ a0 3) a1) a0 3) a2) (a0 + 3) ((knUp (knUp μ (a0 + 1) (μ a0 3) a1) (a0 + 2) ((knUp μ (a0 + 1) (μ a0 3) a1) a0 3) a2) a0 3) (knNz a3)) a0 3) + 1))))))

theorem knWvX5_append : knWv yX5_append cX5_append 4 none 3 := ⟨(knGm 961 (by decide +kernel) rfl), (knGm 116 (by decide +kernel) rfl), (knGm 960 (by decide +kernel) rfl), (knGm 16 (by decide +kernel) rfl), by decide +kernel, by decide +kernel, by decide +kernel⟩
set_option maxHeartbeats 4000000 in
set_option maxRecDepth 100000 in
theorem kcX5_append {G : knGT} (l : Launch) {a0 : Int} {a1 : Int} {a2 : Int} {a3 : Int} (ha0 : knKd a0 = 3) (ha1 : knC a1) (ha2 : knC a2) (ha3 : knZ a3) {μ : knMem} {q : knMem} (hf : kfX5_append a0 a1 a2 a3 μ = some q) : knC0 G l yX5_append cX5_append 4 none 0 0 [knO G a0, knV a1, knV a2, knV a3] μ True none q := by
  unfold kfX5_append at hf
  refine kn_ofJ (plainFor_of_name (by decide)) (Nat.le_of_ble_eq_true rfl) (L := [(0, knO G a0), (1, knV a1), (2, knV a2), (3, knV a3)]) rfl ?_
  intro p e s m args below meth c X K hr hlk
  refine kj_aloadn X 0 dX5_append_0 rfl ?_
  refine kj_geto (k := 0) (o2 := (a0 + 1)) X K ha0 (by decide) (knEnt_3 ha0) rfl (by decide) knInX5 (knGm 166 (by decide +kernel) rfl) rfl rfl dX5_append_1 ?_
  refine kj_aloadn X 0 dX5_append_4 rfl ?_
  refine kj_geti (k := 3) (ki := 3) X K rfl ha0 (by decide) (knEnt_3 ha0) rfl (by decide) knInX5 (knGm 177 (by decide +kernel) rfl) rfl rfl dX5_append_5 (fun h1 => ?_)
  refine kj_iloadn X 1 dX5_append_8 rfl ?_
  obtain ⟨h2, hf⟩ := knGd_inv hf
  refine kj_iast X K (knD3 ha0).1.1 h1 ha1 (knD3 ha0).2.1 h2 dX5_append_9 ?_
  refine kj_aloadn X 0 dX5_append_10 rfl ?_
  refine kj_geto (k := 1) (o2 := (a0 + 2)) X K ha0 (by decide) (knEnt_3 ha0) rfl (by decide) knInX5 (knGm 170 (by decide +kernel) rfl) rfl rfl dX5_append_11 ?_
  refine kj_aloadn X 0 dX5_append_14 rfl ?_
  refine kj_geti (k := 3) (ki := 3) X K rfl ha0 (by decide) (knEnt_3 ha0) rfl (by decide) knInX5 (knGm 177 (by decide +kernel) rfl) rfl rfl dX5_append_15 (fun h3 => ?_)
  refine kj_iloadn X 2 dX5_append_18 rfl ?_
  obtain ⟨h4, hf⟩ := knGd_inv hf
  refine kj_iast X K (knD3 ha0).1.2.1 h3 ha2 (knD3 ha0).2.2.1 h4 dX5_append_19 ?_
  refine kj_aloadn X 0 dX5_append_20 rfl ?_
  refine kj_geto (k := 2) (o2 := (a0 + 3)) X K ha0 (by decide) (knEnt_3 ha0) rfl (by decide) knInX5 (knGm 174 (by decide +kernel) rfl) rfl rfl dX5_append_21 ?_
  refine kj_aloadn X 0 dX5_append_24 rfl ?_
  refine kj_geti (k := 3) (ki := 3) X K rfl ha0 (by decide) (knEnt_3 ha0) rfl (by decide) knInX5 (knGm 177 (by decide +kernel) rfl) rfl rfl dX5_append_25 (fun h5 => ?_)
  refine kj_iloadn X 3 dX5_append_28 rfl ?_
  obtain ⟨h6, hf⟩ := knGd_inv hf
  refine kj_zast X K (knD3 ha0).1.2.2 h5 (knD3 ha0).2.2.2 h6 dX5_append_29 ?_
  refine kj_aloadn X 0 dX5_append_30 rfl ?_
  refine kj_dup X dX5_append_31 rfl ?_
  refine kj_geti (k := 3) (ki := 3) X K rfl ha0 (by decide) (knEnt_3 ha0) rfl (by decide) knInX5 (knGm 177 (by decide +kernel) rfl) rfl rfl dX5_append_32 (fun h7 => ?_)
  refine kj_iconst X dX5_append_35 ?_
  refine kj_iadd X dX5_append_36 ?_
  refine kj_putf (k := 3) (ki := 3) (x := (knW (((knUp (knUp (knUp μ (a0 + 1) (μ a0 3) a1) (a0 + 2) ((knUp μ (a0 + 1) (μ a0 3) a1) a0 3) a2) (a0 + 3) ((knUp (knUp μ (a0 + 1) (μ a0 3) a1) (a0 + 2) ((knUp μ (a0 + 1) (μ a0 3) a1) a0 3) a2) a0 3) (knNz a3)) a0 3) + 1))) (ty := .int) X K rfl (knKd_in ha0 (by decide)) (knEnt_3 ha0) rfl (by decide) knInX5 tyX5_ok nmX5 (knGm 177 (by decide +kernel) rfl) rfl rfl (by decide +kernel) rfl rfl (by simp) (by rw [knEnt_3 ha0, knUp_row]; rfl) (fun _ => (knCw _)) (fun h => by rw [ha0] at h; cases h) (fun h => by rw [ha0] at h; cases h) dX5_append_37 ?_
  cases hf
  exact kj_vret X trivial hr dX5_append_40 hlk

def kfX5_putCurl (a0 : Int) (a1 : Int) (a2 : Int) (a3 : Int) (μ : knMem) : Option (Int × knMem) :=
 Option.bind (kfX5_hasPlace a0 a1 μ) (fun q1 =>
  if q1 = 0 then
   some (1, μ)
  else
   if (μ a0 3) ≤ 6 then
    Option.bind (kfX5_widen a0 a1 μ) (fun q7 =>
     Option.bind (kfX5_append a0 (if a3 = 0 then (knW (a1 + 1)) else a1 : Int) (if a3 = 0 then a1 else (knW (a1 + 1)) : Int) a2 q7) (fun q16 =>
      some (0, q16)))
   else
    some (3, μ))

theorem knWvX5_putCurl : knWv yX5_putCurl cX5_putCurl 4 (some (.object "KnotLaboratory$Refusal")) 3 := ⟨(knGm 947 (by decide +kernel) rfl), (knGm 116 (by decide +kernel) rfl), (knGm 945 (by decide +kernel) rfl), (knGm 946 (by decide +kernel) rfl), by decide +kernel, by decide +kernel, by decide +kernel⟩
set_option maxHeartbeats 4000000 in
set_option maxRecDepth 100000 in
theorem kcX5_putCurl {G : knGT} (l : Launch) {a0 : Int} {a1 : Int} {a2 : Int} {a3 : Int} (ha0 : knKd a0 = 3) (ha1 : knC a1) (ha2 : knZ a2) (ha3 : knZ a3) {μ : knMem} {q : Int × knMem} (hf : kfX5_putCurl a0 a1 a2 a3 μ = some q) : knC0 G l yX5_putCurl cX5_putCurl 4 (some (.object "KnotLaboratory$Refusal")) 1 23 [knO G a0, knV a1, knV a2, knV a3] μ (0 ≤ q.1 ∧ q.1 < 6) (some (knRf G q.1)) q.2 := by
  unfold kfX5_putCurl at hf
  refine kn_ofJ (plainFor_of_name (by decide)) (Nat.le_of_ble_eq_true rfl) (L := [(0, knO G a0), (1, knV a1), (2, knV a2), (3, knV a3)]) rfl ?_
  intro p e s m args below meth c X K hr hlk
  refine kj_aloadn X 0 dX5_putCurl_0 rfl ?_
  refine kj_iloadn X 1 dX5_putCurl_1 rfl ?_
  obtain ⟨q1, h2, hf⟩ := knBd_inv hf
  refine kj_callV (As := [knV a1]) (rest := []) X K (kcX5_hasPlace l ha0 ha1 h2) knWvX5_hasPlace (knGm 948 (by decide +kernel) rfl) (by decide) (knKd_in ha0 (by decide)) (knEnt_3 ha0) rfl rfl rfl (Nat.le_of_ble_eq_true rfl) (by decide) dX5_putCurl_2 rfl (fun h3 => ?_)
  refine kj_if_ne X (tgt := 12) dX5_putCurl_5 (by decide) (knZ_c h3) (fun h4 => ?_) (fun h4 => ?_)
  · replace hf := knIq hf h4
    refine kj_aloadn X 0 dX5_putCurl_12 rfl ?_
    refine kj_geti (k := 3) (ki := 3) X K rfl ha0 (by decide) (knEnt_3 ha0) rfl (by decide) knInX5 (knGm 177 (by decide +kernel) rfl) rfl rfl dX5_putCurl_13 (fun h5 => ?_)
    refine kj_bipush X (n := 6) dX5_putCurl_16 rfl ?_
    refine kj_ic_le X (tgt := 25) dX5_putCurl_18 (by decide) h5 (show knC (6) from ⟨by omega, by omega⟩) (fun h6 => ?_) (fun h6 => ?_)
    · replace hf := knIp hf h6
      refine kj_aloadn X 0 dX5_putCurl_25 rfl ?_
      refine kj_iloadn X 1 dX5_putCurl_26 rfl ?_
      obtain ⟨q7, h8, hf⟩ := knBd_inv hf
      refine kj_callV (As := [knV a1]) (rest := []) X K (kcX5_widen l ha0 ha1 h8) knWvX5_widen (knGm 954 (by decide +kernel) rfl) (by decide) (knKd_in ha0 (by decide)) (knEnt_3 ha0) rfl rfl rfl (Nat.le_of_ble_eq_true rfl) (by decide) dX5_putCurl_27 rfl (fun h9 => ?_)
      refine kj_aloadn X 0 dX5_putCurl_30 rfl ?_
      refine kj_iloadn X 3 dX5_putCurl_31 rfl ?_
      have j11 : ∀ (t11_0 : Int) (et11_0 : t11_0 = (if a3 = 0 then (knW (a1 + 1)) else a1 : Int)) (ht11_0 : knC t11_0), knJ G p l e { frames := 1, cells := 0, slots := 0, locals := 23 } s m args below meth c 4 0 0 (MQ below (knPo G (0 ≤ q.1 ∧ q.1 < 6) (some (knRf G q.1)) q.2) args s 0 0 (knA G)) 42 [(1, knV a1), (2, knV a2), (3, knV a3)] [knV t11_0, knO G a0] q7 := by
        intro t11_0 et11_0 ht11_0
        subst et11_0
        refine kj_iloadn X 2 dX5_putCurl_42 rfl ?_
        have j14 : ∀ (t14_0 : Int) (et14_0 : t14_0 = (if a3 = 0 then a1 else (knW (a1 + 1)) : Int)) (ht14_0 : knC t14_0), knJ G p l e { frames := 1, cells := 0, slots := 0, locals := 23 } s m args below meth c 4 0 0 (MQ below (knPo G (0 ≤ q.1 ∧ q.1 < 6) (some (knRf G q.1)) q.2) args s 0 0 (knA G)) 53 [(2, knV a2)] [knV t14_0, knV (if a3 = 0 then (knW (a1 + 1)) else a1 : Int), knO G a0] q7 := by
          intro t14_0 et14_0 ht14_0
          subst et14_0
          refine kj_iloadn X 0 dX5_putCurl_53 rfl ?_
          obtain ⟨q16, h17, hf⟩ := knBd_inv hf
          refine kj_callV (As := [knV (if a3 = 0 then (knW (a1 + 1)) else a1 : Int), knV (if a3 = 0 then a1 else (knW (a1 + 1)) : Int), knV a2]) (rest := []) X K (kcX5_append l ha0 ht11_0 ht14_0 ha2 h17) knWvX5_append (knGm 958 (by decide +kernel) rfl) (by decide) (knKd_in ha0 (by decide)) (knEnt_3 ha0) rfl rfl rfl (Nat.le_of_ble_eq_true rfl) (by decide) dX5_putCurl_54 rfl (fun h18 => ?_)
          refine kj_refusal X K (i := 0) (by decide) (knGm 432 (by decide +kernel) rfl) dX5_putCurl_57 ?_
          cases hf
          exact kj_aret X (show 0 ≤ (0 : Int) ∧ (0 : Int) < 6 from ⟨by omega, by omega⟩) hr (Or.inl ⟨_, rfl⟩) (Or.inr ⟨_, rfl⟩) dX5_putCurl_60 hlk
        refine kj_if_eq X (tgt := 52) dX5_putCurl_43 (by decide) (knZ_c ha3) (fun h19 => ?_) (fun h19 => ?_)
        · refine kj_iloadn X 0 dX5_putCurl_52 rfl ?_
          refine kj_sub (L' := [(2, knV a2)]) [1] rfl ?_
          exact j14 a1 (by rw [if_pos h19]) ha1
        · refine kj_iloadn X 0 dX5_putCurl_46 rfl ?_
          refine kj_iconst X dX5_putCurl_47 ?_
          refine kj_iadd X dX5_putCurl_48 ?_
          refine kj_goto X (tgt := 53) dX5_putCurl_49 (by decide) ?_
          refine kj_sub (L' := [(2, knV a2)]) [1] rfl ?_
          exact j14 (knW (a1 + 1)) (by rw [if_neg h19]) (knCw _)
      refine kj_if_eq X (tgt := 39) dX5_putCurl_32 (by decide) (knZ_c ha3) (fun h20 => ?_) (fun h20 => ?_)
      · refine kj_iloadn X 1 dX5_putCurl_39 rfl ?_
        refine kj_iconst X dX5_putCurl_40 ?_
        refine kj_iadd X dX5_putCurl_41 ?_
        refine kj_sub (L' := [(1, knV a1), (2, knV a2), (3, knV a3)]) [1, 2, 3] rfl ?_
        exact j11 (knW (a1 + 1)) (by rw [if_pos h20]) (knCw _)
      · refine kj_iloadn X 1 dX5_putCurl_35 rfl ?_
        refine kj_goto X (tgt := 42) dX5_putCurl_36 (by decide) ?_
        refine kj_sub (L' := [(1, knV a1), (2, knV a2), (3, knV a3)]) [1, 2, 3] rfl ?_
        exact j11 a1 (by rw [if_neg h20]) ha1
    · replace hf := knIq hf h6
      refine kj_refusal X K (i := 3) (by decide) (knGm 953 (by decide +kernel) rfl) dX5_putCurl_21 ?_
      cases hf
      exact kj_aret X (show 0 ≤ (3 : Int) ∧ (3 : Int) < 6 from ⟨by omega, by omega⟩) hr (Or.inl ⟨_, rfl⟩) (Or.inr ⟨_, rfl⟩) dX5_putCurl_24 hlk
  · replace hf := knIp hf h4
    refine kj_refusal X K (i := 1) (by decide) (knGm 952 (by decide +kernel) rfl) dX5_putCurl_8 ?_
    cases hf
    exact kj_aret X (show 0 ≤ (1 : Int) ∧ (1 : Int) < 6 from ⟨by omega, by omega⟩) hr (Or.inl ⟨_, rfl⟩) (Or.inr ⟨_, rfl⟩) dX5_putCurl_11 hlk

def kfX12_raise (a0 : Int) (μ : knMem) : Option (Int) :=
 if a0 = 1 then
  some 1
 else
  if a0 = 2 then
   some 2
  else
   if a0 = 3 then
    some 3
   else
    if a0 = 4 then
     some 4
    else
     if a0 = 5 then
      some 5
     else
      some 0

theorem knWkX12_raise : knWk yX12_raise cX12_raise 1 none 1 := ⟨(knGm 440 (by decide +kernel) rfl), (knGm 114 (by decide +kernel) rfl), (knGm 439 (by decide +kernel) rfl), by decide +kernel, by decide +kernel, by decide +kernel⟩
set_option maxHeartbeats 4000000 in
set_option maxRecDepth 100000 in
theorem kcX12_raise {G : knGT} (l : Launch) (hl : l.stackTraces = false) {a0 : Int} (ha0 : 0 ≤ a0 ∧ a0 < 6) {μ : knMem} {q : Int} (hf : kfX12_raise a0 μ = some q) : knCx G l yX12_raise cX12_raise 1 none 6 100 1 6 [knRf G a0] μ True q none μ := by
  unfold kfX12_raise at hf
  refine kn_ofJx (by decide) (Nat.le_of_ble_eq_true rfl) (L := [(0, knRf G a0)]) rfl ?_
  intro p e s m args below meth c X K hr hlk hnx
  refine kj_aloadn X 0 dX12_raise_0 rfl ?_
  refine kj_refusal X K (i := 1) (by decide) (knGm 441 (by decide +kernel) rfl) dX12_raise_1 ?_
  refine kj_ac_ne X K (tgt := 18) dX12_raise_4 (by decide) ha0 (show 0 ≤ (1 : Int) ∧ (1 : Int) < 6 from ⟨by omega, by omega⟩) (fun h1 => ?_) (fun h1 => ?_)
  · replace hf := knIq hf h1
    refine kj_aloadn X 0 dX12_raise_18 rfl ?_
    refine kj_refusal X K (i := 2) (by decide) (knGm 515 (by decide +kernel) rfl) dX12_raise_19 ?_
    refine kj_ac_ne X K (tgt := 36) dX12_raise_22 (by decide) ha0 (show 0 ≤ (2 : Int) ∧ (2 : Int) < 6 from ⟨by omega, by omega⟩) (fun h2 => ?_) (fun h2 => ?_)
    · replace hf := knIq hf h2
      refine kj_aloadn X 0 dX12_raise_36 rfl ?_
      refine kj_refusal X K (i := 3) (by decide) (knGm 533 (by decide +kernel) rfl) dX12_raise_37 ?_
      refine kj_ac_ne X K (tgt := 54) dX12_raise_40 (by decide) ha0 (show 0 ≤ (3 : Int) ∧ (3 : Int) < 6 from ⟨by omega, by omega⟩) (fun h3 => ?_) (fun h3 => ?_)
      · replace hf := knIq hf h3
        refine kj_aloadn X 0 dX12_raise_54 rfl ?_
        refine kj_refusal X K (i := 4) (by decide) (knGm 551 (by decide +kernel) rfl) dX12_raise_55 ?_
        refine kj_ac_ne X K (tgt := 72) dX12_raise_58 (by decide) ha0 (show 0 ≤ (4 : Int) ∧ (4 : Int) < 6 from ⟨by omega, by omega⟩) (fun h4 => ?_) (fun h4 => ?_)
        · replace hf := knIq hf h4
          refine kj_aloadn X 0 dX12_raise_72 rfl ?_
          refine kj_refusal X K (i := 5) (by decide) (knGm 569 (by decide +kernel) rfl) dX12_raise_73 ?_
          refine kj_ac_ne X K (tgt := 90) dX12_raise_76 (by decide) ha0 (show 0 ≤ (5 : Int) ∧ (5 : Int) < 6 from ⟨by omega, by omega⟩) (fun h5 => ?_) (fun h5 => ?_)
          · replace hf := knIq hf h5
            cases hf
            exact kjx_vret X trivial rfl (by decide) (by decide) hr dX12_raise_90 hlk
          · replace hf := knIp hf h5
            cases hf
            exact kjx_throw5W X K hl (i := 4) (by show (5 : Int) ≠ 0; decide) rfl (by decide +kernel) (by decide) rfl rfl knTh5.1 knTh5.2 dX12_raise_79 dX12_raise_82 dX12_raise_83 dX12_raise_86 dX12_raise_89 hnx (by decide) hlk (by decide) (by decide)
        · replace hf := knIp hf h4
          cases hf
          exact kjx_throwW X K hl (i := 3) (by show (4 : Int) ≠ 0; decide) rfl (by decide +kernel) (by decide) rfl rfl knTh4.1 knTh4.2 dX12_raise_61 dX12_raise_64 dX12_raise_65 dX12_raise_68 dX12_raise_71 hnx (by decide) hlk (by decide) (by decide)
      · replace hf := knIp hf h3
        cases hf
        exact kjx_throwW X K hl (i := 2) (by show (3 : Int) ≠ 0; decide) rfl (by decide +kernel) (by decide) rfl rfl knTh3.1 knTh3.2 dX12_raise_43 dX12_raise_46 dX12_raise_47 dX12_raise_50 dX12_raise_53 hnx (by decide) hlk (by decide) (by decide)
    · replace hf := knIp hf h2
      cases hf
      exact kjx_throwW X K hl (i := 1) (by show (2 : Int) ≠ 0; decide) rfl (by decide +kernel) (by decide) rfl rfl knTh2.1 knTh2.2 dX12_raise_25 dX12_raise_28 dX12_raise_29 dX12_raise_32 dX12_raise_35 hnx (by decide) hlk (by decide) (by decide)
  · replace hf := knIp hf h1
    cases hf
    exact kjx_throwW X K hl (i := 0) (by show (1 : Int) ≠ 0; decide) rfl (by decide +kernel) (by decide) rfl rfl knTh1.1 knTh1.2 dX12_raise_7 dX12_raise_10 dX12_raise_11 dX12_raise_14 dX12_raise_17 hnx (by decide) hlk (by decide) (by decide)

def kfJ9_min_7cf53 (a0 : Int) (a1 : Int) (μ : knMem) : Option (Int) :=
 some (if a1 < a0 then a1 else a0 : Int)

theorem knWkJ9_min_7cf53 : knWk yJ9_min_7cf53 cJ9_min_7cf53 2 (some .int) 2 := ⟨(knGm 593 (by decide +kernel) rfl), (knGm 137 (by decide +kernel) rfl), (knGm 592 (by decide +kernel) rfl), by decide +kernel, by decide +kernel, by decide +kernel⟩
set_option maxHeartbeats 4000000 in
set_option maxRecDepth 100000 in
theorem kcJ9_min_7cf53 {G : knGT} (l : Launch) {a0 : Int} {a1 : Int} (ha0 : knC a0) (ha1 : knC a1) {μ : knMem} {q : Int} (hf : kfJ9_min_7cf53 a0 a1 μ = some q) : knC0 G l yJ9_min_7cf53 cJ9_min_7cf53 2 (some .int) 0 0 [knV a0, knV a1] μ (knC q) (some (knV q)) μ := by
  unfold kfJ9_min_7cf53 at hf
  refine kn_ofJ kn_pf3 (Nat.le_of_ble_eq_true rfl) (L := [(0, knV a0), (1, knV a1)]) rfl ?_
  intro p e s m args below meth c X K hr hlk
  refine kj_iloadn X 0 dJ9_min_7cf53_0 rfl ?_
  refine kj_iloadn X 1 dJ9_min_7cf53_1 rfl ?_
  have j2 : ∀ (t2_0 : Int) (et2_0 : t2_0 = (if a1 < a0 then a1 else a0 : Int)) (ht2_0 : knC t2_0), knJ G p l e { frames := 0, cells := 0, slots := 0, locals := 0 } s m args below meth c 2 0 0 (MQ below (knPo G (knC q) (some (knV q)) μ) args s 0 0 (knA G)) 10 [] [knV t2_0] μ := by
    intro t2_0 et2_0 ht2_0
    subst et2_0
    cases hf
    exact kj_iret X ht2_0 hr dJ9_min_7cf53_10 hlk
  refine kj_ic_gt X (tgt := 9) dJ9_min_7cf53_2 (by decide) ha0 ha1 (fun h4 => ?_) (fun h4 => ?_)
  · refine kj_iloadn X 1 dJ9_min_7cf53_9 rfl ?_
    refine kj_sub (L' := []) [] rfl ?_
    exact j2 a1 (by rw [if_pos h4]) ha1
  · refine kj_iloadn X 0 dJ9_min_7cf53_5 rfl ?_
    refine kj_goto X (tgt := 10) dJ9_min_7cf53_6 (by decide) ?_
    refine kj_sub (L' := []) [] rfl ?_
    exact j2 a0 (by rw [if_neg h4]) ha0

def kfX6_keep  (μ : knMem) : Option (knMem) :=
 Option.bind (kfJ9_min_7cf53 (knW (((knUp μ 23 1 (if (μ 23 1) = 8 then 0 else (knW ((μ 23 1) + 1)) : Int)) 23 2) + 1)) 8 (knUp μ 23 1 (if (μ 23 1) = 8 then 0 else (knW ((μ 23 1) + 1)) : Int))) (fun q8 =>
  some (knUp (knUp μ 23 1 (if (μ 23 1) = 8 then 0 else (knW ((μ 23 1) + 1)) : Int)) 23 2 q8))

theorem knWvX6_keep : knWv yX6_keep cX6_keep 1 none 0 := ⟨(knGm 590 (by decide +kernel) rfl), (knGm 118 (by decide +kernel) rfl), (knGm 588 (by decide +kernel) rfl), (knGm 589 (by decide +kernel) rfl), by decide +kernel, by decide +kernel, by decide +kernel⟩
set_option maxHeartbeats 4000000 in
set_option maxRecDepth 100000 in
theorem kcX6_keep {G : knGT} (l : Launch)   {μ : knMem} {q : knMem} (hf : kfX6_keep  μ = some q) : knC0 G l yX6_keep cX6_keep 1 none 1 21 [knO G 23] μ True none q := by
  unfold kfX6_keep at hf
  refine kn_ofJ (plainFor_of_name (by decide)) (Nat.le_of_ble_eq_true rfl) (L := [(0, knO G 23)]) rfl ?_
  intro p e s m args below meth c X K hr hlk
  refine kj_aloadn X 0 dX6_keep_0 rfl ?_
  refine kj_aloadn X 0 dX6_keep_1 rfl ?_
  refine kj_geti (k := 1) (ki := 1) X K rfl kdc_23 (by decide) (knEnt_4 kdc_23) rfl (by decide) knInX6 (knGm 241 (by decide +kernel) rfl) rfl rfl dX6_keep_2 (fun h1 => ?_)
  refine kj_bipush X (n := 8) dX6_keep_5 rfl ?_
  have j4 : ∀ (t4_0 : Int) (et4_0 : t4_0 = (if (μ 23 1) = 8 then 0 else (knW ((μ 23 1) + 1)) : Int)) (ht4_0 : knC t4_0), knJ G p l e { frames := 1, cells := 0, slots := 0, locals := 21 } s m args below meth c 1 0 0 (MQ below (knPo G True none q) args s 0 0 (knA G)) 20 [(0, knO G 23)] [knV t4_0, knO G 23] μ := by
    intro t4_0 et4_0 ht4_0
    subst et4_0
    refine kj_putf (k := 1) (ki := 1) (x := (if (μ 23 1) = 8 then 0 else (knW ((μ 23 1) + 1)) : Int)) (ty := .int) X K rfl (knKd_in kdc_23 (by decide)) (knEnt_4 kdc_23) rfl (by decide) knInX6 tyX6_ok nmX6 (knGm 241 (by decide +kernel) rfl) rfl rfl (by decide +kernel) rfl rfl (by simp) (by rw [knEnt_4 kdc_23, knUp_row]; rfl) (fun _ => ht4_0) (fun h => by rw [kdc_23] at h; cases h) (fun h => by rw [kdc_23] at h; cases h) dX6_keep_20 ?_
    refine kj_aloadn X 0 dX6_keep_23 rfl ?_
    refine kj_aloadn X 0 dX6_keep_24 rfl ?_
    refine kj_geti (k := 2) (ki := 2) X K rfl kdc_23 (by decide) (knEnt_4 kdc_23) rfl (by decide) knInX6 (knGm 242 (by decide +kernel) rfl) rfl rfl dX6_keep_25 (fun h7 => ?_)
    refine kj_iconst X dX6_keep_28 ?_
    refine kj_iadd X dX6_keep_29 ?_
    refine kj_bipush X (n := 8) dX6_keep_30 rfl ?_
    obtain ⟨q8, h9, hf⟩ := knBd_inv hf
    refine kj_callS (As := [knV (knW (((knUp μ 23 1 (if (μ 23 1) = 8 then 0 else (knW ((μ 23 1) + 1)) : Int)) 23 2) + 1)), knV 8]) (rest := [knO G 23]) X K (kcJ9_min_7cf53 l (knCw _) (show knC (8) from ⟨by omega, by omega⟩) h9) knWkJ9_min_7cf53 (knGm 591 (by decide +kernel) rfl) (by decide)  rfl (Nat.le_of_ble_eq_true rfl) (by decide) dX6_keep_32 rfl (fun h10 => ?_)
    refine kj_putf (k := 2) (ki := 2) (x := q8) (ty := .int) X K rfl (knKd_in kdc_23 (by decide)) (knEnt_4 kdc_23) rfl (by decide) knInX6 tyX6_ok nmX6 (knGm 242 (by decide +kernel) rfl) rfl rfl (by decide +kernel) rfl rfl (by simp) (by rw [knEnt_4 kdc_23, knUp_row]; rfl) (fun _ => h10) (fun h => by rw [kdc_23] at h; cases h) (fun h => by rw [kdc_23] at h; cases h) dX6_keep_35 ?_
    cases hf
    exact kj_vret X trivial hr dX6_keep_38 hlk
  refine kj_ic_ne X (tgt := 14) dX6_keep_7 (by decide) h1 (show knC (8) from ⟨by omega, by omega⟩) (fun h11 => ?_) (fun h11 => ?_)
  · refine kj_aloadn X 0 dX6_keep_14 rfl ?_
    refine kj_geti (k := 1) (ki := 1) X K rfl kdc_23 (by decide) (knEnt_4 kdc_23) rfl (by decide) knInX6 (knGm 241 (by decide +kernel) rfl) rfl rfl dX6_keep_15 (fun h12 => ?_)
    refine kj_iconst X dX6_keep_18 ?_
    refine kj_iadd X dX6_keep_19 ?_
    refine kj_sub (L' := [(0, knO G 23)]) [0] rfl ?_
    exact j4 (knW ((μ 23 1) + 1)) (by rw [if_neg h11]) (knCw _)
  · refine kj_iconst X dX6_keep_10 ?_
    refine kj_goto X (tgt := 20) dX6_keep_11 (by decide) ?_
    refine kj_sub (L' := [(0, knO G 23)]) [0] rfl ?_
    exact j4 0 (by rw [if_pos h11]) (show knC (0) from ⟨by omega, by omega⟩)

def kfX12_finishChange (a1 : Int) (μ : knMem) : Option (Int × knMem) :=
 Option.bind (kfX12_raise a1 μ) (fun q1 =>
  if q1 = 0 then
  Option.bind (kfX6_keep  μ) (fun q7 =>
   some (0, q7))
  else
  some (q1, μ))

theorem knWvX12_finishChange : knWv yX12_finishChange cX12_finishChange 2 none 1 := ⟨(knGm 437 (by decide +kernel) rfl), (knGm 114 (by decide +kernel) rfl), (knGm 436 (by decide +kernel) rfl), (knGm 1 (by decide +kernel) rfl), by decide +kernel, by decide +kernel, by decide +kernel⟩
set_option maxHeartbeats 4000000 in
set_option maxRecDepth 100000 in
theorem kcX12_finishChange {G : knGT} (l : Launch) (hl : l.stackTraces = false) {a1 : Int} (ha1 : 0 ≤ a1 ∧ a1 < 6) {μ : knMem} {q : Int × knMem} (hf : kfX12_finishChange a1 μ = some q) : knCx G l yX12_finishChange cX12_finishChange 2 none 7 120 1 6 [knO G 0, knRf G a1] μ True q.1 none q.2 := by
  unfold kfX12_finishChange at hf
  refine kn_ofJx (by decide) (Nat.le_of_ble_eq_true rfl) (L := [(0, knO G 0), (1, knRf G a1)]) rfl ?_
  intro p e s m args below meth c X K hr hlk hnx
  refine kj_aloadn X 1 dX12_finishChange_0 rfl ?_
  obtain ⟨q1, h2, hf⟩ := knBd_inv hf
  refine kjx_callS (As := [knRf G a1]) (rest := []) X K (kcX12_raise l hl ha1 h2) knWkX12_raise (knGm 438 (by decide +kernel) rfl) (by decide)  rfl (Nat.le_of_ble_eq_true rfl) (by decide) dX12_finishChange_1 rfl (fun h4 h3 => ?_) (fun E5 h4 h6 => ?_)
  · replace hf := knIp hf h4
    refine kj_aloadn X 0 dX12_finishChange_4 rfl ?_
    refine kj_geto (k := 5) (o2 := 23) X K kdc_0 (by decide) (knEnt_9 kdc_0) rfl (by decide) knInX12 (knGm 366 (by decide +kernel) rfl) rfl rfl dX12_finishChange_5 ?_
    obtain ⟨q7, h8, hf⟩ := knBd_inv hf
    refine kj_callV (As := []) (rest := []) X K (kcX6_keep l  h8) knWvX6_keep (knGm 587 (by decide +kernel) rfl) (by decide) (knKd_in kdc_23 (by decide)) (knEnt_4 kdc_23) rfl rfl rfl (Nat.le_of_ble_eq_true rfl) (by decide) dX12_finishChange_8 rfl (fun h9 => ?_)
    cases hf
    exact kjx_vret X trivial rfl (by decide) (by decide) hr dX12_finishChange_11 hlk
  · replace hf := knIq hf h4
    cases hf
    exact kjx_out h4 h6 (by decide) (by decide) hnx hlk

def kfX12_addCurl (a1 : Int) (a2 : Int) (a3 : Int) (μ : knMem) : Option (Int × Int × knMem) :=
 Option.bind (kfX6_stage 1 μ) (fun q1 =>
  Option.bind (kfX5_putCurl 2 a1 a2 a3 q1) (fun q4 =>
   Option.bind (kfX12_finishChange q4.1 q4.2) (fun q7 =>
    if q7.1 = 0 then
    some (0, (knW ((q7.2 2 3) - 1)), q7.2)
    else
    some (q7.1, 0, q7.2))))

theorem knWvX12_addCurl : knWv yX12_addCurl cX12_addCurl 4 (some .int) 3 := ⟨(knGm 943 (by decide +kernel) rfl), (knGm 114 (by decide +kernel) rfl), (knGm 941 (by decide +kernel) rfl), (knGm 942 (by decide +kernel) rfl), by decide +kernel, by decide +kernel, by decide +kernel⟩
set_option maxHeartbeats 4000000 in
set_option maxRecDepth 100000 in
theorem kcX12_addCurl {G : knGT} (l : Launch) (hl : l.stackTraces = false) {a1 : Int} {a2 : Int} {a3 : Int} (ha1 : knC a1) (ha2 : knZ a2) (ha3 : knZ a3) {μ : knMem} {q : Int × Int × knMem} (hf : kfX12_addCurl a1 a2 a3 μ = some q) : knCx G l yX12_addCurl cX12_addCurl 4 (some .int) 8 141 1 6 [knO G 0, knV a1, knV a2, knV a3] μ (knC q.2.1) q.1 (some (knV q.2.1)) q.2.2 := by
  unfold kfX12_addCurl at hf
  refine kn_ofJx (by decide) (Nat.le_of_ble_eq_true rfl) (L := [(0, knO G 0), (1, knV a1), (2, knV a2), (3, knV a3)]) rfl ?_
  intro p e s m args below meth c X K hr hlk hnx
  refine kj_aloadn X 0 dX12_addCurl_0 rfl ?_
  refine kj_geto (k := 5) (o2 := 23) X K kdc_0 (by decide) (knEnt_9 kdc_0) rfl (by decide) knInX12 (knGm 366 (by decide +kernel) rfl) rfl rfl dX12_addCurl_1 ?_
  refine kj_aloadn X 0 dX12_addCurl_4 rfl ?_
  refine kj_geto (k := 0) (o2 := 1) X K kdc_0 (by decide) (knEnt_9 kdc_0) rfl (by decide) knInX12 (knGm 361 (by decide +kernel) rfl) rfl rfl dX12_addCurl_5 ?_
  obtain ⟨q1, h2, hf⟩ := knBd_inv hf
  refine kj_callV (As := [knO G 1]) (rest := []) X K (kcX6_stage l kdc_1 h2) knWvX6_stage (knGm 408 (by decide +kernel) rfl) (by decide) (knKd_in kdc_23 (by decide)) (knEnt_4 kdc_23) rfl rfl rfl (Nat.le_of_ble_eq_true rfl) (by decide) dX12_addCurl_8 rfl (fun h3 => ?_)
  refine kj_aloadn X 0 dX12_addCurl_11 rfl ?_
  refine kj_aloadn X 0 dX12_addCurl_12 rfl ?_
  refine kj_geto (k := 1) (o2 := 2) X K kdc_0 (by decide) (knEnt_9 kdc_0) rfl (by decide) knInX12 (knGm 362 (by decide +kernel) rfl) rfl rfl dX12_addCurl_13 ?_
  refine kj_iloadn X 1 dX12_addCurl_16 rfl ?_
  refine kj_iloadn X 2 dX12_addCurl_17 rfl ?_
  refine kj_iloadn X 3 dX12_addCurl_18 rfl ?_
  obtain ⟨q4, h5, hf⟩ := knBd_inv hf
  refine kj_callV (As := [knV a1, knV a2, knV a3]) (rest := [knO G 0]) X K (kcX5_putCurl l kdc_2 ha1 ha2 ha3 h5) knWvX5_putCurl (knGm 944 (by decide +kernel) rfl) (by decide) (knKd_in kdc_2 (by decide)) (knEnt_3 kdc_2) rfl rfl rfl (Nat.le_of_ble_eq_true rfl) (by decide) dX12_addCurl_19 rfl (fun h6 => ?_)
  obtain ⟨q7, h8, hf⟩ := knBd_inv hf
  refine kjx_callV (As := [knRf G q4.1]) (rest := []) X K (kcX12_finishChange l hl h6 h8) knWvX12_finishChange (knGm 434 (by decide +kernel) rfl) (by decide) (knKd_in kdc_0 (by decide)) (knEnt_9 kdc_0) rfl rfl rfl (Nat.le_of_ble_eq_true rfl) (by decide) dX12_addCurl_22 rfl (fun h10 h9 => ?_) (fun E11 h10 h12 => ?_)
  · replace hf := knIp hf h10
    refine kj_aloadn X 0 dX12_addCurl_25 rfl ?_
    refine kj_geto (k := 1) (o2 := 2) X K kdc_0 (by decide) (knEnt_9 kdc_0) rfl (by decide) knInX12 (knGm 362 (by decide +kernel) rfl) rfl rfl dX12_addCurl_26 ?_
    refine kj_geti (k := 3) (ki := 3) X K rfl kdc_2 (by decide) (knEnt_3 kdc_2) rfl (by decide) knInX5 (knGm 180 (by decide +kernel) rfl) rfl rfl dX12_addCurl_29 (fun h13 => ?_)
    refine kj_iconst X dX12_addCurl_32 ?_
    refine kj_isub X dX12_addCurl_33 ?_
    cases hf
    exact kjx_iret X (knCw _) rfl (by decide) (by decide) hr dX12_addCurl_34 hlk
  · replace hf := knIq hf h10
    cases hf
    exact kjx_out h10 h12 (by decide) (by decide) hnx hlk

def kfX5_hasCrossing (a0 : Int) (a1 : Int) (μ : knMem) : Option (Int) :=
 (fun (k4 : (Unit) → Option (Int)) =>
  if a1 < 0 then
   k4 ()
  else
   if (μ a0 3) ≤ a1 then
    k4 ()
   else
    some 1)
  (fun _ =>
  some 0)

theorem knWvX5_hasCrossing : knWv yX5_hasCrossing cX5_hasCrossing 2 (some .boolean) 1 := ⟨(knGm 905 (by decide +kernel) rfl), (knGm 116 (by decide +kernel) rfl), (knGm 903 (by decide +kernel) rfl), (knGm 904 (by decide +kernel) rfl), by decide +kernel, by decide +kernel, by decide +kernel⟩
set_option maxHeartbeats 4000000 in
set_option maxRecDepth 100000 in
theorem kcX5_hasCrossing {G : knGT} (l : Launch) {a0 : Int} {a1 : Int} (ha0 : knKd a0 = 3) (ha1 : knC a1) {μ : knMem} {q : Int} (hf : kfX5_hasCrossing a0 a1 μ = some q) : knC0 G l yX5_hasCrossing cX5_hasCrossing 2 (some .boolean) 0 0 [knO G a0, knV a1] μ (knZ q) (some (knV q)) μ := by
  unfold kfX5_hasCrossing at hf
  refine kn_ofJ (plainFor_of_name (by decide)) (Nat.le_of_ble_eq_true rfl) (L := [(0, knO G a0), (1, knV a1)]) rfl ?_
  intro p e s m args below meth c X K hr hlk
  refine kj_iloadn X 1 dX5_hasCrossing_0 rfl ?_
  have j4 : (fun _ =>
   some 0) () = some q → knJ G p l e { frames := 0, cells := 0, slots := 0, locals := 0 } s m args below meth c 2 0 0 (MQ below (knPo G (knZ q) (some (knV q)) μ) args s 0 0 (knA G)) 16 [] [] μ := by
    intro hf
    refine kj_iconst X dX5_hasCrossing_16 ?_
    cases hf
    exact kj_zret X (Or.inl rfl) hr (kn_nb (Or.inl rfl)) dX5_hasCrossing_17 hlk
  refine kj_if_lt X (tgt := 16) dX5_hasCrossing_1 (by decide) ha1 (fun h6 => ?_) (fun h6 => ?_)
  · replace hf := knIp hf h6
    refine kj_sub (L' := []) [] rfl ?_
    exact j4  hf
  · replace hf := knIq hf h6
    refine kj_iloadn X 1 dX5_hasCrossing_4 rfl ?_
    refine kj_aloadn X 0 dX5_hasCrossing_5 rfl ?_
    refine kj_geti (k := 3) (ki := 3) X K rfl ha0 (by decide) (knEnt_3 ha0) rfl (by decide) knInX5 (knGm 177 (by decide +kernel) rfl) rfl rfl dX5_hasCrossing_6 (fun h7 => ?_)
    refine kj_ic_ge X (tgt := 16) dX5_hasCrossing_9 (by decide) ha1 h7 (fun h8 => ?_) (fun h8 => ?_)
    · replace hf := knIp hf h8
      refine kj_sub (L' := []) [] rfl ?_
      exact j4  hf
    · replace hf := knIq hf h8
      refine kj_iconst X dX5_hasCrossing_12 ?_
      refine kj_goto X (tgt := 17) dX5_hasCrossing_13 (by decide) ?_
      cases hf
      exact kj_zret X (Or.inr rfl) hr (kn_nb (Or.inr rfl)) dX5_hasCrossing_17 hlk

def kfX5_distance (a0 : Int) (a1 : Int) (a2 : Int) (μ : knMem) : Option (Int) :=
 some (if (knW ((knW (2 * (μ a0 3))) - (if a1 ≤ a2 then (knW (a2 - a1)) else (knW (a1 - a2)) : Int))) ≤ (if a1 ≤ a2 then (knW (a2 - a1)) else (knW (a1 - a2)) : Int) then (knW ((knW (2 * (μ a0 3))) - (if a1 ≤ a2 then (knW (a2 - a1)) else (knW (a1 - a2)) : Int))) else (if a1 ≤ a2 then (knW (a2 - a1)) else (knW (a1 - a2)) : Int) : Int)

theorem knWvX5_distance : knWv yX5_distance cX5_distance 5 (some .int) 2 := ⟨(knGm 629 (by decide +kernel) rfl), (knGm 116 (by decide +kernel) rfl), (knGm 628 (by decide +kernel) rfl), (knGm 4 (by decide +kernel) rfl), by decide +kernel, by decide +kernel, by decide +kernel⟩
set_option maxHeartbeats 4000000 in
set_option maxRecDepth 100000 in
theorem kcX5_distance {G : knGT} (l : Launch) {a0 : Int} {a1 : Int} {a2 : Int} (ha0 : knKd a0 = 3) (ha1 : knC a1) (ha2 : knC a2) {μ : knMem} {q : Int} (hf : kfX5_distance a0 a1 a2 μ = some q) : knC0 G l yX5_distance cX5_distance 5 (some .int) 0 0 [knO G a0, knV a1, knV a2] μ (knC q) (some (knV q)) μ := by
  unfold kfX5_distance at hf
  refine kn_ofJ (plainFor_of_name (by decide)) (Nat.le_of_ble_eq_true rfl) (L := [(0, knO G a0), (1, knV a1), (2, knV a2)]) rfl ?_
  intro p e s m args below meth c X K hr hlk
  refine kj_iloadn X 1 dX5_distance_0 rfl ?_
  refine kj_iloadn X 2 dX5_distance_1 rfl ?_
  have j2 : ∀ (t2_0 : Int) (et2_0 : t2_0 = (if a1 ≤ a2 then (knW (a2 - a1)) else (knW (a1 - a2)) : Int)) (ht2_0 : knC t2_0), knJ G p l e { frames := 0, cells := 0, slots := 0, locals := 0 } s m args below meth c 5 0 0 (MQ below (knPo G (knC q) (some (knV q)) μ) args s 0 0 (knA G)) 14 [(0, knO G a0)] [knV t2_0] μ := by
    intro t2_0 et2_0 ht2_0
    subst et2_0
    refine kj_istoren X (L' := [(3, knV (if a1 ≤ a2 then (knW (a2 - a1)) else (knW (a1 - a2)) : Int)), (0, knO G a0)]) dX5_distance_14 (by decide) rfl ?_
    refine kj_iconst X dX5_distance_15 ?_
    refine kj_aloadn X 1 dX5_distance_16 rfl ?_
    refine kj_geti (k := 3) (ki := 3) X K rfl ha0 (by decide) (knEnt_3 ha0) rfl (by decide) knInX5 (knGm 177 (by decide +kernel) rfl) rfl rfl dX5_distance_17 (fun h4 => ?_)
    refine kj_imul X dX5_distance_20 ?_
    refine kj_iloadn X 0 dX5_distance_21 rfl ?_
    refine kj_isub X dX5_distance_22 ?_
    refine kj_istore X (L' := [(4, knV (knW ((knW (2 * (μ a0 3))) - (if a1 ≤ a2 then (knW (a2 - a1)) else (knW (a1 - a2)) : Int)))), (3, knV (if a1 ≤ a2 then (knW (a2 - a1)) else (knW (a1 - a2)) : Int)), (0, knO G a0)]) dX5_distance_23 (by decide) rfl ?_
    refine kj_iloadn X 1 dX5_distance_25 rfl ?_
    refine kj_iload X 0 dX5_distance_26 rfl ?_
    have j6 : ∀ (t6_0 : Int) (et6_0 : t6_0 = (if (knW ((knW (2 * (μ a0 3))) - (if a1 ≤ a2 then (knW (a2 - a1)) else (knW (a1 - a2)) : Int))) ≤ (if a1 ≤ a2 then (knW (a2 - a1)) else (knW (a1 - a2)) : Int) then (knW ((knW (2 * (μ a0 3))) - (if a1 ≤ a2 then (knW (a2 - a1)) else (knW (a1 - a2)) : Int))) else (if a1 ≤ a2 then (knW (a2 - a1)) else (knW (a1 - a2)) : Int) : Int)) (ht6_0 : knC t6_0), knJ G p l e { frames := 0, cells := 0, slots := 0, locals := 0 } s m args below meth c 5 0 0 (MQ below (knPo G (knC q) (some (knV q)) μ) args s 0 0 (knA G)) 37 [] [knV t6_0] μ := by
      intro t6_0 et6_0 ht6_0
      subst et6_0
      cases hf
      exact kj_iret X ht6_0 hr dX5_distance_37 hlk
    refine kj_ic_ge X (tgt := 35) dX5_distance_28 (by decide) ht2_0 (knCw _) (fun h8 => ?_) (fun h8 => ?_)
    · refine kj_iload X 0 dX5_distance_35 rfl ?_
      refine kj_sub (L' := []) [] rfl ?_
      exact j6 (knW ((knW (2 * (μ a0 3))) - (if a1 ≤ a2 then (knW (a2 - a1)) else (knW (a1 - a2)) : Int))) (by rw [if_pos h8]) (knCw _)
    · refine kj_iloadn X 1 dX5_distance_31 rfl ?_
      refine kj_goto X (tgt := 37) dX5_distance_32 (by decide) ?_
      refine kj_sub (L' := []) [] rfl ?_
      exact j6 (if a1 ≤ a2 then (knW (a2 - a1)) else (knW (a1 - a2)) : Int) (by rw [if_neg h8]) ht2_0
  refine kj_ic_le X (tgt := 11) dX5_distance_2 (by decide) ha1 ha2 (fun h9 => ?_) (fun h9 => ?_)
  · refine kj_iloadn X 2 dX5_distance_11 rfl ?_
    refine kj_iloadn X 1 dX5_distance_12 rfl ?_
    refine kj_isub X dX5_distance_13 ?_
    refine kj_sub (L' := [(0, knO G a0)]) [0] rfl ?_
    exact j2 (knW (a2 - a1)) (by rw [if_pos h9]) (knCw _)
  · refine kj_iloadn X 1 dX5_distance_5 rfl ?_
    refine kj_iloadn X 2 dX5_distance_6 rfl ?_
    refine kj_isub X dX5_distance_7 ?_
    refine kj_goto X (tgt := 14) dX5_distance_8 (by decide) ?_
    refine kj_sub (L' := [(0, knO G a0)]) [0] rfl ?_
    exact j2 (knW (a1 - a2)) (by rw [if_neg h9]) (knCw _)

def kfX5_curls (a0 : Int) (a1 : Int) (μ : knMem) : Option (Int) :=
 knGd (0 ≤ a1 ∧ a1 < 7)
  (Option.bind (kfX5_distance a0 (μ (a0 + 1) a1) (μ (a0 + 2) a1) μ) (fun q4 =>
  some (if q4 = 1 then 1 else 0 : Int)))

theorem knWvX5_curls : knWv yX5_curls cX5_curls 2 (some .boolean) 1 := ⟨(knGm 625 (by decide +kernel) rfl), (knGm 116 (by decide +kernel) rfl), (knGm 623 (by decide +kernel) rfl), (knGm 624 (by decide +kernel) rfl), by decide +kernel, by decide +kernel, by decide +kernel⟩
set_option maxHeartbeats 4000000 in
set_option maxRecDepth 100000 in
theorem kcX5_curls {G : knGT} (l : Launch) {a0 : Int} {a1 : Int} (ha0 : knKd a0 = 3) (ha1 : knC a1) {μ : knMem} {q : Int} (hf : kfX5_curls a0 a1 μ = some q) : knC0 G l yX5_curls cX5_curls 2 (some .boolean) 1 24 [knO G a0, knV a1] μ (knZ q) (some (knV q)) μ := by
  unfold kfX5_curls at hf
  refine kn_ofJ (plainFor_of_name (by decide)) (Nat.le_of_ble_eq_true rfl) (L := [(0, knO G a0), (1, knV a1)]) rfl ?_
  intro p e s m args below meth c X K hr hlk
  refine kj_aloadn X 0 dX5_curls_0 rfl ?_
  refine kj_aloadn X 0 dX5_curls_1 rfl ?_
  refine kj_geto (k := 0) (o2 := (a0 + 1)) X K ha0 (by decide) (knEnt_3 ha0) rfl (by decide) knInX5 (knGm 166 (by decide +kernel) rfl) rfl rfl dX5_curls_2 ?_
  refine kj_iloadn X 1 dX5_curls_5 rfl ?_
  obtain ⟨h1, hf⟩ := knGd_inv hf
  refine kj_iald X K (knD3 ha0).1.1 ha1 (knD3 ha0).2.1 h1 dX5_curls_6 (fun h2 => ?_)
  refine kj_aloadn X 0 dX5_curls_7 rfl ?_
  refine kj_geto (k := 1) (o2 := (a0 + 2)) X K ha0 (by decide) (knEnt_3 ha0) rfl (by decide) knInX5 (knGm 170 (by decide +kernel) rfl) rfl rfl dX5_curls_8 ?_
  refine kj_iloadn X 1 dX5_curls_11 rfl ?_
  refine kj_iald X K (knD3 ha0).1.2.1 ha1 (knD3 ha0).2.2.1 h1 dX5_curls_12 (fun h3 => ?_)
  obtain ⟨q4, h5, hf⟩ := knBd_inv hf
  refine kj_callV (As := [knV (μ (a0 + 1) a1), knV (μ (a0 + 2) a1)]) (rest := []) X K (kcX5_distance l ha0 h2 h3 h5) knWvX5_distance (knGm 626 (by decide +kernel) rfl) (by decide) (knKd_in ha0 (by decide)) (knEnt_3 ha0) rfl rfl rfl (Nat.le_of_ble_eq_true rfl) (by decide) dX5_curls_13 rfl (fun h6 => ?_)
  refine kj_iconst X dX5_curls_16 ?_
  have j8 : ∀ (t8_0 : Int) (et8_0 : t8_0 = (if q4 = 1 then 1 else 0 : Int)) (ht8_0 : knZ t8_0), knJ G p l e { frames := 1, cells := 0, slots := 0, locals := 24 } s m args below meth c 2 0 0 (MQ below (knPo G (knZ q) (some (knV q)) μ) args s 0 0 (knA G)) 25 [] [knV t8_0] μ := by
    intro t8_0 et8_0 ht8_0
    subst et8_0
    cases hf
    exact kj_zret X ht8_0 hr (kn_nb ht8_0) dX5_curls_25 hlk
  refine kj_ic_ne X (tgt := 24) dX5_curls_17 (by decide) h6 (show knC (1) from ⟨by omega, by omega⟩) (fun h10 => ?_) (fun h10 => ?_)
  · refine kj_iconst X dX5_curls_24 ?_
    refine kj_sub (L' := []) [] rfl ?_
    exact j8 0 (by rw [if_neg h10]) (Or.inl rfl)
  · refine kj_iconst X dX5_curls_20 ?_
    refine kj_goto X (tgt := 25) dX5_curls_21 (by decide) ?_
    refine kj_sub (L' := []) [] rfl ?_
    exact j8 1 (by rw [if_pos h10]) (Or.inr rfl)

def kfX5_closeGaps (a0 : Int) (a1 : Int) (a2 : Int) (μ : knMem) : Option (Int) :=
 some (knW ((knW (a0 - (if a0 ≤ a1 then 0 else 1 : Int))) - (if a0 ≤ a2 then 0 else 1 : Int)))

theorem knWkX5_closeGaps : knWk yX5_closeGaps cX5_closeGaps 3 (some .int) 3 := ⟨(knGm 636 (by decide +kernel) rfl), (knGm 116 (by decide +kernel) rfl), (knGm 635 (by decide +kernel) rfl), by decide +kernel, by decide +kernel, by decide +kernel⟩
set_option maxHeartbeats 4000000 in
set_option maxRecDepth 100000 in
theorem kcX5_closeGaps {G : knGT} (l : Launch) {a0 : Int} {a1 : Int} {a2 : Int} (ha0 : knC a0) (ha1 : knC a1) (ha2 : knC a2) {μ : knMem} {q : Int} (hf : kfX5_closeGaps a0 a1 a2 μ = some q) : knC0 G l yX5_closeGaps cX5_closeGaps 3 (some .int) 0 0 [knV a0, knV a1, knV a2] μ (knC q) (some (knV q)) μ := by
  unfold kfX5_closeGaps at hf
  refine kn_ofJ (plainFor_of_name (by decide)) (Nat.le_of_ble_eq_true rfl) (L := [(0, knV a0), (1, knV a1), (2, knV a2)]) rfl ?_
  intro p e s m args below meth c X K hr hlk
  refine kj_iloadn X 0 dX5_closeGaps_0 rfl ?_
  refine kj_iloadn X 0 dX5_closeGaps_1 rfl ?_
  refine kj_iloadn X 1 dX5_closeGaps_2 rfl ?_
  have j2 : ∀ (t2_0 : Int) (et2_0 : t2_0 = (if a0 ≤ a1 then 0 else 1 : Int)) (ht2_0 : knZ t2_0), knJ G p l e { frames := 0, cells := 0, slots := 0, locals := 0 } s m args below meth c 3 0 0 (MQ below (knPo G (knC q) (some (knV q)) μ) args s 0 0 (knA G)) 11 [(0, knV a0), (2, knV a2)] [knV t2_0, knV a0] μ := by
    intro t2_0 et2_0 ht2_0
    subst et2_0
    refine kj_isub X dX5_closeGaps_11 ?_
    refine kj_iloadn X 0 dX5_closeGaps_12 rfl ?_
    refine kj_iloadn X 1 dX5_closeGaps_13 rfl ?_
    have j5 : ∀ (t5_0 : Int) (et5_0 : t5_0 = (if a0 ≤ a2 then 0 else 1 : Int)) (ht5_0 : knZ t5_0), knJ G p l e { frames := 0, cells := 0, slots := 0, locals := 0 } s m args below meth c 3 0 0 (MQ below (knPo G (knC q) (some (knV q)) μ) args s 0 0 (knA G)) 22 [] [knV t5_0, knV (knW (a0 - (if a0 ≤ a1 then 0 else 1 : Int)))] μ := by
      intro t5_0 et5_0 ht5_0
      subst et5_0
      refine kj_isub X dX5_closeGaps_22 ?_
      cases hf
      exact kj_iret X (knCw _) hr dX5_closeGaps_23 hlk
    refine kj_ic_le X (tgt := 21) dX5_closeGaps_14 (by decide) ha0 ha2 (fun h7 => ?_) (fun h7 => ?_)
    · refine kj_iconst X dX5_closeGaps_21 ?_
      refine kj_sub (L' := []) [] rfl ?_
      exact j5 0 (by rw [if_pos h7]) (Or.inl rfl)
    · refine kj_iconst X dX5_closeGaps_17 ?_
      refine kj_goto X (tgt := 22) dX5_closeGaps_18 (by decide) ?_
      refine kj_sub (L' := []) [] rfl ?_
      exact j5 1 (by rw [if_neg h7]) (Or.inr rfl)
  refine kj_ic_le X (tgt := 10) dX5_closeGaps_3 (by decide) ha0 ha1 (fun h8 => ?_) (fun h8 => ?_)
  · refine kj_iconst X dX5_closeGaps_10 ?_
    refine kj_sub (L' := [(0, knV a0), (2, knV a2)]) [0, 2] rfl ?_
    exact j2 0 (by rw [if_pos h8]) (Or.inl rfl)
  · refine kj_iconst X dX5_closeGaps_6 ?_
    refine kj_goto X (tgt := 11) dX5_closeGaps_7 (by decide) ?_
    refine kj_sub (L' := [(0, knV a0), (2, knV a2)]) [0, 2] rfl ?_
    exact j2 1 (by rw [if_neg h8]) (Or.inr rfl)

def kfX5_remove_l27  (x0 : Int) (x1 : Int) (x2 : Int) (x3 : Int)  (kc : (knMem) → Option (knMem)) : Nat → Int → knMem → Option (knMem)
  | 0, _, _ => none
  | n + 1, x4, μ =>
    if (μ x0 3) ≤ x4 then
     kc μ
    else
     knGd (0 ≤ (if x1 ≤ x4 then (knW (x4 + 1)) else x4 : Int) ∧ (if x1 ≤ x4 then (knW (x4 + 1)) else x4 : Int) < 7)
      (Option.bind (kfX5_closeGaps (μ (x0 + 1) (if x1 ≤ x4 then (knW (x4 + 1)) else x4 : Int)) x2 x3 μ) (fun q12 =>
      knGd (0 ≤ x4 ∧ x4 < 7)
       (Option.bind (kfX5_closeGaps ((knUp μ (x0 + 1) x4 q12) (x0 + 2) (if x1 ≤ x4 then (knW (x4 + 1)) else x4 : Int)) x2 x3 (knUp μ (x0 + 1) x4 q12)) (fun q17 =>
       kfX5_remove_l27  x0 x1 x2 x3 kc n (knW (x4 + 1)) (knUp (knUp (knUp μ (x0 + 1) x4 q12) (x0 + 2) x4 q17) (x0 + 3) x4 (knNz ((knUp (knUp μ (x0 + 1) x4 q12) (x0 + 2) x4 q17) (x0 + 3) (if x1 ≤ x4 then (knW (x4 + 1)) else x4 : Int))))))))

def kfX5_remove (a0 : Int) (a1 : Int) (μ : knMem) : Option (knMem) :=
 knGd (0 ≤ a1 ∧ a1 < 7)
  (kfX5_remove_l27 a0 a1 (μ (a0 + 1) a1) (μ (a0 + 2) a1)  (fun w22 =>
  some w22) knF 0 (knUp μ a0 3 (knW ((μ a0 3) - 1))))

theorem knWvX5_remove : knWv yX5_remove cX5_remove 6 none 1 := ⟨(knGm 633 (by decide +kernel) rfl), (knGm 116 (by decide +kernel) rfl), (knGm 632 (by decide +kernel) rfl), (knGm 5 (by decide +kernel) rfl), by decide +kernel, by decide +kernel, by decide +kernel⟩
set_option maxHeartbeats 4000000 in
set_option maxRecDepth 100000 in
theorem kfX5_remove_l27_ok {q : knMem} {kc : (knMem) → Option (knMem)} {G : knGT} {p : Program} {l : Launch} {e : Env} {s : State} {m : MethodId} {args : Array Value} {below : List Frame} {meth : Method} {c : Code} (X : knX p m c cX5_remove 6 s args yX5_remove.cls) (K : knK G s s.heap) (hr : meth.sig.returnType = none) (hlk : meth.locks = false) (x0 : Int) (x1 : Int) (x2 : Int) (x3 : Int) (hx0 : knKd x0 = 3) (hx1 : knC x1) (hx2 : knC x2) (hx3 : knC x3)  (hk : ∀ (μ1 : knMem), kc μ1 = some q → knJ G p l e { frames := 1, cells := 0, slots := 0, locals := 22 } s m args below meth c 6 0 0 (MQ below (knPo G True none q) args s 0 0 (knA G)) 111 [] [] μ1) : ∀ (n : Nat) (x4 : Int) (hx4 : knC x4) (μ : knMem), kfX5_remove_l27  x0 x1 x2 x3 kc n x4 μ = some q → knJ G p l e { frames := 1, cells := 0, slots := 0, locals := 22 } s m args below meth c 6 0 0 (MQ below (knPo G True none q) args s 0 0 (knA G)) 27 [(0, knO G x0), (1, knV x1), (2, knV x2), (3, knV x3), (4, knV x4)] [] μ := by
  intro n
  induction n with
  | zero => intro x4 hx4 μ hf; cases hf
  | succ n ih =>
    intro x4 hx4 μ hf
    unfold kfX5_remove_l27 at hf
    refine kj_iload X 4 dX5_remove_27 rfl ?_
    refine kj_aloadn X 0 dX5_remove_29 rfl ?_
    refine kj_geti (k := 3) (ki := 3) X K rfl hx0 (by decide) (knEnt_3 hx0) rfl (by decide) knInX5 (knGm 177 (by decide +kernel) rfl) rfl rfl dX5_remove_30 (fun h5 => ?_)
    refine kj_ic_ge X (tgt := 111) dX5_remove_33 (by decide) hx4 h5 (fun h6 => ?_) (fun h6 => ?_)
    · replace hf := knIp hf h6
      refine kj_sub (L' := []) [] rfl ?_
      exact hk _ hf
    · replace hf := knIq hf h6
      refine kj_iload X 4 dX5_remove_36 rfl ?_
      refine kj_iloadn X 1 dX5_remove_38 rfl ?_
      have j8 : ∀ (t8_0 : Int) (et8_0 : t8_0 = (if x1 ≤ x4 then (knW (x4 + 1)) else x4 : Int)) (ht8_0 : knC t8_0), knJ G p l e { frames := 1, cells := 0, slots := 0, locals := 22 } s m args below meth c 6 0 0 (MQ below (knPo G True none q) args s 0 0 (knA G)) 51 [(0, knO G x0), (1, knV x1), (2, knV x2), (3, knV x3), (4, knV x4)] [knV t8_0] μ := by
        intro t8_0 et8_0 ht8_0
        subst et8_0
        refine kj_istore X (L' := [(5, knV (if x1 ≤ x4 then (knW (x4 + 1)) else x4 : Int)), (0, knO G x0), (1, knV x1), (2, knV x2), (3, knV x3), (4, knV x4)]) dX5_remove_51 (by decide) rfl ?_
        refine kj_aloadn X 1 dX5_remove_53 rfl ?_
        refine kj_geto (k := 0) (o2 := (x0 + 1)) X K hx0 (by decide) (knEnt_3 hx0) rfl (by decide) knInX5 (knGm 166 (by decide +kernel) rfl) rfl rfl dX5_remove_54 ?_
        refine kj_iload X 5 dX5_remove_57 rfl ?_
        refine kj_aloadn X 1 dX5_remove_59 rfl ?_
        refine kj_geto (k := 0) (o2 := (x0 + 1)) X K hx0 (by decide) (knEnt_3 hx0) rfl (by decide) knInX5 (knGm 166 (by decide +kernel) rfl) rfl rfl dX5_remove_60 ?_
        refine kj_iload X 0 dX5_remove_63 rfl ?_
        obtain ⟨h10, hf⟩ := knGd_inv hf
        refine kj_iald X K (knD3 hx0).1.1 ht8_0 (knD3 hx0).2.1 h10 dX5_remove_65 (fun h11 => ?_)
        refine kj_iloadn X 3 dX5_remove_66 rfl ?_
        refine kj_iloadn X 4 dX5_remove_67 rfl ?_
        obtain ⟨q12, h13, hf⟩ := knBd_inv hf
        refine kj_callS (As := [knV (μ (x0 + 1) (if x1 ≤ x4 then (knW (x4 + 1)) else x4 : Int)), knV x2, knV x3]) (rest := [knV x4, knO G (x0 + 1)]) X K (kcX5_closeGaps l h11 hx2 hx3 h13) knWkX5_closeGaps (knGm 634 (by decide +kernel) rfl) (by decide)  rfl (Nat.le_of_ble_eq_true rfl) (by decide) dX5_remove_68 rfl (fun h14 => ?_)
        obtain ⟨h15, hf⟩ := knGd_inv hf
        refine kj_iast X K (knD3 hx0).1.1 hx4 h14 (knD3 hx0).2.1 h15 dX5_remove_71 ?_
        refine kj_aloadn X 1 dX5_remove_72 rfl ?_
        refine kj_geto (k := 1) (o2 := (x0 + 2)) X K hx0 (by decide) (knEnt_3 hx0) rfl (by decide) knInX5 (knGm 170 (by decide +kernel) rfl) rfl rfl dX5_remove_73 ?_
        refine kj_iload X 5 dX5_remove_76 rfl ?_
        refine kj_aloadn X 1 dX5_remove_78 rfl ?_
        refine kj_geto (k := 1) (o2 := (x0 + 2)) X K hx0 (by decide) (knEnt_3 hx0) rfl (by decide) knInX5 (knGm 170 (by decide +kernel) rfl) rfl rfl dX5_remove_79 ?_
        refine kj_iload X 0 dX5_remove_82 rfl ?_
        refine kj_iald X K (knD3 hx0).1.2.1 ht8_0 (knD3 hx0).2.2.1 h10 dX5_remove_84 (fun h16 => ?_)
        refine kj_iloadn X 3 dX5_remove_85 rfl ?_
        refine kj_iloadn X 4 dX5_remove_86 rfl ?_
        obtain ⟨q17, h18, hf⟩ := knBd_inv hf
        refine kj_callS (As := [knV ((knUp μ (x0 + 1) x4 q12) (x0 + 2) (if x1 ≤ x4 then (knW (x4 + 1)) else x4 : Int)), knV x2, knV x3]) (rest := [knV x4, knO G (x0 + 2)]) X K (kcX5_closeGaps l h16 hx2 hx3 h18) knWkX5_closeGaps (knGm 634 (by decide +kernel) rfl) (by decide)  rfl (Nat.le_of_ble_eq_true rfl) (by decide) dX5_remove_87 rfl (fun h19 => ?_)
        refine kj_iast X K (knD3 hx0).1.2.1 hx4 h19 (knD3 hx0).2.2.1 h15 dX5_remove_90 ?_
        refine kj_aloadn X 1 dX5_remove_91 rfl ?_
        refine kj_geto (k := 2) (o2 := (x0 + 3)) X K hx0 (by decide) (knEnt_3 hx0) rfl (by decide) knInX5 (knGm 174 (by decide +kernel) rfl) rfl rfl dX5_remove_92 ?_
        refine kj_iload X 5 dX5_remove_95 rfl ?_
        refine kj_aloadn X 1 dX5_remove_97 rfl ?_
        refine kj_geto (k := 2) (o2 := (x0 + 3)) X K hx0 (by decide) (knEnt_3 hx0) rfl (by decide) knInX5 (knGm 174 (by decide +kernel) rfl) rfl rfl dX5_remove_98 ?_
        refine kj_iload X 0 dX5_remove_101 rfl ?_
        refine kj_zald X K (knD3 hx0).1.2.2 ht8_0 (knD3 hx0).2.2.2 h10 dX5_remove_103 (fun h20 => ?_)
        refine kj_zast X K (knD3 hx0).1.2.2 hx4 (knD3 hx0).2.2.2 h15 dX5_remove_104 ?_
        refine kj_iinc X 5 (L' := [(4, knV (knW (x4 + 1))), (5, knV (if x1 ≤ x4 then (knW (x4 + 1)) else x4 : Int)), (0, knO G x0), (1, knV x1), (2, knV x2), (3, knV x3)]) dX5_remove_105 rfl (by decide) rfl ?_
        refine kj_goto X (tgt := 27) dX5_remove_108 (by decide) ?_
        refine kj_sub (L' := [(0, knO G x0), (1, knV x1), (2, knV x2), (3, knV x3), (4, knV (knW (x4 + 1)))]) [2, 3, 4, 5, 0] rfl ?_
        exact ih _ (knCw _) _ hf
      refine kj_ic_ge X (tgt := 47) dX5_remove_39 (by decide) hx4 hx1 (fun h21 => ?_) (fun h21 => ?_)
      · refine kj_iload X 4 dX5_remove_47 rfl ?_
        refine kj_iconst X dX5_remove_49 ?_
        refine kj_iadd X dX5_remove_50 ?_
        refine kj_sub (L' := [(0, knO G x0), (1, knV x1), (2, knV x2), (3, knV x3), (4, knV x4)]) [0, 1, 2, 3, 4] rfl ?_
        exact j8 (knW (x4 + 1)) (by rw [if_pos h21]) (knCw _)
      · refine kj_iload X 4 dX5_remove_42 rfl ?_
        refine kj_goto X (tgt := 51) dX5_remove_44 (by decide) ?_
        refine kj_sub (L' := [(0, knO G x0), (1, knV x1), (2, knV x2), (3, knV x3), (4, knV x4)]) [0, 1, 2, 3, 4] rfl ?_
        exact j8 x4 (by rw [if_neg h21]) hx4

set_option maxHeartbeats 4000000 in
set_option maxRecDepth 100000 in
theorem kcX5_remove {G : knGT} (l : Launch) {a0 : Int} {a1 : Int} (ha0 : knKd a0 = 3) (ha1 : knC a1) {μ : knMem} {q : knMem} (hf : kfX5_remove a0 a1 μ = some q) : knC0 G l yX5_remove cX5_remove 6 none 1 22 [knO G a0, knV a1] μ True none q := by
  unfold kfX5_remove at hf
  refine kn_ofJ (plainFor_of_name (by decide)) (Nat.le_of_ble_eq_true rfl) (L := [(0, knO G a0), (1, knV a1)]) rfl ?_
  intro p e s m args below meth c X K hr hlk
  refine kj_aloadn X 0 dX5_remove_0 rfl ?_
  refine kj_geto (k := 0) (o2 := (a0 + 1)) X K ha0 (by decide) (knEnt_3 ha0) rfl (by decide) knInX5 (knGm 166 (by decide +kernel) rfl) rfl rfl dX5_remove_1 ?_
  refine kj_iloadn X 1 dX5_remove_4 rfl ?_
  obtain ⟨h1, hf⟩ := knGd_inv hf
  refine kj_iald X K (knD3 ha0).1.1 ha1 (knD3 ha0).2.1 h1 dX5_remove_5 (fun h2 => ?_)
  refine kj_istoren X (L' := [(2, knV (μ (a0 + 1) a1)), (0, knO G a0), (1, knV a1)]) dX5_remove_6 (by decide) rfl ?_
  refine kj_aloadn X 1 dX5_remove_7 rfl ?_
  refine kj_geto (k := 1) (o2 := (a0 + 2)) X K ha0 (by decide) (knEnt_3 ha0) rfl (by decide) knInX5 (knGm 170 (by decide +kernel) rfl) rfl rfl dX5_remove_8 ?_
  refine kj_iloadn X 2 dX5_remove_11 rfl ?_
  refine kj_iald X K (knD3 ha0).1.2.1 ha1 (knD3 ha0).2.2.1 h1 dX5_remove_12 (fun h3 => ?_)
  refine kj_istoren X (L' := [(3, knV (μ (a0 + 2) a1)), (2, knV (μ (a0 + 1) a1)), (0, knO G a0), (1, knV a1)]) dX5_remove_13 (by decide) rfl ?_
  refine kj_aloadn X 2 dX5_remove_14 rfl ?_
  refine kj_dup X dX5_remove_15 rfl ?_
  refine kj_geti (k := 3) (ki := 3) X K rfl ha0 (by decide) (knEnt_3 ha0) rfl (by decide) knInX5 (knGm 177 (by decide +kernel) rfl) rfl rfl dX5_remove_16 (fun h4 => ?_)
  refine kj_iconst X dX5_remove_19 ?_
  refine kj_isub X dX5_remove_20 ?_
  refine kj_putf (k := 3) (ki := 3) (x := (knW ((μ a0 3) - 1))) (ty := .int) X K rfl (knKd_in ha0 (by decide)) (knEnt_3 ha0) rfl (by decide) knInX5 tyX5_ok nmX5 (knGm 177 (by decide +kernel) rfl) rfl rfl (by decide +kernel) rfl rfl (by simp) (by rw [knEnt_3 ha0, knUp_row]; rfl) (fun _ => (knCw _)) (fun h => by rw [ha0] at h; cases h) (fun h => by rw [ha0] at h; cases h) dX5_remove_21 ?_
  refine kj_iconst X dX5_remove_24 ?_
  refine kj_istore X (L' := [(4, knV 0), (3, knV (μ (a0 + 2) a1)), (2, knV (μ (a0 + 1) a1)), (0, knO G a0), (1, knV a1)]) dX5_remove_25 (by decide) rfl ?_
  refine kj_sub (L' := [(0, knO G a0), (1, knV a1), (2, knV (μ (a0 + 1) a1)), (3, knV (μ (a0 + 2) a1)), (4, knV 0)]) [3, 4, 2, 1, 0] rfl ?_
  refine kfX5_remove_l27_ok X K hr hlk a0 a1 (μ (a0 + 1) a1) (μ (a0 + 2) a1) ha0 ha1 h2 h3  ?_ knF _ (show knC (0) from ⟨by omega, by omega⟩) _ hf
  intro w22_m
  intro hf
  cases hf
  exact kj_vret X trivial hr dX5_remove_111 hlk

def kfX5_takeCurl (a0 : Int) (a1 : Int) (μ : knMem) : Option (Int × knMem) :=
 Option.bind (kfX5_hasCrossing a0 a1 μ) (fun q1 =>
  if q1 = 0 then
   some (1, μ)
  else
   Option.bind (kfX5_curls a0 a1 μ) (fun q5 =>
    if q5 = 0 then
     some (4, μ)
    else
     Option.bind (kfX5_remove a0 a1 μ) (fun q9 =>
      some (0, q9))))

theorem knWvX5_takeCurl : knWv yX5_takeCurl cX5_takeCurl 2 (some (.object "KnotLaboratory$Refusal")) 1 := ⟨(knGm 973 (by decide +kernel) rfl), (knGm 116 (by decide +kernel) rfl), (knGm 971 (by decide +kernel) rfl), (knGm 972 (by decide +kernel) rfl), by decide +kernel, by decide +kernel, by decide +kernel⟩
set_option maxHeartbeats 4000000 in
set_option maxRecDepth 100000 in
theorem kcX5_takeCurl {G : knGT} (l : Launch) {a0 : Int} {a1 : Int} (ha0 : knKd a0 = 3) (ha1 : knC a1) {μ : knMem} {q : Int × knMem} (hf : kfX5_takeCurl a0 a1 μ = some q) : knC0 G l yX5_takeCurl cX5_takeCurl 2 (some (.object "KnotLaboratory$Refusal")) 2 47 [knO G a0, knV a1] μ (0 ≤ q.1 ∧ q.1 < 6) (some (knRf G q.1)) q.2 := by
  unfold kfX5_takeCurl at hf
  refine kn_ofJ (plainFor_of_name (by decide)) (Nat.le_of_ble_eq_true rfl) (L := [(0, knO G a0), (1, knV a1)]) rfl ?_
  intro p e s m args below meth c X K hr hlk
  refine kj_aloadn X 0 dX5_takeCurl_0 rfl ?_
  refine kj_iloadn X 1 dX5_takeCurl_1 rfl ?_
  obtain ⟨q1, h2, hf⟩ := knBd_inv hf
  refine kj_callV (As := [knV a1]) (rest := []) X K (kcX5_hasCrossing l ha0 ha1 h2) knWvX5_hasCrossing (knGm 902 (by decide +kernel) rfl) (by decide) (knKd_in ha0 (by decide)) (knEnt_3 ha0) rfl rfl rfl (Nat.le_of_ble_eq_true rfl) (by decide) dX5_takeCurl_2 rfl (fun h3 => ?_)
  refine kj_if_ne X (tgt := 12) dX5_takeCurl_5 (by decide) (knZ_c h3) (fun h4 => ?_) (fun h4 => ?_)
  · replace hf := knIq hf h4
    refine kj_aloadn X 0 dX5_takeCurl_12 rfl ?_
    refine kj_iloadn X 1 dX5_takeCurl_13 rfl ?_
    obtain ⟨q5, h6, hf⟩ := knBd_inv hf
    refine kj_callV (As := [knV a1]) (rest := []) X K (kcX5_curls l ha0 ha1 h6) knWvX5_curls (knGm 622 (by decide +kernel) rfl) (by decide) (knKd_in ha0 (by decide)) (knEnt_3 ha0) rfl rfl rfl (Nat.le_of_ble_eq_true rfl) (by decide) dX5_takeCurl_14 rfl (fun h7 => ?_)
    refine kj_if_ne X (tgt := 24) dX5_takeCurl_17 (by decide) (knZ_c h7) (fun h8 => ?_) (fun h8 => ?_)
    · replace hf := knIq hf h8
      refine kj_aloadn X 0 dX5_takeCurl_24 rfl ?_
      refine kj_iloadn X 1 dX5_takeCurl_25 rfl ?_
      obtain ⟨q9, h10, hf⟩ := knBd_inv hf
      refine kj_callV (As := [knV a1]) (rest := []) X K (kcX5_remove l ha0 ha1 h10) knWvX5_remove (knGm 630 (by decide +kernel) rfl) (by decide) (knKd_in ha0 (by decide)) (knEnt_3 ha0) rfl rfl rfl (Nat.le_of_ble_eq_true rfl) (by decide) dX5_takeCurl_26 rfl (fun h11 => ?_)
      refine kj_refusal X K (i := 0) (by decide) (knGm 432 (by decide +kernel) rfl) dX5_takeCurl_29 ?_
      cases hf
      exact kj_aret X (show 0 ≤ (0 : Int) ∧ (0 : Int) < 6 from ⟨by omega, by omega⟩) hr (Or.inl ⟨_, rfl⟩) (Or.inr ⟨_, rfl⟩) dX5_takeCurl_32 hlk
    · replace hf := knIp hf h8
      refine kj_refusal X K (i := 4) (by decide) (knGm 974 (by decide +kernel) rfl) dX5_takeCurl_20 ?_
      cases hf
      exact kj_aret X (show 0 ≤ (4 : Int) ∧ (4 : Int) < 6 from ⟨by omega, by omega⟩) hr (Or.inl ⟨_, rfl⟩) (Or.inr ⟨_, rfl⟩) dX5_takeCurl_23 hlk
  · replace hf := knIp hf h4
    refine kj_refusal X K (i := 1) (by decide) (knGm 952 (by decide +kernel) rfl) dX5_takeCurl_8 ?_
    cases hf
    exact kj_aret X (show 0 ≤ (1 : Int) ∧ (1 : Int) < 6 from ⟨by omega, by omega⟩) hr (Or.inl ⟨_, rfl⟩) (Or.inr ⟨_, rfl⟩) dX5_takeCurl_11 hlk

def kfX12_removeCurl (a1 : Int) (μ : knMem) : Option (Int × Int × knMem) :=
 Option.bind (kfX6_stage 1 μ) (fun q1 =>
  Option.bind (kfX5_takeCurl 2 a1 q1) (fun q4 =>
   Option.bind (kfX12_finishChange q4.1 q4.2) (fun q7 =>
    if q7.1 = 0 then
    some (0, (q7.2 2 3), q7.2)
    else
    some (q7.1, 0, q7.2))))

theorem knWvX12_removeCurl : knWv yX12_removeCurl cX12_removeCurl 2 (some .int) 1 := ⟨(knGm 969 (by decide +kernel) rfl), (knGm 114 (by decide +kernel) rfl), (knGm 967 (by decide +kernel) rfl), (knGm 968 (by decide +kernel) rfl), by decide +kernel, by decide +kernel, by decide +kernel⟩
set_option maxHeartbeats 4000000 in
set_option maxRecDepth 100000 in
theorem kcX12_removeCurl {G : knGT} (l : Launch) (hl : l.stackTraces = false) {a1 : Int} (ha1 : knC a1) {μ : knMem} {q : Int × Int × knMem} (hf : kfX12_removeCurl a1 μ = some q) : knCx G l yX12_removeCurl cX12_removeCurl 2 (some .int) 8 141 1 6 [knO G 0, knV a1] μ (knC q.2.1) q.1 (some (knV q.2.1)) q.2.2 := by
  unfold kfX12_removeCurl at hf
  refine kn_ofJx (by decide) (Nat.le_of_ble_eq_true rfl) (L := [(0, knO G 0), (1, knV a1)]) rfl ?_
  intro p e s m args below meth c X K hr hlk hnx
  refine kj_aloadn X 0 dX12_removeCurl_0 rfl ?_
  refine kj_geto (k := 5) (o2 := 23) X K kdc_0 (by decide) (knEnt_9 kdc_0) rfl (by decide) knInX12 (knGm 366 (by decide +kernel) rfl) rfl rfl dX12_removeCurl_1 ?_
  refine kj_aloadn X 0 dX12_removeCurl_4 rfl ?_
  refine kj_geto (k := 0) (o2 := 1) X K kdc_0 (by decide) (knEnt_9 kdc_0) rfl (by decide) knInX12 (knGm 361 (by decide +kernel) rfl) rfl rfl dX12_removeCurl_5 ?_
  obtain ⟨q1, h2, hf⟩ := knBd_inv hf
  refine kj_callV (As := [knO G 1]) (rest := []) X K (kcX6_stage l kdc_1 h2) knWvX6_stage (knGm 408 (by decide +kernel) rfl) (by decide) (knKd_in kdc_23 (by decide)) (knEnt_4 kdc_23) rfl rfl rfl (Nat.le_of_ble_eq_true rfl) (by decide) dX12_removeCurl_8 rfl (fun h3 => ?_)
  refine kj_aloadn X 0 dX12_removeCurl_11 rfl ?_
  refine kj_aloadn X 0 dX12_removeCurl_12 rfl ?_
  refine kj_geto (k := 1) (o2 := 2) X K kdc_0 (by decide) (knEnt_9 kdc_0) rfl (by decide) knInX12 (knGm 362 (by decide +kernel) rfl) rfl rfl dX12_removeCurl_13 ?_
  refine kj_iloadn X 1 dX12_removeCurl_16 rfl ?_
  obtain ⟨q4, h5, hf⟩ := knBd_inv hf
  refine kj_callV (As := [knV a1]) (rest := [knO G 0]) X K (kcX5_takeCurl l kdc_2 ha1 h5) knWvX5_takeCurl (knGm 970 (by decide +kernel) rfl) (by decide) (knKd_in kdc_2 (by decide)) (knEnt_3 kdc_2) rfl rfl rfl (Nat.le_of_ble_eq_true rfl) (by decide) dX12_removeCurl_17 rfl (fun h6 => ?_)
  obtain ⟨q7, h8, hf⟩ := knBd_inv hf
  refine kjx_callV (As := [knRf G q4.1]) (rest := []) X K (kcX12_finishChange l hl h6 h8) knWvX12_finishChange (knGm 434 (by decide +kernel) rfl) (by decide) (knKd_in kdc_0 (by decide)) (knEnt_9 kdc_0) rfl rfl rfl (Nat.le_of_ble_eq_true rfl) (by decide) dX12_removeCurl_20 rfl (fun h10 h9 => ?_) (fun E11 h10 h12 => ?_)
  · replace hf := knIp hf h10
    refine kj_aloadn X 0 dX12_removeCurl_23 rfl ?_
    refine kj_geto (k := 1) (o2 := 2) X K kdc_0 (by decide) (knEnt_9 kdc_0) rfl (by decide) knInX12 (knGm 362 (by decide +kernel) rfl) rfl rfl dX12_removeCurl_24 ?_
    refine kj_geti (k := 3) (ki := 3) X K rfl kdc_2 (by decide) (knEnt_3 kdc_2) rfl (by decide) knInX5 (knGm 180 (by decide +kernel) rfl) rfl rfl dX12_removeCurl_27 (fun h13 => ?_)
    cases hf
    exact kjx_iret X h13 rfl (by decide) (by decide) hr dX12_removeCurl_30 hlk
  · replace hf := knIq hf h10
    cases hf
    exact kjx_out h10 h12 (by decide) (by decide) hnx hlk

def kfJ9_max_7cf53 (a0 : Int) (a1 : Int) (μ : knMem) : Option (Int) :=
 some (if a0 < a1 then a1 else a0 : Int)

theorem knWkJ9_max_7cf53 : knWk yJ9_max_7cf53 cJ9_max_7cf53 2 (some .int) 2 := ⟨(knGm 711 (by decide +kernel) rfl), (knGm 137 (by decide +kernel) rfl), (knGm 710 (by decide +kernel) rfl), by decide +kernel, by decide +kernel, by decide +kernel⟩
set_option maxHeartbeats 4000000 in
set_option maxRecDepth 100000 in
theorem kcJ9_max_7cf53 {G : knGT} (l : Launch) {a0 : Int} {a1 : Int} (ha0 : knC a0) (ha1 : knC a1) {μ : knMem} {q : Int} (hf : kfJ9_max_7cf53 a0 a1 μ = some q) : knC0 G l yJ9_max_7cf53 cJ9_max_7cf53 2 (some .int) 0 0 [knV a0, knV a1] μ (knC q) (some (knV q)) μ := by
  unfold kfJ9_max_7cf53 at hf
  refine kn_ofJ kn_pf2 (Nat.le_of_ble_eq_true rfl) (L := [(0, knV a0), (1, knV a1)]) rfl ?_
  intro p e s m args below meth c X K hr hlk
  refine kj_iloadn X 0 dJ9_max_7cf53_0 rfl ?_
  refine kj_iloadn X 1 dJ9_max_7cf53_1 rfl ?_
  have j2 : ∀ (t2_0 : Int) (et2_0 : t2_0 = (if a0 < a1 then a1 else a0 : Int)) (ht2_0 : knC t2_0), knJ G p l e { frames := 0, cells := 0, slots := 0, locals := 0 } s m args below meth c 2 0 0 (MQ below (knPo G (knC q) (some (knV q)) μ) args s 0 0 (knA G)) 10 [] [knV t2_0] μ := by
    intro t2_0 et2_0 ht2_0
    subst et2_0
    cases hf
    exact kj_iret X ht2_0 hr dJ9_max_7cf53_10 hlk
  refine kj_ic_lt X (tgt := 9) dJ9_max_7cf53_2 (by decide) ha0 ha1 (fun h4 => ?_) (fun h4 => ?_)
  · refine kj_iloadn X 1 dJ9_max_7cf53_9 rfl ?_
    refine kj_sub (L' := []) [] rfl ?_
    exact j2 a1 (by rw [if_pos h4]) ha1
  · refine kj_iloadn X 0 dJ9_max_7cf53_5 rfl ?_
    refine kj_goto X (tgt := 10) dJ9_max_7cf53_6 (by decide) ?_
    refine kj_sub (L' := []) [] rfl ?_
    exact j2 a0 (by rw [if_neg h4]) ha0

def kfX5_putPoke (a0 : Int) (a1 : Int) (a2 : Int) (a3 : Int) (a4 : Int) (μ : knMem) : Option (Int × knMem) :=
 Option.bind (kfX5_hasPlace a0 a1 μ) (fun q1 =>
  (fun (k49 : (Unit) → Option (Int × knMem)) =>
   if q1 = 0 then
    k49 ()
   else
    Option.bind (kfX5_hasPlace a0 a2 μ) (fun q52 =>
     if q52 = 0 then
      k49 ()
     else
      if (μ a0 3) ≤ 5 then
       Option.bind (kfJ9_max_7cf53 a1 a2 μ) (fun q58 =>
        Option.bind (kfX5_widen a0 q58 μ) (fun q61 =>
         Option.bind (kfJ9_min_7cf53 a1 a2 q61) (fun q64 =>
          Option.bind (kfX5_widen a0 q64 q61) (fun q67 =>
           Option.bind (kfX5_append a0 (if a1 ≤ a2 then a1 else (knW (a1 + 2)) : Int) (if a3 = 0 then (knW ((if a1 ≤ a2 then (knW (a2 + 2)) else a2 : Int) + 1)) else (if a1 ≤ a2 then (knW (a2 + 2)) else a2 : Int) : Int) a4 q67) (fun q79 =>
            Option.bind (kfX5_append a0 (knW ((if a1 ≤ a2 then a1 else (knW (a1 + 2)) : Int) + 1)) (if a3 = 0 then (if a1 ≤ a2 then (knW (a2 + 2)) else a2 : Int) else (knW ((if a1 ≤ a2 then (knW (a2 + 2)) else a2 : Int) + 1)) : Int) (if a4 = 0 then 1 else 0 : Int) q79) (fun q88 =>
             some (0, q88)))))))
      else
       some (3, μ)))
   (fun _ =>
   some (1, μ)))

theorem knWvX5_putPoke : knWv yX5_putPoke cX5_putPoke 7 (some (.object "KnotLaboratory$Refusal")) 4 := ⟨(knGm 985 (by decide +kernel) rfl), (knGm 116 (by decide +kernel) rfl), (knGm 983 (by decide +kernel) rfl), (knGm 984 (by decide +kernel) rfl), by decide +kernel, by decide +kernel, by decide +kernel⟩
set_option maxHeartbeats 4000000 in
set_option maxRecDepth 100000 in
theorem kcX5_putPoke {G : knGT} (l : Launch) {a0 : Int} {a1 : Int} {a2 : Int} {a3 : Int} {a4 : Int} (ha0 : knKd a0 = 3) (ha1 : knC a1) (ha2 : knC a2) (ha3 : knZ a3) (ha4 : knZ a4) {μ : knMem} {q : Int × knMem} (hf : kfX5_putPoke a0 a1 a2 a3 a4 μ = some q) : knC0 G l yX5_putPoke cX5_putPoke 7 (some (.object "KnotLaboratory$Refusal")) 1 23 [knO G a0, knV a1, knV a2, knV a3, knV a4] μ (0 ≤ q.1 ∧ q.1 < 6) (some (knRf G q.1)) q.2 := by
  unfold kfX5_putPoke at hf
  refine kn_ofJ (plainFor_of_name (by decide)) (Nat.le_of_ble_eq_true rfl) (L := [(0, knO G a0), (1, knV a1), (2, knV a2), (3, knV a3), (4, knV a4)]) rfl ?_
  intro p e s m args below meth c X K hr hlk
  refine kj_aloadn X 0 dX5_putPoke_0 rfl ?_
  refine kj_iloadn X 1 dX5_putPoke_1 rfl ?_
  obtain ⟨q1, h2, hf⟩ := knBd_inv hf
  refine kj_callV (As := [knV a1]) (rest := []) X K (kcX5_hasPlace l ha0 ha1 h2) knWvX5_hasPlace (knGm 948 (by decide +kernel) rfl) (by decide) (knKd_in ha0 (by decide)) (knEnt_3 ha0) rfl rfl rfl (Nat.le_of_ble_eq_true rfl) (by decide) dX5_putPoke_2 rfl (fun h3 => ?_)
  have j49 : (fun _ =>
   some (1, μ)) () = some q → knJ G p l e { frames := 1, cells := 0, slots := 0, locals := 23 } s m args below meth c 7 0 0 (MQ below (knPo G (0 ≤ q.1 ∧ q.1 < 6) (some (knRf G q.1)) q.2) args s 0 0 (knA G)) 16 [] [] μ := by
    intro hf
    refine kj_refusal X K (i := 1) (by decide) (knGm 952 (by decide +kernel) rfl) dX5_putPoke_16 ?_
    cases hf
    exact kj_aret X (show 0 ≤ (1 : Int) ∧ (1 : Int) < 6 from ⟨by omega, by omega⟩) hr (Or.inl ⟨_, rfl⟩) (Or.inr ⟨_, rfl⟩) dX5_putPoke_19 hlk
  refine kj_if_eq X (tgt := 16) dX5_putPoke_5 (by decide) (knZ_c h3) (fun h51 => ?_) (fun h51 => ?_)
  · replace hf := knIp hf h51
    refine kj_sub (L' := []) [] rfl ?_
    exact j49  hf
  · replace hf := knIq hf h51
    refine kj_aloadn X 0 dX5_putPoke_8 rfl ?_
    refine kj_iloadn X 2 dX5_putPoke_9 rfl ?_
    obtain ⟨q52, h53, hf⟩ := knBd_inv hf
    refine kj_callV (As := [knV a2]) (rest := []) X K (kcX5_hasPlace l ha0 ha2 h53) knWvX5_hasPlace (knGm 948 (by decide +kernel) rfl) (by decide) (knKd_in ha0 (by decide)) (knEnt_3 ha0) rfl rfl rfl (Nat.le_of_ble_eq_true rfl) (by decide) dX5_putPoke_10 rfl (fun h54 => ?_)
    refine kj_if_ne X (tgt := 20) dX5_putPoke_13 (by decide) (knZ_c h54) (fun h55 => ?_) (fun h55 => ?_)
    · replace hf := knIq hf h55
      refine kj_aloadn X 0 dX5_putPoke_20 rfl ?_
      refine kj_geti (k := 3) (ki := 3) X K rfl ha0 (by decide) (knEnt_3 ha0) rfl (by decide) knInX5 (knGm 177 (by decide +kernel) rfl) rfl rfl dX5_putPoke_21 (fun h56 => ?_)
      refine kj_iconst X dX5_putPoke_24 ?_
      refine kj_ic_le X (tgt := 32) dX5_putPoke_25 (by decide) h56 (show knC (5) from ⟨by omega, by omega⟩) (fun h57 => ?_) (fun h57 => ?_)
      · replace hf := knIp hf h57
        refine kj_aloadn X 0 dX5_putPoke_32 rfl ?_
        refine kj_iloadn X 1 dX5_putPoke_33 rfl ?_
        refine kj_iloadn X 2 dX5_putPoke_34 rfl ?_
        obtain ⟨q58, h59, hf⟩ := knBd_inv hf
        refine kj_callS (As := [knV a1, knV a2]) (rest := [knO G a0]) X K (kcJ9_max_7cf53 l ha1 ha2 h59) knWkJ9_max_7cf53 (knGm 986 (by decide +kernel) rfl) (by decide)  rfl (Nat.le_of_ble_eq_true rfl) (by decide) dX5_putPoke_35 rfl (fun h60 => ?_)
        obtain ⟨q61, h62, hf⟩ := knBd_inv hf
        refine kj_callV (As := [knV q58]) (rest := []) X K (kcX5_widen l ha0 h60 h62) knWvX5_widen (knGm 954 (by decide +kernel) rfl) (by decide) (knKd_in ha0 (by decide)) (knEnt_3 ha0) rfl rfl rfl (Nat.le_of_ble_eq_true rfl) (by decide) dX5_putPoke_38 rfl (fun h63 => ?_)
        refine kj_aloadn X 0 dX5_putPoke_41 rfl ?_
        refine kj_iloadn X 1 dX5_putPoke_42 rfl ?_
        refine kj_iloadn X 2 dX5_putPoke_43 rfl ?_
        obtain ⟨q64, h65, hf⟩ := knBd_inv hf
        refine kj_callS (As := [knV a1, knV a2]) (rest := [knO G a0]) X K (kcJ9_min_7cf53 l ha1 ha2 h65) knWkJ9_min_7cf53 (knGm 987 (by decide +kernel) rfl) (by decide)  rfl (Nat.le_of_ble_eq_true rfl) (by decide) dX5_putPoke_44 rfl (fun h66 => ?_)
        obtain ⟨q67, h68, hf⟩ := knBd_inv hf
        refine kj_callV (As := [knV q64]) (rest := []) X K (kcX5_widen l ha0 h66 h68) knWvX5_widen (knGm 954 (by decide +kernel) rfl) (by decide) (knKd_in ha0 (by decide)) (knEnt_3 ha0) rfl rfl rfl (Nat.le_of_ble_eq_true rfl) (by decide) dX5_putPoke_47 rfl (fun h69 => ?_)
        refine kj_iloadn X 1 dX5_putPoke_50 rfl ?_
        refine kj_iloadn X 2 dX5_putPoke_51 rfl ?_
        have j71 : ∀ (t71_0 : Int) (et71_0 : t71_0 = (if a1 ≤ a2 then a1 else (knW (a1 + 2)) : Int)) (ht71_0 : knC t71_0), knJ G p l e { frames := 1, cells := 0, slots := 0, locals := 23 } s m args below meth c 7 0 0 (MQ below (knPo G (0 ≤ q.1 ∧ q.1 < 6) (some (knRf G q.1)) q.2) args s 0 0 (knA G)) 62 [(0, knO G a0), (1, knV a1), (2, knV a2), (3, knV a3), (4, knV a4)] [knV t71_0] q67 := by
          intro t71_0 et71_0 ht71_0
          subst et71_0
          refine kj_istore X (L' := [(5, knV (if a1 ≤ a2 then a1 else (knW (a1 + 2)) : Int)), (0, knO G a0), (1, knV a1), (2, knV a2), (3, knV a3), (4, knV a4)]) dX5_putPoke_62 (by decide) rfl ?_
          refine kj_iloadn X 2 dX5_putPoke_64 rfl ?_
          refine kj_iloadn X 3 dX5_putPoke_65 rfl ?_
          have j74 : ∀ (t74_0 : Int) (et74_0 : t74_0 = (if a1 ≤ a2 then (knW (a2 + 2)) else a2 : Int)) (ht74_0 : knC t74_0), knJ G p l e { frames := 1, cells := 0, slots := 0, locals := 23 } s m args below meth c 7 0 0 (MQ below (knPo G (0 ≤ q.1 ∧ q.1 < 6) (some (knRf G q.1)) q.2) args s 0 0 (knA G)) 76 [(0, knO G a0), (3, knV a3), (4, knV a4), (5, knV (if a1 ≤ a2 then a1 else (knW (a1 + 2)) : Int))] [knV t74_0] q67 := by
            intro t74_0 et74_0 ht74_0
            subst et74_0
            refine kj_istore X (L' := [(6, knV (if a1 ≤ a2 then (knW (a2 + 2)) else a2 : Int)), (0, knO G a0), (3, knV a3), (4, knV a4), (5, knV (if a1 ≤ a2 then a1 else (knW (a1 + 2)) : Int))]) dX5_putPoke_76 (by decide) rfl ?_
            refine kj_aloadn X 1 dX5_putPoke_78 rfl ?_
            refine kj_iload X 4 dX5_putPoke_79 rfl ?_
            refine kj_iloadn X 2 dX5_putPoke_81 rfl ?_
            have j77 : ∀ (t77_0 : Int) (et77_0 : t77_0 = (if a3 = 0 then (knW ((if a1 ≤ a2 then (knW (a2 + 2)) else a2 : Int) + 1)) else (if a1 ≤ a2 then (knW (a2 + 2)) else a2 : Int) : Int)) (ht77_0 : knC t77_0), knJ G p l e { frames := 1, cells := 0, slots := 0, locals := 23 } s m args below meth c 7 0 0 (MQ below (knPo G (0 ≤ q.1 ∧ q.1 < 6) (some (knRf G q.1)) q.2) args s 0 0 (knA G)) 94 [(0, knO G a0), (3, knV a3), (4, knV a4), (5, knV (if a1 ≤ a2 then a1 else (knW (a1 + 2)) : Int)), (6, knV (if a1 ≤ a2 then (knW (a2 + 2)) else a2 : Int))] [knV t77_0, knV (if a1 ≤ a2 then a1 else (knW (a1 + 2)) : Int), knO G a0] q67 := by
              intro t77_0 et77_0 ht77_0
              subst et77_0
              refine kj_iload X 2 dX5_putPoke_94 rfl ?_
              obtain ⟨q79, h80, hf⟩ := knBd_inv hf
              refine kj_callV (As := [knV (if a1 ≤ a2 then a1 else (knW (a1 + 2)) : Int), knV (if a3 = 0 then (knW ((if a1 ≤ a2 then (knW (a2 + 2)) else a2 : Int) + 1)) else (if a1 ≤ a2 then (knW (a2 + 2)) else a2 : Int) : Int), knV a4]) (rest := []) X K (kcX5_append l ha0 ht71_0 ht77_0 ha4 h80) knWvX5_append (knGm 958 (by decide +kernel) rfl) (by decide) (knKd_in ha0 (by decide)) (knEnt_3 ha0) rfl rfl rfl (Nat.le_of_ble_eq_true rfl) (by decide) dX5_putPoke_96 rfl (fun h81 => ?_)
              refine kj_aloadn X 0 dX5_putPoke_99 rfl ?_
              refine kj_iload X 3 dX5_putPoke_100 rfl ?_
              refine kj_iconst X dX5_putPoke_102 ?_
              refine kj_iadd X dX5_putPoke_103 ?_
              refine kj_iloadn X 1 dX5_putPoke_104 rfl ?_
              have j83 : ∀ (t83_0 : Int) (et83_0 : t83_0 = (if a3 = 0 then (if a1 ≤ a2 then (knW (a2 + 2)) else a2 : Int) else (knW ((if a1 ≤ a2 then (knW (a2 + 2)) else a2 : Int) + 1)) : Int)) (ht83_0 : knC t83_0), knJ G p l e { frames := 1, cells := 0, slots := 0, locals := 23 } s m args below meth c 7 0 0 (MQ below (knPo G (0 ≤ q.1 ∧ q.1 < 6) (some (knRf G q.1)) q.2) args s 0 0 (knA G)) 117 [(4, knV a4)] [knV t83_0, knV (knW ((if a1 ≤ a2 then a1 else (knW (a1 + 2)) : Int) + 1)), knO G a0] q79 := by
                intro t83_0 et83_0 ht83_0
                subst et83_0
                refine kj_iload X 0 dX5_putPoke_117 rfl ?_
                have j86 : ∀ (t86_0 : Int) (et86_0 : t86_0 = (if a4 = 0 then 1 else 0 : Int)) (ht86_0 : knZ t86_0), knJ G p l e { frames := 1, cells := 0, slots := 0, locals := 23 } s m args below meth c 7 0 0 (MQ below (knPo G (0 ≤ q.1 ∧ q.1 < 6) (some (knRf G q.1)) q.2) args s 0 0 (knA G)) 127 [] [knV t86_0, knV (if a3 = 0 then (if a1 ≤ a2 then (knW (a2 + 2)) else a2 : Int) else (knW ((if a1 ≤ a2 then (knW (a2 + 2)) else a2 : Int) + 1)) : Int), knV (knW ((if a1 ≤ a2 then a1 else (knW (a1 + 2)) : Int) + 1)), knO G a0] q79 := by
                  intro t86_0 et86_0 ht86_0
                  subst et86_0
                  obtain ⟨q88, h89, hf⟩ := knBd_inv hf
                  refine kj_callV (As := [knV (knW ((if a1 ≤ a2 then a1 else (knW (a1 + 2)) : Int) + 1)), knV (if a3 = 0 then (if a1 ≤ a2 then (knW (a2 + 2)) else a2 : Int) else (knW ((if a1 ≤ a2 then (knW (a2 + 2)) else a2 : Int) + 1)) : Int), knV (if a4 = 0 then 1 else 0 : Int)]) (rest := []) X K (kcX5_append l ha0 (knCw _) ht83_0 ht86_0 h89) knWvX5_append (knGm 958 (by decide +kernel) rfl) (by decide) (knKd_in ha0 (by decide)) (knEnt_3 ha0) rfl rfl rfl (Nat.le_of_ble_eq_true rfl) (by decide) dX5_putPoke_127 rfl (fun h90 => ?_)
                  refine kj_refusal X K (i := 0) (by decide) (knGm 432 (by decide +kernel) rfl) dX5_putPoke_130 ?_
                  cases hf
                  exact kj_aret X (show 0 ≤ (0 : Int) ∧ (0 : Int) < 6 from ⟨by omega, by omega⟩) hr (Or.inl ⟨_, rfl⟩) (Or.inr ⟨_, rfl⟩) dX5_putPoke_133 hlk
                refine kj_if_ne X (tgt := 126) dX5_putPoke_119 (by decide) (knZ_c ha4) (fun h91 => ?_) (fun h91 => ?_)
                · refine kj_iconst X dX5_putPoke_126 ?_
                  refine kj_sub (L' := []) [] rfl ?_
                  exact j86 0 (by rw [if_neg h91]) (Or.inl rfl)
                · refine kj_iconst X dX5_putPoke_122 ?_
                  refine kj_goto X (tgt := 127) dX5_putPoke_123 (by decide) ?_
                  refine kj_sub (L' := []) [] rfl ?_
                  exact j86 1 (by rw [if_pos h91]) (Or.inr rfl)
              refine kj_if_eq X (tgt := 115) dX5_putPoke_105 (by decide) (knZ_c ha3) (fun h92 => ?_) (fun h92 => ?_)
              · refine kj_iload X 4 dX5_putPoke_115 rfl ?_
                refine kj_sub (L' := [(4, knV a4)]) [2] rfl ?_
                exact j83 (if a1 ≤ a2 then (knW (a2 + 2)) else a2 : Int) (by rw [if_pos h92]) ht74_0
              · refine kj_iload X 4 dX5_putPoke_108 rfl ?_
                refine kj_iconst X dX5_putPoke_110 ?_
                refine kj_iadd X dX5_putPoke_111 ?_
                refine kj_goto X (tgt := 117) dX5_putPoke_112 (by decide) ?_
                refine kj_sub (L' := [(4, knV a4)]) [2] rfl ?_
                exact j83 (knW ((if a1 ≤ a2 then (knW (a2 + 2)) else a2 : Int) + 1)) (by rw [if_neg h92]) (knCw _)
            refine kj_if_eq X (tgt := 90) dX5_putPoke_82 (by decide) (knZ_c ha3) (fun h93 => ?_) (fun h93 => ?_)
            · refine kj_iload X 0 dX5_putPoke_90 rfl ?_
              refine kj_iconst X dX5_putPoke_92 ?_
              refine kj_iadd X dX5_putPoke_93 ?_
              refine kj_sub (L' := [(0, knO G a0), (3, knV a3), (4, knV a4), (5, knV (if a1 ≤ a2 then a1 else (knW (a1 + 2)) : Int)), (6, knV (if a1 ≤ a2 then (knW (a2 + 2)) else a2 : Int))]) [1, 2, 3, 4, 0] rfl ?_
              exact j77 (knW ((if a1 ≤ a2 then (knW (a2 + 2)) else a2 : Int) + 1)) (by rw [if_pos h93]) (knCw _)
            · refine kj_iload X 0 dX5_putPoke_85 rfl ?_
              refine kj_goto X (tgt := 94) dX5_putPoke_87 (by decide) ?_
              refine kj_sub (L' := [(0, knO G a0), (3, knV a3), (4, knV a4), (5, knV (if a1 ≤ a2 then a1 else (knW (a1 + 2)) : Int)), (6, knV (if a1 ≤ a2 then (knW (a2 + 2)) else a2 : Int))]) [1, 2, 3, 4, 0] rfl ?_
              exact j77 (if a1 ≤ a2 then (knW (a2 + 2)) else a2 : Int) (by rw [if_neg h93]) ht74_0
          refine kj_ic_le X (tgt := 73) dX5_putPoke_66 (by decide) ha1 ha2 (fun h94 => ?_) (fun h94 => ?_)
          · refine kj_iloadn X 3 dX5_putPoke_73 rfl ?_
            refine kj_iconst X dX5_putPoke_74 ?_
            refine kj_iadd X dX5_putPoke_75 ?_
            refine kj_sub (L' := [(0, knO G a0), (3, knV a3), (4, knV a4), (5, knV (if a1 ≤ a2 then a1 else (knW (a1 + 2)) : Int))]) [1, 4, 5, 0] rfl ?_
            exact j74 (knW (a2 + 2)) (by rw [if_pos h94]) (knCw _)
          · refine kj_iloadn X 3 dX5_putPoke_69 rfl ?_
            refine kj_goto X (tgt := 76) dX5_putPoke_70 (by decide) ?_
            refine kj_sub (L' := [(0, knO G a0), (3, knV a3), (4, knV a4), (5, knV (if a1 ≤ a2 then a1 else (knW (a1 + 2)) : Int))]) [1, 4, 5, 0] rfl ?_
            exact j74 a2 (by rw [if_neg h94]) ha2
        refine kj_ic_le X (tgt := 61) dX5_putPoke_52 (by decide) ha1 ha2 (fun h95 => ?_) (fun h95 => ?_)
        · refine kj_iloadn X 1 dX5_putPoke_61 rfl ?_
          refine kj_sub (L' := [(0, knO G a0), (1, knV a1), (2, knV a2), (3, knV a3), (4, knV a4)]) [0, 1, 2, 3, 4] rfl ?_
          exact j71 a1 (by rw [if_pos h95]) ha1
        · refine kj_iloadn X 1 dX5_putPoke_55 rfl ?_
          refine kj_iconst X dX5_putPoke_56 ?_
          refine kj_iadd X dX5_putPoke_57 ?_
          refine kj_goto X (tgt := 62) dX5_putPoke_58 (by decide) ?_
          refine kj_sub (L' := [(0, knO G a0), (1, knV a1), (2, knV a2), (3, knV a3), (4, knV a4)]) [0, 1, 2, 3, 4] rfl ?_
          exact j71 (knW (a1 + 2)) (by rw [if_neg h95]) (knCw _)
      · replace hf := knIq hf h57
        refine kj_refusal X K (i := 3) (by decide) (knGm 953 (by decide +kernel) rfl) dX5_putPoke_28 ?_
        cases hf
        exact kj_aret X (show 0 ≤ (3 : Int) ∧ (3 : Int) < 6 from ⟨by omega, by omega⟩) hr (Or.inl ⟨_, rfl⟩) (Or.inr ⟨_, rfl⟩) dX5_putPoke_31 hlk
    · replace hf := knIp hf h55
      refine kj_sub (L' := []) [] rfl ?_
      exact j49  hf

def kfX12_addPoke (a1 : Int) (a2 : Int) (a3 : Int) (a4 : Int) (μ : knMem) : Option (Int × Int × knMem) :=
 Option.bind (kfX6_stage 1 μ) (fun q1 =>
  Option.bind (kfX5_putPoke 2 a1 a2 a3 a4 q1) (fun q4 =>
   Option.bind (kfX12_finishChange q4.1 q4.2) (fun q7 =>
    if q7.1 = 0 then
    some (0, (knW ((q7.2 2 3) - 2)), q7.2)
    else
    some (q7.1, 0, q7.2))))

theorem knWvX12_addPoke : knWv yX12_addPoke cX12_addPoke 5 (some .int) 4 := ⟨(knGm 981 (by decide +kernel) rfl), (knGm 114 (by decide +kernel) rfl), (knGm 979 (by decide +kernel) rfl), (knGm 980 (by decide +kernel) rfl), by decide +kernel, by decide +kernel, by decide +kernel⟩
set_option maxHeartbeats 4000000 in
set_option maxRecDepth 100000 in
theorem kcX12_addPoke {G : knGT} (l : Launch) (hl : l.stackTraces = false) {a1 : Int} {a2 : Int} {a3 : Int} {a4 : Int} (ha1 : knC a1) (ha2 : knC a2) (ha3 : knZ a3) (ha4 : knZ a4) {μ : knMem} {q : Int × Int × knMem} (hf : kfX12_addPoke a1 a2 a3 a4 μ = some q) : knCx G l yX12_addPoke cX12_addPoke 5 (some .int) 8 141 1 6 [knO G 0, knV a1, knV a2, knV a3, knV a4] μ (knC q.2.1) q.1 (some (knV q.2.1)) q.2.2 := by
  unfold kfX12_addPoke at hf
  refine kn_ofJx (by decide) (Nat.le_of_ble_eq_true rfl) (L := [(0, knO G 0), (1, knV a1), (2, knV a2), (3, knV a3), (4, knV a4)]) rfl ?_
  intro p e s m args below meth c X K hr hlk hnx
  refine kj_aloadn X 0 dX12_addPoke_0 rfl ?_
  refine kj_geto (k := 5) (o2 := 23) X K kdc_0 (by decide) (knEnt_9 kdc_0) rfl (by decide) knInX12 (knGm 366 (by decide +kernel) rfl) rfl rfl dX12_addPoke_1 ?_
  refine kj_aloadn X 0 dX12_addPoke_4 rfl ?_
  refine kj_geto (k := 0) (o2 := 1) X K kdc_0 (by decide) (knEnt_9 kdc_0) rfl (by decide) knInX12 (knGm 361 (by decide +kernel) rfl) rfl rfl dX12_addPoke_5 ?_
  obtain ⟨q1, h2, hf⟩ := knBd_inv hf
  refine kj_callV (As := [knO G 1]) (rest := []) X K (kcX6_stage l kdc_1 h2) knWvX6_stage (knGm 408 (by decide +kernel) rfl) (by decide) (knKd_in kdc_23 (by decide)) (knEnt_4 kdc_23) rfl rfl rfl (Nat.le_of_ble_eq_true rfl) (by decide) dX12_addPoke_8 rfl (fun h3 => ?_)
  refine kj_aloadn X 0 dX12_addPoke_11 rfl ?_
  refine kj_aloadn X 0 dX12_addPoke_12 rfl ?_
  refine kj_geto (k := 1) (o2 := 2) X K kdc_0 (by decide) (knEnt_9 kdc_0) rfl (by decide) knInX12 (knGm 362 (by decide +kernel) rfl) rfl rfl dX12_addPoke_13 ?_
  refine kj_iloadn X 1 dX12_addPoke_16 rfl ?_
  refine kj_iloadn X 2 dX12_addPoke_17 rfl ?_
  refine kj_iloadn X 3 dX12_addPoke_18 rfl ?_
  refine kj_iload X 4 dX12_addPoke_19 rfl ?_
  obtain ⟨q4, h5, hf⟩ := knBd_inv hf
  refine kj_callV (As := [knV a1, knV a2, knV a3, knV a4]) (rest := [knO G 0]) X K (kcX5_putPoke l kdc_2 ha1 ha2 ha3 ha4 h5) knWvX5_putPoke (knGm 982 (by decide +kernel) rfl) (by decide) (knKd_in kdc_2 (by decide)) (knEnt_3 kdc_2) rfl rfl rfl (Nat.le_of_ble_eq_true rfl) (by decide) dX12_addPoke_21 rfl (fun h6 => ?_)
  obtain ⟨q7, h8, hf⟩ := knBd_inv hf
  refine kjx_callV (As := [knRf G q4.1]) (rest := []) X K (kcX12_finishChange l hl h6 h8) knWvX12_finishChange (knGm 434 (by decide +kernel) rfl) (by decide) (knKd_in kdc_0 (by decide)) (knEnt_9 kdc_0) rfl rfl rfl (Nat.le_of_ble_eq_true rfl) (by decide) dX12_addPoke_24 rfl (fun h10 h9 => ?_) (fun E11 h10 h12 => ?_)
  · replace hf := knIp hf h10
    refine kj_aloadn X 0 dX12_addPoke_27 rfl ?_
    refine kj_geto (k := 1) (o2 := 2) X K kdc_0 (by decide) (knEnt_9 kdc_0) rfl (by decide) knInX12 (knGm 362 (by decide +kernel) rfl) rfl rfl dX12_addPoke_28 ?_
    refine kj_geti (k := 3) (ki := 3) X K rfl kdc_2 (by decide) (knEnt_3 kdc_2) rfl (by decide) knInX5 (knGm 180 (by decide +kernel) rfl) rfl rfl dX12_addPoke_31 (fun h13 => ?_)
    refine kj_iconst X dX12_addPoke_34 ?_
    refine kj_isub X dX12_addPoke_35 ?_
    cases hf
    exact kjx_iret X (knCw _) rfl (by decide) (by decide) hr dX12_addPoke_36 hlk
  · replace hf := knIq hf h10
    cases hf
    exact kjx_out h10 h12 (by decide) (by decide) hnx hlk

def kfX5_pokes (a0 : Int) (a1 : Int) (a2 : Int) (μ : knMem) : Option (Int) :=
 knGd (0 ≤ a1 ∧ a1 < 7)
  (knGd (0 ≤ a2 ∧ a2 < 7)
  ((fun (k18 : (Unit) → Option (Int)) =>
  if (μ (a0 + 3) a1) = (μ (a0 + 3) a2) then
   k18 ()
  else
   Option.bind (kfX5_distance a0 (μ (a0 + 1) a1) (μ (a0 + 1) a2) μ) (fun q23 =>
    if q23 = 1 then
     Option.bind (kfX5_distance a0 (μ (a0 + 2) a1) (μ (a0 + 2) a2) μ) (fun q29 =>
      if q29 = 1 then
       some 1
      else
       k18 ())
    else
     k18 ()))
  (fun _ =>
  some 0)))

theorem knWvX5_pokes : knWv yX5_pokes cX5_pokes 3 (some .boolean) 2 := ⟨(knGm 644 (by decide +kernel) rfl), (knGm 116 (by decide +kernel) rfl), (knGm 642 (by decide +kernel) rfl), (knGm 643 (by decide +kernel) rfl), by decide +kernel, by decide +kernel, by decide +kernel⟩
set_option maxHeartbeats 4000000 in
set_option maxRecDepth 100000 in
theorem kcX5_pokes {G : knGT} (l : Launch) {a0 : Int} {a1 : Int} {a2 : Int} (ha0 : knKd a0 = 3) (ha1 : knC a1) (ha2 : knC a2) {μ : knMem} {q : Int} (hf : kfX5_pokes a0 a1 a2 μ = some q) : knC0 G l yX5_pokes cX5_pokes 3 (some .boolean) 1 24 [knO G a0, knV a1, knV a2] μ (knZ q) (some (knV q)) μ := by
  unfold kfX5_pokes at hf
  refine kn_ofJ (plainFor_of_name (by decide)) (Nat.le_of_ble_eq_true rfl) (L := [(0, knO G a0), (1, knV a1), (2, knV a2)]) rfl ?_
  intro p e s m args below meth c X K hr hlk
  refine kj_aloadn X 0 dX5_pokes_0 rfl ?_
  refine kj_geto (k := 2) (o2 := (a0 + 3)) X K ha0 (by decide) (knEnt_3 ha0) rfl (by decide) knInX5 (knGm 174 (by decide +kernel) rfl) rfl rfl dX5_pokes_1 ?_
  refine kj_iloadn X 1 dX5_pokes_4 rfl ?_
  obtain ⟨h1, hf⟩ := knGd_inv hf
  refine kj_zald X K (knD3 ha0).1.2.2 ha1 (knD3 ha0).2.2.2 h1 dX5_pokes_5 (fun h2 => ?_)
  refine kj_aloadn X 0 dX5_pokes_6 rfl ?_
  refine kj_geto (k := 2) (o2 := (a0 + 3)) X K ha0 (by decide) (knEnt_3 ha0) rfl (by decide) knInX5 (knGm 174 (by decide +kernel) rfl) rfl rfl dX5_pokes_7 ?_
  refine kj_iloadn X 2 dX5_pokes_10 rfl ?_
  obtain ⟨h3, hf⟩ := knGd_inv hf
  refine kj_zald X K (knD3 ha0).1.2.2 ha2 (knD3 ha0).2.2.2 h3 dX5_pokes_11 (fun h4 => ?_)
  have j18 : (fun _ =>
   some 0) () = some q → knJ G p l e { frames := 1, cells := 0, slots := 0, locals := 24 } s m args below meth c 3 0 0 (MQ below (knPo G (knZ q) (some (knV q)) μ) args s 0 0 (knA G)) 59 [] [] μ := by
    intro hf
    refine kj_iconst X dX5_pokes_59 ?_
    cases hf
    exact kj_zret X (Or.inl rfl) hr (kn_nb (Or.inl rfl)) dX5_pokes_60 hlk
  refine kj_ic_eq X (tgt := 59) dX5_pokes_12 (by decide) (knZ_c h2) (knZ_c h4) (fun h20 => ?_) (fun h20 => ?_)
  · replace hf := knIp hf h20
    refine kj_sub (L' := []) [] rfl ?_
    exact j18  hf
  · replace hf := knIq hf h20
    refine kj_aloadn X 0 dX5_pokes_15 rfl ?_
    refine kj_aloadn X 0 dX5_pokes_16 rfl ?_
    refine kj_geto (k := 0) (o2 := (a0 + 1)) X K ha0 (by decide) (knEnt_3 ha0) rfl (by decide) knInX5 (knGm 166 (by decide +kernel) rfl) rfl rfl dX5_pokes_17 ?_
    refine kj_iloadn X 1 dX5_pokes_20 rfl ?_
    refine kj_iald X K (knD3 ha0).1.1 ha1 (knD3 ha0).2.1 h1 dX5_pokes_21 (fun h21 => ?_)
    refine kj_aloadn X 0 dX5_pokes_22 rfl ?_
    refine kj_geto (k := 0) (o2 := (a0 + 1)) X K ha0 (by decide) (knEnt_3 ha0) rfl (by decide) knInX5 (knGm 166 (by decide +kernel) rfl) rfl rfl dX5_pokes_23 ?_
    refine kj_iloadn X 2 dX5_pokes_26 rfl ?_
    refine kj_iald X K (knD3 ha0).1.1 ha2 (knD3 ha0).2.1 h3 dX5_pokes_27 (fun h22 => ?_)
    obtain ⟨q23, h24, hf⟩ := knBd_inv hf
    refine kj_callV (As := [knV (μ (a0 + 1) a1), knV (μ (a0 + 1) a2)]) (rest := []) X K (kcX5_distance l ha0 h21 h22 h24) knWvX5_distance (knGm 626 (by decide +kernel) rfl) (by decide) (knKd_in ha0 (by decide)) (knEnt_3 ha0) rfl rfl rfl (Nat.le_of_ble_eq_true rfl) (by decide) dX5_pokes_28 rfl (fun h25 => ?_)
    refine kj_iconst X dX5_pokes_31 ?_
    refine kj_ic_ne X (tgt := 59) dX5_pokes_32 (by decide) h25 (show knC (1) from ⟨by omega, by omega⟩) (fun h26 => ?_) (fun h26 => ?_)
    · replace hf := knIq hf h26
      refine kj_sub (L' := []) [] rfl ?_
      exact j18  hf
    · replace hf := knIp hf h26
      refine kj_aloadn X 0 dX5_pokes_35 rfl ?_
      refine kj_aloadn X 0 dX5_pokes_36 rfl ?_
      refine kj_geto (k := 1) (o2 := (a0 + 2)) X K ha0 (by decide) (knEnt_3 ha0) rfl (by decide) knInX5 (knGm 170 (by decide +kernel) rfl) rfl rfl dX5_pokes_37 ?_
      refine kj_iloadn X 1 dX5_pokes_40 rfl ?_
      refine kj_iald X K (knD3 ha0).1.2.1 ha1 (knD3 ha0).2.2.1 h1 dX5_pokes_41 (fun h27 => ?_)
      refine kj_aloadn X 0 dX5_pokes_42 rfl ?_
      refine kj_geto (k := 1) (o2 := (a0 + 2)) X K ha0 (by decide) (knEnt_3 ha0) rfl (by decide) knInX5 (knGm 170 (by decide +kernel) rfl) rfl rfl dX5_pokes_43 ?_
      refine kj_iloadn X 2 dX5_pokes_46 rfl ?_
      refine kj_iald X K (knD3 ha0).1.2.1 ha2 (knD3 ha0).2.2.1 h3 dX5_pokes_47 (fun h28 => ?_)
      obtain ⟨q29, h30, hf⟩ := knBd_inv hf
      refine kj_callV (As := [knV (μ (a0 + 2) a1), knV (μ (a0 + 2) a2)]) (rest := []) X K (kcX5_distance l ha0 h27 h28 h30) knWvX5_distance (knGm 626 (by decide +kernel) rfl) (by decide) (knKd_in ha0 (by decide)) (knEnt_3 ha0) rfl rfl rfl (Nat.le_of_ble_eq_true rfl) (by decide) dX5_pokes_48 rfl (fun h31 => ?_)
      refine kj_iconst X dX5_pokes_51 ?_
      refine kj_ic_ne X (tgt := 59) dX5_pokes_52 (by decide) h31 (show knC (1) from ⟨by omega, by omega⟩) (fun h32 => ?_) (fun h32 => ?_)
      · replace hf := knIq hf h32
        refine kj_sub (L' := []) [] rfl ?_
        exact j18  hf
      · replace hf := knIp hf h32
        refine kj_iconst X dX5_pokes_55 ?_
        refine kj_goto X (tgt := 60) dX5_pokes_56 (by decide) ?_
        cases hf
        exact kj_zret X (Or.inr rfl) hr (kn_nb (Or.inr rfl)) dX5_pokes_60 hlk

def kfX5_takePoke (a0 : Int) (a1 : Int) (a2 : Int) (μ : knMem) : Option (Int × knMem) :=
 Option.bind (kfX5_hasCrossing a0 a1 μ) (fun q1 =>
  (fun (k25 : (Unit) → Option (Int × knMem)) =>
   if q1 = 0 then
    k25 ()
   else
    Option.bind (kfX5_hasCrossing a0 a2 μ) (fun q28 =>
     if q28 = 0 then
      k25 ()
     else
      Option.bind (kfX5_pokes a0 a1 a2 μ) (fun q32 =>
       if q32 = 0 then
        some (4, μ)
       else
        Option.bind (kfJ9_max_7cf53 a1 a2 μ) (fun q36 =>
         Option.bind (kfX5_remove a0 q36 μ) (fun q39 =>
          Option.bind (kfJ9_min_7cf53 a1 a2 q39) (fun q42 =>
           Option.bind (kfX5_remove a0 q42 q39) (fun q45 =>
            some (0, q45))))))))
   (fun _ =>
   some (1, μ)))

theorem knWvX5_takePoke : knWv yX5_takePoke cX5_takePoke 3 (some (.object "KnotLaboratory$Refusal")) 2 := ⟨(knGm 998 (by decide +kernel) rfl), (knGm 116 (by decide +kernel) rfl), (knGm 996 (by decide +kernel) rfl), (knGm 997 (by decide +kernel) rfl), by decide +kernel, by decide +kernel, by decide +kernel⟩
set_option maxHeartbeats 4000000 in
set_option maxRecDepth 100000 in
theorem kcX5_takePoke {G : knGT} (l : Launch) {a0 : Int} {a1 : Int} {a2 : Int} (ha0 : knKd a0 = 3) (ha1 : knC a1) (ha2 : knC a2) {μ : knMem} {q : Int × knMem} (hf : kfX5_takePoke a0 a1 a2 μ = some q) : knC0 G l yX5_takePoke cX5_takePoke 3 (some (.object "KnotLaboratory$Refusal")) 2 47 [knO G a0, knV a1, knV a2] μ (0 ≤ q.1 ∧ q.1 < 6) (some (knRf G q.1)) q.2 := by
  unfold kfX5_takePoke at hf
  refine kn_ofJ (plainFor_of_name (by decide)) (Nat.le_of_ble_eq_true rfl) (L := [(0, knO G a0), (1, knV a1), (2, knV a2)]) rfl ?_
  intro p e s m args below meth c X K hr hlk
  refine kj_aloadn X 0 dX5_takePoke_0 rfl ?_
  refine kj_iloadn X 1 dX5_takePoke_1 rfl ?_
  obtain ⟨q1, h2, hf⟩ := knBd_inv hf
  refine kj_callV (As := [knV a1]) (rest := []) X K (kcX5_hasCrossing l ha0 ha1 h2) knWvX5_hasCrossing (knGm 902 (by decide +kernel) rfl) (by decide) (knKd_in ha0 (by decide)) (knEnt_3 ha0) rfl rfl rfl (Nat.le_of_ble_eq_true rfl) (by decide) dX5_takePoke_2 rfl (fun h3 => ?_)
  have j25 : (fun _ =>
   some (1, μ)) () = some q → knJ G p l e { frames := 2, cells := 0, slots := 0, locals := 47 } s m args below meth c 3 0 0 (MQ below (knPo G (0 ≤ q.1 ∧ q.1 < 6) (some (knRf G q.1)) q.2) args s 0 0 (knA G)) 16 [] [] μ := by
    intro hf
    refine kj_refusal X K (i := 1) (by decide) (knGm 952 (by decide +kernel) rfl) dX5_takePoke_16 ?_
    cases hf
    exact kj_aret X (show 0 ≤ (1 : Int) ∧ (1 : Int) < 6 from ⟨by omega, by omega⟩) hr (Or.inl ⟨_, rfl⟩) (Or.inr ⟨_, rfl⟩) dX5_takePoke_19 hlk
  refine kj_if_eq X (tgt := 16) dX5_takePoke_5 (by decide) (knZ_c h3) (fun h27 => ?_) (fun h27 => ?_)
  · replace hf := knIp hf h27
    refine kj_sub (L' := []) [] rfl ?_
    exact j25  hf
  · replace hf := knIq hf h27
    refine kj_aloadn X 0 dX5_takePoke_8 rfl ?_
    refine kj_iloadn X 2 dX5_takePoke_9 rfl ?_
    obtain ⟨q28, h29, hf⟩ := knBd_inv hf
    refine kj_callV (As := [knV a2]) (rest := []) X K (kcX5_hasCrossing l ha0 ha2 h29) knWvX5_hasCrossing (knGm 902 (by decide +kernel) rfl) (by decide) (knKd_in ha0 (by decide)) (knEnt_3 ha0) rfl rfl rfl (Nat.le_of_ble_eq_true rfl) (by decide) dX5_takePoke_10 rfl (fun h30 => ?_)
    refine kj_if_ne X (tgt := 20) dX5_takePoke_13 (by decide) (knZ_c h30) (fun h31 => ?_) (fun h31 => ?_)
    · replace hf := knIq hf h31
      refine kj_aloadn X 0 dX5_takePoke_20 rfl ?_
      refine kj_iloadn X 1 dX5_takePoke_21 rfl ?_
      refine kj_iloadn X 2 dX5_takePoke_22 rfl ?_
      obtain ⟨q32, h33, hf⟩ := knBd_inv hf
      refine kj_callV (As := [knV a1, knV a2]) (rest := []) X K (kcX5_pokes l ha0 ha1 ha2 h33) knWvX5_pokes (knGm 641 (by decide +kernel) rfl) (by decide) (knKd_in ha0 (by decide)) (knEnt_3 ha0) rfl rfl rfl (Nat.le_of_ble_eq_true rfl) (by decide) dX5_takePoke_23 rfl (fun h34 => ?_)
      refine kj_if_ne X (tgt := 33) dX5_takePoke_26 (by decide) (knZ_c h34) (fun h35 => ?_) (fun h35 => ?_)
      · replace hf := knIq hf h35
        refine kj_aloadn X 0 dX5_takePoke_33 rfl ?_
        refine kj_iloadn X 1 dX5_takePoke_34 rfl ?_
        refine kj_iloadn X 2 dX5_takePoke_35 rfl ?_
        obtain ⟨q36, h37, hf⟩ := knBd_inv hf
        refine kj_callS (As := [knV a1, knV a2]) (rest := [knO G a0]) X K (kcJ9_max_7cf53 l ha1 ha2 h37) knWkJ9_max_7cf53 (knGm 986 (by decide +kernel) rfl) (by decide)  rfl (Nat.le_of_ble_eq_true rfl) (by decide) dX5_takePoke_36 rfl (fun h38 => ?_)
        obtain ⟨q39, h40, hf⟩ := knBd_inv hf
        refine kj_callV (As := [knV q36]) (rest := []) X K (kcX5_remove l ha0 h38 h40) knWvX5_remove (knGm 630 (by decide +kernel) rfl) (by decide) (knKd_in ha0 (by decide)) (knEnt_3 ha0) rfl rfl rfl (Nat.le_of_ble_eq_true rfl) (by decide) dX5_takePoke_39 rfl (fun h41 => ?_)
        refine kj_aloadn X 0 dX5_takePoke_42 rfl ?_
        refine kj_iloadn X 1 dX5_takePoke_43 rfl ?_
        refine kj_iloadn X 2 dX5_takePoke_44 rfl ?_
        obtain ⟨q42, h43, hf⟩ := knBd_inv hf
        refine kj_callS (As := [knV a1, knV a2]) (rest := [knO G a0]) X K (kcJ9_min_7cf53 l ha1 ha2 h43) knWkJ9_min_7cf53 (knGm 987 (by decide +kernel) rfl) (by decide)  rfl (Nat.le_of_ble_eq_true rfl) (by decide) dX5_takePoke_45 rfl (fun h44 => ?_)
        obtain ⟨q45, h46, hf⟩ := knBd_inv hf
        refine kj_callV (As := [knV q42]) (rest := []) X K (kcX5_remove l ha0 h44 h46) knWvX5_remove (knGm 630 (by decide +kernel) rfl) (by decide) (knKd_in ha0 (by decide)) (knEnt_3 ha0) rfl rfl rfl (Nat.le_of_ble_eq_true rfl) (by decide) dX5_takePoke_48 rfl (fun h47 => ?_)
        refine kj_refusal X K (i := 0) (by decide) (knGm 432 (by decide +kernel) rfl) dX5_takePoke_51 ?_
        cases hf
        exact kj_aret X (show 0 ≤ (0 : Int) ∧ (0 : Int) < 6 from ⟨by omega, by omega⟩) hr (Or.inl ⟨_, rfl⟩) (Or.inr ⟨_, rfl⟩) dX5_takePoke_54 hlk
      · replace hf := knIp hf h35
        refine kj_refusal X K (i := 4) (by decide) (knGm 974 (by decide +kernel) rfl) dX5_takePoke_29 ?_
        cases hf
        exact kj_aret X (show 0 ≤ (4 : Int) ∧ (4 : Int) < 6 from ⟨by omega, by omega⟩) hr (Or.inl ⟨_, rfl⟩) (Or.inr ⟨_, rfl⟩) dX5_takePoke_32 hlk
    · replace hf := knIp hf h31
      refine kj_sub (L' := []) [] rfl ?_
      exact j25  hf

def kfX12_removePoke (a1 : Int) (a2 : Int) (μ : knMem) : Option (Int × Int × knMem) :=
 Option.bind (kfX6_stage 1 μ) (fun q1 =>
  Option.bind (kfX5_takePoke 2 a1 a2 q1) (fun q4 =>
   Option.bind (kfX12_finishChange q4.1 q4.2) (fun q7 =>
    if q7.1 = 0 then
    some (0, (q7.2 2 3), q7.2)
    else
    some (q7.1, 0, q7.2))))

theorem knWvX12_removePoke : knWv yX12_removePoke cX12_removePoke 3 (some .int) 2 := ⟨(knGm 994 (by decide +kernel) rfl), (knGm 114 (by decide +kernel) rfl), (knGm 992 (by decide +kernel) rfl), (knGm 993 (by decide +kernel) rfl), by decide +kernel, by decide +kernel, by decide +kernel⟩
set_option maxHeartbeats 4000000 in
set_option maxRecDepth 100000 in
theorem kcX12_removePoke {G : knGT} (l : Launch) (hl : l.stackTraces = false) {a1 : Int} {a2 : Int} (ha1 : knC a1) (ha2 : knC a2) {μ : knMem} {q : Int × Int × knMem} (hf : kfX12_removePoke a1 a2 μ = some q) : knCx G l yX12_removePoke cX12_removePoke 3 (some .int) 8 141 1 6 [knO G 0, knV a1, knV a2] μ (knC q.2.1) q.1 (some (knV q.2.1)) q.2.2 := by
  unfold kfX12_removePoke at hf
  refine kn_ofJx (by decide) (Nat.le_of_ble_eq_true rfl) (L := [(0, knO G 0), (1, knV a1), (2, knV a2)]) rfl ?_
  intro p e s m args below meth c X K hr hlk hnx
  refine kj_aloadn X 0 dX12_removePoke_0 rfl ?_
  refine kj_geto (k := 5) (o2 := 23) X K kdc_0 (by decide) (knEnt_9 kdc_0) rfl (by decide) knInX12 (knGm 366 (by decide +kernel) rfl) rfl rfl dX12_removePoke_1 ?_
  refine kj_aloadn X 0 dX12_removePoke_4 rfl ?_
  refine kj_geto (k := 0) (o2 := 1) X K kdc_0 (by decide) (knEnt_9 kdc_0) rfl (by decide) knInX12 (knGm 361 (by decide +kernel) rfl) rfl rfl dX12_removePoke_5 ?_
  obtain ⟨q1, h2, hf⟩ := knBd_inv hf
  refine kj_callV (As := [knO G 1]) (rest := []) X K (kcX6_stage l kdc_1 h2) knWvX6_stage (knGm 408 (by decide +kernel) rfl) (by decide) (knKd_in kdc_23 (by decide)) (knEnt_4 kdc_23) rfl rfl rfl (Nat.le_of_ble_eq_true rfl) (by decide) dX12_removePoke_8 rfl (fun h3 => ?_)
  refine kj_aloadn X 0 dX12_removePoke_11 rfl ?_
  refine kj_aloadn X 0 dX12_removePoke_12 rfl ?_
  refine kj_geto (k := 1) (o2 := 2) X K kdc_0 (by decide) (knEnt_9 kdc_0) rfl (by decide) knInX12 (knGm 362 (by decide +kernel) rfl) rfl rfl dX12_removePoke_13 ?_
  refine kj_iloadn X 1 dX12_removePoke_16 rfl ?_
  refine kj_iloadn X 2 dX12_removePoke_17 rfl ?_
  obtain ⟨q4, h5, hf⟩ := knBd_inv hf
  refine kj_callV (As := [knV a1, knV a2]) (rest := [knO G 0]) X K (kcX5_takePoke l kdc_2 ha1 ha2 h5) knWvX5_takePoke (knGm 995 (by decide +kernel) rfl) (by decide) (knKd_in kdc_2 (by decide)) (knEnt_3 kdc_2) rfl rfl rfl (Nat.le_of_ble_eq_true rfl) (by decide) dX12_removePoke_18 rfl (fun h6 => ?_)
  obtain ⟨q7, h8, hf⟩ := knBd_inv hf
  refine kjx_callV (As := [knRf G q4.1]) (rest := []) X K (kcX12_finishChange l hl h6 h8) knWvX12_finishChange (knGm 434 (by decide +kernel) rfl) (by decide) (knKd_in kdc_0 (by decide)) (knEnt_9 kdc_0) rfl rfl rfl (Nat.le_of_ble_eq_true rfl) (by decide) dX12_removePoke_21 rfl (fun h10 h9 => ?_) (fun E11 h10 h12 => ?_)
  · replace hf := knIp hf h10
    refine kj_aloadn X 0 dX12_removePoke_24 rfl ?_
    refine kj_geto (k := 1) (o2 := 2) X K kdc_0 (by decide) (knEnt_9 kdc_0) rfl (by decide) knInX12 (knGm 362 (by decide +kernel) rfl) rfl rfl dX12_removePoke_25 ?_
    refine kj_geti (k := 3) (ki := 3) X K rfl kdc_2 (by decide) (knEnt_3 kdc_2) rfl (by decide) knInX5 (knGm 180 (by decide +kernel) rfl) rfl rfl dX12_removePoke_28 (fun h13 => ?_)
    cases hf
    exact kjx_iret X h13 rfl (by decide) (by decide) hr dX12_removePoke_31 hlk
  · replace hf := knIq hf h10
    cases hf
    exact kjx_out h10 h12 (by decide) (by decide) hnx hlk

def kfX5_exchange (a0 : Int) (a1 : Int) (μ : knMem) : Option (knMem) :=
 knGd (0 ≤ a1 ∧ a1 < 7)
  (some (knUp (knUp (knUp μ (a0 + 1) a1 (μ (a0 + 2) a1)) (a0 + 2) a1 (μ (a0 + 1) a1)) (a0 + 3) a1 (knNz (if ((knUp (knUp μ (a0 + 1) a1 (μ (a0 + 2) a1)) (a0 + 2) a1 (μ (a0 + 1) a1)) (a0 + 3) a1) = 0 then 1 else 0 : Int))))

theorem knWvX5_exchange : knWv yX5_exchange cX5_exchange 3 none 1 := ⟨(knGm 431 (by decide +kernel) rfl), (knGm 116 (by decide +kernel) rfl), (knGm 430 (by decide +kernel) rfl), (knGm 0 (by decide +kernel) rfl), by decide +kernel, by decide +kernel, by decide +kernel⟩
set_option maxHeartbeats 4000000 in
set_option maxRecDepth 100000 in
theorem kcX5_exchange {G : knGT} (l : Launch) {a0 : Int} {a1 : Int} (ha0 : knKd a0 = 3) (ha1 : knC a1) {μ : knMem} {q : knMem} (hf : kfX5_exchange a0 a1 μ = some q) : knC0 G l yX5_exchange cX5_exchange 3 none 0 0 [knO G a0, knV a1] μ True none q := by
  unfold kfX5_exchange at hf
  refine kn_ofJ (plainFor_of_name (by decide)) (Nat.le_of_ble_eq_true rfl) (L := [(0, knO G a0), (1, knV a1)]) rfl ?_
  intro p e s m args below meth c X K hr hlk
  refine kj_aloadn X 0 dX5_exchange_0 rfl ?_
  refine kj_geto (k := 0) (o2 := (a0 + 1)) X K ha0 (by decide) (knEnt_3 ha0) rfl (by decide) knInX5 (knGm 166 (by decide +kernel) rfl) rfl rfl dX5_exchange_1 ?_
  refine kj_iloadn X 1 dX5_exchange_4 rfl ?_
  obtain ⟨h1, hf⟩ := knGd_inv hf
  refine kj_iald X K (knD3 ha0).1.1 ha1 (knD3 ha0).2.1 h1 dX5_exchange_5 (fun h2 => ?_)
  refine kj_istoren X (L' := [(2, knV (μ (a0 + 1) a1)), (0, knO G a0), (1, knV a1)]) dX5_exchange_6 (by decide) rfl ?_
  refine kj_aloadn X 1 dX5_exchange_7 rfl ?_
  refine kj_geto (k := 0) (o2 := (a0 + 1)) X K ha0 (by decide) (knEnt_3 ha0) rfl (by decide) knInX5 (knGm 166 (by decide +kernel) rfl) rfl rfl dX5_exchange_8 ?_
  refine kj_iloadn X 2 dX5_exchange_11 rfl ?_
  refine kj_aloadn X 1 dX5_exchange_12 rfl ?_
  refine kj_geto (k := 1) (o2 := (a0 + 2)) X K ha0 (by decide) (knEnt_3 ha0) rfl (by decide) knInX5 (knGm 170 (by decide +kernel) rfl) rfl rfl dX5_exchange_13 ?_
  refine kj_iloadn X 2 dX5_exchange_16 rfl ?_
  refine kj_iald X K (knD3 ha0).1.2.1 ha1 (knD3 ha0).2.2.1 h1 dX5_exchange_17 (fun h3 => ?_)
  refine kj_iast X K (knD3 ha0).1.1 ha1 h3 (knD3 ha0).2.1 h1 dX5_exchange_18 ?_
  refine kj_aloadn X 1 dX5_exchange_19 rfl ?_
  refine kj_geto (k := 1) (o2 := (a0 + 2)) X K ha0 (by decide) (knEnt_3 ha0) rfl (by decide) knInX5 (knGm 170 (by decide +kernel) rfl) rfl rfl dX5_exchange_20 ?_
  refine kj_iloadn X 2 dX5_exchange_23 rfl ?_
  refine kj_iloadn X 0 dX5_exchange_24 rfl ?_
  refine kj_iast X K (knD3 ha0).1.2.1 ha1 h2 (knD3 ha0).2.2.1 h1 dX5_exchange_25 ?_
  refine kj_aloadn X 1 dX5_exchange_26 rfl ?_
  refine kj_geto (k := 2) (o2 := (a0 + 3)) X K ha0 (by decide) (knEnt_3 ha0) rfl (by decide) knInX5 (knGm 174 (by decide +kernel) rfl) rfl rfl dX5_exchange_27 ?_
  refine kj_iloadn X 2 dX5_exchange_30 rfl ?_
  refine kj_aloadn X 1 dX5_exchange_31 rfl ?_
  refine kj_geto (k := 2) (o2 := (a0 + 3)) X K ha0 (by decide) (knEnt_3 ha0) rfl (by decide) knInX5 (knGm 174 (by decide +kernel) rfl) rfl rfl dX5_exchange_32 ?_
  refine kj_iloadn X 2 dX5_exchange_35 rfl ?_
  refine kj_zald X K (knD3 ha0).1.2.2 ha1 (knD3 ha0).2.2.2 h1 dX5_exchange_36 (fun h4 => ?_)
  have j6 : ∀ (t6_0 : Int) (et6_0 : t6_0 = (if ((knUp (knUp μ (a0 + 1) a1 (μ (a0 + 2) a1)) (a0 + 2) a1 (μ (a0 + 1) a1)) (a0 + 3) a1) = 0 then 1 else 0 : Int)) (ht6_0 : knZ t6_0), knJ G p l e { frames := 0, cells := 0, slots := 0, locals := 0 } s m args below meth c 3 0 0 (MQ below (knPo G True none q) args s 0 0 (knA G)) 45 [] [knV t6_0, knV a1, knO G (a0 + 3)] (knUp (knUp μ (a0 + 1) a1 (μ (a0 + 2) a1)) (a0 + 2) a1 (μ (a0 + 1) a1)) := by
    intro t6_0 et6_0 ht6_0
    subst et6_0
    refine kj_zast X K (knD3 ha0).1.2.2 ha1 (knD3 ha0).2.2.2 h1 dX5_exchange_45 ?_
    cases hf
    exact kj_vret X trivial hr dX5_exchange_46 hlk
  refine kj_if_ne X (tgt := 44) dX5_exchange_37 (by decide) (knZ_c h4) (fun h8 => ?_) (fun h8 => ?_)
  · refine kj_iconst X dX5_exchange_44 ?_
    refine kj_sub (L' := []) [] rfl ?_
    exact j6 0 (by rw [if_neg h8]) (Or.inl rfl)
  · refine kj_iconst X dX5_exchange_40 ?_
    refine kj_goto X (tgt := 45) dX5_exchange_41 (by decide) ?_
    refine kj_sub (L' := []) [] rfl ?_
    exact j6 1 (by rw [if_pos h8]) (Or.inr rfl)

def kfX5_switchOne (a0 : Int) (a1 : Int) (μ : knMem) : Option (Int × knMem) :=
 Option.bind (kfX5_hasCrossing a0 a1 μ) (fun q1 =>
  if q1 = 0 then
   some (1, μ)
  else
   Option.bind (kfX5_exchange a0 a1 μ) (fun q5 =>
    some (0, q5)))

theorem knWvX5_switchOne : knWv yX5_switchOne cX5_switchOne 2 (some (.object "KnotLaboratory$Refusal")) 1 := ⟨(knGm 1009 (by decide +kernel) rfl), (knGm 116 (by decide +kernel) rfl), (knGm 1007 (by decide +kernel) rfl), (knGm 1008 (by decide +kernel) rfl), by decide +kernel, by decide +kernel, by decide +kernel⟩
set_option maxHeartbeats 4000000 in
set_option maxRecDepth 100000 in
theorem kcX5_switchOne {G : knGT} (l : Launch) {a0 : Int} {a1 : Int} (ha0 : knKd a0 = 3) (ha1 : knC a1) {μ : knMem} {q : Int × knMem} (hf : kfX5_switchOne a0 a1 μ = some q) : knC0 G l yX5_switchOne cX5_switchOne 2 (some (.object "KnotLaboratory$Refusal")) 1 22 [knO G a0, knV a1] μ (0 ≤ q.1 ∧ q.1 < 6) (some (knRf G q.1)) q.2 := by
  unfold kfX5_switchOne at hf
  refine kn_ofJ (plainFor_of_name (by decide)) (Nat.le_of_ble_eq_true rfl) (L := [(0, knO G a0), (1, knV a1)]) rfl ?_
  intro p e s m args below meth c X K hr hlk
  refine kj_aloadn X 0 dX5_switchOne_0 rfl ?_
  refine kj_iloadn X 1 dX5_switchOne_1 rfl ?_
  obtain ⟨q1, h2, hf⟩ := knBd_inv hf
  refine kj_callV (As := [knV a1]) (rest := []) X K (kcX5_hasCrossing l ha0 ha1 h2) knWvX5_hasCrossing (knGm 902 (by decide +kernel) rfl) (by decide) (knKd_in ha0 (by decide)) (knEnt_3 ha0) rfl rfl rfl (Nat.le_of_ble_eq_true rfl) (by decide) dX5_switchOne_2 rfl (fun h3 => ?_)
  refine kj_if_ne X (tgt := 12) dX5_switchOne_5 (by decide) (knZ_c h3) (fun h4 => ?_) (fun h4 => ?_)
  · replace hf := knIq hf h4
    refine kj_aloadn X 0 dX5_switchOne_12 rfl ?_
    refine kj_iloadn X 1 dX5_switchOne_13 rfl ?_
    obtain ⟨q5, h6, hf⟩ := knBd_inv hf
    refine kj_callV (As := [knV a1]) (rest := []) X K (kcX5_exchange l ha0 ha1 h6) knWvX5_exchange (knGm 428 (by decide +kernel) rfl) (by decide) (knKd_in ha0 (by decide)) (knEnt_3 ha0) rfl rfl rfl (Nat.le_of_ble_eq_true rfl) (by decide) dX5_switchOne_14 rfl (fun h7 => ?_)
    refine kj_refusal X K (i := 0) (by decide) (knGm 432 (by decide +kernel) rfl) dX5_switchOne_17 ?_
    cases hf
    exact kj_aret X (show 0 ≤ (0 : Int) ∧ (0 : Int) < 6 from ⟨by omega, by omega⟩) hr (Or.inl ⟨_, rfl⟩) (Or.inr ⟨_, rfl⟩) dX5_switchOne_20 hlk
  · replace hf := knIp hf h4
    refine kj_refusal X K (i := 1) (by decide) (knGm 952 (by decide +kernel) rfl) dX5_switchOne_8 ?_
    cases hf
    exact kj_aret X (show 0 ≤ (1 : Int) ∧ (1 : Int) < 6 from ⟨by omega, by omega⟩) hr (Or.inl ⟨_, rfl⟩) (Or.inr ⟨_, rfl⟩) dX5_switchOne_11 hlk

def kfX12_switchCrossing (a1 : Int) (μ : knMem) : Option (Int × Int × knMem) :=
 Option.bind (kfX6_stage 1 μ) (fun q1 =>
  Option.bind (kfX5_switchOne 2 a1 q1) (fun q4 =>
   Option.bind (kfX12_finishChange q4.1 q4.2) (fun q7 =>
    if q7.1 = 0 then
    knGd (0 ≤ a1 ∧ a1 < 7)
     (some (0, (q7.2 5 a1), q7.2))
    else
    some (q7.1, 0, q7.2))))

theorem knWvX12_switchCrossing : knWv yX12_switchCrossing cX12_switchCrossing 2 (some .boolean) 1 := ⟨(knGm 1005 (by decide +kernel) rfl), (knGm 114 (by decide +kernel) rfl), (knGm 1003 (by decide +kernel) rfl), (knGm 1004 (by decide +kernel) rfl), by decide +kernel, by decide +kernel, by decide +kernel⟩
set_option maxHeartbeats 4000000 in
set_option maxRecDepth 100000 in
theorem kcX12_switchCrossing {G : knGT} (l : Launch) (hl : l.stackTraces = false) {a1 : Int} (ha1 : knC a1) {μ : knMem} {q : Int × Int × knMem} (hf : kfX12_switchCrossing a1 μ = some q) : knCx G l yX12_switchCrossing cX12_switchCrossing 2 (some .boolean) 8 141 1 6 [knO G 0, knV a1] μ (knZ q.2.1) q.1 (some (knV q.2.1)) q.2.2 := by
  unfold kfX12_switchCrossing at hf
  refine kn_ofJx (by decide) (Nat.le_of_ble_eq_true rfl) (L := [(0, knO G 0), (1, knV a1)]) rfl ?_
  intro p e s m args below meth c X K hr hlk hnx
  refine kj_aloadn X 0 dX12_switchCrossing_0 rfl ?_
  refine kj_geto (k := 5) (o2 := 23) X K kdc_0 (by decide) (knEnt_9 kdc_0) rfl (by decide) knInX12 (knGm 366 (by decide +kernel) rfl) rfl rfl dX12_switchCrossing_1 ?_
  refine kj_aloadn X 0 dX12_switchCrossing_4 rfl ?_
  refine kj_geto (k := 0) (o2 := 1) X K kdc_0 (by decide) (knEnt_9 kdc_0) rfl (by decide) knInX12 (knGm 361 (by decide +kernel) rfl) rfl rfl dX12_switchCrossing_5 ?_
  obtain ⟨q1, h2, hf⟩ := knBd_inv hf
  refine kj_callV (As := [knO G 1]) (rest := []) X K (kcX6_stage l kdc_1 h2) knWvX6_stage (knGm 408 (by decide +kernel) rfl) (by decide) (knKd_in kdc_23 (by decide)) (knEnt_4 kdc_23) rfl rfl rfl (Nat.le_of_ble_eq_true rfl) (by decide) dX12_switchCrossing_8 rfl (fun h3 => ?_)
  refine kj_aloadn X 0 dX12_switchCrossing_11 rfl ?_
  refine kj_aloadn X 0 dX12_switchCrossing_12 rfl ?_
  refine kj_geto (k := 1) (o2 := 2) X K kdc_0 (by decide) (knEnt_9 kdc_0) rfl (by decide) knInX12 (knGm 362 (by decide +kernel) rfl) rfl rfl dX12_switchCrossing_13 ?_
  refine kj_iloadn X 1 dX12_switchCrossing_16 rfl ?_
  obtain ⟨q4, h5, hf⟩ := knBd_inv hf
  refine kj_callV (As := [knV a1]) (rest := [knO G 0]) X K (kcX5_switchOne l kdc_2 ha1 h5) knWvX5_switchOne (knGm 1006 (by decide +kernel) rfl) (by decide) (knKd_in kdc_2 (by decide)) (knEnt_3 kdc_2) rfl rfl rfl (Nat.le_of_ble_eq_true rfl) (by decide) dX12_switchCrossing_17 rfl (fun h6 => ?_)
  obtain ⟨q7, h8, hf⟩ := knBd_inv hf
  refine kjx_callV (As := [knRf G q4.1]) (rest := []) X K (kcX12_finishChange l hl h6 h8) knWvX12_finishChange (knGm 434 (by decide +kernel) rfl) (by decide) (knKd_in kdc_0 (by decide)) (knEnt_9 kdc_0) rfl rfl rfl (Nat.le_of_ble_eq_true rfl) (by decide) dX12_switchCrossing_20 rfl (fun h10 h9 => ?_) (fun E11 h10 h12 => ?_)
  · replace hf := knIp hf h10
    refine kj_aloadn X 0 dX12_switchCrossing_23 rfl ?_
    refine kj_geto (k := 1) (o2 := 2) X K kdc_0 (by decide) (knEnt_9 kdc_0) rfl (by decide) knInX12 (knGm 362 (by decide +kernel) rfl) rfl rfl dX12_switchCrossing_24 ?_
    refine kj_geto (k := 2) (o2 := 5) X K kdc_2 (by decide) (knEnt_3 kdc_2) rfl (by decide) knInX5 (knGm 175 (by decide +kernel) rfl) rfl rfl dX12_switchCrossing_27 ?_
    refine kj_iloadn X 1 dX12_switchCrossing_30 rfl ?_
    obtain ⟨h13, hf⟩ := knGd_inv hf
    refine kj_zald X K kdc_5 ha1 lnc_5 h13 dX12_switchCrossing_31 (fun h14 => ?_)
    cases hf
    exact kjx_zret X h14 rfl (by decide) (by decide) hr (kn_nb h14) dX12_switchCrossing_32 hlk
  · replace hf := knIq hf h10
    cases hf
    exact kjx_out h10 h12 (by decide) (by decide) hnx hlk

def kfX5_switchAll_l2  (x0 : Int)  (kc : (knMem) → Option (Int × knMem)) : Nat → Int → knMem → Option (Int × knMem)
  | 0, _, _ => none
  | n + 1, x1, μ =>
    if (μ x0 3) ≤ x1 then
     kc μ
    else
     Option.bind (kfX5_exchange x0 x1 μ) (fun q3 =>
      kfX5_switchAll_l2  x0 kc n (knW (x1 + 1)) q3)

def kfX5_switchAll (a0 : Int) (μ : knMem) : Option (Int × knMem) :=
 kfX5_switchAll_l2 a0  (fun w6 =>
  some (0, w6)) knF 0 μ

theorem knWvX5_switchAll : knWv yX5_switchAll cX5_switchAll 2 (some (.object "KnotLaboratory$Refusal")) 0 := ⟨(knGm 427 (by decide +kernel) rfl), (knGm 116 (by decide +kernel) rfl), (knGm 425 (by decide +kernel) rfl), (knGm 426 (by decide +kernel) rfl), by decide +kernel, by decide +kernel, by decide +kernel⟩
set_option maxHeartbeats 4000000 in
set_option maxRecDepth 100000 in
theorem kfX5_switchAll_l2_ok {q : Int × knMem} {kc : (knMem) → Option (Int × knMem)} {G : knGT} {p : Program} {l : Launch} {e : Env} {s : State} {m : MethodId} {args : Array Value} {below : List Frame} {meth : Method} {c : Code} (X : knX p m c cX5_switchAll 2 s args yX5_switchAll.cls) (K : knK G s s.heap) (hr : meth.sig.returnType = (some (.object "KnotLaboratory$Refusal"))) (hlk : meth.locks = false) (x0 : Int) (hx0 : knKd x0 = 3)  (hk : ∀ (μ1 : knMem), kc μ1 = some q → knJ G p l e { frames := 1, cells := 0, slots := 0, locals := 22 } s m args below meth c 2 0 0 (MQ below (knPo G (0 ≤ q.1 ∧ q.1 < 6) (some (knRf G q.1)) q.2) args s 0 0 (knA G)) 21 [] [] μ1) : ∀ (n : Nat) (x1 : Int) (hx1 : knC x1) (μ : knMem), kfX5_switchAll_l2  x0 kc n x1 μ = some q → knJ G p l e { frames := 1, cells := 0, slots := 0, locals := 22 } s m args below meth c 2 0 0 (MQ below (knPo G (0 ≤ q.1 ∧ q.1 < 6) (some (knRf G q.1)) q.2) args s 0 0 (knA G)) 2 [(0, knO G x0), (1, knV x1)] [] μ := by
  intro n
  induction n with
  | zero => intro x1 hx1 μ hf; cases hf
  | succ n ih =>
    intro x1 hx1 μ hf
    unfold kfX5_switchAll_l2 at hf
    refine kj_iloadn X 1 dX5_switchAll_2 rfl ?_
    refine kj_aloadn X 0 dX5_switchAll_3 rfl ?_
    refine kj_geti (k := 3) (ki := 3) X K rfl hx0 (by decide) (knEnt_3 hx0) rfl (by decide) knInX5 (knGm 177 (by decide +kernel) rfl) rfl rfl dX5_switchAll_4 (fun h1 => ?_)
    refine kj_ic_ge X (tgt := 21) dX5_switchAll_7 (by decide) hx1 h1 (fun h2 => ?_) (fun h2 => ?_)
    · replace hf := knIp hf h2
      refine kj_sub (L' := []) [] rfl ?_
      exact hk _ hf
    · replace hf := knIq hf h2
      refine kj_aloadn X 0 dX5_switchAll_10 rfl ?_
      refine kj_iloadn X 1 dX5_switchAll_11 rfl ?_
      obtain ⟨q3, h4, hf⟩ := knBd_inv hf
      refine kj_callV (As := [knV x1]) (rest := []) X K (kcX5_exchange l hx0 hx1 h4) knWvX5_exchange (knGm 428 (by decide +kernel) rfl) (by decide) (knKd_in hx0 (by decide)) (knEnt_3 hx0) rfl rfl rfl (Nat.le_of_ble_eq_true rfl) (by decide) dX5_switchAll_12 rfl (fun h5 => ?_)
      refine kj_iinc X 1 (L' := [(1, knV (knW (x1 + 1))), (0, knO G x0)]) dX5_switchAll_15 rfl (by decide) rfl ?_
      refine kj_goto X (tgt := 2) dX5_switchAll_18 (by decide) ?_
      refine kj_sub (L' := [(0, knO G x0), (1, knV (knW (x1 + 1)))]) [1, 0] rfl ?_
      exact ih _ (knCw _) _ hf

set_option maxHeartbeats 4000000 in
set_option maxRecDepth 100000 in
theorem kcX5_switchAll {G : knGT} (l : Launch) {a0 : Int} (ha0 : knKd a0 = 3) {μ : knMem} {q : Int × knMem} (hf : kfX5_switchAll a0 μ = some q) : knC0 G l yX5_switchAll cX5_switchAll 2 (some (.object "KnotLaboratory$Refusal")) 1 22 [knO G a0] μ (0 ≤ q.1 ∧ q.1 < 6) (some (knRf G q.1)) q.2 := by
  unfold kfX5_switchAll at hf
  refine kn_ofJ (plainFor_of_name (by decide)) (Nat.le_of_ble_eq_true rfl) (L := [(0, knO G a0)]) rfl ?_
  intro p e s m args below meth c X K hr hlk
  refine kj_iconst X dX5_switchAll_0 ?_
  refine kj_istoren X (L' := [(1, knV 0), (0, knO G a0)]) dX5_switchAll_1 (by decide) rfl ?_
  refine kj_sub (L' := [(0, knO G a0), (1, knV 0)]) [1, 0] rfl ?_
  refine kfX5_switchAll_l2_ok X K hr hlk a0 ha0  ?_ knF _ (show knC (0) from ⟨by omega, by omega⟩) _ hf
  intro w6_m
  intro hf
  refine kj_refusal X K (i := 0) (by decide) (knGm 432 (by decide +kernel) rfl) dX5_switchAll_21 ?_
  cases hf
  exact kj_aret X (show 0 ≤ (0 : Int) ∧ (0 : Int) < 6 from ⟨by omega, by omega⟩) hr (Or.inl ⟨_, rfl⟩) (Or.inr ⟨_, rfl⟩) dX5_switchAll_24 hlk

def kfX5_signSum_l4  (x0 : Int) (μ : knMem) (kc : (Int) → Option (Int)) : Nat → Int → Int → Option (Int)
  | 0, _, _ => none
  | n + 1, x1, x2 =>
    if (μ x0 3) ≤ x2 then
     kc x1
    else
     knGd (0 ≤ x2 ∧ x2 < 7)
      (kfX5_signSum_l4  x0 μ kc n (knW (x1 + (if (μ (x0 + 3) x2) = 0 then -1 else 1 : Int))) (knW (x2 + 1)))

def kfX5_signSum (a0 : Int) (μ : knMem) : Option (Int) :=
 kfX5_signSum_l4 a0 μ (fun w9 =>
  some w9) knF 0 0

theorem knWvX5_signSum : knWv yX5_signSum cX5_signSum 3 (some .int) 0 := ⟨(knGm 597 (by decide +kernel) rfl), (knGm 116 (by decide +kernel) rfl), (knGm 595 (by decide +kernel) rfl), (knGm 596 (by decide +kernel) rfl), by decide +kernel, by decide +kernel, by decide +kernel⟩
set_option maxHeartbeats 4000000 in
set_option maxRecDepth 100000 in
theorem kfX5_signSum_l4_ok {q : Int} {kc : (Int) → Option (Int)} {G : knGT} {p : Program} {l : Launch} {e : Env} {s : State} {m : MethodId} {args : Array Value} {below : List Frame} {meth : Method} {c : Code} (X : knX p m c cX5_signSum 3 s args yX5_signSum.cls) (K : knK G s s.heap) (hr : meth.sig.returnType = (some .int)) (hlk : meth.locks = false) (x0 : Int) (hx0 : knKd x0 = 3) (μ : knMem) (hk : ∀ (y1 : Int) (hy1 : knC y1), kc y1 = some q → knJ G p l e { frames := 0, cells := 0, slots := 0, locals := 0 } s m args below meth c 3 0 0 (MQ below (knPo G (knC q) (some (knV q)) μ) args s 0 0 (knA G)) 35 [(1, knV y1)] [] μ) : ∀ (n : Nat) (x1 : Int) (hx1 : knC x1) (x2 : Int) (hx2 : knC x2) , kfX5_signSum_l4  x0 μ kc n x1 x2 = some q → knJ G p l e { frames := 0, cells := 0, slots := 0, locals := 0 } s m args below meth c 3 0 0 (MQ below (knPo G (knC q) (some (knV q)) μ) args s 0 0 (knA G)) 4 [(0, knO G x0), (1, knV x1), (2, knV x2)] [] μ := by
  intro n
  induction n with
  | zero => intro x1 hx1 x2 hx2 hf; cases hf
  | succ n ih =>
    intro x1 hx1 x2 hx2 hf
    unfold kfX5_signSum_l4 at hf
    refine kj_iloadn X 2 dX5_signSum_4 rfl ?_
    refine kj_aloadn X 0 dX5_signSum_5 rfl ?_
    refine kj_geti (k := 3) (ki := 3) X K rfl hx0 (by decide) (knEnt_3 hx0) rfl (by decide) knInX5 (knGm 177 (by decide +kernel) rfl) rfl rfl dX5_signSum_6 (fun h1 => ?_)
    refine kj_ic_ge X (tgt := 35) dX5_signSum_9 (by decide) hx2 h1 (fun h2 => ?_) (fun h2 => ?_)
    · replace hf := knIp hf h2
      refine kj_sub (L' := [(1, knV x1)]) [1] rfl ?_
      exact hk _ hx1 hf
    · replace hf := knIq hf h2
      refine kj_iloadn X 1 dX5_signSum_12 rfl ?_
      refine kj_aloadn X 0 dX5_signSum_13 rfl ?_
      refine kj_geto (k := 2) (o2 := (x0 + 3)) X K hx0 (by decide) (knEnt_3 hx0) rfl (by decide) knInX5 (knGm 174 (by decide +kernel) rfl) rfl rfl dX5_signSum_14 ?_
      refine kj_iloadn X 2 dX5_signSum_17 rfl ?_
      obtain ⟨h3, hf⟩ := knGd_inv hf
      refine kj_zald X K (knD3 hx0).1.2.2 hx2 (knD3 hx0).2.2.2 h3 dX5_signSum_18 (fun h4 => ?_)
      have j6 : ∀ (t6_0 : Int) (et6_0 : t6_0 = (if (μ (x0 + 3) x2) = 0 then -1 else 1 : Int)) (ht6_0 : knC t6_0), knJ G p l e { frames := 0, cells := 0, slots := 0, locals := 0 } s m args below meth c 3 0 0 (MQ below (knPo G (knC q) (some (knV q)) μ) args s 0 0 (knA G)) 27 [(0, knO G x0), (2, knV x2)] [knV t6_0, knV x1] μ := by
        intro t6_0 et6_0 ht6_0
        subst et6_0
        refine kj_iadd X dX5_signSum_27 ?_
        refine kj_istoren X (L' := [(1, knV (knW (x1 + (if (μ (x0 + 3) x2) = 0 then -1 else 1 : Int)))), (0, knO G x0), (2, knV x2)]) dX5_signSum_28 (by decide) rfl ?_
        refine kj_iinc X 2 (L' := [(2, knV (knW (x2 + 1))), (1, knV (knW (x1 + (if (μ (x0 + 3) x2) = 0 then -1 else 1 : Int)))), (0, knO G x0)]) dX5_signSum_29 rfl (by decide) rfl ?_
        refine kj_goto X (tgt := 4) dX5_signSum_32 (by decide) ?_
        refine kj_sub (L' := [(0, knO G x0), (1, knV (knW (x1 + (if (μ (x0 + 3) x2) = 0 then -1 else 1 : Int)))), (2, knV (knW (x2 + 1)))]) [2, 1, 0] rfl ?_
        exact ih _ (knCw _) _ (knCw _)  hf
      refine kj_if_eq X (tgt := 26) dX5_signSum_19 (by decide) (knZ_c h4) (fun h8 => ?_) (fun h8 => ?_)
      · refine kj_iconst X dX5_signSum_26 ?_
        refine kj_sub (L' := [(0, knO G x0), (2, knV x2)]) [0, 2] rfl ?_
        exact j6 (-1) (by rw [if_pos h8]) (show knC (-1) from ⟨by omega, by omega⟩)
      · refine kj_iconst X dX5_signSum_22 ?_
        refine kj_goto X (tgt := 27) dX5_signSum_23 (by decide) ?_
        refine kj_sub (L' := [(0, knO G x0), (2, knV x2)]) [0, 2] rfl ?_
        exact j6 1 (by rw [if_neg h8]) (show knC (1) from ⟨by omega, by omega⟩)

set_option maxHeartbeats 4000000 in
set_option maxRecDepth 100000 in
theorem kcX5_signSum {G : knGT} (l : Launch) {a0 : Int} (ha0 : knKd a0 = 3) {μ : knMem} {q : Int} (hf : kfX5_signSum a0 μ = some q) : knC0 G l yX5_signSum cX5_signSum 3 (some .int) 0 0 [knO G a0] μ (knC q) (some (knV q)) μ := by
  unfold kfX5_signSum at hf
  refine kn_ofJ (plainFor_of_name (by decide)) (Nat.le_of_ble_eq_true rfl) (L := [(0, knO G a0)]) rfl ?_
  intro p e s m args below meth c X K hr hlk
  refine kj_iconst X dX5_signSum_0 ?_
  refine kj_istoren X (L' := [(1, knV 0), (0, knO G a0)]) dX5_signSum_1 (by decide) rfl ?_
  refine kj_iconst X dX5_signSum_2 ?_
  refine kj_istoren X (L' := [(2, knV 0), (1, knV 0), (0, knO G a0)]) dX5_signSum_3 (by decide) rfl ?_
  refine kj_sub (L' := [(0, knO G a0), (1, knV 0), (2, knV 0)]) [2, 1, 0] rfl ?_
  refine kfX5_signSum_l4_ok X K hr hlk a0 ha0 μ ?_ knF _ (show knC (0) from ⟨by omega, by omega⟩) _ (show knC (0) from ⟨by omega, by omega⟩)  hf
  intro w9_0 hw9_0
  intro hf
  refine kj_iloadn X 0 dX5_signSum_35 rfl ?_
  cases hf
  exact kj_iret X hw9_0 hr dX5_signSum_36 hlk

def kfX12_mirror  (μ : knMem) : Option (Int × Int × knMem) :=
 Option.bind (kfX6_stage 1 μ) (fun q1 =>
  Option.bind (kfX5_switchAll 2 q1) (fun q4 =>
   Option.bind (kfX12_finishChange q4.1 q4.2) (fun q7 =>
    if q7.1 = 0 then
    Option.bind (kfX5_signSum 2 q7.2) (fun q13 =>
     some (0, q13, q7.2))
    else
    some (q7.1, 0, q7.2))))

theorem knWvX12_mirror : knWv yX12_mirror cX12_mirror 1 (some .int) 0 := ⟨(knGm 407 (by decide +kernel) rfl), (knGm 114 (by decide +kernel) rfl), (knGm 405 (by decide +kernel) rfl), (knGm 406 (by decide +kernel) rfl), by decide +kernel, by decide +kernel, by decide +kernel⟩
set_option maxHeartbeats 4000000 in
set_option maxRecDepth 100000 in
theorem kcX12_mirror {G : knGT} (l : Launch) (hl : l.stackTraces = false)   {μ : knMem} {q : Int × Int × knMem} (hf : kfX12_mirror  μ = some q) : knCx G l yX12_mirror cX12_mirror 1 (some .int) 8 141 1 6 [knO G 0] μ (knC q.2.1) q.1 (some (knV q.2.1)) q.2.2 := by
  unfold kfX12_mirror at hf
  refine kn_ofJx (by decide) (Nat.le_of_ble_eq_true rfl) (L := [(0, knO G 0)]) rfl ?_
  intro p e s m args below meth c X K hr hlk hnx
  refine kj_aloadn X 0 dX12_mirror_0 rfl ?_
  refine kj_geto (k := 5) (o2 := 23) X K kdc_0 (by decide) (knEnt_9 kdc_0) rfl (by decide) knInX12 (knGm 366 (by decide +kernel) rfl) rfl rfl dX12_mirror_1 ?_
  refine kj_aloadn X 0 dX12_mirror_4 rfl ?_
  refine kj_geto (k := 0) (o2 := 1) X K kdc_0 (by decide) (knEnt_9 kdc_0) rfl (by decide) knInX12 (knGm 361 (by decide +kernel) rfl) rfl rfl dX12_mirror_5 ?_
  obtain ⟨q1, h2, hf⟩ := knBd_inv hf
  refine kj_callV (As := [knO G 1]) (rest := []) X K (kcX6_stage l kdc_1 h2) knWvX6_stage (knGm 408 (by decide +kernel) rfl) (by decide) (knKd_in kdc_23 (by decide)) (knEnt_4 kdc_23) rfl rfl rfl (Nat.le_of_ble_eq_true rfl) (by decide) dX12_mirror_8 rfl (fun h3 => ?_)
  refine kj_aloadn X 0 dX12_mirror_11 rfl ?_
  refine kj_aloadn X 0 dX12_mirror_12 rfl ?_
  refine kj_geto (k := 1) (o2 := 2) X K kdc_0 (by decide) (knEnt_9 kdc_0) rfl (by decide) knInX12 (knGm 362 (by decide +kernel) rfl) rfl rfl dX12_mirror_13 ?_
  obtain ⟨q4, h5, hf⟩ := knBd_inv hf
  refine kj_callV (As := []) (rest := [knO G 0]) X K (kcX5_switchAll l kdc_2 h5) knWvX5_switchAll (knGm 424 (by decide +kernel) rfl) (by decide) (knKd_in kdc_2 (by decide)) (knEnt_3 kdc_2) rfl rfl rfl (Nat.le_of_ble_eq_true rfl) (by decide) dX12_mirror_16 rfl (fun h6 => ?_)
  obtain ⟨q7, h8, hf⟩ := knBd_inv hf
  refine kjx_callV (As := [knRf G q4.1]) (rest := []) X K (kcX12_finishChange l hl h6 h8) knWvX12_finishChange (knGm 434 (by decide +kernel) rfl) (by decide) (knKd_in kdc_0 (by decide)) (knEnt_9 kdc_0) rfl rfl rfl (Nat.le_of_ble_eq_true rfl) (by decide) dX12_mirror_19 rfl (fun h10 h9 => ?_) (fun E11 h10 h12 => ?_)
  · replace hf := knIp hf h10
    refine kj_aloadn X 0 dX12_mirror_22 rfl ?_
    refine kj_geto (k := 1) (o2 := 2) X K kdc_0 (by decide) (knEnt_9 kdc_0) rfl (by decide) knInX12 (knGm 362 (by decide +kernel) rfl) rfl rfl dX12_mirror_23 ?_
    obtain ⟨q13, h14, hf⟩ := knBd_inv hf
    refine kj_callV (As := []) (rest := []) X K (kcX5_signSum l kdc_2 h14) knWvX5_signSum (knGm 594 (by decide +kernel) rfl) (by decide) (knKd_in kdc_2 (by decide)) (knEnt_3 kdc_2) rfl rfl rfl (Nat.le_of_ble_eq_true rfl) (by decide) dX12_mirror_26 rfl (fun h15 => ?_)
    cases hf
    exact kjx_iret X h15 rfl (by decide) (by decide) hr dX12_mirror_29 hlk
  · replace hf := knIq hf h10
    cases hf
    exact kjx_out h10 h12 (by decide) (by decide) hnx hlk

def kfX5_turnBack_l11  (x0 : Int) (x1 : Int)  (kc : (knMem) → Option (Int × knMem)) : Nat → Int → knMem → Option (Int × knMem)
  | 0, _, _ => none
  | n + 1, x2, μ =>
    if (μ x0 3) ≤ x2 then
     kc μ
    else
     knGd (0 ≤ x2 ∧ x2 < 7)
      (kfX5_turnBack_l11  x0 x1 kc n (knW (x2 + 1)) (knUp (knUp μ (x0 + 1) x2 (knW (x1 - (μ (x0 + 1) x2)))) (x0 + 2) x2 (knW (x1 - ((knUp μ (x0 + 1) x2 (knW (x1 - (μ (x0 + 1) x2)))) (x0 + 2) x2)))))

def kfX5_turnBack (a0 : Int) (μ : knMem) : Option (Int × knMem) :=
 kfX5_turnBack_l11 a0 (knW ((knW (2 * (μ a0 3))) - 1))  (fun w7 =>
  some (0, w7)) knF 0 μ

theorem knWvX5_turnBack : knWv yX5_turnBack cX5_turnBack 3 (some (.object "KnotLaboratory$Refusal")) 0 := ⟨(knGm 605 (by decide +kernel) rfl), (knGm 116 (by decide +kernel) rfl), (knGm 603 (by decide +kernel) rfl), (knGm 604 (by decide +kernel) rfl), by decide +kernel, by decide +kernel, by decide +kernel⟩
set_option maxHeartbeats 4000000 in
set_option maxRecDepth 100000 in
theorem kfX5_turnBack_l11_ok {q : Int × knMem} {kc : (knMem) → Option (Int × knMem)} {G : knGT} {p : Program} {l : Launch} {e : Env} {s : State} {m : MethodId} {args : Array Value} {below : List Frame} {meth : Method} {c : Code} (X : knX p m c cX5_turnBack 3 s args yX5_turnBack.cls) (K : knK G s s.heap) (hr : meth.sig.returnType = (some (.object "KnotLaboratory$Refusal"))) (hlk : meth.locks = false) (x0 : Int) (x1 : Int) (hx0 : knKd x0 = 3) (hx1 : knC x1)  (hk : ∀ (μ1 : knMem), kc μ1 = some q → knJ G p l e { frames := 0, cells := 0, slots := 0, locals := 0 } s m args below meth c 3 0 0 (MQ below (knPo G (0 ≤ q.1 ∧ q.1 < 6) (some (knRf G q.1)) q.2) args s 0 0 (knA G)) 53 [] [] μ1) : ∀ (n : Nat) (x2 : Int) (hx2 : knC x2) (μ : knMem), kfX5_turnBack_l11  x0 x1 kc n x2 μ = some q → knJ G p l e { frames := 0, cells := 0, slots := 0, locals := 0 } s m args below meth c 3 0 0 (MQ below (knPo G (0 ≤ q.1 ∧ q.1 < 6) (some (knRf G q.1)) q.2) args s 0 0 (knA G)) 11 [(0, knO G x0), (1, knV x1), (2, knV x2)] [] μ := by
  intro n
  induction n with
  | zero => intro x2 hx2 μ hf; cases hf
  | succ n ih =>
    intro x2 hx2 μ hf
    unfold kfX5_turnBack_l11 at hf
    refine kj_iloadn X 2 dX5_turnBack_11 rfl ?_
    refine kj_aloadn X 0 dX5_turnBack_12 rfl ?_
    refine kj_geti (k := 3) (ki := 3) X K rfl hx0 (by decide) (knEnt_3 hx0) rfl (by decide) knInX5 (knGm 177 (by decide +kernel) rfl) rfl rfl dX5_turnBack_13 (fun h2 => ?_)
    refine kj_ic_ge X (tgt := 53) dX5_turnBack_16 (by decide) hx2 h2 (fun h3 => ?_) (fun h3 => ?_)
    · replace hf := knIp hf h3
      refine kj_sub (L' := []) [] rfl ?_
      exact hk _ hf
    · replace hf := knIq hf h3
      refine kj_aloadn X 0 dX5_turnBack_19 rfl ?_
      refine kj_geto (k := 0) (o2 := (x0 + 1)) X K hx0 (by decide) (knEnt_3 hx0) rfl (by decide) knInX5 (knGm 166 (by decide +kernel) rfl) rfl rfl dX5_turnBack_20 ?_
      refine kj_iloadn X 2 dX5_turnBack_23 rfl ?_
      refine kj_iloadn X 1 dX5_turnBack_24 rfl ?_
      refine kj_aloadn X 0 dX5_turnBack_25 rfl ?_
      refine kj_geto (k := 0) (o2 := (x0 + 1)) X K hx0 (by decide) (knEnt_3 hx0) rfl (by decide) knInX5 (knGm 166 (by decide +kernel) rfl) rfl rfl dX5_turnBack_26 ?_
      refine kj_iloadn X 2 dX5_turnBack_29 rfl ?_
      obtain ⟨h4, hf⟩ := knGd_inv hf
      refine kj_iald X K (knD3 hx0).1.1 hx2 (knD3 hx0).2.1 h4 dX5_turnBack_30 (fun h5 => ?_)
      refine kj_isub X dX5_turnBack_31 ?_
      refine kj_iast X K (knD3 hx0).1.1 hx2 (knCw _) (knD3 hx0).2.1 h4 dX5_turnBack_32 ?_
      refine kj_aloadn X 0 dX5_turnBack_33 rfl ?_
      refine kj_geto (k := 1) (o2 := (x0 + 2)) X K hx0 (by decide) (knEnt_3 hx0) rfl (by decide) knInX5 (knGm 170 (by decide +kernel) rfl) rfl rfl dX5_turnBack_34 ?_
      refine kj_iloadn X 2 dX5_turnBack_37 rfl ?_
      refine kj_iloadn X 1 dX5_turnBack_38 rfl ?_
      refine kj_aloadn X 0 dX5_turnBack_39 rfl ?_
      refine kj_geto (k := 1) (o2 := (x0 + 2)) X K hx0 (by decide) (knEnt_3 hx0) rfl (by decide) knInX5 (knGm 170 (by decide +kernel) rfl) rfl rfl dX5_turnBack_40 ?_
      refine kj_iloadn X 2 dX5_turnBack_43 rfl ?_
      refine kj_iald X K (knD3 hx0).1.2.1 hx2 (knD3 hx0).2.2.1 h4 dX5_turnBack_44 (fun h6 => ?_)
      refine kj_isub X dX5_turnBack_45 ?_
      refine kj_iast X K (knD3 hx0).1.2.1 hx2 (knCw _) (knD3 hx0).2.2.1 h4 dX5_turnBack_46 ?_
      refine kj_iinc X 2 (L' := [(2, knV (knW (x2 + 1))), (0, knO G x0), (1, knV x1)]) dX5_turnBack_47 rfl (by decide) rfl ?_
      refine kj_goto X (tgt := 11) dX5_turnBack_50 (by decide) ?_
      refine kj_sub (L' := [(0, knO G x0), (1, knV x1), (2, knV (knW (x2 + 1)))]) [1, 2, 0] rfl ?_
      exact ih _ (knCw _) _ hf

set_option maxHeartbeats 4000000 in
set_option maxRecDepth 100000 in
theorem kcX5_turnBack {G : knGT} (l : Launch) {a0 : Int} (ha0 : knKd a0 = 3) {μ : knMem} {q : Int × knMem} (hf : kfX5_turnBack a0 μ = some q) : knC0 G l yX5_turnBack cX5_turnBack 3 (some (.object "KnotLaboratory$Refusal")) 0 0 [knO G a0] μ (0 ≤ q.1 ∧ q.1 < 6) (some (knRf G q.1)) q.2 := by
  unfold kfX5_turnBack at hf
  refine kn_ofJ (plainFor_of_name (by decide)) (Nat.le_of_ble_eq_true rfl) (L := [(0, knO G a0)]) rfl ?_
  intro p e s m args below meth c X K hr hlk
  refine kj_iconst X dX5_turnBack_0 ?_
  refine kj_aloadn X 0 dX5_turnBack_1 rfl ?_
  refine kj_geti (k := 3) (ki := 3) X K rfl ha0 (by decide) (knEnt_3 ha0) rfl (by decide) knInX5 (knGm 177 (by decide +kernel) rfl) rfl rfl dX5_turnBack_2 (fun h1 => ?_)
  refine kj_imul X dX5_turnBack_5 ?_
  refine kj_iconst X dX5_turnBack_6 ?_
  refine kj_isub X dX5_turnBack_7 ?_
  refine kj_istoren X (L' := [(1, knV (knW ((knW (2 * (μ a0 3))) - 1))), (0, knO G a0)]) dX5_turnBack_8 (by decide) rfl ?_
  refine kj_iconst X dX5_turnBack_9 ?_
  refine kj_istoren X (L' := [(2, knV 0), (1, knV (knW ((knW (2 * (μ a0 3))) - 1))), (0, knO G a0)]) dX5_turnBack_10 (by decide) rfl ?_
  refine kj_sub (L' := [(0, knO G a0), (1, knV (knW ((knW (2 * (μ a0 3))) - 1))), (2, knV 0)]) [2, 1, 0] rfl ?_
  refine kfX5_turnBack_l11_ok X K hr hlk a0 (knW ((knW (2 * (μ a0 3))) - 1)) ha0 (knCw _)  ?_ knF _ (show knC (0) from ⟨by omega, by omega⟩) _ hf
  intro w7_m
  intro hf
  refine kj_refusal X K (i := 0) (by decide) (knGm 432 (by decide +kernel) rfl) dX5_turnBack_53 ?_
  cases hf
  exact kj_aret X (show 0 ≤ (0 : Int) ∧ (0 : Int) < 6 from ⟨by omega, by omega⟩) hr (Or.inl ⟨_, rfl⟩) (Or.inr ⟨_, rfl⟩) dX5_turnBack_56 hlk

def kfX5_crossingOf_l2  (x0 : Int) (x1 : Int) (μ : knMem) (kc : (Unit) → Option (Int)) : Nat → Int → Option (Int)
  | 0, _ => none
  | n + 1, x2 =>
    if (μ x0 3) ≤ x2 then
     kc ()
    else
     knGd (0 ≤ x2 ∧ x2 < 7)
      ((fun (k8 : (Unit) → Option (Int)) =>
      if (μ (x0 + 1) x2) = x1 then
       k8 ()
      else
       if (μ (x0 + 2) x2) = x1 then
        k8 ()
       else
        kfX5_crossingOf_l2  x0 x1 μ kc n (knW (x2 + 1)))
      (fun _ =>
      some x2))

def kfX5_crossingOf (a0 : Int) (a1 : Int) (μ : knMem) : Option (Int) :=
 kfX5_crossingOf_l2 a0 a1 μ (fun _ =>
  some (-1)) knF 0

theorem knWvX5_crossingOf : knWv yX5_crossingOf cX5_crossingOf 3 (some .int) 1 := ⟨(knGm 609 (by decide +kernel) rfl), (knGm 116 (by decide +kernel) rfl), (knGm 607 (by decide +kernel) rfl), (knGm 608 (by decide +kernel) rfl), by decide +kernel, by decide +kernel, by decide +kernel⟩
set_option maxHeartbeats 4000000 in
set_option maxRecDepth 100000 in
theorem kfX5_crossingOf_l2_ok {q : Int} {kc : (Unit) → Option (Int)} {G : knGT} {p : Program} {l : Launch} {e : Env} {s : State} {m : MethodId} {args : Array Value} {below : List Frame} {meth : Method} {c : Code} (X : knX p m c cX5_crossingOf 3 s args yX5_crossingOf.cls) (K : knK G s s.heap) (hr : meth.sig.returnType = (some .int)) (hlk : meth.locks = false) (x0 : Int) (x1 : Int) (hx0 : knKd x0 = 3) (hx1 : knC x1) (μ : knMem) (hk : kc () = some q → knJ G p l e { frames := 0, cells := 0, slots := 0, locals := 0 } s m args below meth c 3 0 0 (MQ below (knPo G (knC q) (some (knV q)) μ) args s 0 0 (knA G)) 38 [] [] μ) : ∀ (n : Nat) (x2 : Int) (hx2 : knC x2) , kfX5_crossingOf_l2  x0 x1 μ kc n x2 = some q → knJ G p l e { frames := 0, cells := 0, slots := 0, locals := 0 } s m args below meth c 3 0 0 (MQ below (knPo G (knC q) (some (knV q)) μ) args s 0 0 (knA G)) 2 [(0, knO G x0), (1, knV x1), (2, knV x2)] [] μ := by
  intro n
  induction n with
  | zero => intro x2 hx2 hf; cases hf
  | succ n ih =>
    intro x2 hx2 hf
    unfold kfX5_crossingOf_l2 at hf
    refine kj_iloadn X 2 dX5_crossingOf_2 rfl ?_
    refine kj_aloadn X 0 dX5_crossingOf_3 rfl ?_
    refine kj_geti (k := 3) (ki := 3) X K rfl hx0 (by decide) (knEnt_3 hx0) rfl (by decide) knInX5 (knGm 177 (by decide +kernel) rfl) rfl rfl dX5_crossingOf_4 (fun h1 => ?_)
    refine kj_ic_ge X (tgt := 38) dX5_crossingOf_7 (by decide) hx2 h1 (fun h2 => ?_) (fun h2 => ?_)
    · replace hf := knIp hf h2
      refine kj_sub (L' := []) [] rfl ?_
      exact hk  hf
    · replace hf := knIq hf h2
      refine kj_aloadn X 0 dX5_crossingOf_10 rfl ?_
      refine kj_geto (k := 0) (o2 := (x0 + 1)) X K hx0 (by decide) (knEnt_3 hx0) rfl (by decide) knInX5 (knGm 166 (by decide +kernel) rfl) rfl rfl dX5_crossingOf_11 ?_
      refine kj_iloadn X 2 dX5_crossingOf_14 rfl ?_
      obtain ⟨h3, hf⟩ := knGd_inv hf
      refine kj_iald X K (knD3 hx0).1.1 hx2 (knD3 hx0).2.1 h3 dX5_crossingOf_15 (fun h4 => ?_)
      refine kj_iloadn X 1 dX5_crossingOf_16 rfl ?_
      have j8 : (fun _ =>
       some x2) () = some q → knJ G p l e { frames := 0, cells := 0, slots := 0, locals := 0 } s m args below meth c 3 0 0 (MQ below (knPo G (knC q) (some (knV q)) μ) args s 0 0 (knA G)) 30 [(2, knV x2)] [] μ := by
        intro hf
        refine kj_iloadn X 0 dX5_crossingOf_30 rfl ?_
        cases hf
        exact kj_iret X hx2 hr dX5_crossingOf_31 hlk
      refine kj_ic_eq X (tgt := 30) dX5_crossingOf_17 (by decide) h4 hx1 (fun h10 => ?_) (fun h10 => ?_)
      · replace hf := knIp hf h10
        refine kj_sub (L' := [(2, knV x2)]) [2] rfl ?_
        exact j8  hf
      · replace hf := knIq hf h10
        refine kj_aloadn X 0 dX5_crossingOf_20 rfl ?_
        refine kj_geto (k := 1) (o2 := (x0 + 2)) X K hx0 (by decide) (knEnt_3 hx0) rfl (by decide) knInX5 (knGm 170 (by decide +kernel) rfl) rfl rfl dX5_crossingOf_21 ?_
        refine kj_iloadn X 2 dX5_crossingOf_24 rfl ?_
        refine kj_iald X K (knD3 hx0).1.2.1 hx2 (knD3 hx0).2.2.1 h3 dX5_crossingOf_25 (fun h11 => ?_)
        refine kj_iloadn X 1 dX5_crossingOf_26 rfl ?_
        refine kj_ic_ne X (tgt := 32) dX5_crossingOf_27 (by decide) h11 hx1 (fun h12 => ?_) (fun h12 => ?_)
        · replace hf := knIq hf h12
          refine kj_iinc X 2 (L' := [(2, knV (knW (x2 + 1))), (0, knO G x0), (1, knV x1)]) dX5_crossingOf_32 rfl (by decide) rfl ?_
          refine kj_goto X (tgt := 2) dX5_crossingOf_35 (by decide) ?_
          refine kj_sub (L' := [(0, knO G x0), (1, knV x1), (2, knV (knW (x2 + 1)))]) [1, 2, 0] rfl ?_
          exact ih _ (knCw _)  hf
        · replace hf := knIp hf h12
          refine kj_sub (L' := [(2, knV x2)]) [2] rfl ?_
          exact j8  hf

set_option maxHeartbeats 4000000 in
set_option maxRecDepth 100000 in
theorem kcX5_crossingOf {G : knGT} (l : Launch) {a0 : Int} {a1 : Int} (ha0 : knKd a0 = 3) (ha1 : knC a1) {μ : knMem} {q : Int} (hf : kfX5_crossingOf a0 a1 μ = some q) : knC0 G l yX5_crossingOf cX5_crossingOf 3 (some .int) 0 0 [knO G a0, knV a1] μ (knC q) (some (knV q)) μ := by
  unfold kfX5_crossingOf at hf
  refine kn_ofJ (plainFor_of_name (by decide)) (Nat.le_of_ble_eq_true rfl) (L := [(0, knO G a0), (1, knV a1)]) rfl ?_
  intro p e s m args below meth c X K hr hlk
  refine kj_iconst X dX5_crossingOf_0 ?_
  refine kj_istoren X (L' := [(2, knV 0), (0, knO G a0), (1, knV a1)]) dX5_crossingOf_1 (by decide) rfl ?_
  refine kj_sub (L' := [(0, knO G a0), (1, knV a1), (2, knV 0)]) [1, 2, 0] rfl ?_
  refine kfX5_crossingOf_l2_ok X K hr hlk a0 a1 ha0 ha1 μ ?_ knF _ (show knC (0) from ⟨by omega, by omega⟩)  hf
  intro hf
  refine kj_iconst X dX5_crossingOf_38 ?_
  cases hf
  exact kj_iret X (show knC (-1) from ⟨by omega, by omega⟩) hr dX5_crossingOf_39 hlk

def kfX12_reverse  (μ : knMem) : Option (Int × Int × knMem) :=
 Option.bind (kfX6_stage 1 μ) (fun q1 =>
  Option.bind (kfX5_turnBack 2 q1) (fun q4 =>
   Option.bind (kfX12_finishChange q4.1 q4.2) (fun q7 =>
    if q7.1 = 0 then
    Option.bind (kfX5_crossingOf 2 0 q7.2) (fun q13 =>
     some (0, q13, q7.2))
    else
    some (q7.1, 0, q7.2))))

theorem knWvX12_reverse : knWv yX12_reverse cX12_reverse 1 (some .int) 0 := ⟨(knGm 601 (by decide +kernel) rfl), (knGm 114 (by decide +kernel) rfl), (knGm 599 (by decide +kernel) rfl), (knGm 600 (by decide +kernel) rfl), by decide +kernel, by decide +kernel, by decide +kernel⟩
set_option maxHeartbeats 4000000 in
set_option maxRecDepth 100000 in
theorem kcX12_reverse {G : knGT} (l : Launch) (hl : l.stackTraces = false)   {μ : knMem} {q : Int × Int × knMem} (hf : kfX12_reverse  μ = some q) : knCx G l yX12_reverse cX12_reverse 1 (some .int) 8 141 1 6 [knO G 0] μ (knC q.2.1) q.1 (some (knV q.2.1)) q.2.2 := by
  unfold kfX12_reverse at hf
  refine kn_ofJx (by decide) (Nat.le_of_ble_eq_true rfl) (L := [(0, knO G 0)]) rfl ?_
  intro p e s m args below meth c X K hr hlk hnx
  refine kj_aloadn X 0 dX12_reverse_0 rfl ?_
  refine kj_geto (k := 5) (o2 := 23) X K kdc_0 (by decide) (knEnt_9 kdc_0) rfl (by decide) knInX12 (knGm 366 (by decide +kernel) rfl) rfl rfl dX12_reverse_1 ?_
  refine kj_aloadn X 0 dX12_reverse_4 rfl ?_
  refine kj_geto (k := 0) (o2 := 1) X K kdc_0 (by decide) (knEnt_9 kdc_0) rfl (by decide) knInX12 (knGm 361 (by decide +kernel) rfl) rfl rfl dX12_reverse_5 ?_
  obtain ⟨q1, h2, hf⟩ := knBd_inv hf
  refine kj_callV (As := [knO G 1]) (rest := []) X K (kcX6_stage l kdc_1 h2) knWvX6_stage (knGm 408 (by decide +kernel) rfl) (by decide) (knKd_in kdc_23 (by decide)) (knEnt_4 kdc_23) rfl rfl rfl (Nat.le_of_ble_eq_true rfl) (by decide) dX12_reverse_8 rfl (fun h3 => ?_)
  refine kj_aloadn X 0 dX12_reverse_11 rfl ?_
  refine kj_aloadn X 0 dX12_reverse_12 rfl ?_
  refine kj_geto (k := 1) (o2 := 2) X K kdc_0 (by decide) (knEnt_9 kdc_0) rfl (by decide) knInX12 (knGm 362 (by decide +kernel) rfl) rfl rfl dX12_reverse_13 ?_
  obtain ⟨q4, h5, hf⟩ := knBd_inv hf
  refine kj_callV (As := []) (rest := [knO G 0]) X K (kcX5_turnBack l kdc_2 h5) knWvX5_turnBack (knGm 602 (by decide +kernel) rfl) (by decide) (knKd_in kdc_2 (by decide)) (knEnt_3 kdc_2) rfl rfl rfl (Nat.le_of_ble_eq_true rfl) (by decide) dX12_reverse_16 rfl (fun h6 => ?_)
  obtain ⟨q7, h8, hf⟩ := knBd_inv hf
  refine kjx_callV (As := [knRf G q4.1]) (rest := []) X K (kcX12_finishChange l hl h6 h8) knWvX12_finishChange (knGm 434 (by decide +kernel) rfl) (by decide) (knKd_in kdc_0 (by decide)) (knEnt_9 kdc_0) rfl rfl rfl (Nat.le_of_ble_eq_true rfl) (by decide) dX12_reverse_19 rfl (fun h10 h9 => ?_) (fun E11 h10 h12 => ?_)
  · replace hf := knIp hf h10
    refine kj_aloadn X 0 dX12_reverse_22 rfl ?_
    refine kj_geto (k := 1) (o2 := 2) X K kdc_0 (by decide) (knEnt_9 kdc_0) rfl (by decide) knInX12 (knGm 362 (by decide +kernel) rfl) rfl rfl dX12_reverse_23 ?_
    refine kj_iconst X dX12_reverse_26 ?_
    obtain ⟨q13, h14, hf⟩ := knBd_inv hf
    refine kj_callV (As := [knV 0]) (rest := []) X K (kcX5_crossingOf l kdc_2 (show knC (0) from ⟨by omega, by omega⟩) h14) knWvX5_crossingOf (knGm 606 (by decide +kernel) rfl) (by decide) (knKd_in kdc_2 (by decide)) (knEnt_3 kdc_2) rfl rfl rfl (Nat.le_of_ble_eq_true rfl) (by decide) dX12_reverse_27 rfl (fun h15 => ?_)
    cases hf
    exact kjx_iret X h15 rfl (by decide) (by decide) hr dX12_reverse_30 hlk
  · replace hf := knIq hf h10
    cases hf
    exact kjx_out h10 h12 (by decide) (by decide) hnx hlk

def kfX5_hasPosition (a0 : Int) (a1 : Int) (μ : knMem) : Option (Int) :=
 (fun (k4 : (Unit) → Option (Int)) =>
  if a1 < 0 then
   k4 ()
  else
   if (knW (2 * (μ a0 3))) ≤ a1 then
    k4 ()
   else
    some 1)
  (fun _ =>
  some 0)

theorem knWvX5_hasPosition : knWv yX5_hasPosition cX5_hasPosition 2 (some .boolean) 1 := ⟨(knGm 1024 (by decide +kernel) rfl), (knGm 116 (by decide +kernel) rfl), (knGm 1022 (by decide +kernel) rfl), (knGm 1023 (by decide +kernel) rfl), by decide +kernel, by decide +kernel, by decide +kernel⟩
set_option maxHeartbeats 4000000 in
set_option maxRecDepth 100000 in
theorem kcX5_hasPosition {G : knGT} (l : Launch) {a0 : Int} {a1 : Int} (ha0 : knKd a0 = 3) (ha1 : knC a1) {μ : knMem} {q : Int} (hf : kfX5_hasPosition a0 a1 μ = some q) : knC0 G l yX5_hasPosition cX5_hasPosition 2 (some .boolean) 0 0 [knO G a0, knV a1] μ (knZ q) (some (knV q)) μ := by
  unfold kfX5_hasPosition at hf
  refine kn_ofJ (plainFor_of_name (by decide)) (Nat.le_of_ble_eq_true rfl) (L := [(0, knO G a0), (1, knV a1)]) rfl ?_
  intro p e s m args below meth c X K hr hlk
  refine kj_iloadn X 1 dX5_hasPosition_0 rfl ?_
  have j4 : (fun _ =>
   some 0) () = some q → knJ G p l e { frames := 0, cells := 0, slots := 0, locals := 0 } s m args below meth c 2 0 0 (MQ below (knPo G (knZ q) (some (knV q)) μ) args s 0 0 (knA G)) 18 [] [] μ := by
    intro hf
    refine kj_iconst X dX5_hasPosition_18 ?_
    cases hf
    exact kj_zret X (Or.inl rfl) hr (kn_nb (Or.inl rfl)) dX5_hasPosition_19 hlk
  refine kj_if_lt X (tgt := 18) dX5_hasPosition_1 (by decide) ha1 (fun h6 => ?_) (fun h6 => ?_)
  · replace hf := knIp hf h6
    refine kj_sub (L' := []) [] rfl ?_
    exact j4  hf
  · replace hf := knIq hf h6
    refine kj_iloadn X 1 dX5_hasPosition_4 rfl ?_
    refine kj_iconst X dX5_hasPosition_5 ?_
    refine kj_aloadn X 0 dX5_hasPosition_6 rfl ?_
    refine kj_geti (k := 3) (ki := 3) X K rfl ha0 (by decide) (knEnt_3 ha0) rfl (by decide) knInX5 (knGm 177 (by decide +kernel) rfl) rfl rfl dX5_hasPosition_7 (fun h7 => ?_)
    refine kj_imul X dX5_hasPosition_10 ?_
    refine kj_ic_ge X (tgt := 18) dX5_hasPosition_11 (by decide) ha1 (knCw _) (fun h8 => ?_) (fun h8 => ?_)
    · replace hf := knIp hf h8
      refine kj_sub (L' := []) [] rfl ?_
      exact j4  hf
    · replace hf := knIq hf h8
      refine kj_iconst X dX5_hasPosition_14 ?_
      refine kj_goto X (tgt := 19) dX5_hasPosition_15 (by decide) ?_
      cases hf
      exact kj_zret X (Or.inr rfl) hr (kn_nb (Or.inr rfl)) dX5_hasPosition_19 hlk

def kfJ9_floorMod_7cf53 (a0 : Int) (a1 : Int) (μ : knMem) : Option (Int) :=
 knGd (a1 ≠ 0)
  ((fun (k4 : (Unit) → Option (Int)) =>
  if 0 ≤ (knXor a0 a1) then
   k4 ()
  else
   if (knRem a0 a1) = 0 then
    k4 ()
   else
    some (knW ((knRem a0 a1) + a1)))
  (fun _ =>
  some (knRem a0 a1)))

theorem knWkJ9_floorMod_7cf53 : knWk yJ9_floorMod_7cf53 cJ9_floorMod_7cf53 3 (some .int) 2 := ⟨(knGm 822 (by decide +kernel) rfl), (knGm 137 (by decide +kernel) rfl), (knGm 821 (by decide +kernel) rfl), by decide +kernel, by decide +kernel, by decide +kernel⟩
set_option maxHeartbeats 4000000 in
set_option maxRecDepth 100000 in
theorem kcJ9_floorMod_7cf53 {G : knGT} (l : Launch) {a0 : Int} {a1 : Int} (ha0 : knC a0) (ha1 : knC a1) {μ : knMem} {q : Int} (hf : kfJ9_floorMod_7cf53 a0 a1 μ = some q) : knC0 G l yJ9_floorMod_7cf53 cJ9_floorMod_7cf53 3 (some .int) 0 0 [knV a0, knV a1] μ (knC q) (some (knV q)) μ := by
  unfold kfJ9_floorMod_7cf53 at hf
  refine kn_ofJ kn_pf1 (Nat.le_of_ble_eq_true rfl) (L := [(0, knV a0), (1, knV a1)]) rfl ?_
  intro p e s m args below meth c X K hr hlk
  refine kj_iloadn X 0 dJ9_floorMod_7cf53_0 rfl ?_
  refine kj_iloadn X 1 dJ9_floorMod_7cf53_1 rfl ?_
  obtain ⟨h1, hf⟩ := knGd_inv hf
  refine kj_irem X dJ9_floorMod_7cf53_2 ha1 h1 ?_
  refine kj_istoren X (L' := [(2, knV (knRem a0 a1)), (0, knV a0), (1, knV a1)]) dJ9_floorMod_7cf53_3 (by decide) rfl ?_
  refine kj_iloadn X 1 dJ9_floorMod_7cf53_4 rfl ?_
  refine kj_iloadn X 2 dJ9_floorMod_7cf53_5 rfl ?_
  refine kj_ixor X dJ9_floorMod_7cf53_6 ?_
  have j4 : (fun _ =>
   some (knRem a0 a1)) () = some q → knJ G p l e { frames := 0, cells := 0, slots := 0, locals := 0 } s m args below meth c 3 0 0 (MQ below (knPo G (knC q) (some (knV q)) μ) args s 0 0 (knA G)) 18 [(2, knV (knRem a0 a1))] [] μ := by
    intro hf
    refine kj_iloadn X 0 dJ9_floorMod_7cf53_18 rfl ?_
    cases hf
    exact kj_iret X (knC_rem _ _) hr dJ9_floorMod_7cf53_19 hlk
  refine kj_if_ge X (tgt := 18) dJ9_floorMod_7cf53_7 (by decide) (knC_xor _ _) (fun h6 => ?_) (fun h6 => ?_)
  · replace hf := knIp hf h6
    refine kj_sub (L' := [(2, knV (knRem a0 a1))]) [0] rfl ?_
    exact j4  hf
  · replace hf := knIq hf h6
    refine kj_iloadn X 0 dJ9_floorMod_7cf53_10 rfl ?_
    refine kj_if_eq X (tgt := 18) dJ9_floorMod_7cf53_11 (by decide) (knC_rem _ _) (fun h7 => ?_) (fun h7 => ?_)
    · replace hf := knIp hf h7
      refine kj_sub (L' := [(2, knV (knRem a0 a1))]) [0] rfl ?_
      exact j4  hf
    · replace hf := knIq hf h7
      refine kj_iloadn X 0 dJ9_floorMod_7cf53_14 rfl ?_
      refine kj_iloadn X 2 dJ9_floorMod_7cf53_15 rfl ?_
      refine kj_iadd X dJ9_floorMod_7cf53_16 ?_
      cases hf
      exact kj_iret X (knCw _) hr dJ9_floorMod_7cf53_17 hlk

def kfX5_turnTo_l14  (x0 : Int) (x1 : Int)  (kc : (knMem) → Option (Int × knMem)) : Nat → Int → knMem → Option (Int × knMem)
  | 0, _, _ => none
  | n + 1, x2, μ =>
    if (μ x0 3) ≤ x2 then
     kc μ
    else
     knGd (0 ≤ x2 ∧ x2 < 7)
      (Option.bind (kfJ9_floorMod_7cf53 (knW ((μ (x0 + 1) x2) - x1)) (knW (2 * (μ x0 3))) μ) (fun q10 =>
      Option.bind (kfJ9_floorMod_7cf53 (knW (((knUp μ (x0 + 1) x2 q10) (x0 + 2) x2) - x1)) (knW (2 * ((knUp μ (x0 + 1) x2 q10) x0 3))) (knUp μ (x0 + 1) x2 q10)) (fun q15 =>
       kfX5_turnTo_l14  x0 x1 kc n (knW (x2 + 1)) (knUp (knUp μ (x0 + 1) x2 q10) (x0 + 2) x2 q15))))

def kfX5_turnTo (a0 : Int) (a1 : Int) (μ : knMem) : Option (Int × knMem) :=
 Option.bind (kfX5_hasPosition a0 a1 μ) (fun q1 =>
  if q1 = 0 then
   some (1, μ)
  else
   kfX5_turnTo_l14 a0 a1  (fun w18 =>
    some (0, w18)) knF 0 μ)

theorem knWvX5_turnTo : knWv yX5_turnTo cX5_turnTo 3 (some (.object "KnotLaboratory$Refusal")) 1 := ⟨(knGm 1020 (by decide +kernel) rfl), (knGm 116 (by decide +kernel) rfl), (knGm 1018 (by decide +kernel) rfl), (knGm 1019 (by decide +kernel) rfl), by decide +kernel, by decide +kernel, by decide +kernel⟩
set_option maxHeartbeats 4000000 in
set_option maxRecDepth 100000 in
theorem kfX5_turnTo_l14_ok {q : Int × knMem} {kc : (knMem) → Option (Int × knMem)} {G : knGT} {p : Program} {l : Launch} {e : Env} {s : State} {m : MethodId} {args : Array Value} {below : List Frame} {meth : Method} {c : Code} (X : knX p m c cX5_turnTo 3 s args yX5_turnTo.cls) (K : knK G s s.heap) (hr : meth.sig.returnType = (some (.object "KnotLaboratory$Refusal"))) (hlk : meth.locks = false) (x0 : Int) (x1 : Int) (hx0 : knKd x0 = 3) (hx1 : knC x1)  (hk : ∀ (μ1 : knMem), kc μ1 = some q → knJ G p l e { frames := 1, cells := 0, slots := 0, locals := 22 } s m args below meth c 3 0 0 (MQ below (knPo G (0 ≤ q.1 ∧ q.1 < 6) (some (knRf G q.1)) q.2) args s 0 0 (knA G)) 74 [] [] μ1) : ∀ (n : Nat) (x2 : Int) (hx2 : knC x2) (μ : knMem), kfX5_turnTo_l14  x0 x1 kc n x2 μ = some q → knJ G p l e { frames := 1, cells := 0, slots := 0, locals := 22 } s m args below meth c 3 0 0 (MQ below (knPo G (0 ≤ q.1 ∧ q.1 < 6) (some (knRf G q.1)) q.2) args s 0 0 (knA G)) 14 [(0, knO G x0), (1, knV x1), (2, knV x2)] [] μ := by
  intro n
  induction n with
  | zero => intro x2 hx2 μ hf; cases hf
  | succ n ih =>
    intro x2 hx2 μ hf
    unfold kfX5_turnTo_l14 at hf
    refine kj_iloadn X 2 dX5_turnTo_14 rfl ?_
    refine kj_aloadn X 0 dX5_turnTo_15 rfl ?_
    refine kj_geti (k := 3) (ki := 3) X K rfl hx0 (by decide) (knEnt_3 hx0) rfl (by decide) knInX5 (knGm 177 (by decide +kernel) rfl) rfl rfl dX5_turnTo_16 (fun h5 => ?_)
    refine kj_ic_ge X (tgt := 74) dX5_turnTo_19 (by decide) hx2 h5 (fun h6 => ?_) (fun h6 => ?_)
    · replace hf := knIp hf h6
      refine kj_sub (L' := []) [] rfl ?_
      exact hk _ hf
    · replace hf := knIq hf h6
      refine kj_aloadn X 0 dX5_turnTo_22 rfl ?_
      refine kj_geto (k := 0) (o2 := (x0 + 1)) X K hx0 (by decide) (knEnt_3 hx0) rfl (by decide) knInX5 (knGm 166 (by decide +kernel) rfl) rfl rfl dX5_turnTo_23 ?_
      refine kj_iloadn X 2 dX5_turnTo_26 rfl ?_
      refine kj_aloadn X 0 dX5_turnTo_27 rfl ?_
      refine kj_geto (k := 0) (o2 := (x0 + 1)) X K hx0 (by decide) (knEnt_3 hx0) rfl (by decide) knInX5 (knGm 166 (by decide +kernel) rfl) rfl rfl dX5_turnTo_28 ?_
      refine kj_iloadn X 2 dX5_turnTo_31 rfl ?_
      obtain ⟨h7, hf⟩ := knGd_inv hf
      refine kj_iald X K (knD3 hx0).1.1 hx2 (knD3 hx0).2.1 h7 dX5_turnTo_32 (fun h8 => ?_)
      refine kj_iloadn X 1 dX5_turnTo_33 rfl ?_
      refine kj_isub X dX5_turnTo_34 ?_
      refine kj_iconst X dX5_turnTo_35 ?_
      refine kj_aloadn X 0 dX5_turnTo_36 rfl ?_
      refine kj_geti (k := 3) (ki := 3) X K rfl hx0 (by decide) (knEnt_3 hx0) rfl (by decide) knInX5 (knGm 177 (by decide +kernel) rfl) rfl rfl dX5_turnTo_37 (fun h9 => ?_)
      refine kj_imul X dX5_turnTo_40 ?_
      obtain ⟨q10, h11, hf⟩ := knBd_inv hf
      refine kj_callS (As := [knV (knW ((μ (x0 + 1) x2) - x1)), knV (knW (2 * (μ x0 3)))]) (rest := [knV x2, knO G (x0 + 1)]) X K (kcJ9_floorMod_7cf53 l (knCw _) (knCw _) h11) knWkJ9_floorMod_7cf53 (knGm 1025 (by decide +kernel) rfl) (by decide)  rfl (Nat.le_of_ble_eq_true rfl) (by decide) dX5_turnTo_41 rfl (fun h12 => ?_)
      refine kj_iast X K (knD3 hx0).1.1 hx2 h12 (knD3 hx0).2.1 h7 dX5_turnTo_44 ?_
      refine kj_aloadn X 0 dX5_turnTo_45 rfl ?_
      refine kj_geto (k := 1) (o2 := (x0 + 2)) X K hx0 (by decide) (knEnt_3 hx0) rfl (by decide) knInX5 (knGm 170 (by decide +kernel) rfl) rfl rfl dX5_turnTo_46 ?_
      refine kj_iloadn X 2 dX5_turnTo_49 rfl ?_
      refine kj_aloadn X 0 dX5_turnTo_50 rfl ?_
      refine kj_geto (k := 1) (o2 := (x0 + 2)) X K hx0 (by decide) (knEnt_3 hx0) rfl (by decide) knInX5 (knGm 170 (by decide +kernel) rfl) rfl rfl dX5_turnTo_51 ?_
      refine kj_iloadn X 2 dX5_turnTo_54 rfl ?_
      refine kj_iald X K (knD3 hx0).1.2.1 hx2 (knD3 hx0).2.2.1 h7 dX5_turnTo_55 (fun h13 => ?_)
      refine kj_iloadn X 1 dX5_turnTo_56 rfl ?_
      refine kj_isub X dX5_turnTo_57 ?_
      refine kj_iconst X dX5_turnTo_58 ?_
      refine kj_aloadn X 0 dX5_turnTo_59 rfl ?_
      refine kj_geti (k := 3) (ki := 3) X K rfl hx0 (by decide) (knEnt_3 hx0) rfl (by decide) knInX5 (knGm 177 (by decide +kernel) rfl) rfl rfl dX5_turnTo_60 (fun h14 => ?_)
      refine kj_imul X dX5_turnTo_63 ?_
      obtain ⟨q15, h16, hf⟩ := knBd_inv hf
      refine kj_callS (As := [knV (knW (((knUp μ (x0 + 1) x2 q10) (x0 + 2) x2) - x1)), knV (knW (2 * ((knUp μ (x0 + 1) x2 q10) x0 3)))]) (rest := [knV x2, knO G (x0 + 2)]) X K (kcJ9_floorMod_7cf53 l (knCw _) (knCw _) h16) knWkJ9_floorMod_7cf53 (knGm 1025 (by decide +kernel) rfl) (by decide)  rfl (Nat.le_of_ble_eq_true rfl) (by decide) dX5_turnTo_64 rfl (fun h17 => ?_)
      refine kj_iast X K (knD3 hx0).1.2.1 hx2 h17 (knD3 hx0).2.2.1 h7 dX5_turnTo_67 ?_
      refine kj_iinc X 2 (L' := [(2, knV (knW (x2 + 1))), (0, knO G x0), (1, knV x1)]) dX5_turnTo_68 rfl (by decide) rfl ?_
      refine kj_goto X (tgt := 14) dX5_turnTo_71 (by decide) ?_
      refine kj_sub (L' := [(0, knO G x0), (1, knV x1), (2, knV (knW (x2 + 1)))]) [1, 2, 0] rfl ?_
      exact ih _ (knCw _) _ hf

set_option maxHeartbeats 4000000 in
set_option maxRecDepth 100000 in
theorem kcX5_turnTo {G : knGT} (l : Launch) {a0 : Int} {a1 : Int} (ha0 : knKd a0 = 3) (ha1 : knC a1) {μ : knMem} {q : Int × knMem} (hf : kfX5_turnTo a0 a1 μ = some q) : knC0 G l yX5_turnTo cX5_turnTo 3 (some (.object "KnotLaboratory$Refusal")) 1 22 [knO G a0, knV a1] μ (0 ≤ q.1 ∧ q.1 < 6) (some (knRf G q.1)) q.2 := by
  unfold kfX5_turnTo at hf
  refine kn_ofJ (plainFor_of_name (by decide)) (Nat.le_of_ble_eq_true rfl) (L := [(0, knO G a0), (1, knV a1)]) rfl ?_
  intro p e s m args below meth c X K hr hlk
  refine kj_aloadn X 0 dX5_turnTo_0 rfl ?_
  refine kj_iloadn X 1 dX5_turnTo_1 rfl ?_
  obtain ⟨q1, h2, hf⟩ := knBd_inv hf
  refine kj_callV (As := [knV a1]) (rest := []) X K (kcX5_hasPosition l ha0 ha1 h2) knWvX5_hasPosition (knGm 1021 (by decide +kernel) rfl) (by decide) (knKd_in ha0 (by decide)) (knEnt_3 ha0) rfl rfl rfl (Nat.le_of_ble_eq_true rfl) (by decide) dX5_turnTo_2 rfl (fun h3 => ?_)
  refine kj_if_ne X (tgt := 12) dX5_turnTo_5 (by decide) (knZ_c h3) (fun h4 => ?_) (fun h4 => ?_)
  · replace hf := knIq hf h4
    refine kj_iconst X dX5_turnTo_12 ?_
    refine kj_istoren X (L' := [(2, knV 0), (0, knO G a0), (1, knV a1)]) dX5_turnTo_13 (by decide) rfl ?_
    refine kj_sub (L' := [(0, knO G a0), (1, knV a1), (2, knV 0)]) [1, 2, 0] rfl ?_
    refine kfX5_turnTo_l14_ok X K hr hlk a0 a1 ha0 ha1  ?_ knF _ (show knC (0) from ⟨by omega, by omega⟩) _ hf
    intro w18_m
    intro hf
    refine kj_refusal X K (i := 0) (by decide) (knGm 432 (by decide +kernel) rfl) dX5_turnTo_74 ?_
    cases hf
    exact kj_aret X (show 0 ≤ (0 : Int) ∧ (0 : Int) < 6 from ⟨by omega, by omega⟩) hr (Or.inl ⟨_, rfl⟩) (Or.inr ⟨_, rfl⟩) dX5_turnTo_77 hlk
  · replace hf := knIp hf h4
    refine kj_refusal X K (i := 1) (by decide) (knGm 952 (by decide +kernel) rfl) dX5_turnTo_8 ?_
    cases hf
    exact kj_aret X (show 0 ≤ (1 : Int) ∧ (1 : Int) < 6 from ⟨by omega, by omega⟩) hr (Or.inl ⟨_, rfl⟩) (Or.inr ⟨_, rfl⟩) dX5_turnTo_11 hlk

def kfX12_turn (a1 : Int) (μ : knMem) : Option (Int × Int × knMem) :=
 Option.bind (kfX6_stage 1 μ) (fun q1 =>
  Option.bind (kfX5_turnTo 2 a1 q1) (fun q4 =>
   Option.bind (kfX12_finishChange q4.1 q4.2) (fun q7 =>
    if q7.1 = 0 then
    Option.bind (kfX5_crossingOf 2 0 q7.2) (fun q13 =>
     some (0, q13, q7.2))
    else
    some (q7.1, 0, q7.2))))

theorem knWvX12_turn : knWv yX12_turn cX12_turn 2 (some .int) 1 := ⟨(knGm 1016 (by decide +kernel) rfl), (knGm 114 (by decide +kernel) rfl), (knGm 1014 (by decide +kernel) rfl), (knGm 1015 (by decide +kernel) rfl), by decide +kernel, by decide +kernel, by decide +kernel⟩
set_option maxHeartbeats 4000000 in
set_option maxRecDepth 100000 in
theorem kcX12_turn {G : knGT} (l : Launch) (hl : l.stackTraces = false) {a1 : Int} (ha1 : knC a1) {μ : knMem} {q : Int × Int × knMem} (hf : kfX12_turn a1 μ = some q) : knCx G l yX12_turn cX12_turn 2 (some .int) 8 141 1 6 [knO G 0, knV a1] μ (knC q.2.1) q.1 (some (knV q.2.1)) q.2.2 := by
  unfold kfX12_turn at hf
  refine kn_ofJx (by decide) (Nat.le_of_ble_eq_true rfl) (L := [(0, knO G 0), (1, knV a1)]) rfl ?_
  intro p e s m args below meth c X K hr hlk hnx
  refine kj_aloadn X 0 dX12_turn_0 rfl ?_
  refine kj_geto (k := 5) (o2 := 23) X K kdc_0 (by decide) (knEnt_9 kdc_0) rfl (by decide) knInX12 (knGm 366 (by decide +kernel) rfl) rfl rfl dX12_turn_1 ?_
  refine kj_aloadn X 0 dX12_turn_4 rfl ?_
  refine kj_geto (k := 0) (o2 := 1) X K kdc_0 (by decide) (knEnt_9 kdc_0) rfl (by decide) knInX12 (knGm 361 (by decide +kernel) rfl) rfl rfl dX12_turn_5 ?_
  obtain ⟨q1, h2, hf⟩ := knBd_inv hf
  refine kj_callV (As := [knO G 1]) (rest := []) X K (kcX6_stage l kdc_1 h2) knWvX6_stage (knGm 408 (by decide +kernel) rfl) (by decide) (knKd_in kdc_23 (by decide)) (knEnt_4 kdc_23) rfl rfl rfl (Nat.le_of_ble_eq_true rfl) (by decide) dX12_turn_8 rfl (fun h3 => ?_)
  refine kj_aloadn X 0 dX12_turn_11 rfl ?_
  refine kj_aloadn X 0 dX12_turn_12 rfl ?_
  refine kj_geto (k := 1) (o2 := 2) X K kdc_0 (by decide) (knEnt_9 kdc_0) rfl (by decide) knInX12 (knGm 362 (by decide +kernel) rfl) rfl rfl dX12_turn_13 ?_
  refine kj_iloadn X 1 dX12_turn_16 rfl ?_
  obtain ⟨q4, h5, hf⟩ := knBd_inv hf
  refine kj_callV (As := [knV a1]) (rest := [knO G 0]) X K (kcX5_turnTo l kdc_2 ha1 h5) knWvX5_turnTo (knGm 1017 (by decide +kernel) rfl) (by decide) (knKd_in kdc_2 (by decide)) (knEnt_3 kdc_2) rfl rfl rfl (Nat.le_of_ble_eq_true rfl) (by decide) dX12_turn_17 rfl (fun h6 => ?_)
  obtain ⟨q7, h8, hf⟩ := knBd_inv hf
  refine kjx_callV (As := [knRf G q4.1]) (rest := []) X K (kcX12_finishChange l hl h6 h8) knWvX12_finishChange (knGm 434 (by decide +kernel) rfl) (by decide) (knKd_in kdc_0 (by decide)) (knEnt_9 kdc_0) rfl rfl rfl (Nat.le_of_ble_eq_true rfl) (by decide) dX12_turn_20 rfl (fun h10 h9 => ?_) (fun E11 h10 h12 => ?_)
  · replace hf := knIp hf h10
    refine kj_aloadn X 0 dX12_turn_23 rfl ?_
    refine kj_geto (k := 1) (o2 := 2) X K kdc_0 (by decide) (knEnt_9 kdc_0) rfl (by decide) knInX12 (knGm 362 (by decide +kernel) rfl) rfl rfl dX12_turn_24 ?_
    refine kj_iconst X dX12_turn_27 ?_
    obtain ⟨q13, h14, hf⟩ := knBd_inv hf
    refine kj_callV (As := [knV 0]) (rest := []) X K (kcX5_crossingOf l kdc_2 (show knC (0) from ⟨by omega, by omega⟩) h14) knWvX5_crossingOf (knGm 606 (by decide +kernel) rfl) (by decide) (knKd_in kdc_2 (by decide)) (knEnt_3 kdc_2) rfl rfl rfl (Nat.le_of_ble_eq_true rfl) (by decide) dX12_turn_28 rfl (fun h15 => ?_)
    cases hf
    exact kjx_iret X h15 rfl (by decide) (by decide) hr dX12_turn_31 hlk
  · replace hf := knIq hf h10
    cases hf
    exact kjx_out h10 h12 (by decide) (by decide) hnx hlk

def kfX5_dropLowestCurl_l2  (x0 : Int) (μ : knMem) (kc : (Unit) → Option (Int × knMem)) : Nat → Int → Option (Int × knMem)
  | 0, _ => none
  | n + 1, x1 =>
    if (μ x0 3) ≤ x1 then
     kc ()
    else
     Option.bind (kfX5_curls x0 x1 μ) (fun q3 =>
      if q3 = 0 then
       kfX5_dropLowestCurl_l2  x0 μ kc n (knW (x1 + 1))
      else
       Option.bind (kfX5_remove x0 x1 μ) (fun q7 =>
        some (1, q7)))

def kfX5_dropLowestCurl (a0 : Int) (μ : knMem) : Option (Int × knMem) :=
 kfX5_dropLowestCurl_l2 a0 μ (fun _ =>
  some (0, μ)) knF 0

theorem knWvX5_dropLowestCurl : knWv yX5_dropLowestCurl cX5_dropLowestCurl 2 (some .boolean) 0 := ⟨(knGm 621 (by decide +kernel) rfl), (knGm 116 (by decide +kernel) rfl), (knGm 620 (by decide +kernel) rfl), (knGm 3 (by decide +kernel) rfl), by decide +kernel, by decide +kernel, by decide +kernel⟩
set_option maxHeartbeats 4000000 in
set_option maxRecDepth 100000 in
theorem kfX5_dropLowestCurl_l2_ok {q : Int × knMem} {kc : (Unit) → Option (Int × knMem)} {G : knGT} {p : Program} {l : Launch} {e : Env} {s : State} {m : MethodId} {args : Array Value} {below : List Frame} {meth : Method} {c : Code} (X : knX p m c cX5_dropLowestCurl 2 s args yX5_dropLowestCurl.cls) (K : knK G s s.heap) (hr : meth.sig.returnType = (some .boolean)) (hlk : meth.locks = false) (x0 : Int) (hx0 : knKd x0 = 3) (μ : knMem) (hk : kc () = some q → knJ G p l e { frames := 2, cells := 0, slots := 0, locals := 47 } s m args below meth c 2 0 0 (MQ below (knPo G (knZ q.1) (some (knV q.1)) q.2) args s 0 0 (knA G)) 31 [] [] μ) : ∀ (n : Nat) (x1 : Int) (hx1 : knC x1) , kfX5_dropLowestCurl_l2  x0 μ kc n x1 = some q → knJ G p l e { frames := 2, cells := 0, slots := 0, locals := 47 } s m args below meth c 2 0 0 (MQ below (knPo G (knZ q.1) (some (knV q.1)) q.2) args s 0 0 (knA G)) 2 [(0, knO G x0), (1, knV x1)] [] μ := by
  intro n
  induction n with
  | zero => intro x1 hx1 hf; cases hf
  | succ n ih =>
    intro x1 hx1 hf
    unfold kfX5_dropLowestCurl_l2 at hf
    refine kj_iloadn X 1 dX5_dropLowestCurl_2 rfl ?_
    refine kj_aloadn X 0 dX5_dropLowestCurl_3 rfl ?_
    refine kj_geti (k := 3) (ki := 3) X K rfl hx0 (by decide) (knEnt_3 hx0) rfl (by decide) knInX5 (knGm 177 (by decide +kernel) rfl) rfl rfl dX5_dropLowestCurl_4 (fun h1 => ?_)
    refine kj_ic_ge X (tgt := 31) dX5_dropLowestCurl_7 (by decide) hx1 h1 (fun h2 => ?_) (fun h2 => ?_)
    · replace hf := knIp hf h2
      refine kj_sub (L' := []) [] rfl ?_
      exact hk  hf
    · replace hf := knIq hf h2
      refine kj_aloadn X 0 dX5_dropLowestCurl_10 rfl ?_
      refine kj_iloadn X 1 dX5_dropLowestCurl_11 rfl ?_
      obtain ⟨q3, h4, hf⟩ := knBd_inv hf
      refine kj_callV (As := [knV x1]) (rest := []) X K (kcX5_curls l hx0 hx1 h4) knWvX5_curls (knGm 622 (by decide +kernel) rfl) (by decide) (knKd_in hx0 (by decide)) (knEnt_3 hx0) rfl rfl rfl (Nat.le_of_ble_eq_true rfl) (by decide) dX5_dropLowestCurl_12 rfl (fun h5 => ?_)
      refine kj_if_eq X (tgt := 25) dX5_dropLowestCurl_15 (by decide) (knZ_c h5) (fun h6 => ?_) (fun h6 => ?_)
      · replace hf := knIp hf h6
        refine kj_iinc X 1 (L' := [(1, knV (knW (x1 + 1))), (0, knO G x0)]) dX5_dropLowestCurl_25 rfl (by decide) rfl ?_
        refine kj_goto X (tgt := 2) dX5_dropLowestCurl_28 (by decide) ?_
        refine kj_sub (L' := [(0, knO G x0), (1, knV (knW (x1 + 1)))]) [1, 0] rfl ?_
        exact ih _ (knCw _)  hf
      · replace hf := knIq hf h6
        refine kj_aloadn X 0 dX5_dropLowestCurl_18 rfl ?_
        refine kj_iloadn X 1 dX5_dropLowestCurl_19 rfl ?_
        obtain ⟨q7, h8, hf⟩ := knBd_inv hf
        refine kj_callV (As := [knV x1]) (rest := []) X K (kcX5_remove l hx0 hx1 h8) knWvX5_remove (knGm 630 (by decide +kernel) rfl) (by decide) (knKd_in hx0 (by decide)) (knEnt_3 hx0) rfl rfl rfl (Nat.le_of_ble_eq_true rfl) (by decide) dX5_dropLowestCurl_20 rfl (fun h9 => ?_)
        refine kj_iconst X dX5_dropLowestCurl_23 ?_
        cases hf
        exact kj_zret X (Or.inr rfl) hr (kn_nb (Or.inr rfl)) dX5_dropLowestCurl_24 hlk

set_option maxHeartbeats 4000000 in
set_option maxRecDepth 100000 in
theorem kcX5_dropLowestCurl {G : knGT} (l : Launch) {a0 : Int} (ha0 : knKd a0 = 3) {μ : knMem} {q : Int × knMem} (hf : kfX5_dropLowestCurl a0 μ = some q) : knC0 G l yX5_dropLowestCurl cX5_dropLowestCurl 2 (some .boolean) 2 47 [knO G a0] μ (knZ q.1) (some (knV q.1)) q.2 := by
  unfold kfX5_dropLowestCurl at hf
  refine kn_ofJ (plainFor_of_name (by decide)) (Nat.le_of_ble_eq_true rfl) (L := [(0, knO G a0)]) rfl ?_
  intro p e s m args below meth c X K hr hlk
  refine kj_iconst X dX5_dropLowestCurl_0 ?_
  refine kj_istoren X (L' := [(1, knV 0), (0, knO G a0)]) dX5_dropLowestCurl_1 (by decide) rfl ?_
  refine kj_sub (L' := [(0, knO G a0), (1, knV 0)]) [1, 0] rfl ?_
  refine kfX5_dropLowestCurl_l2_ok X K hr hlk a0 ha0 μ ?_ knF _ (show knC (0) from ⟨by omega, by omega⟩)  hf
  intro hf
  refine kj_iconst X dX5_dropLowestCurl_31 ?_
  cases hf
  exact kj_zret X (Or.inl rfl) hr (kn_nb (Or.inl rfl)) dX5_dropLowestCurl_32 hlk

