def kfX3_tryFrom_l14 (self : Int → knMem → Option (Int × knMem)) (x1 : Int)  (kc : (Int × knMem) → Option (Int × knMem)) : Nat → Int → Int → knMem → Option (Int × knMem)
  | 0, _, _, _ => none
  | n + 1, x2, x3, μ =>
    if 3 ≤ x3 then
     kc (x2, μ)
    else
     knGd (0 ≤ x1 ∧ x1 < 7)
      (Option.bind (kfX3_fits x1 (knUp μ 118 x1 x3)) (fun q5 =>
      Option.bind (α := Int × knMem)
       (if q5 = 0 then
        some (x2, (knUp μ 118 x1 x3))
       else
        Option.bind (self (knW (x1 + 1)) (knUp μ 118 x1 x3)) (fun q15 =>
         some ((knW (x2 + q15.1)), q15.2)))
       (fun q12 =>
       kfX3_tryFrom_l14 self x1 kc n q12.1 (knW (x3 + 1)) q12.2)))

def kfX3_tryFrom : Nat → Int → knMem → Option (Int × knMem)
  | 0, _, _ => none
  | N + 1, a1, μ =>
    if a1 < (μ 106 5) then
     kfX3_tryFrom_l14 (kfX3_tryFrom N) a1  (fun w18 =>
      some (w18.1, w18.2)) knF 0 0 μ
    else
     some (1, μ)

theorem knWkX3_tryFrom : knWk yX3_tryFrom cX3_tryFrom 4 (some .int) 2 := ⟨(knGm 704 (by decide +kernel) rfl), (knGm 119 (by decide +kernel) rfl), (knGm 703 (by decide +kernel) rfl), by decide +kernel, by decide +kernel, by decide +kernel⟩
set_option maxHeartbeats 4000000 in
set_option maxRecDepth 100000 in
theorem kfX3_tryFrom_l14_ok {q : Int × knMem} {kc : (Int × knMem) → Option (Int × knMem)} {G : knGT} {p : Program} {l : Launch} {e : Env} {s : State} {m : MethodId} {args : Array Value} {below : List Frame} {meth : Method} {c : Code} (X : knX p m c cX3_tryFrom 4 s args yX3_tryFrom.cls) (K : knK G s s.heap) (hr : meth.sig.returnType = (some .int)) (hlk : meth.locks = false) {self : Int → knMem → Option (Int × knMem)} (N : Nat) (hself : ∀ {a1 : Int} (ha1 : knC a1) {μ : knMem} {q : Int × knMem}, self a1 μ = some q → knC0 G l yX3_tryFrom cX3_tryFrom 4 (some .int) (2 + N) (46 + N * 23) [knO G 106, knV a1] μ (knC q.1) (some (knV q.1)) q.2) (x1 : Int) (hx1 : knC x1)  (hk : ∀ (y2 : Int) (hy2 : knC y2) (μ1 : knMem), kc (y2, μ1) = some q → knJ G p l e { frames := 2 + (N + 1), cells := 0, slots := 0, locals := 46 + (N + 1) * 23 } s m args below meth c 4 0 0 (MQ below (knPo G (knC q.1) (some (knV q.1)) q.2) args s 0 0 (knA G)) 50 [(2, knV y2)] [] μ1) : ∀ (n : Nat) (x2 : Int) (hx2 : knC x2) (x3 : Int) (hx3 : knC x3) (μ : knMem), kfX3_tryFrom_l14 self x1 kc n x2 x3 μ = some q → knJ G p l e { frames := 2 + (N + 1), cells := 0, slots := 0, locals := 46 + (N + 1) * 23 } s m args below meth c 4 0 0 (MQ below (knPo G (knC q.1) (some (knV q.1)) q.2) args s 0 0 (knA G)) 14 [(0, knO G 106), (1, knV x1), (2, knV x2), (3, knV x3)] [] μ := by
  intro n
  induction n with
  | zero => intro x2 hx2 x3 hx3 μ hf; cases hf
  | succ n ih =>
    intro x2 hx2 x3 hx3 μ hf
    unfold kfX3_tryFrom_l14 at hf
    refine kj_iloadn X 3 dX3_tryFrom_14 rfl ?_
    refine kj_iconst X dX3_tryFrom_15 ?_
    refine kj_ic_ge X (tgt := 50) dX3_tryFrom_16 (by decide) hx3 (show knC (3) from ⟨by omega, by omega⟩) (fun h3 => ?_) (fun h3 => ?_)
    · replace hf := knIp hf h3
      refine kj_sub (L' := [(2, knV x2)]) [2] rfl ?_
      exact hk _ hx2 _ hf
    · replace hf := knIq hf h3
      refine kj_aloadn X 0 dX3_tryFrom_19 rfl ?_
      refine kj_geto (k := 4) (o2 := 118) X K kdc_106 (by decide) (knEnt_2 kdc_106) rfl (by decide) knInX3 (knGm 263 (by decide +kernel) rfl) rfl rfl dX3_tryFrom_20 ?_
      refine kj_iloadn X 1 dX3_tryFrom_23 rfl ?_
      refine kj_iloadn X 3 dX3_tryFrom_24 rfl ?_
      obtain ⟨h4, hf⟩ := knGd_inv hf
      refine kj_iast X K kdc_118 hx1 hx3 lnc_118 h4 dX3_tryFrom_25 ?_
      refine kj_aloadn X 0 dX3_tryFrom_26 rfl ?_
      refine kj_iloadn X 1 dX3_tryFrom_27 rfl ?_
      obtain ⟨q5, h6, hf⟩ := knBd_inv hf
      refine kj_callV (As := [knV x1]) (rest := []) X K (kcX3_fits l hx1 h6) knWvX3_fits (knGm 705 (by decide +kernel) rfl) ⟨by show _ ≤ _ + (N + 1); omega, by show _ ≤ _ + (N + 1) * _; omega⟩ (knKd_in kdc_106 (by decide)) (knEnt_2 kdc_106) rfl rfl rfl (Nat.le_of_ble_eq_true rfl) ⟨Nat.le_refl _, Nat.le_refl _⟩ dX3_tryFrom_28 rfl (fun h7 => ?_)
      have j12 : ∀ (t12_0 : Int) (ht12_0 : knC t12_0) (m12 : knMem), (fun q12 =>
       kfX3_tryFrom_l14 self x1 kc n q12.1 (knW (x3 + 1)) q12.2) (t12_0, m12) = some q → knJ G p l e { frames := 2 + (N + 1), cells := 0, slots := 0, locals := 46 + (N + 1) * 23 } s m args below meth c 4 0 0 (MQ below (knPo G (knC q.1) (some (knV q.1)) q.2) args s 0 0 (knA G)) 44 [(0, knO G 106), (1, knV x1), (2, knV t12_0), (3, knV x3)] [] m12 := by
        intro t12_0 ht12_0 m12
        intro hf
        refine kj_iinc X 3 (L' := [(3, knV (knW (x3 + 1))), (0, knO G 106), (1, knV x1), (2, knV t12_0)]) dX3_tryFrom_44 rfl (by decide) rfl ?_
        refine kj_goto X (tgt := 14) dX3_tryFrom_47 (by decide) ?_
        refine kj_sub (L' := [(0, knO G 106), (1, knV x1), (2, knV t12_0), (3, knV (knW (x3 + 1)))]) [1, 2, 3, 0] rfl ?_
        exact ih _ ht12_0 _ (knCw _) _ hf
      obtain ⟨b13, hb13, hf⟩ := knBd_inv hf
      refine kj_if_eq X (tgt := 44) dX3_tryFrom_31 (by decide) (knZ_c h7) (fun h14 => ?_) (fun h14 => ?_)
      · replace hb13 := knIp hb13 h14
        cases hb13
        refine kj_sub (L' := [(0, knO G 106), (1, knV x1), (2, knV x2), (3, knV x3)]) [0, 1, 2, 3] rfl ?_
        exact j12 _ hx2 _ hf
      · replace hb13 := knIq hb13 h14
        refine kj_iloadn X 2 dX3_tryFrom_34 rfl ?_
        refine kj_aloadn X 0 dX3_tryFrom_35 rfl ?_
        refine kj_iloadn X 1 dX3_tryFrom_36 rfl ?_
        refine kj_iconst X dX3_tryFrom_37 ?_
        refine kj_iadd X dX3_tryFrom_38 ?_
        obtain ⟨q15, h16, hb13⟩ := knBd_inv hb13
        refine kj_callS (As := [knO G 106, knV (knW (x1 + 1))]) (rest := [knV x2]) X K (hself (knCw _) h16) knWkX3_tryFrom (knGm 702 (by decide +kernel) rfl) ⟨by show _ ≤ _ + (N + 1); omega, by show _ ≤ _ + (N + 1) * _; omega⟩  rfl (Nat.le_of_ble_eq_true rfl) ⟨Nat.le_refl _, Nat.le_refl _⟩ dX3_tryFrom_39 rfl (fun h17 => ?_)
        refine kj_iadd X dX3_tryFrom_42 ?_
        refine kj_istoren X (L' := [(2, knV (knW (x2 + q15.1))), (0, knO G 106), (1, knV x1), (3, knV x3)]) dX3_tryFrom_43 (by decide) rfl ?_
        cases hb13
        refine kj_sub (L' := [(0, knO G 106), (1, knV x1), (2, knV (knW (x2 + q15.1))), (3, knV x3)]) [1, 2, 0, 3] rfl ?_
        exact j12 _ (knCw _) _ hf

set_option maxHeartbeats 4000000 in
set_option maxRecDepth 100000 in
theorem kcX3_tryFrom {G : knGT} (l : Launch) : ∀ (N : Nat) {a1 : Int} (ha1 : knC a1) {μ : knMem} {q : Int × knMem}, kfX3_tryFrom N a1 μ = some q → knC0 G l yX3_tryFrom cX3_tryFrom 4 (some .int) (2 + N) (46 + N * 23) [knO G 106, knV a1] μ (knC q.1) (some (knV q.1)) q.2 := by
  intro N
  induction N with
  | zero => intro a1 ha1 μ q hf; cases hf
  | succ N ih =>
    intro a1 ha1 μ q hf
    unfold kfX3_tryFrom at hf
    refine kn_ofJ (plainFor_of_name (by decide)) (Nat.le_of_ble_eq_true rfl) (L := [(0, knO G 106), (1, knV a1)]) rfl ?_
    intro p e s m args below meth c X K hr hlk
    refine kj_iloadn X 1 dX3_tryFrom_0 rfl ?_
    refine kj_aloadn X 0 dX3_tryFrom_1 rfl ?_
    refine kj_geti (k := 5) (ki := 5) X K rfl kdc_106 (by decide) (knEnt_2 kdc_106) rfl (by decide) knInX3 (knGm 264 (by decide +kernel) rfl) rfl rfl dX3_tryFrom_2 (fun h1 => ?_)
    refine kj_ic_lt X (tgt := 10) dX3_tryFrom_5 (by decide) ha1 h1 (fun h2 => ?_) (fun h2 => ?_)
    · replace hf := knIp hf h2
      refine kj_iconst X dX3_tryFrom_10 ?_
      refine kj_istoren X (L' := [(2, knV 0), (0, knO G 106), (1, knV a1)]) dX3_tryFrom_11 (by decide) rfl ?_
      refine kj_iconst X dX3_tryFrom_12 ?_
      refine kj_istoren X (L' := [(3, knV 0), (2, knV 0), (0, knO G 106), (1, knV a1)]) dX3_tryFrom_13 (by decide) rfl ?_
      refine kj_sub (L' := [(0, knO G 106), (1, knV a1), (2, knV 0), (3, knV 0)]) [2, 3, 1, 0] rfl ?_
      refine kfX3_tryFrom_l14_ok X K hr hlk N @ih a1 ha1  ?_ knF _ (show knC (0) from ⟨by omega, by omega⟩) _ (show knC (0) from ⟨by omega, by omega⟩) _ hf
      intro w18_0 hw18_0 w18_m
      intro hf
      refine kj_iloadn X 0 dX3_tryFrom_50 rfl ?_
      cases hf
      exact kj_iret X hw18_0 hr dX3_tryFrom_51 hlk
    · replace hf := knIq hf h2
      refine kj_iconst X dX3_tryFrom_8 ?_
      cases hf
      exact kj_iret X (show knC (1) from ⟨by omega, by omega⟩) hr dX3_tryFrom_9 hlk

def kfX3_countByTrying (a1 : Int) (μ : knMem) : Option (Int × knMem) :=
 Option.bind (kfX3_readArcs a1 μ) (fun q1 =>
  Option.bind (α := Int × knMem)
   (if (q1 106 5) = 0 then
    some (3, q1)
   else
    Option.bind (kfX3_tryFrom 10 0 q1) (fun q12 =>
     some (q12.1, q12.2)))
   (fun q9 =>
   some (q9.1, q9.2)))

theorem knWvX3_countByTrying : knWv yX3_countByTrying cX3_countByTrying 2 (some .int) 1 := ⟨(knGm 689 (by decide +kernel) rfl), (knGm 119 (by decide +kernel) rfl), (knGm 687 (by decide +kernel) rfl), (knGm 688 (by decide +kernel) rfl), by decide +kernel, by decide +kernel, by decide +kernel⟩
set_option maxHeartbeats 4000000 in
set_option maxRecDepth 100000 in
theorem kcX3_countByTrying {G : knGT} (l : Launch) {a1 : Int} (ha1 : knKd a1 = 3) {μ : knMem} {q : Int × knMem} (hf : kfX3_countByTrying a1 μ = some q) : knC0 G l yX3_countByTrying cX3_countByTrying 2 (some .int) 13 299 [knO G 106, knO G a1] μ (knC q.1) (some (knV q.1)) q.2 := by
  unfold kfX3_countByTrying at hf
  refine kn_ofJ (plainFor_of_name (by decide)) (Nat.le_of_ble_eq_true rfl) (L := [(0, knO G 106), (1, knO G a1)]) rfl ?_
  intro p e s m args below meth c X K hr hlk
  refine kj_aloadn X 0 dX3_countByTrying_0 rfl ?_
  refine kj_aloadn X 1 dX3_countByTrying_1 rfl ?_
  obtain ⟨q1, h2, hf⟩ := knBd_inv hf
  refine kj_callV (As := [knO G a1]) (rest := []) X K (kcX3_readArcs l ha1 h2) knWvX3_readArcs (knGm 690 (by decide +kernel) rfl) (by decide) (knKd_in kdc_106 (by decide)) (knEnt_2 kdc_106) rfl rfl rfl (Nat.le_of_ble_eq_true rfl) (by decide) dX3_countByTrying_2 rfl (fun h3 => ?_)
  refine kj_aloadn X 0 dX3_countByTrying_5 rfl ?_
  refine kj_geti (k := 5) (ki := 5) X K rfl kdc_106 (by decide) (knEnt_2 kdc_106) rfl (by decide) knInX3 (knGm 264 (by decide +kernel) rfl) rfl rfl dX3_countByTrying_6 (fun h4 => ?_)
  have j9 : ∀ (t9_0 : Int) (ht9_0 : knC t9_0) (m9 : knMem), (fun q9 =>
   some (q9.1, q9.2)) (t9_0, m9) = some q → knJ G p l e { frames := 13, cells := 0, slots := 0, locals := 299 } s m args below meth c 2 0 0 (MQ below (knPo G (knC q.1) (some (knV q.1)) q.2) args s 0 0 (knA G)) 21 [] [knV t9_0] m9 := by
    intro t9_0 ht9_0 m9
    intro hf
    cases hf
    exact kj_iret X ht9_0 hr dX3_countByTrying_21 hlk
  obtain ⟨b10, hb10, hf⟩ := knBd_inv hf
  refine kj_if_ne X (tgt := 16) dX3_countByTrying_9 (by decide) h4 (fun h11 => ?_) (fun h11 => ?_)
  · replace hb10 := knIq hb10 h11
    refine kj_aloadn X 0 dX3_countByTrying_16 rfl ?_
    refine kj_iconst X dX3_countByTrying_17 ?_
    obtain ⟨q12, h13, hb10⟩ := knBd_inv hb10
    refine kj_callS (As := [knO G 106, knV 0]) (rest := []) X K (kcX3_tryFrom l 10 (show knC (0) from ⟨by omega, by omega⟩) h13) knWkX3_tryFrom (knGm 702 (by decide +kernel) rfl) (by decide)  rfl (Nat.le_of_ble_eq_true rfl) (by decide) dX3_countByTrying_18 rfl (fun h14 => ?_)
    cases hb10
    refine kj_sub (L' := []) [] rfl ?_
    exact j9 _ h14 _ hf
  · replace hb10 := knIp hb10 h11
    refine kj_iconst X dX3_countByTrying_12 ?_
    refine kj_goto X (tgt := 21) dX3_countByTrying_13 (by decide) ?_
    cases hb10
    refine kj_sub (L' := []) [] rfl ?_
    exact j9 _ (show knC (3) from ⟨by omega, by omega⟩) _ hf

def kfX12_colouringsByTrying  (μ : knMem) : Option (Int × knMem) :=
 Option.bind (kfX3_countByTrying 2 μ) (fun q1 =>
  some (q1.1, q1.2))

theorem knWvX12_colouringsByTrying : knWv yX12_colouringsByTrying cX12_colouringsByTrying 1 (some .int) 0 := ⟨(knGm 685 (by decide +kernel) rfl), (knGm 114 (by decide +kernel) rfl), (knGm 683 (by decide +kernel) rfl), (knGm 684 (by decide +kernel) rfl), by decide +kernel, by decide +kernel, by decide +kernel⟩
set_option maxHeartbeats 4000000 in
set_option maxRecDepth 100000 in
theorem kcX12_colouringsByTrying {G : knGT} (l : Launch)   {μ : knMem} {q : Int × knMem} (hf : kfX12_colouringsByTrying  μ = some q) : knC0 G l yX12_colouringsByTrying cX12_colouringsByTrying 1 (some .int) 14 320 [knO G 0] μ (knC q.1) (some (knV q.1)) q.2 := by
  unfold kfX12_colouringsByTrying at hf
  refine kn_ofJ (plainFor_of_name (by decide)) (Nat.le_of_ble_eq_true rfl) (L := [(0, knO G 0)]) rfl ?_
  intro p e s m args below meth c X K hr hlk
  refine kj_aloadn X 0 dX12_colouringsByTrying_0 rfl ?_
  refine kj_geto (k := 6) (o2 := 106) X K kdc_0 (by decide) (knEnt_9 kdc_0) rfl (by decide) knInX12 (knGm 367 (by decide +kernel) rfl) rfl rfl dX12_colouringsByTrying_1 ?_
  refine kj_aloadn X 0 dX12_colouringsByTrying_4 rfl ?_
  refine kj_geto (k := 1) (o2 := 2) X K kdc_0 (by decide) (knEnt_9 kdc_0) rfl (by decide) knInX12 (knGm 362 (by decide +kernel) rfl) rfl rfl dX12_colouringsByTrying_5 ?_
  obtain ⟨q1, h2, hf⟩ := knBd_inv hf
  refine kj_callV (As := [knO G 2]) (rest := []) X K (kcX3_countByTrying l kdc_2 h2) knWvX3_countByTrying (knGm 686 (by decide +kernel) rfl) (by decide) (knKd_in kdc_106 (by decide)) (knEnt_2 kdc_106) rfl rfl rfl (Nat.le_of_ble_eq_true rfl) (by decide) dX12_colouringsByTrying_8 rfl (fun h3 => ?_)
  cases hf
  exact kj_iret X h3 hr dX12_colouringsByTrying_11 hlk

def kfX2_resolve : Nat → Int → Int → Int → Int → knMem → Option (knMem)
  | 0, _, _, _, _, _ => none
  | N + 1, a1, a2, a3, a4, μ =>
    (fun (k25 : (Unit) → Option (knMem)) =>
     if (μ a1 3) ≤ a2 then
      k25 ()
     else
      if a2 < 7 then
       knGd (0 ≤ a2 ∧ a2 < 8)
        (knGd (0 ≤ (knW (a2 + 1)) ∧ (knW (a2 + 1)) < 8)
        (knGd (0 ≤ a2 ∧ a2 < 7)
        (knGd ((0 : Int) ≤ 14 ∧ (14 : Int) ≤ 14 ∧ (14 : Int) ≤ 14)
        (Option.bind (kfX2_smooth a1 a2 1 (124 + (knW (a2 + 1))) (knCopy μ (124 + a2) (124 + (knW (a2 + 1))) 14)) (fun q43 =>
        Option.bind (kfX2_resolve N a1 (knW (a2 + 1)) (knW (a3 + (if (μ (a1 + 3) a2) = 0 then -1 else 1 : Int))) (knW (a4 - q43.1)) q43.2) (fun q46 =>
         Option.bind (kfX2_smooth a1 a2 0 (124 + (knW (a2 + 1))) (knCopy q46 (124 + a2) (124 + (knW (a2 + 1))) 14)) (fun q49 =>
          Option.bind (kfX2_resolve N a1 (knW (a2 + 1)) (knW (a3 - (if (μ (a1 + 3) a2) = 0 then -1 else 1 : Int))) (knW (a4 - q49.1)) q49.2) (fun q52 =>
           some q52))))))))
      else
       k25 ())
     (fun _ =>
     Option.bind (kfX2_addFactor 121 a3 (knW (a4 - 1)) μ) (fun q26 =>
      some q26))

theorem knWkX2_resolve : knWk yX2_resolve cX2_resolve 10 none 5 := ⟨(knGm 807 (by decide +kernel) rfl), (knGm 120 (by decide +kernel) rfl), (knGm 806 (by decide +kernel) rfl), by decide +kernel, by decide +kernel, by decide +kernel⟩
set_option maxHeartbeats 4000000 in
set_option maxRecDepth 100000 in
theorem kcX2_resolve {G : knGT} (l : Launch) : ∀ (N : Nat) {a1 : Int} {a2 : Int} {a3 : Int} {a4 : Int} (ha1 : knKd a1 = 3) (ha2 : knC a2) (ha3 : knC a3) (ha4 : knC a4) {μ : knMem} {q : knMem}, kfX2_resolve N a1 a2 a3 a4 μ = some q → knC0 G l yX2_resolve cX2_resolve 10 none (6 + N) (120 + N * 29) [knO G 119, knO G a1, knV a2, knV a3, knV a4] μ True none q := by
  intro N
  induction N with
  | zero => intro a1 a2 a3 a4 ha1 ha2 ha3 ha4 μ q hf; cases hf
  | succ N ih =>
    intro a1 a2 a3 a4 ha1 ha2 ha3 ha4 μ q hf
    unfold kfX2_resolve at hf
    refine kn_ofJ (plainFor_of_name (by decide)) (Nat.le_of_ble_eq_true rfl) (L := [(0, knO G 119), (1, knO G a1), (2, knV a2), (3, knV a3), (4, knV a4)]) rfl ?_
    intro p e s m args below meth c X K hr hlk
    refine kj_iloadn X 2 dX2_resolve_0 rfl ?_
    refine kj_aloadn X 1 dX2_resolve_1 rfl ?_
    refine kj_geti (k := 3) (ki := 3) X K rfl ha1 (by decide) (knEnt_3 ha1) rfl (by decide) knInX5 (knGm 179 (by decide +kernel) rfl) rfl rfl dX2_resolve_2 (fun h1 => ?_)
    have j25 : (fun _ =>
     Option.bind (kfX2_addFactor 121 a3 (knW (a4 - 1)) μ) (fun q26 =>
      some q26)) () = some q → knJ G p l e { frames := 6 + (N + 1), cells := 0, slots := 0, locals := 120 + (N + 1) * 29 } s m args below meth c 10 0 0 (MQ below (knPo G True none q) args s 0 0 (knA G)) 14 [(0, knO G 119), (3, knV a3), (4, knV a4)] [] μ := by
      intro hf
      refine kj_aloadn X 0 dX2_resolve_14 rfl ?_
      refine kj_geto (k := 1) (o2 := 121) X K kdc_119 (by decide) (knEnt_1 kdc_119) rfl (by decide) knInX2 (knGm 287 (by decide +kernel) rfl) rfl rfl dX2_resolve_15 ?_
      refine kj_iloadn X 1 dX2_resolve_18 rfl ?_
      refine kj_iload X 2 dX2_resolve_19 rfl ?_
      refine kj_iconst X dX2_resolve_21 ?_
      refine kj_isub X dX2_resolve_22 ?_
      obtain ⟨q29, h30, hf⟩ := knBd_inv hf
      refine kj_callS (As := [knO G 121, knV a3, knV (knW (a4 - 1))]) (rest := []) X K (kcX2_addFactor l kdc_121 ha3 (knCw _) h30) knWkX2_addFactor (knGm 753 (by decide +kernel) rfl) ⟨by show _ ≤ _ + (N + 1); omega, by show _ ≤ _ + (N + 1) * _; omega⟩  rfl (Nat.le_of_ble_eq_true rfl) ⟨Nat.le_refl _, Nat.le_refl _⟩ dX2_resolve_23 rfl (fun h31 => ?_)
      cases hf
      exact kj_vret X trivial hr dX2_resolve_26 hlk
    refine kj_ic_ge X (tgt := 14) dX2_resolve_5 (by decide) ha2 h1 (fun h33 => ?_) (fun h33 => ?_)
    · replace hf := knIp hf h33
      refine kj_sub (L' := [(0, knO G 119), (3, knV a3), (4, knV a4)]) [0, 3, 4] rfl ?_
      exact j25  hf
    · replace hf := knIq hf h33
      refine kj_iloadn X 2 dX2_resolve_8 rfl ?_
      refine kj_bipush X (n := 7) dX2_resolve_9 rfl ?_
      refine kj_ic_lt X (tgt := 27) dX2_resolve_11 (by decide) ha2 (show knC (7) from ⟨by omega, by omega⟩) (fun h34 => ?_) (fun h34 => ?_)
      · replace hf := knIp hf h34
        refine kj_aloadn X 0 dX2_resolve_27 rfl ?_
        refine kj_geto (k := 3) (o2 := 123) X K kdc_119 (by decide) (knEnt_1 kdc_119) rfl (by decide) knInX2 (knGm 291 (by decide +kernel) rfl) rfl rfl dX2_resolve_28 ?_
        refine kj_iloadn X 2 dX2_resolve_31 rfl ?_
        obtain ⟨h35, hf⟩ := knGd_inv hf
        refine kj_ald24 X K kdc_123 ha2 lnc_123 h35 dX2_resolve_32 ?_
        refine kj_astore X (L' := [(5, knO G (124 + a2)), (0, knO G 119), (1, knO G a1), (2, knV a2), (3, knV a3), (4, knV a4)]) dX2_resolve_33 (by decide) rfl ?_
        refine kj_aloadn X 1 dX2_resolve_35 rfl ?_
        refine kj_geto (k := 3) (o2 := 123) X K kdc_119 (by decide) (knEnt_1 kdc_119) rfl (by decide) knInX2 (knGm 291 (by decide +kernel) rfl) rfl rfl dX2_resolve_36 ?_
        refine kj_iloadn X 3 dX2_resolve_39 rfl ?_
        refine kj_iconst X dX2_resolve_40 ?_
        refine kj_iadd X dX2_resolve_41 ?_
        obtain ⟨h36, hf⟩ := knGd_inv hf
        refine kj_ald24 X K kdc_123 (knCw _) lnc_123 h36 dX2_resolve_42 ?_
        refine kj_astore X (L' := [(6, knO G (124 + (knW (a2 + 1)))), (5, knO G (124 + a2)), (0, knO G 119), (1, knO G a1), (2, knV a2), (3, knV a3), (4, knV a4)]) dX2_resolve_43 (by decide) rfl ?_
        refine kj_aloadn X 3 dX2_resolve_45 rfl ?_
        refine kj_geto (k := 2) (o2 := (a1 + 3)) X K ha1 (by decide) (knEnt_3 ha1) rfl (by decide) knInX5 (knGm 176 (by decide +kernel) rfl) rfl rfl dX2_resolve_46 ?_
        refine kj_iloadn X 4 dX2_resolve_49 rfl ?_
        obtain ⟨h37, hf⟩ := knGd_inv hf
        refine kj_zald X K (knD3 ha1).1.2.2 ha2 (knD3 ha1).2.2.2 h37 dX2_resolve_50 (fun h38 => ?_)
        have j40 : ∀ (t40_0 : Int) (et40_0 : t40_0 = (if (μ (a1 + 3) a2) = 0 then -1 else 1 : Int)) (ht40_0 : knC t40_0), knJ G p l e { frames := 6 + (N + 1), cells := 0, slots := 0, locals := 120 + (N + 1) * 29 } s m args below meth c 10 0 0 (MQ below (knPo G True none q) args s 0 0 (knA G)) 59 [(0, knO G 119), (1, knO G a1), (2, knV a2), (3, knV a3), (4, knV a4), (5, knO G (124 + a2)), (6, knO G (124 + (knW (a2 + 1))))] [knV t40_0] μ := by
          intro t40_0 et40_0 ht40_0
          subst et40_0
          refine kj_istore X (L' := [(7, knV (if (μ (a1 + 3) a2) = 0 then -1 else 1 : Int)), (0, knO G 119), (1, knO G a1), (2, knV a2), (3, knV a3), (4, knV a4), (5, knO G (124 + a2)), (6, knO G (124 + (knW (a2 + 1))))]) dX2_resolve_59 (by decide) rfl ?_
          refine kj_aload X 6 dX2_resolve_61 rfl ?_
          refine kj_iconst X dX2_resolve_63 ?_
          refine kj_aload X 7 dX2_resolve_64 rfl ?_
          refine kj_iconst X dX2_resolve_66 ?_
          refine kj_bipush X (n := 14) dX2_resolve_67 rfl ?_
          obtain ⟨h42, hf⟩ := knGd_inv hf
          refine kj_copy X K (knGm 808 (by decide +kernel) rfl) ⟨(knGm 810 (by decide +kernel) rfl), (knGm 809 (by decide +kernel) rfl), (knGm 139 (by decide +kernel) rfl)⟩ (knJoined h35).1 (knJoined h36).1 (knJoined h35).2 (knJoined h36).2 (show knC (14) from ⟨by omega, by omega⟩) h42 ⟨by show _ ≤ _ + (N + 1); omega, by show _ ≤ _ + (N + 1) * _; omega⟩ dX2_resolve_69 ?_
          refine kj_iload X 5 dX2_resolve_72 rfl ?_
          refine kj_aloadn X 2 dX2_resolve_74 rfl ?_
          refine kj_iloadn X 3 dX2_resolve_75 rfl ?_
          refine kj_iconst X dX2_resolve_76 ?_
          refine kj_aload X 7 dX2_resolve_77 rfl ?_
          obtain ⟨q43, h44, hf⟩ := knBd_inv hf
          refine kj_callS (As := [knO G a1, knV a2, knV 1, knO G (124 + (knW (a2 + 1)))]) (rest := [knV a4]) X K (kcX2_smooth l ha1 ha2 (Or.inr rfl) (knJoined h36).1 h44) knWkX2_smooth (knGm 746 (by decide +kernel) rfl) ⟨by show _ ≤ _ + (N + 1); omega, by show _ ≤ _ + (N + 1) * _; omega⟩  rfl (Nat.le_of_ble_eq_true rfl) ⟨Nat.le_refl _, Nat.le_refl _⟩ dX2_resolve_79 rfl (fun h45 => ?_)
          refine kj_isub X dX2_resolve_82 ?_
          refine kj_istore X (L' := [(8, knV (knW (a4 - q43.1))), (7, knV (if (μ (a1 + 3) a2) = 0 then -1 else 1 : Int)), (0, knO G 119), (1, knO G a1), (2, knV a2), (3, knV a3), (4, knV a4), (5, knO G (124 + a2)), (6, knO G (124 + (knW (a2 + 1))))]) dX2_resolve_83 (by decide) rfl ?_
          refine kj_aloadn X 2 dX2_resolve_85 rfl ?_
          refine kj_aloadn X 3 dX2_resolve_86 rfl ?_
          refine kj_iloadn X 4 dX2_resolve_87 rfl ?_
          refine kj_iconst X dX2_resolve_88 ?_
          refine kj_iadd X dX2_resolve_89 ?_
          refine kj_iloadn X 5 dX2_resolve_90 rfl ?_
          refine kj_iload X 1 dX2_resolve_91 rfl ?_
          refine kj_iadd X dX2_resolve_93 ?_
          refine kj_iload X 0 dX2_resolve_94 rfl ?_
          obtain ⟨q46, h47, hf⟩ := knBd_inv hf
          refine kj_callS (As := [knO G 119, knO G a1, knV (knW (a2 + 1)), knV (knW (a3 + (if (μ (a1 + 3) a2) = 0 then -1 else 1 : Int))), knV (knW (a4 - q43.1))]) (rest := []) X K (ih ha1 (knCw _) (knCw _) (knCw _) h47) knWkX2_resolve (knGm 805 (by decide +kernel) rfl) ⟨by show _ ≤ _ + (N + 1); omega, by show _ ≤ _ + (N + 1) * _; omega⟩  rfl (Nat.le_of_ble_eq_true rfl) ⟨Nat.le_refl _, Nat.le_refl _⟩ dX2_resolve_96 rfl (fun h48 => ?_)
          refine kj_aload X 7 dX2_resolve_99 rfl ?_
          refine kj_iconst X dX2_resolve_101 ?_
          refine kj_aload X 8 dX2_resolve_102 rfl ?_
          refine kj_iconst X dX2_resolve_104 ?_
          refine kj_bipush X (n := 14) dX2_resolve_105 rfl ?_
          refine kj_copy X K (knGm 808 (by decide +kernel) rfl) ⟨(knGm 810 (by decide +kernel) rfl), (knGm 809 (by decide +kernel) rfl), (knGm 139 (by decide +kernel) rfl)⟩ (knJoined h35).1 (knJoined h36).1 (knJoined h35).2 (knJoined h36).2 (show knC (14) from ⟨by omega, by omega⟩) h42 ⟨by show _ ≤ _ + (N + 1); omega, by show _ ≤ _ + (N + 1) * _; omega⟩ dX2_resolve_107 ?_
          refine kj_iload X 6 dX2_resolve_110 rfl ?_
          refine kj_aloadn X 3 dX2_resolve_112 rfl ?_
          refine kj_iloadn X 4 dX2_resolve_113 rfl ?_
          refine kj_iconst X dX2_resolve_114 ?_
          refine kj_aload X 8 dX2_resolve_115 rfl ?_
          obtain ⟨q49, h50, hf⟩ := knBd_inv hf
          refine kj_callS (As := [knO G a1, knV a2, knV 0, knO G (124 + (knW (a2 + 1)))]) (rest := [knV a4]) X K (kcX2_smooth l ha1 ha2 (Or.inl rfl) (knJoined h36).1 h50) knWkX2_smooth (knGm 746 (by decide +kernel) rfl) ⟨by show _ ≤ _ + (N + 1); omega, by show _ ≤ _ + (N + 1) * _; omega⟩  rfl (Nat.le_of_ble_eq_true rfl) ⟨Nat.le_refl _, Nat.le_refl _⟩ dX2_resolve_117 rfl (fun h51 => ?_)
          refine kj_isub X dX2_resolve_120 ?_
          refine kj_istore X (L' := [(9, knV (knW (a4 - q49.1))), (8, knV (knW (a4 - q43.1))), (7, knV (if (μ (a1 + 3) a2) = 0 then -1 else 1 : Int)), (0, knO G 119), (1, knO G a1), (2, knV a2), (3, knV a3), (4, knV a4), (5, knO G (124 + a2)), (6, knO G (124 + (knW (a2 + 1))))]) dX2_resolve_121 (by decide) rfl ?_
          refine kj_aloadn X 3 dX2_resolve_123 rfl ?_
          refine kj_aloadn X 4 dX2_resolve_124 rfl ?_
          refine kj_iloadn X 5 dX2_resolve_125 rfl ?_
          refine kj_iconst X dX2_resolve_126 ?_
          refine kj_iadd X dX2_resolve_127 ?_
          refine kj_iloadn X 6 dX2_resolve_128 rfl ?_
          refine kj_iload X 2 dX2_resolve_129 rfl ?_
          refine kj_isub X dX2_resolve_131 ?_
          refine kj_iload X 0 dX2_resolve_132 rfl ?_
          obtain ⟨q52, h53, hf⟩ := knBd_inv hf
          refine kj_callS (As := [knO G 119, knO G a1, knV (knW (a2 + 1)), knV (knW (a3 - (if (μ (a1 + 3) a2) = 0 then -1 else 1 : Int))), knV (knW (a4 - q49.1))]) (rest := []) X K (ih ha1 (knCw _) (knCw _) (knCw _) h53) knWkX2_resolve (knGm 805 (by decide +kernel) rfl) ⟨by show _ ≤ _ + (N + 1); omega, by show _ ≤ _ + (N + 1) * _; omega⟩  rfl (Nat.le_of_ble_eq_true rfl) ⟨Nat.le_refl _, Nat.le_refl _⟩ dX2_resolve_134 rfl (fun h54 => ?_)
          cases hf
          exact kj_vret X trivial hr dX2_resolve_137 hlk
        refine kj_if_eq X (tgt := 58) dX2_resolve_51 (by decide) (knZ_c h38) (fun h55 => ?_) (fun h55 => ?_)
        · refine kj_iconst X dX2_resolve_58 ?_
          refine kj_sub (L' := [(0, knO G 119), (1, knO G a1), (2, knV a2), (3, knV a3), (4, knV a4), (5, knO G (124 + a2)), (6, knO G (124 + (knW (a2 + 1))))]) [2, 3, 4, 5, 6, 1, 0] rfl ?_
          exact j40 (-1) (by rw [if_pos h55]) (show knC (-1) from ⟨by omega, by omega⟩)
        · refine kj_iconst X dX2_resolve_54 ?_
          refine kj_goto X (tgt := 59) dX2_resolve_55 (by decide) ?_
          refine kj_sub (L' := [(0, knO G 119), (1, knO G a1), (2, knV a2), (3, knV a3), (4, knV a4), (5, knO G (124 + a2)), (6, knO G (124 + (knW (a2 + 1))))]) [2, 3, 4, 5, 6, 1, 0] rfl ?_
          exact j40 1 (by rw [if_neg h55]) (show knC (1) from ⟨by omega, by omega⟩)
      · replace hf := knIq hf h34
        refine kj_sub (L' := [(0, knO G 119), (3, knV a3), (4, knV a4)]) [0, 3, 4] rfl ?_
        exact j25  hf

def kfX2_resolveAll (a1 : Int) (μ : knMem) : Option (knMem) :=
 Option.bind (kfJ7_fill_53178 121 0 μ) (fun q1 =>
  Option.bind (kfX2_separate a1 q1) (fun q4 =>
   Option.bind (kfX2_resolve 10 a1 0 0 q4.1 q4.2) (fun q7 =>
    some q7)))

theorem knWvX2_resolveAll : knWv yX2_resolveAll cX2_resolveAll 2 none 1 := ⟨(knGm 804 (by decide +kernel) rfl), (knGm 120 (by decide +kernel) rfl), (knGm 802 (by decide +kernel) rfl), (knGm 803 (by decide +kernel) rfl), by decide +kernel, by decide +kernel, by decide +kernel⟩
set_option maxHeartbeats 4000000 in
set_option maxRecDepth 100000 in
theorem kcX2_resolveAll {G : knGT} (l : Launch) {a1 : Int} (ha1 : knKd a1 = 3) {μ : knMem} {q : knMem} (hf : kfX2_resolveAll a1 μ = some q) : knC0 G l yX2_resolveAll cX2_resolveAll 2 none 17 439 [knO G 119, knO G a1] μ True none q := by
  unfold kfX2_resolveAll at hf
  refine kn_ofJ (plainFor_of_name (by decide)) (Nat.le_of_ble_eq_true rfl) (L := [(0, knO G 119), (1, knO G a1)]) rfl ?_
  intro p e s m args below meth c X K hr hlk
  refine kj_aloadn X 0 dX2_resolveAll_0 rfl ?_
  refine kj_geto (k := 1) (o2 := 121) X K kdc_119 (by decide) (knEnt_1 kdc_119) rfl (by decide) knInX2 (knGm 287 (by decide +kernel) rfl) rfl rfl dX2_resolveAll_1 ?_
  refine kj_iconst X dX2_resolveAll_4 ?_
  obtain ⟨q1, h2, hf⟩ := knBd_inv hf
  refine kj_callS (As := [knO G 121, knV 0]) (rest := []) X K (kcJ7_fill_53178 l kdc_121 (show knC (0) from ⟨by omega, by omega⟩) h2) knWkJ7_fill_53178 (knGm 724 (by decide +kernel) rfl) (by decide)  rfl (Nat.le_of_ble_eq_true rfl) (by decide) dX2_resolveAll_5 rfl (fun h3 => ?_)
  refine kj_aloadn X 0 dX2_resolveAll_8 rfl ?_
  refine kj_aloadn X 1 dX2_resolveAll_9 rfl ?_
  refine kj_iconst X dX2_resolveAll_10 ?_
  refine kj_iconst X dX2_resolveAll_11 ?_
  refine kj_aloadn X 0 dX2_resolveAll_12 rfl ?_
  refine kj_aloadn X 1 dX2_resolveAll_13 rfl ?_
  obtain ⟨q4, h5, hf⟩ := knBd_inv hf
  refine kj_callV (As := [knO G a1]) (rest := [knV 0, knV 0, knO G a1, knO G 119]) X K (kcX2_separate l ha1 h5) knWvX2_separate (knGm 738 (by decide +kernel) rfl) (by decide) (knKd_in kdc_119 (by decide)) (knEnt_1 kdc_119) rfl rfl rfl (Nat.le_of_ble_eq_true rfl) (by decide) dX2_resolveAll_14 rfl (fun h6 => ?_)
  obtain ⟨q7, h8, hf⟩ := knBd_inv hf
  refine kj_callS (As := [knO G 119, knO G a1, knV 0, knV 0, knV q4.1]) (rest := []) X K (kcX2_resolve l 10 ha1 (show knC (0) from ⟨by omega, by omega⟩) (show knC (0) from ⟨by omega, by omega⟩) h6 h8) knWkX2_resolve (knGm 805 (by decide +kernel) rfl) (by decide)  rfl (Nat.le_of_ble_eq_true rfl) (by decide) dX2_resolveAll_17 rfl (fun h9 => ?_)
  cases hf
  exact kj_vret X trivial hr dX2_resolveAll_20 hlk

def kfX12_bracketCoefficientByResolving (a1 : Int) (μ : knMem) : Option (Int × Int × knMem) :=
 Option.bind (kfX12_requireExponent a1 μ) (fun q1 =>
  if q1 = 0 then
  Option.bind (kfX2_resolveAll 2 μ) (fun q7 =>
   Option.bind (kfX12_valueAt 121 a1 q7) (fun q10 =>
    some (0, q10, q7)))
  else
  some (q1, 0, μ))

theorem knWvX12_bracketCoefficientByResolving : knWv yX12_bracketCoefficientByResolving cX12_bracketCoefficientByResolving 2 (some .int) 1 := ⟨(knGm 1150 (by decide +kernel) rfl), (knGm 114 (by decide +kernel) rfl), (knGm 1148 (by decide +kernel) rfl), (knGm 1149 (by decide +kernel) rfl), by decide +kernel, by decide +kernel, by decide +kernel⟩
set_option maxHeartbeats 4000000 in
set_option maxRecDepth 100000 in
theorem kcX12_bracketCoefficientByResolving {G : knGT} (l : Launch) (hl : l.stackTraces = false) {a1 : Int} (ha1 : knC a1) {μ : knMem} {q : Int × Int × knMem} (hf : kfX12_bracketCoefficientByResolving a1 μ = some q) : knCx G l yX12_bracketCoefficientByResolving cX12_bracketCoefficientByResolving 2 (some .int) 18 460 1 6 [knO G 0, knV a1] μ (knC q.2.1) q.1 (some (knV q.2.1)) q.2.2 := by
  unfold kfX12_bracketCoefficientByResolving at hf
  refine kn_ofJx (by decide) (Nat.le_of_ble_eq_true rfl) (L := [(0, knO G 0), (1, knV a1)]) rfl ?_
  intro p e s m args below meth c X K hr hlk hnx
  refine kj_iloadn X 1 dX12_bracketCoefficientByResolving_0 rfl ?_
  obtain ⟨q1, h2, hf⟩ := knBd_inv hf
  refine kjx_callS (As := [knV a1]) (rest := []) X K (kcX12_requireExponent l hl ha1 h2) knWkX12_requireExponent (knGm 1140 (by decide +kernel) rfl) (by decide)  rfl (Nat.le_of_ble_eq_true rfl) (by decide) dX12_bracketCoefficientByResolving_1 rfl (fun h4 h3 => ?_) (fun E5 h4 h6 => ?_)
  · replace hf := knIp hf h4
    refine kj_aloadn X 0 dX12_bracketCoefficientByResolving_4 rfl ?_
    refine kj_geto (k := 7) (o2 := 119) X K kdc_0 (by decide) (knEnt_9 kdc_0) rfl (by decide) knInX12 (knGm 368 (by decide +kernel) rfl) rfl rfl dX12_bracketCoefficientByResolving_5 ?_
    refine kj_aloadn X 0 dX12_bracketCoefficientByResolving_8 rfl ?_
    refine kj_geto (k := 1) (o2 := 2) X K kdc_0 (by decide) (knEnt_9 kdc_0) rfl (by decide) knInX12 (knGm 362 (by decide +kernel) rfl) rfl rfl dX12_bracketCoefficientByResolving_9 ?_
    obtain ⟨q7, h8, hf⟩ := knBd_inv hf
    refine kj_callV (As := [knO G 2]) (rest := []) X K (kcX2_resolveAll l kdc_2 h8) knWvX2_resolveAll (knGm 801 (by decide +kernel) rfl) (by decide) (knKd_in kdc_119 (by decide)) (knEnt_1 kdc_119) rfl rfl rfl (Nat.le_of_ble_eq_true rfl) (by decide) dX12_bracketCoefficientByResolving_12 rfl (fun h9 => ?_)
    refine kj_aloadn X 0 dX12_bracketCoefficientByResolving_15 rfl ?_
    refine kj_geto (k := 7) (o2 := 119) X K kdc_0 (by decide) (knEnt_9 kdc_0) rfl (by decide) knInX12 (knGm 368 (by decide +kernel) rfl) rfl rfl dX12_bracketCoefficientByResolving_16 ?_
    refine kj_geto (k := 1) (o2 := 121) X K kdc_119 (by decide) (knEnt_1 kdc_119) rfl (by decide) knInX2 (knGm 288 (by decide +kernel) rfl) rfl rfl dX12_bracketCoefficientByResolving_19 ?_
    refine kj_iloadn X 1 dX12_bracketCoefficientByResolving_22 rfl ?_
    obtain ⟨q10, h11, hf⟩ := knBd_inv hf
    refine kj_callS (As := [knO G 121, knV a1]) (rest := []) X K (kcX12_valueAt l kdc_121 ha1 h11) knWkX12_valueAt (knGm 760 (by decide +kernel) rfl) (by decide)  rfl (Nat.le_of_ble_eq_true rfl) (by decide) dX12_bracketCoefficientByResolving_23 rfl (fun h12 => ?_)
    cases hf
    exact kjx_iret X h12 rfl (by decide) (by decide) hr dX12_bracketCoefficientByResolving_26 hlk
  · replace hf := knIq hf h4
    cases hf
    exact kjx_out h4 h6 (by decide) (by decide) hnx hlk

def kfX11_reaches_l41 (self : Int → Int → Int → Int → knMem → Option (Int × knMem)) (x1 : Int) (x2 : Int) (x4 : Int)  (kc : (knMem) → Option (Int × knMem)) : Nat → Int → knMem → Option (Int × knMem)
  | 0, _, _ => none
  | n + 1, x5, μ =>
    if (μ x1 3) ≤ x5 then
     kc μ
    else
     Option.bind (self x1 (knOr x2 (knShl 1 x5)) (knW (x5 + 1)) (knW (x4 - 1)) μ) (fun q4 =>
      if q4.1 = 0 then
       kfX11_reaches_l41 self x1 x2 x4 kc n (knW (x5 + 1)) q4.2
      else
       some (1, q4.2))

def kfX11_reaches : Nat → Int → Int → Int → Int → knMem → Option (Int × knMem)
  | 0, _, _, _, _, _ => none
  | N + 1, a1, a2, a3, a4, μ =>
    if 0 < a4 then
     kfX11_reaches_l41 (kfX11_reaches N) a1 a2 a4  (fun w8 =>
      some (0, w8)) knF a3 μ
    else
     Option.bind (kfX5_copySwitched 133 a1 a2 μ) (fun q9 =>
      Option.bind (kfX5_simplify 133 q9) (fun q12 =>
       some ((if (q12.2 133 3) = 0 then 1 else 0 : Int), q12.2)))

theorem knWkX11_reaches : knWk yX11_reaches cX11_reaches 6 (some .boolean) 5 := ⟨(knGm 868 (by decide +kernel) rfl), (knGm 121 (by decide +kernel) rfl), (knGm 867 (by decide +kernel) rfl), by decide +kernel, by decide +kernel, by decide +kernel⟩
set_option maxHeartbeats 4000000 in
set_option maxRecDepth 100000 in
theorem kfX11_reaches_l41_ok {q : Int × knMem} {kc : (knMem) → Option (Int × knMem)} {G : knGT} {p : Program} {l : Launch} {e : Env} {s : State} {m : MethodId} {args : Array Value} {below : List Frame} {meth : Method} {c : Code} (X : knX p m c cX11_reaches 6 s args yX11_reaches.cls) (K : knK G s s.heap) (hr : meth.sig.returnType = (some .boolean)) (hlk : meth.locks = false) {self : Int → Int → Int → Int → knMem → Option (Int × knMem)} (N : Nat) (hself : ∀ {a1 : Int} {a2 : Int} {a3 : Int} {a4 : Int} (ha1 : knKd a1 = 3) (ha2 : knC a2) (ha3 : knC a3) (ha4 : knC a4) {μ : knMem} {q : Int × knMem}, self a1 a2 a3 a4 μ = some q → knC0 G l yX11_reaches cX11_reaches 6 (some .boolean) (4 + N) (90 + N * 25) [knO G 132, knO G a1, knV a2, knV a3, knV a4] μ (knZ q.1) (some (knV q.1)) q.2) (x1 : Int) (x2 : Int) (x4 : Int) (hx1 : knKd x1 = 3) (hx2 : knC x2) (hx4 : knC x4)  (hk : ∀ (μ1 : knMem), kc μ1 = some q → knJ G p l e { frames := 4 + (N + 1), cells := 0, slots := 0, locals := 90 + (N + 1) * 25 } s m args below meth c 6 0 0 (MQ below (knPo G (knZ q.1) (some (knV q.1)) q.2) args s 0 0 (knA G)) 80 [] [] μ1) : ∀ (n : Nat) (x5 : Int) (hx5 : knC x5) (μ : knMem), kfX11_reaches_l41 self x1 x2 x4 kc n x5 μ = some q → knJ G p l e { frames := 4 + (N + 1), cells := 0, slots := 0, locals := 90 + (N + 1) * 25 } s m args below meth c 6 0 0 (MQ below (knPo G (knZ q.1) (some (knV q.1)) q.2) args s 0 0 (knA G)) 41 [(0, knO G 132), (1, knO G x1), (2, knV x2), (4, knV x4), (5, knV x5)] [] μ := by
  intro n
  induction n with
  | zero => intro x5 hx5 μ hf; cases hf
  | succ n ih =>
    intro x5 hx5 μ hf
    unfold kfX11_reaches_l41 at hf
    refine kj_iload X 4 dX11_reaches_41 rfl ?_
    refine kj_aloadn X 1 dX11_reaches_43 rfl ?_
    refine kj_geti (k := 3) (ki := 3) X K rfl hx1 (by decide) (knEnt_3 hx1) rfl (by decide) knInX5 (knGm 181 (by decide +kernel) rfl) rfl rfl dX11_reaches_44 (fun h2 => ?_)
    refine kj_ic_ge X (tgt := 80) dX11_reaches_47 (by decide) hx5 h2 (fun h3 => ?_) (fun h3 => ?_)
    · replace hf := knIp hf h3
      refine kj_sub (L' := []) [] rfl ?_
      exact hk _ hf
    · replace hf := knIq hf h3
      refine kj_aloadn X 0 dX11_reaches_50 rfl ?_
      refine kj_aloadn X 1 dX11_reaches_51 rfl ?_
      refine kj_iloadn X 2 dX11_reaches_52 rfl ?_
      refine kj_iconst X dX11_reaches_53 ?_
      refine kj_iload X 4 dX11_reaches_54 rfl ?_
      refine kj_ishl X dX11_reaches_56 ?_
      refine kj_ior X dX11_reaches_57 ?_
      refine kj_iload X 4 dX11_reaches_58 rfl ?_
      refine kj_iconst X dX11_reaches_60 ?_
      refine kj_iadd X dX11_reaches_61 ?_
      refine kj_iload X 3 dX11_reaches_62 rfl ?_
      refine kj_iconst X dX11_reaches_64 ?_
      refine kj_isub X dX11_reaches_65 ?_
      obtain ⟨q4, h5, hf⟩ := knBd_inv hf
      refine kj_callS (As := [knO G 132, knO G x1, knV (knOr x2 (knShl 1 x5)), knV (knW (x5 + 1)), knV (knW (x4 - 1))]) (rest := []) X K (hself hx1 (knC_or _ _) (knCw _) (knCw _) h5) knWkX11_reaches (knGm 866 (by decide +kernel) rfl) ⟨by show _ ≤ _ + (N + 1); omega, by show _ ≤ _ + (N + 1) * _; omega⟩  rfl (Nat.le_of_ble_eq_true rfl) ⟨Nat.le_refl _, Nat.le_refl _⟩ dX11_reaches_66 rfl (fun h6 => ?_)
      refine kj_if_eq X (tgt := 74) dX11_reaches_69 (by decide) (knZ_c h6) (fun h7 => ?_) (fun h7 => ?_)
      · replace hf := knIp hf h7
        refine kj_iinc X 4 (L' := [(5, knV (knW (x5 + 1))), (0, knO G 132), (1, knO G x1), (2, knV x2), (4, knV x4)]) dX11_reaches_74 rfl (by decide) rfl ?_
        refine kj_goto X (tgt := 41) dX11_reaches_77 (by decide) ?_
        refine kj_sub (L' := [(0, knO G 132), (1, knO G x1), (2, knV x2), (4, knV x4), (5, knV (knW (x5 + 1)))]) [1, 2, 3, 4, 0] rfl ?_
        exact ih _ (knCw _) _ hf
      · replace hf := knIq hf h7
        refine kj_iconst X dX11_reaches_72 ?_
        cases hf
        exact kj_zret X (Or.inr rfl) hr (kn_nb (Or.inr rfl)) dX11_reaches_73 hlk

set_option maxHeartbeats 4000000 in
set_option maxRecDepth 100000 in
theorem kcX11_reaches {G : knGT} (l : Launch) : ∀ (N : Nat) {a1 : Int} {a2 : Int} {a3 : Int} {a4 : Int} (ha1 : knKd a1 = 3) (ha2 : knC a2) (ha3 : knC a3) (ha4 : knC a4) {μ : knMem} {q : Int × knMem}, kfX11_reaches N a1 a2 a3 a4 μ = some q → knC0 G l yX11_reaches cX11_reaches 6 (some .boolean) (4 + N) (90 + N * 25) [knO G 132, knO G a1, knV a2, knV a3, knV a4] μ (knZ q.1) (some (knV q.1)) q.2 := by
  intro N
  induction N with
  | zero => intro a1 a2 a3 a4 ha1 ha2 ha3 ha4 μ q hf; cases hf
  | succ N ih =>
    intro a1 a2 a3 a4 ha1 ha2 ha3 ha4 μ q hf
    unfold kfX11_reaches at hf
    refine kn_ofJ (plainFor_of_name (by decide)) (Nat.le_of_ble_eq_true rfl) (L := [(0, knO G 132), (1, knO G a1), (2, knV a2), (3, knV a3), (4, knV a4)]) rfl ?_
    intro p e s m args below meth c X K hr hlk
    refine kj_iload X 4 dX11_reaches_0 rfl ?_
    refine kj_if_gt X (tgt := 38) dX11_reaches_2 (by decide) ha4 (fun h1 => ?_) (fun h1 => ?_)
    · replace hf := knIp hf h1
      refine kj_iloadn X 3 dX11_reaches_38 rfl ?_
      refine kj_istore X (L' := [(5, knV a3), (0, knO G 132), (1, knO G a1), (2, knV a2), (3, knV a3), (4, knV a4)]) dX11_reaches_39 (by decide) rfl ?_
      refine kj_sub (L' := [(0, knO G 132), (1, knO G a1), (2, knV a2), (4, knV a4), (5, knV a3)]) [1, 2, 3, 5, 0] rfl ?_
      refine kfX11_reaches_l41_ok X K hr hlk N @ih a1 a2 a4 ha1 ha2 ha4  ?_ knF _ ha3 _ hf
      intro w8_m
      intro hf
      refine kj_iconst X dX11_reaches_80 ?_
      cases hf
      exact kj_zret X (Or.inl rfl) hr (kn_nb (Or.inl rfl)) dX11_reaches_81 hlk
    · replace hf := knIq hf h1
      refine kj_aloadn X 0 dX11_reaches_5 rfl ?_
      refine kj_geto (k := 0) (o2 := 133) X K kdc_132 (by decide) (knEnt_8 kdc_132) rfl (by decide) knInX11 (knGm 309 (by decide +kernel) rfl) rfl rfl dX11_reaches_6 ?_
      refine kj_aloadn X 1 dX11_reaches_9 rfl ?_
      refine kj_iloadn X 2 dX11_reaches_10 rfl ?_
      obtain ⟨q9, h10, hf⟩ := knBd_inv hf
      refine kj_callV (As := [knO G a1, knV a2]) (rest := []) X K (kcX5_copySwitched l kdc_133 ha1 ha2 h10) knWvX5_copySwitched (knGm 855 (by decide +kernel) rfl) ⟨by show _ ≤ _ + (N + 1); omega, by show _ ≤ _ + (N + 1) * _; omega⟩ (knKd_in kdc_133 (by decide)) (knEnt_3 kdc_133) rfl rfl rfl (Nat.le_of_ble_eq_true rfl) ⟨Nat.le_refl _, Nat.le_refl _⟩ dX11_reaches_11 rfl (fun h11 => ?_)
      refine kj_aloadn X 0 dX11_reaches_14 rfl ?_
      refine kj_geto (k := 0) (o2 := 133) X K kdc_132 (by decide) (knEnt_8 kdc_132) rfl (by decide) knInX11 (knGm 309 (by decide +kernel) rfl) rfl rfl dX11_reaches_15 ?_
      obtain ⟨q12, h13, hf⟩ := knBd_inv hf
      refine kj_callV (As := []) (rest := []) X K (kcX5_simplify l kdc_133 h13) knWvX5_simplify (knGm 861 (by decide +kernel) rfl) ⟨by show _ ≤ _ + (N + 1); omega, by show _ ≤ _ + (N + 1) * _; omega⟩ (knKd_in kdc_133 (by decide)) (knEnt_3 kdc_133) rfl rfl rfl (Nat.le_of_ble_eq_true rfl) ⟨Nat.le_refl _, Nat.le_refl _⟩ dX11_reaches_18 rfl (fun h14 => ?_)
      refine kj_pop X dX11_reaches_21 rfl ?_
      refine kj_aloadn X 0 dX11_reaches_22 rfl ?_
      refine kj_geto (k := 0) (o2 := 133) X K kdc_132 (by decide) (knEnt_8 kdc_132) rfl (by decide) knInX11 (knGm 309 (by decide +kernel) rfl) rfl rfl dX11_reaches_23 ?_
      refine kj_geti (k := 3) (ki := 3) X K rfl kdc_133 (by decide) (knEnt_3 kdc_133) rfl (by decide) knInX5 (knGm 181 (by decide +kernel) rfl) rfl rfl dX11_reaches_26 (fun h15 => ?_)
      have j17 : ∀ (t17_0 : Int) (et17_0 : t17_0 = (if (q12.2 133 3) = 0 then 1 else 0 : Int)) (ht17_0 : knZ t17_0), knJ G p l e { frames := 4 + (N + 1), cells := 0, slots := 0, locals := 90 + (N + 1) * 25 } s m args below meth c 6 0 0 (MQ below (knPo G (knZ q.1) (some (knV q.1)) q.2) args s 0 0 (knA G)) 37 [] [knV t17_0] q12.2 := by
        intro t17_0 et17_0 ht17_0
        subst et17_0
        cases hf
        exact kj_zret X ht17_0 hr (kn_nb ht17_0) dX11_reaches_37 hlk
      refine kj_if_ne X (tgt := 36) dX11_reaches_29 (by decide) h15 (fun h19 => ?_) (fun h19 => ?_)
      · refine kj_iconst X dX11_reaches_36 ?_
        refine kj_sub (L' := []) [] rfl ?_
        exact j17 0 (by rw [if_neg h19]) (Or.inl rfl)
      · refine kj_iconst X dX11_reaches_32 ?_
        refine kj_goto X (tgt := 37) dX11_reaches_33 (by decide) ?_
        refine kj_sub (L' := []) [] rfl ?_
        exact j17 1 (by rw [if_pos h19]) (Or.inr rfl)

def kfX11_fewestByDepth_l2  (x1 : Int)  (kc : (knMem) → Option (Int × knMem)) : Nat → Int → knMem → Option (Int × knMem)
  | 0, _, _ => none
  | n + 1, x2, μ =>
    if (μ x1 3) < x2 then
     kc μ
    else
     Option.bind (kfX11_reaches 10 x1 0 0 x2 μ) (fun q3 =>
      if q3.1 = 0 then
       kfX11_fewestByDepth_l2  x1 kc n (knW (x2 + 1)) q3.2
      else
       some (x2, q3.2))

def kfX11_fewestByDepth (a1 : Int) (μ : knMem) : Option (Int × knMem) :=
 kfX11_fewestByDepth_l2 a1  (fun w7 =>
  some (-1, w7)) knF 0 μ

theorem knWvX11_fewestByDepth : knWv yX11_fewestByDepth cX11_fewestByDepth 3 (some .int) 1 := ⟨(knGm 865 (by decide +kernel) rfl), (knGm 121 (by decide +kernel) rfl), (knGm 863 (by decide +kernel) rfl), (knGm 864 (by decide +kernel) rfl), by decide +kernel, by decide +kernel, by decide +kernel⟩
set_option maxHeartbeats 4000000 in
set_option maxRecDepth 100000 in
theorem kfX11_fewestByDepth_l2_ok {q : Int × knMem} {kc : (knMem) → Option (Int × knMem)} {G : knGT} {p : Program} {l : Launch} {e : Env} {s : State} {m : MethodId} {args : Array Value} {below : List Frame} {meth : Method} {c : Code} (X : knX p m c cX11_fewestByDepth 3 s args yX11_fewestByDepth.cls) (K : knK G s s.heap) (hr : meth.sig.returnType = (some .int)) (hlk : meth.locks = false) (x1 : Int) (hx1 : knKd x1 = 3)  (hk : ∀ (μ1 : knMem), kc μ1 = some q → knJ G p l e { frames := 15, cells := 0, slots := 0, locals := 365 } s m args below meth c 3 0 0 (MQ below (knPo G (knC q.1) (some (knV q.1)) q.2) args s 0 0 (knA G)) 29 [] [] μ1) : ∀ (n : Nat) (x2 : Int) (hx2 : knC x2) (μ : knMem), kfX11_fewestByDepth_l2  x1 kc n x2 μ = some q → knJ G p l e { frames := 15, cells := 0, slots := 0, locals := 365 } s m args below meth c 3 0 0 (MQ below (knPo G (knC q.1) (some (knV q.1)) q.2) args s 0 0 (knA G)) 2 [(0, knO G 132), (1, knO G x1), (2, knV x2)] [] μ := by
  intro n
  induction n with
  | zero => intro x2 hx2 μ hf; cases hf
  | succ n ih =>
    intro x2 hx2 μ hf
    unfold kfX11_fewestByDepth_l2 at hf
    refine kj_iloadn X 2 dX11_fewestByDepth_2 rfl ?_
    refine kj_aloadn X 1 dX11_fewestByDepth_3 rfl ?_
    refine kj_geti (k := 3) (ki := 3) X K rfl hx1 (by decide) (knEnt_3 hx1) rfl (by decide) knInX5 (knGm 181 (by decide +kernel) rfl) rfl rfl dX11_fewestByDepth_4 (fun h1 => ?_)
    refine kj_ic_gt X (tgt := 29) dX11_fewestByDepth_7 (by decide) hx2 h1 (fun h2 => ?_) (fun h2 => ?_)
    · replace hf := knIp hf h2
      refine kj_sub (L' := []) [] rfl ?_
      exact hk _ hf
    · replace hf := knIq hf h2
      refine kj_aloadn X 0 dX11_fewestByDepth_10 rfl ?_
      refine kj_aloadn X 1 dX11_fewestByDepth_11 rfl ?_
      refine kj_iconst X dX11_fewestByDepth_12 ?_
      refine kj_iconst X dX11_fewestByDepth_13 ?_
      refine kj_iloadn X 2 dX11_fewestByDepth_14 rfl ?_
      obtain ⟨q3, h4, hf⟩ := knBd_inv hf
      refine kj_callS (As := [knO G 132, knO G x1, knV 0, knV 0, knV x2]) (rest := []) X K (kcX11_reaches l 10 hx1 (show knC (0) from ⟨by omega, by omega⟩) (show knC (0) from ⟨by omega, by omega⟩) hx2 h4) knWkX11_reaches (knGm 866 (by decide +kernel) rfl) (by decide)  rfl (Nat.le_of_ble_eq_true rfl) (by decide) dX11_fewestByDepth_15 rfl (fun h5 => ?_)
      refine kj_if_eq X (tgt := 23) dX11_fewestByDepth_18 (by decide) (knZ_c h5) (fun h6 => ?_) (fun h6 => ?_)
      · replace hf := knIp hf h6
        refine kj_iinc X 2 (L' := [(2, knV (knW (x2 + 1))), (0, knO G 132), (1, knO G x1)]) dX11_fewestByDepth_23 rfl (by decide) rfl ?_
        refine kj_goto X (tgt := 2) dX11_fewestByDepth_26 (by decide) ?_
        refine kj_sub (L' := [(0, knO G 132), (1, knO G x1), (2, knV (knW (x2 + 1)))]) [1, 2, 0] rfl ?_
        exact ih _ (knCw _) _ hf
      · replace hf := knIq hf h6
        refine kj_iloadn X 2 dX11_fewestByDepth_21 rfl ?_
        cases hf
        exact kj_iret X hx2 hr dX11_fewestByDepth_22 hlk

set_option maxHeartbeats 4000000 in
set_option maxRecDepth 100000 in
theorem kcX11_fewestByDepth {G : knGT} (l : Launch) {a1 : Int} (ha1 : knKd a1 = 3) {μ : knMem} {q : Int × knMem} (hf : kfX11_fewestByDepth a1 μ = some q) : knC0 G l yX11_fewestByDepth cX11_fewestByDepth 3 (some .int) 15 365 [knO G 132, knO G a1] μ (knC q.1) (some (knV q.1)) q.2 := by
  unfold kfX11_fewestByDepth at hf
  refine kn_ofJ (plainFor_of_name (by decide)) (Nat.le_of_ble_eq_true rfl) (L := [(0, knO G 132), (1, knO G a1)]) rfl ?_
  intro p e s m args below meth c X K hr hlk
  refine kj_iconst X dX11_fewestByDepth_0 ?_
  refine kj_istoren X (L' := [(2, knV 0), (0, knO G 132), (1, knO G a1)]) dX11_fewestByDepth_1 (by decide) rfl ?_
  refine kj_sub (L' := [(0, knO G 132), (1, knO G a1), (2, knV 0)]) [1, 2, 0] rfl ?_
  refine kfX11_fewestByDepth_l2_ok X K hr hlk a1 ha1  ?_ knF _ (show knC (0) from ⟨by omega, by omega⟩) _ hf
  intro w7_m
  intro hf
  refine kj_iconst X dX11_fewestByDepth_29 ?_
  cases hf
  exact kj_iret X (show knC (-1) from ⟨by omega, by omega⟩) hr dX11_fewestByDepth_30 hlk

def kfX12_switchesByDepth  (μ : knMem) : Option (Int × Int × knMem) :=
 Option.bind (kfX11_fewestByDepth 2 μ) (fun q1 =>
  Option.bind (kfX12_requireSwitches q1.1 q1.2) (fun q4 =>
   if q4.1 = 0 then
   some (0, q4.2, q1.2)
   else
   some (q4.1, 0, q1.2)))

theorem knWvX12_switchesByDepth : knWv yX12_switchesByDepth cX12_switchesByDepth 1 (some .int) 0 := ⟨(knGm 1174 (by decide +kernel) rfl), (knGm 114 (by decide +kernel) rfl), (knGm 1172 (by decide +kernel) rfl), (knGm 1173 (by decide +kernel) rfl), by decide +kernel, by decide +kernel, by decide +kernel⟩
set_option maxHeartbeats 4000000 in
set_option maxRecDepth 100000 in
theorem kcX12_switchesByDepth {G : knGT} (l : Launch) (hl : l.stackTraces = false)   {μ : knMem} {q : Int × Int × knMem} (hf : kfX12_switchesByDepth  μ = some q) : knCx G l yX12_switchesByDepth cX12_switchesByDepth 1 (some .int) 16 387 1 6 [knO G 0] μ (knC q.2.1) q.1 (some (knV q.2.1)) q.2.2 := by
  unfold kfX12_switchesByDepth at hf
  refine kn_ofJx (by decide) (Nat.le_of_ble_eq_true rfl) (L := [(0, knO G 0)]) rfl ?_
  intro p e s m args below meth c X K hr hlk hnx
  refine kj_aloadn X 0 dX12_switchesByDepth_0 rfl ?_
  refine kj_geto (k := 8) (o2 := 132) X K kdc_0 (by decide) (knEnt_9 kdc_0) rfl (by decide) knInX12 (knGm 369 (by decide +kernel) rfl) rfl rfl dX12_switchesByDepth_1 ?_
  refine kj_aloadn X 0 dX12_switchesByDepth_4 rfl ?_
  refine kj_geto (k := 1) (o2 := 2) X K kdc_0 (by decide) (knEnt_9 kdc_0) rfl (by decide) knInX12 (knGm 362 (by decide +kernel) rfl) rfl rfl dX12_switchesByDepth_5 ?_
  obtain ⟨q1, h2, hf⟩ := knBd_inv hf
  refine kj_callV (As := [knO G 2]) (rest := []) X K (kcX11_fewestByDepth l kdc_2 h2) knWvX11_fewestByDepth (knGm 862 (by decide +kernel) rfl) (by decide) (knKd_in kdc_132 (by decide)) (knEnt_8 kdc_132) rfl rfl rfl (Nat.le_of_ble_eq_true rfl) (by decide) dX12_switchesByDepth_8 rfl (fun h3 => ?_)
  obtain ⟨q4, h5, hf⟩ := knBd_inv hf
  refine kjx_callS (As := [knV q1.1]) (rest := []) X K (kcX12_requireSwitches l hl h3 h5) knWkX12_requireSwitches (knGm 1165 (by decide +kernel) rfl) (by decide)  rfl (Nat.le_of_ble_eq_true rfl) (by decide) dX12_switchesByDepth_11 rfl (fun h7 h6 => ?_) (fun E8 h7 h9 => ?_)
  · replace hf := knIp hf h7
    cases hf
    exact kjx_iret X h6 rfl (by decide) (by decide) hr dX12_switchesByDepth_14 hlk
  · replace hf := knIq hf h7
    cases hf
    exact kjx_out h7 h9 (by decide) (by decide) hnx hlk

def kfX12_stakeShare (a1 : Int) (μ : knMem) : Option (Int × Int) :=
 Option.bind (kfX12_requirePlayer a1 μ) (fun q1 =>
  if q1 = 0 then
  Option.bind (kfX1_allStakes 6 μ) (fun q7 =>
   if q7 = 0 then
    some (6, 0)
   else
    knGd (0 ≤ a1 ∧ a1 < 4)
     (knGd (knN32 (knFdiv (knI2f (μ 9 a1)) (knI2f q7)))
     (some (0, (knFdiv (knI2f (μ 9 a1)) (knI2f q7))))))
  else
  some (q1, 0))

theorem knWvX12_stakeShare : knWv yX12_stakeShare cX12_stakeShare 3 (some .float) 1 := ⟨(knGm 1291 (by decide +kernel) rfl), (knGm 114 (by decide +kernel) rfl), (knGm 1289 (by decide +kernel) rfl), (knGm 1290 (by decide +kernel) rfl), by decide +kernel, by decide +kernel, by decide +kernel⟩
set_option maxHeartbeats 4000000 in
set_option maxRecDepth 100000 in
theorem kcX12_stakeShare {G : knGT} (l : Launch) (hl : l.stackTraces = false) {a1 : Int} (ha1 : knC a1) {μ : knMem} {q : Int × Int} (hf : kfX12_stakeShare a1 μ = some q) : knCx G l yX12_stakeShare cX12_stakeShare 3 (some .float) 7 121 2 12 [knO G 0, knV a1] μ True q.1 (some (knVf q.2)) μ := by
  unfold kfX12_stakeShare at hf
  refine kn_ofJx (by decide) (Nat.le_of_ble_eq_true rfl) (L := [(0, knO G 0), (1, knV a1)]) rfl ?_
  intro p e s m args below meth c X K hr hlk hnx
  refine kj_aloadn X 0 dX12_stakeShare_0 rfl ?_
  refine kj_iloadn X 1 dX12_stakeShare_1 rfl ?_
  obtain ⟨q1, h2, hf⟩ := knBd_inv hf
  refine kjx_callV (As := [knV a1]) (rest := []) X K (kcX12_requirePlayer l hl ha1 h2) knWvX12_requirePlayer (knGm 1242 (by decide +kernel) rfl) (by decide) (knKd_in kdc_0 (by decide)) (knEnt_9 kdc_0) rfl rfl rfl (Nat.le_of_ble_eq_true rfl) (by decide) dX12_stakeShare_2 rfl (fun h4 h3 => ?_) (fun E5 h4 h6 => ?_)
  · replace hf := knIp hf h4
    refine kj_aloadn X 0 dX12_stakeShare_5 rfl ?_
    refine kj_geto (k := 2) (o2 := 6) X K kdc_0 (by decide) (knEnt_9 kdc_0) rfl (by decide) knInX12 (knGm 363 (by decide +kernel) rfl) rfl rfl dX12_stakeShare_6 ?_
    obtain ⟨q7, h8, hf⟩ := knBd_inv hf
    refine kj_callV (As := []) (rest := []) X K (kcX1_allStakes l kdc_6 h8) knWvX1_allStakes (knGm 788 (by decide +kernel) rfl) (by decide) (knKd_in kdc_6 (by decide)) (knEnt_0 kdc_6) rfl rfl rfl (Nat.le_of_ble_eq_true rfl) (by decide) dX12_stakeShare_9 rfl (fun h9 => ?_)
    refine kj_istoren X (L' := [(2, knV q7), (0, knO G 0), (1, knV a1)]) dX12_stakeShare_12 (by decide) rfl ?_
    refine kj_iloadn X 0 dX12_stakeShare_13 rfl ?_
    refine kj_if_ne X (tgt := 28) dX12_stakeShare_14 (by decide) h9 (fun h10 => ?_) (fun h10 => ?_)
    · replace hf := knIq hf h10
      refine kj_aloadn X 1 dX12_stakeShare_28 rfl ?_
      refine kj_geto (k := 2) (o2 := 6) X K kdc_0 (by decide) (knEnt_9 kdc_0) rfl (by decide) knInX12 (knGm 363 (by decide +kernel) rfl) rfl rfl dX12_stakeShare_29 ?_
      refine kj_geto (k := 2) (o2 := 9) X K kdc_6 (by decide) (knEnt_0 kdc_6) rfl (by decide) knInX1 (knGm 204 (by decide +kernel) rfl) rfl rfl dX12_stakeShare_32 ?_
      refine kj_iloadn X 2 dX12_stakeShare_35 rfl ?_
      obtain ⟨h11, hf⟩ := knGd_inv hf
      refine kj_iald X K kdc_9 ha1 lnc_9 h11 dX12_stakeShare_36 (fun h12 => ?_)
      refine kj_i2f X dX12_stakeShare_37 ?_
      refine kj_iloadn X 0 dX12_stakeShare_38 rfl ?_
      refine kj_i2f X dX12_stakeShare_39 ?_
      obtain ⟨h13, hf⟩ := knGd_inv hf
      refine kj_fdiv X dX12_stakeShare_40 h13 ?_
      cases hf
      exact kjx_fret X trivial rfl (by decide) (by decide) hr dX12_stakeShare_41 hlk
    · replace hf := knIp hf h10
      cases hf
      exact kjx_throwW X K hl (i := 13) (by show (6 : Int) ≠ 0; decide) rfl (by decide +kernel) (by decide) rfl rfl knTh6.1 knTh6.2 dX12_stakeShare_17 dX12_stakeShare_20 dX12_stakeShare_21 dX12_stakeShare_24 dX12_stakeShare_27 hnx (by decide) hlk (by decide) (by decide)
  · replace hf := knIq hf h4
    cases hf
    exact kjx_out h4 h6 (by decide) (by decide) hnx hlk

def kfX12_isConsistent  (μ : knMem) : Option (Int × knMem) :=
 Option.bind (kfX2_sumStates 2 μ) (fun q1 =>
  Option.bind (kfX2_resolveAll 2 q1) (fun q4 =>
   Option.bind (kfX3_countByElimination 2 3 q4) (fun q7 =>
    Option.bind (kfX2_waysAgree  q7.2) (fun q10 =>
     (fun (k31 : (knMem) → Option (Int × knMem)) =>
      if q10 = 0 then
       k31 q7.2
      else
       Option.bind (kfX3_countByTrying 2 q7.2) (fun q34 =>
        if q7.1 = q34.1 then
         if (knRem q7.1 3) = 0 then
          Option.bind (kfX11_fewest 2 q34.2) (fun q39 =>
           Option.bind (kfX11_fewestByDepth 2 q39.2) (fun q42 =>
            if q39.1 = q42.1 then
             Option.bind (kfX1_allCoins 6 q42.2) (fun q46 =>
              if q46 = (knW (100 * (q42.2 6 3))) then
               some (1, q42.2)
              else
               k31 q42.2)
            else
             k31 q42.2))
         else
          k31 q34.2
        else
         k31 q34.2))
      (fun q31 =>
      some (0, q31))))))

theorem knWvX12_isConsistent : knWv yX12_isConsistent cX12_isConsistent 2 (some .boolean) 0 := ⟨(knGm 799 (by decide +kernel) rfl), (knGm 114 (by decide +kernel) rfl), (knGm 797 (by decide +kernel) rfl), (knGm 798 (by decide +kernel) rfl), by decide +kernel, by decide +kernel, by decide +kernel⟩
set_option maxHeartbeats 4000000 in
set_option maxRecDepth 100000 in
theorem kcX12_isConsistent {G : knGT} (l : Launch)   {μ : knMem} {q : Int × knMem} (hf : kfX12_isConsistent  μ = some q) : knC0 G l yX12_isConsistent cX12_isConsistent 2 (some .boolean) 18 460 [knO G 0] μ (knZ q.1) (some (knV q.1)) q.2 := by
  unfold kfX12_isConsistent at hf
  refine kn_ofJ (plainFor_of_name (by decide)) (Nat.le_of_ble_eq_true rfl) (L := [(0, knO G 0)]) rfl ?_
  intro p e s m args below meth c X K hr hlk
  refine kj_aloadn X 0 dX12_isConsistent_0 rfl ?_
  refine kj_geto (k := 7) (o2 := 119) X K kdc_0 (by decide) (knEnt_9 kdc_0) rfl (by decide) knInX12 (knGm 368 (by decide +kernel) rfl) rfl rfl dX12_isConsistent_1 ?_
  refine kj_aloadn X 0 dX12_isConsistent_4 rfl ?_
  refine kj_geto (k := 1) (o2 := 2) X K kdc_0 (by decide) (knEnt_9 kdc_0) rfl (by decide) knInX12 (knGm 362 (by decide +kernel) rfl) rfl rfl dX12_isConsistent_5 ?_
  obtain ⟨q1, h2, hf⟩ := knBd_inv hf
  refine kj_callV (As := [knO G 2]) (rest := []) X K (kcX2_sumStates l kdc_2 h2) knWvX2_sumStates (knGm 800 (by decide +kernel) rfl) (by decide) (knKd_in kdc_119 (by decide)) (knEnt_1 kdc_119) rfl rfl rfl (Nat.le_of_ble_eq_true rfl) (by decide) dX12_isConsistent_8 rfl (fun h3 => ?_)
  refine kj_aloadn X 0 dX12_isConsistent_11 rfl ?_
  refine kj_geto (k := 7) (o2 := 119) X K kdc_0 (by decide) (knEnt_9 kdc_0) rfl (by decide) knInX12 (knGm 368 (by decide +kernel) rfl) rfl rfl dX12_isConsistent_12 ?_
  refine kj_aloadn X 0 dX12_isConsistent_15 rfl ?_
  refine kj_geto (k := 1) (o2 := 2) X K kdc_0 (by decide) (knEnt_9 kdc_0) rfl (by decide) knInX12 (knGm 362 (by decide +kernel) rfl) rfl rfl dX12_isConsistent_16 ?_
  obtain ⟨q4, h5, hf⟩ := knBd_inv hf
  refine kj_callV (As := [knO G 2]) (rest := []) X K (kcX2_resolveAll l kdc_2 h5) knWvX2_resolveAll (knGm 801 (by decide +kernel) rfl) (by decide) (knKd_in kdc_119 (by decide)) (knEnt_1 kdc_119) rfl rfl rfl (Nat.le_of_ble_eq_true rfl) (by decide) dX12_isConsistent_19 rfl (fun h6 => ?_)
  refine kj_aloadn X 0 dX12_isConsistent_22 rfl ?_
  refine kj_geto (k := 6) (o2 := 106) X K kdc_0 (by decide) (knEnt_9 kdc_0) rfl (by decide) knInX12 (knGm 367 (by decide +kernel) rfl) rfl rfl dX12_isConsistent_23 ?_
  refine kj_aloadn X 0 dX12_isConsistent_26 rfl ?_
  refine kj_geto (k := 1) (o2 := 2) X K kdc_0 (by decide) (knEnt_9 kdc_0) rfl (by decide) knInX12 (knGm 362 (by decide +kernel) rfl) rfl rfl dX12_isConsistent_27 ?_
  refine kj_iconst X dX12_isConsistent_30 ?_
  obtain ⟨q7, h8, hf⟩ := knBd_inv hf
  refine kj_callV (As := [knO G 2, knV 3]) (rest := []) X K (kcX3_countByElimination l kdc_2 (show knC (3) from ⟨by omega, by omega⟩) h8) knWvX3_countByElimination (knGm 811 (by decide +kernel) rfl) (by decide) (knKd_in kdc_106 (by decide)) (knEnt_2 kdc_106) rfl rfl rfl (Nat.le_of_ble_eq_true rfl) (by decide) dX12_isConsistent_31 rfl (fun h9 => ?_)
  refine kj_istoren X (L' := [(1, knV q7.1), (0, knO G 0)]) dX12_isConsistent_34 (by decide) rfl ?_
  refine kj_aloadn X 1 dX12_isConsistent_35 rfl ?_
  refine kj_geto (k := 7) (o2 := 119) X K kdc_0 (by decide) (knEnt_9 kdc_0) rfl (by decide) knInX12 (knGm 368 (by decide +kernel) rfl) rfl rfl dX12_isConsistent_36 ?_
  obtain ⟨q10, h11, hf⟩ := knBd_inv hf
  refine kj_callV (As := []) (rest := []) X K (kcX2_waysAgree l  h11) knWvX2_waysAgree (knGm 840 (by decide +kernel) rfl) (by decide) (knKd_in kdc_119 (by decide)) (knEnt_1 kdc_119) rfl rfl rfl (Nat.le_of_ble_eq_true rfl) (by decide) dX12_isConsistent_39 rfl (fun h12 => ?_)
  have j31 : ∀ (m31 : knMem), (fun q31 =>
   some (0, q31)) m31 = some q → knJ G p l e { frames := 18, cells := 0, slots := 0, locals := 460 } s m args below meth c 2 0 0 (MQ below (knPo G (knZ q.1) (some (knV q.1)) q.2) args s 0 0 (knA G)) 115 [] [] m31 := by
    intro m31
    intro hf
    refine kj_iconst X dX12_isConsistent_115 ?_
    cases hf
    exact kj_zret X (Or.inl rfl) hr (kn_nb (Or.inl rfl)) dX12_isConsistent_116 hlk
  refine kj_if_eq X (tgt := 115) dX12_isConsistent_42 (by decide) (knZ_c h12) (fun h33 => ?_) (fun h33 => ?_)
  · replace hf := knIp hf h33
    refine kj_sub (L' := []) [] rfl ?_
    exact j31 _ hf
  · replace hf := knIq hf h33
    refine kj_iloadn X 0 dX12_isConsistent_45 rfl ?_
    refine kj_aloadn X 1 dX12_isConsistent_46 rfl ?_
    refine kj_geto (k := 6) (o2 := 106) X K kdc_0 (by decide) (knEnt_9 kdc_0) rfl (by decide) knInX12 (knGm 367 (by decide +kernel) rfl) rfl rfl dX12_isConsistent_47 ?_
    refine kj_aloadn X 1 dX12_isConsistent_50 rfl ?_
    refine kj_geto (k := 1) (o2 := 2) X K kdc_0 (by decide) (knEnt_9 kdc_0) rfl (by decide) knInX12 (knGm 362 (by decide +kernel) rfl) rfl rfl dX12_isConsistent_51 ?_
    obtain ⟨q34, h35, hf⟩ := knBd_inv hf
    refine kj_callV (As := [knO G 2]) (rest := [knV q7.1]) X K (kcX3_countByTrying l kdc_2 h35) knWvX3_countByTrying (knGm 686 (by decide +kernel) rfl) (by decide) (knKd_in kdc_106 (by decide)) (knEnt_2 kdc_106) rfl rfl rfl (Nat.le_of_ble_eq_true rfl) (by decide) dX12_isConsistent_54 rfl (fun h36 => ?_)
    refine kj_ic_ne X (tgt := 115) dX12_isConsistent_57 (by decide) h9 h36 (fun h37 => ?_) (fun h37 => ?_)
    · replace hf := knIq hf h37
      refine kj_sub (L' := []) [] rfl ?_
      exact j31 _ hf
    · replace hf := knIp hf h37
      refine kj_iloadn X 0 dX12_isConsistent_60 rfl ?_
      refine kj_iconst X dX12_isConsistent_61 ?_
      refine kj_irem X dX12_isConsistent_62 (show knC (3) from ⟨by omega, by omega⟩) (by decide) ?_
      refine kj_if_ne X (tgt := 115) dX12_isConsistent_63 (by decide) (knC_rem _ _) (fun h38 => ?_) (fun h38 => ?_)
      · replace hf := knIq hf h38
        refine kj_sub (L' := []) [] rfl ?_
        exact j31 _ hf
      · replace hf := knIp hf h38
        refine kj_aloadn X 1 dX12_isConsistent_66 rfl ?_
        refine kj_geto (k := 8) (o2 := 132) X K kdc_0 (by decide) (knEnt_9 kdc_0) rfl (by decide) knInX12 (knGm 369 (by decide +kernel) rfl) rfl rfl dX12_isConsistent_67 ?_
        refine kj_aloadn X 1 dX12_isConsistent_70 rfl ?_
        refine kj_geto (k := 1) (o2 := 2) X K kdc_0 (by decide) (knEnt_9 kdc_0) rfl (by decide) knInX12 (knGm 362 (by decide +kernel) rfl) rfl rfl dX12_isConsistent_71 ?_
        obtain ⟨q39, h40, hf⟩ := knBd_inv hf
        refine kj_callV (As := [knO G 2]) (rest := []) X K (kcX11_fewest l kdc_2 h40) knWvX11_fewest (knGm 844 (by decide +kernel) rfl) (by decide) (knKd_in kdc_132 (by decide)) (knEnt_8 kdc_132) rfl rfl rfl (Nat.le_of_ble_eq_true rfl) (by decide) dX12_isConsistent_74 rfl (fun h41 => ?_)
        refine kj_aloadn X 1 dX12_isConsistent_77 rfl ?_
        refine kj_geto (k := 8) (o2 := 132) X K kdc_0 (by decide) (knEnt_9 kdc_0) rfl (by decide) knInX12 (knGm 369 (by decide +kernel) rfl) rfl rfl dX12_isConsistent_78 ?_
        refine kj_aloadn X 1 dX12_isConsistent_81 rfl ?_
        refine kj_geto (k := 1) (o2 := 2) X K kdc_0 (by decide) (knEnt_9 kdc_0) rfl (by decide) knInX12 (knGm 362 (by decide +kernel) rfl) rfl rfl dX12_isConsistent_82 ?_
        obtain ⟨q42, h43, hf⟩ := knBd_inv hf
        refine kj_callV (As := [knO G 2]) (rest := [knV q39.1]) X K (kcX11_fewestByDepth l kdc_2 h43) knWvX11_fewestByDepth (knGm 862 (by decide +kernel) rfl) (by decide) (knKd_in kdc_132 (by decide)) (knEnt_8 kdc_132) rfl rfl rfl (Nat.le_of_ble_eq_true rfl) (by decide) dX12_isConsistent_85 rfl (fun h44 => ?_)
        refine kj_ic_ne X (tgt := 115) dX12_isConsistent_88 (by decide) h41 h44 (fun h45 => ?_) (fun h45 => ?_)
        · replace hf := knIq hf h45
          refine kj_sub (L' := []) [] rfl ?_
          exact j31 _ hf
        · replace hf := knIp hf h45
          refine kj_aloadn X 1 dX12_isConsistent_91 rfl ?_
          refine kj_geto (k := 2) (o2 := 6) X K kdc_0 (by decide) (knEnt_9 kdc_0) rfl (by decide) knInX12 (knGm 363 (by decide +kernel) rfl) rfl rfl dX12_isConsistent_92 ?_
          obtain ⟨q46, h47, hf⟩ := knBd_inv hf
          refine kj_callV (As := []) (rest := []) X K (kcX1_allCoins l kdc_6 h47) knWvX1_allCoins (knGm 869 (by decide +kernel) rfl) (by decide) (knKd_in kdc_6 (by decide)) (knEnt_0 kdc_6) rfl rfl rfl (Nat.le_of_ble_eq_true rfl) (by decide) dX12_isConsistent_95 rfl (fun h48 => ?_)
          refine kj_bipush X (n := 100) dX12_isConsistent_98 rfl ?_
          refine kj_aloadn X 1 dX12_isConsistent_100 rfl ?_
          refine kj_geto (k := 2) (o2 := 6) X K kdc_0 (by decide) (knEnt_9 kdc_0) rfl (by decide) knInX12 (knGm 363 (by decide +kernel) rfl) rfl rfl dX12_isConsistent_101 ?_
          refine kj_geti (k := 3) (ki := 3) X K rfl kdc_6 (by decide) (knEnt_0 kdc_6) rfl (by decide) knInX1 (knGm 206 (by decide +kernel) rfl) rfl rfl dX12_isConsistent_104 (fun h49 => ?_)
          refine kj_imul X dX12_isConsistent_107 ?_
          refine kj_ic_ne X (tgt := 115) dX12_isConsistent_108 (by decide) h48 (knCw _) (fun h50 => ?_) (fun h50 => ?_)
          · replace hf := knIq hf h50
            refine kj_sub (L' := []) [] rfl ?_
            exact j31 _ hf
          · replace hf := knIp hf h50
            refine kj_iconst X dX12_isConsistent_111 ?_
            refine kj_goto X (tgt := 116) dX12_isConsistent_112 (by decide) ?_
            cases hf
            exact kj_zret X (Or.inr rfl) hr (kn_nb (Or.inr rfl)) dX12_isConsistent_116 hlk

def kfX13_power_l4  (x0 : Int) (μ : knMem) (kc : (Int) → Option (Int)) : Nat → Int → Int → Option (Int)
  | 0, _, _ => none
  | n + 1, x1, x3 =>
    if x0 ≤ x3 then
     kc x1
    else
     knGd (knN64 (knDmul x1 4611686018427387904))
      (kfX13_power_l4  x0 μ kc n (knDmul x1 4611686018427387904) (knW (x3 + 1)))

def kfX13_power_l23   (μ : knMem) (kc : (Int) → Option (Int)) : Nat → Int → Int → Option (Int)
  | 0, _, _ => none
  | n + 1, x1, x3 =>
    if 0 ≤ x3 then
     kc x1
    else
     knGd (knN64 (knDmul x1 4602678819172646912))
      (kfX13_power_l23   μ kc n (knDmul x1 4602678819172646912) (knW (x3 + 1)))

def kfX13_power (a0 : Int) (μ : knMem) : Option (Int) :=
 kfX13_power_l4 a0 μ (fun w3 =>
  kfX13_power_l23  μ (fun w6 =>
   some w6) knF w3 a0) knF 4607182418800017408 0

theorem knWkX13_power : knWk yX13_power cX13_power 4 (some .double) 1 := ⟨(knGm 1938 (by decide +kernel) rfl), (knGm 124 (by decide +kernel) rfl), (knGm 1937 (by decide +kernel) rfl), by decide +kernel, by decide +kernel, by decide +kernel⟩
set_option maxHeartbeats 4000000 in
set_option maxRecDepth 100000 in
theorem kfX13_power_l4_ok {q : Int} {kc : (Int) → Option (Int)} {G : knGT} {p : Program} {l : Launch} {e : Env} {s : State} {m : MethodId} {args : Array Value} {below : List Frame} {meth : Method} {c : Code} (X : knX p m c cX13_power 4 s args yX13_power.cls) (K : knK G s s.heap) (hr : meth.sig.returnType = (some .double)) (hlk : meth.locks = false) (x0 : Int) (hx0 : knC x0) (μ : knMem) (hk : ∀ (y1 : Int) , kc y1 = some q → knJ G p l e { frames := 0, cells := 0, slots := 0, locals := 0 } s m args below meth c 4 0 0 (MQ below (knPo G True (some (knVd q)) μ) args s 0 0 (knA G)) 21 [(0, knV x0), (1, knVd y1)] [] μ) : ∀ (n : Nat) (x1 : Int)  (x3 : Int) (hx3 : knC x3) , kfX13_power_l4  x0 μ kc n x1 x3 = some q → knJ G p l e { frames := 0, cells := 0, slots := 0, locals := 0 } s m args below meth c 4 0 0 (MQ below (knPo G True (some (knVd q)) μ) args s 0 0 (knA G)) 4 [(0, knV x0), (1, knVd x1), (3, knV x3)] [] μ := by
  intro n
  induction n with
  | zero => intro x1  x3 hx3 hf; cases hf
  | succ n ih =>
    intro x1  x3 hx3 hf
    unfold kfX13_power_l4 at hf
    refine kj_iloadn X 2 dX13_power_4 rfl ?_
    refine kj_iloadn X 0 dX13_power_5 rfl ?_
    refine kj_ic_ge X (tgt := 21) dX13_power_6 (by decide) hx3 hx0 (fun h1 => ?_) (fun h1 => ?_)
    · replace hf := knIp hf h1
      refine kj_sub (L' := [(0, knV x0), (1, knVd x1)]) [0, 1] rfl ?_
      exact hk _  hf
    · replace hf := knIq hf h1
      refine kj_dloadn X 1 dX13_power_9 rfl ?_
      refine kj_ldc2d (x := 4611686018427387904) X (knGm 1939 (by decide +kernel) rfl) dX13_power_10 ?_
      obtain ⟨h2, hf⟩ := knGd_inv hf
      refine kj_dmul X dX13_power_13 h2 ?_
      refine kj_dstoren X (L' := [(1, knVd (knDmul x1 4611686018427387904)), (0, knV x0), (3, knV x3)]) dX13_power_14 (by decide) rfl ?_
      refine kj_iinc X 2 (L' := [(3, knV (knW (x3 + 1))), (1, knVd (knDmul x1 4611686018427387904)), (0, knV x0)]) dX13_power_15 rfl (by decide) rfl ?_
      refine kj_goto X (tgt := 4) dX13_power_18 (by decide) ?_
      refine kj_sub (L' := [(0, knV x0), (1, knVd (knDmul x1 4611686018427387904)), (3, knV (knW (x3 + 1)))]) [2, 1, 0] rfl ?_
      exact ih _  _ (knCw _)  hf

set_option maxHeartbeats 4000000 in
set_option maxRecDepth 100000 in
theorem kfX13_power_l23_ok {q : Int} {kc : (Int) → Option (Int)} {G : knGT} {p : Program} {l : Launch} {e : Env} {s : State} {m : MethodId} {args : Array Value} {below : List Frame} {meth : Method} {c : Code} (X : knX p m c cX13_power 4 s args yX13_power.cls) (K : knK G s s.heap) (hr : meth.sig.returnType = (some .double)) (hlk : meth.locks = false)   (μ : knMem) (hk : ∀ (y1 : Int) , kc y1 = some q → knJ G p l e { frames := 0, cells := 0, slots := 0, locals := 0 } s m args below meth c 4 0 0 (MQ below (knPo G True (some (knVd q)) μ) args s 0 0 (knA G)) 39 [(1, knVd y1)] [] μ) : ∀ (n : Nat) (x1 : Int)  (x3 : Int) (hx3 : knC x3) , kfX13_power_l23   μ kc n x1 x3 = some q → knJ G p l e { frames := 0, cells := 0, slots := 0, locals := 0 } s m args below meth c 4 0 0 (MQ below (knPo G True (some (knVd q)) μ) args s 0 0 (knA G)) 23 [(1, knVd x1), (3, knV x3)] [] μ := by
  intro n
  induction n with
  | zero => intro x1  x3 hx3 hf; cases hf
  | succ n ih =>
    intro x1  x3 hx3 hf
    unfold kfX13_power_l23 at hf
    refine kj_iloadn X 1 dX13_power_23 rfl ?_
    refine kj_if_ge X (tgt := 39) dX13_power_24 (by decide) hx3 (fun h4 => ?_) (fun h4 => ?_)
    · replace hf := knIp hf h4
      refine kj_sub (L' := [(1, knVd x1)]) [0] rfl ?_
      exact hk _  hf
    · replace hf := knIq hf h4
      refine kj_dloadn X 0 dX13_power_27 rfl ?_
      refine kj_ldc2d (x := 4602678819172646912) X (knGm 1940 (by decide +kernel) rfl) dX13_power_28 ?_
      obtain ⟨h5, hf⟩ := knGd_inv hf
      refine kj_dmul X dX13_power_31 h5 ?_
      refine kj_dstoren X (L' := [(1, knVd (knDmul x1 4602678819172646912)), (3, knV x3)]) dX13_power_32 (by decide) rfl ?_
      refine kj_iinc X 1 (L' := [(3, knV (knW (x3 + 1))), (1, knVd (knDmul x1 4602678819172646912))]) dX13_power_33 rfl (by decide) rfl ?_
      refine kj_goto X (tgt := 23) dX13_power_36 (by decide) ?_
      refine kj_sub (L' := [(1, knVd (knDmul x1 4602678819172646912)), (3, knV (knW (x3 + 1)))]) [1, 0] rfl ?_
      exact ih _  _ (knCw _)  hf

set_option maxHeartbeats 4000000 in
set_option maxRecDepth 100000 in
theorem kcX13_power {G : knGT} (l : Launch) {a0 : Int} (ha0 : knC a0) {μ : knMem} {q : Int} (hf : kfX13_power a0 μ = some q) : knC0 G l yX13_power cX13_power 4 (some .double) 0 0 [knV a0] μ True (some (knVd q)) μ := by
  unfold kfX13_power at hf
  refine kn_ofJ (plainFor_of_name (by decide)) (Nat.le_of_ble_eq_true rfl) (L := [(0, knV a0)]) rfl ?_
  intro p e s m args below meth c X K hr hlk
  refine kj_dconst1 X dX13_power_0 ?_
  refine kj_dstoren X (L' := [(1, knVd 4607182418800017408), (0, knV a0)]) dX13_power_1 (by decide) rfl ?_
  refine kj_iconst X dX13_power_2 ?_
  refine kj_istoren X (L' := [(3, knV 0), (1, knVd 4607182418800017408), (0, knV a0)]) dX13_power_3 (by decide) rfl ?_
  refine kj_sub (L' := [(0, knV a0), (1, knVd 4607182418800017408), (3, knV 0)]) [2, 1, 0] rfl ?_
  refine kfX13_power_l4_ok X K hr hlk a0 ha0 μ ?_ knF _  _ (show knC (0) from ⟨by omega, by omega⟩)  hf
  intro w3_0
  intro hf
  refine kj_iloadn X 0 dX13_power_21 rfl ?_
  refine kj_istoren X (L' := [(3, knV a0), (0, knV a0), (1, knVd w3_0)]) dX13_power_22 (by decide) rfl ?_
  refine kj_sub (L' := [(1, knVd w3_0), (3, knV a0)]) [2, 0] rfl ?_
  refine kfX13_power_l23_ok X K hr hlk   μ ?_ knF _  _ ha0  hf
  intro w7_0
  intro hf
  refine kj_dloadn X 0 dX13_power_39 rfl ?_
  cases hf
  exact kj_dret X trivial hr dX13_power_40 hlk

