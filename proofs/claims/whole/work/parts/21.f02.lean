def kfX5_dropLowestPoke_l14  (x0 : Int) (x1 : Int) (μ : knMem) (kc : (Unit) → Option (Int × knMem)) : Nat → Int → Option (Int × knMem)
  | 0, _ => none
  | n + 1, x2 =>
    if (μ x0 3) ≤ x2 then
     kc ()
    else
     Option.bind (kfX5_pokes x0 x1 x2 μ) (fun q5 =>
      if q5 = 0 then
       kfX5_dropLowestPoke_l14  x0 x1 μ kc n (knW (x2 + 1))
      else
       Option.bind (kfX5_remove x0 x2 μ) (fun q9 =>
        Option.bind (kfX5_remove x0 x1 q9) (fun q12 =>
         some (1, q12))))

def kfX5_dropLowestPoke_l2  (x0 : Int) (μ : knMem) (kc : (Unit) → Option (Int × knMem)) : Nat → Int → Option (Int × knMem)
  | 0, _ => none
  | n + 1, x1 =>
    if (μ x0 3) ≤ x1 then
     kc ()
    else
     kfX5_dropLowestPoke_l14 x0 x1 μ (fun _ =>
      kfX5_dropLowestPoke_l2  x0 μ kc n (knW (x1 + 1))) knF (knW (x1 + 1))

def kfX5_dropLowestPoke (a0 : Int) (μ : knMem) : Option (Int × knMem) :=
 kfX5_dropLowestPoke_l2 a0 μ (fun _ =>
  some (0, μ)) knF 0

theorem knWvX5_dropLowestPoke : knWv yX5_dropLowestPoke cX5_dropLowestPoke 3 (some .boolean) 0 := ⟨(knGm 640 (by decide +kernel) rfl), (knGm 116 (by decide +kernel) rfl), (knGm 639 (by decide +kernel) rfl), (knGm 6 (by decide +kernel) rfl), by decide +kernel, by decide +kernel, by decide +kernel⟩
set_option maxHeartbeats 4000000 in
set_option maxRecDepth 100000 in
theorem kfX5_dropLowestPoke_l14_ok {q : Int × knMem} {kc : (Unit) → Option (Int × knMem)} {G : knGT} {p : Program} {l : Launch} {e : Env} {s : State} {m : MethodId} {args : Array Value} {below : List Frame} {meth : Method} {c : Code} (X : knX p m c cX5_dropLowestPoke 3 s args yX5_dropLowestPoke.cls) (K : knK G s s.heap) (hr : meth.sig.returnType = (some .boolean)) (hlk : meth.locks = false) (x0 : Int) (x1 : Int) (hx0 : knKd x0 = 3) (hx1 : knC x1) (μ : knMem) (hk : kc () = some q → knJ G p l e { frames := 2, cells := 0, slots := 0, locals := 47 } s m args below meth c 3 0 0 (MQ below (knPo G (knZ q.1) (some (knV q.1)) q.2) args s 0 0 (knA G)) 49 [(0, knO G x0), (1, knV x1)] [] μ) : ∀ (n : Nat) (x2 : Int) (hx2 : knC x2) , kfX5_dropLowestPoke_l14  x0 x1 μ kc n x2 = some q → knJ G p l e { frames := 2, cells := 0, slots := 0, locals := 47 } s m args below meth c 3 0 0 (MQ below (knPo G (knZ q.1) (some (knV q.1)) q.2) args s 0 0 (knA G)) 14 [(0, knO G x0), (1, knV x1), (2, knV x2)] [] μ := by
  intro n
  induction n with
  | zero => intro x2 hx2 hf; cases hf
  | succ n ih =>
    intro x2 hx2 hf
    unfold kfX5_dropLowestPoke_l14 at hf
    refine kj_iloadn X 2 dX5_dropLowestPoke_14 rfl ?_
    refine kj_aloadn X 0 dX5_dropLowestPoke_15 rfl ?_
    refine kj_geti (k := 3) (ki := 3) X K rfl hx0 (by decide) (knEnt_3 hx0) rfl (by decide) knInX5 (knGm 177 (by decide +kernel) rfl) rfl rfl dX5_dropLowestPoke_16 (fun h3 => ?_)
    refine kj_ic_ge X (tgt := 49) dX5_dropLowestPoke_19 (by decide) hx2 h3 (fun h4 => ?_) (fun h4 => ?_)
    · replace hf := knIp hf h4
      refine kj_sub (L' := [(0, knO G x0), (1, knV x1)]) [0, 1] rfl ?_
      exact hk  hf
    · replace hf := knIq hf h4
      refine kj_aloadn X 0 dX5_dropLowestPoke_22 rfl ?_
      refine kj_iloadn X 1 dX5_dropLowestPoke_23 rfl ?_
      refine kj_iloadn X 2 dX5_dropLowestPoke_24 rfl ?_
      obtain ⟨q5, h6, hf⟩ := knBd_inv hf
      refine kj_callV (As := [knV x1, knV x2]) (rest := []) X K (kcX5_pokes l hx0 hx1 hx2 h6) knWvX5_pokes (knGm 641 (by decide +kernel) rfl) (by decide) (knKd_in hx0 (by decide)) (knEnt_3 hx0) rfl rfl rfl (Nat.le_of_ble_eq_true rfl) (by decide) dX5_dropLowestPoke_25 rfl (fun h7 => ?_)
      refine kj_if_eq X (tgt := 43) dX5_dropLowestPoke_28 (by decide) (knZ_c h7) (fun h8 => ?_) (fun h8 => ?_)
      · replace hf := knIp hf h8
        refine kj_iinc X 2 (L' := [(2, knV (knW (x2 + 1))), (0, knO G x0), (1, knV x1)]) dX5_dropLowestPoke_43 rfl (by decide) rfl ?_
        refine kj_goto X (tgt := 14) dX5_dropLowestPoke_46 (by decide) ?_
        refine kj_sub (L' := [(0, knO G x0), (1, knV x1), (2, knV (knW (x2 + 1)))]) [1, 2, 0] rfl ?_
        exact ih _ (knCw _)  hf
      · replace hf := knIq hf h8
        refine kj_aloadn X 0 dX5_dropLowestPoke_31 rfl ?_
        refine kj_iloadn X 2 dX5_dropLowestPoke_32 rfl ?_
        obtain ⟨q9, h10, hf⟩ := knBd_inv hf
        refine kj_callV (As := [knV x2]) (rest := []) X K (kcX5_remove l hx0 hx2 h10) knWvX5_remove (knGm 630 (by decide +kernel) rfl) (by decide) (knKd_in hx0 (by decide)) (knEnt_3 hx0) rfl rfl rfl (Nat.le_of_ble_eq_true rfl) (by decide) dX5_dropLowestPoke_33 rfl (fun h11 => ?_)
        refine kj_aloadn X 0 dX5_dropLowestPoke_36 rfl ?_
        refine kj_iloadn X 1 dX5_dropLowestPoke_37 rfl ?_
        obtain ⟨q12, h13, hf⟩ := knBd_inv hf
        refine kj_callV (As := [knV x1]) (rest := []) X K (kcX5_remove l hx0 hx1 h13) knWvX5_remove (knGm 630 (by decide +kernel) rfl) (by decide) (knKd_in hx0 (by decide)) (knEnt_3 hx0) rfl rfl rfl (Nat.le_of_ble_eq_true rfl) (by decide) dX5_dropLowestPoke_38 rfl (fun h14 => ?_)
        refine kj_iconst X dX5_dropLowestPoke_41 ?_
        cases hf
        exact kj_zret X (Or.inr rfl) hr (kn_nb (Or.inr rfl)) dX5_dropLowestPoke_42 hlk

set_option maxHeartbeats 4000000 in
set_option maxRecDepth 100000 in
theorem kfX5_dropLowestPoke_l2_ok {q : Int × knMem} {kc : (Unit) → Option (Int × knMem)} {G : knGT} {p : Program} {l : Launch} {e : Env} {s : State} {m : MethodId} {args : Array Value} {below : List Frame} {meth : Method} {c : Code} (X : knX p m c cX5_dropLowestPoke 3 s args yX5_dropLowestPoke.cls) (K : knK G s s.heap) (hr : meth.sig.returnType = (some .boolean)) (hlk : meth.locks = false) (x0 : Int) (hx0 : knKd x0 = 3) (μ : knMem) (hk : kc () = some q → knJ G p l e { frames := 2, cells := 0, slots := 0, locals := 47 } s m args below meth c 3 0 0 (MQ below (knPo G (knZ q.1) (some (knV q.1)) q.2) args s 0 0 (knA G)) 55 [] [] μ) : ∀ (n : Nat) (x1 : Int) (hx1 : knC x1) , kfX5_dropLowestPoke_l2  x0 μ kc n x1 = some q → knJ G p l e { frames := 2, cells := 0, slots := 0, locals := 47 } s m args below meth c 3 0 0 (MQ below (knPo G (knZ q.1) (some (knV q.1)) q.2) args s 0 0 (knA G)) 2 [(0, knO G x0), (1, knV x1)] [] μ := by
  intro n
  induction n with
  | zero => intro x1 hx1 hf; cases hf
  | succ n ih =>
    intro x1 hx1 hf
    unfold kfX5_dropLowestPoke_l2 at hf
    refine kj_iloadn X 1 dX5_dropLowestPoke_2 rfl ?_
    refine kj_aloadn X 0 dX5_dropLowestPoke_3 rfl ?_
    refine kj_geti (k := 3) (ki := 3) X K rfl hx0 (by decide) (knEnt_3 hx0) rfl (by decide) knInX5 (knGm 177 (by decide +kernel) rfl) rfl rfl dX5_dropLowestPoke_4 (fun h1 => ?_)
    refine kj_ic_ge X (tgt := 55) dX5_dropLowestPoke_7 (by decide) hx1 h1 (fun h2 => ?_) (fun h2 => ?_)
    · replace hf := knIp hf h2
      refine kj_sub (L' := []) [] rfl ?_
      exact hk  hf
    · replace hf := knIq hf h2
      refine kj_iloadn X 1 dX5_dropLowestPoke_10 rfl ?_
      refine kj_iconst X dX5_dropLowestPoke_11 ?_
      refine kj_iadd X dX5_dropLowestPoke_12 ?_
      refine kj_istoren X (L' := [(2, knV (knW (x1 + 1))), (0, knO G x0), (1, knV x1)]) dX5_dropLowestPoke_13 (by decide) rfl ?_
      refine kj_sub (L' := [(0, knO G x0), (1, knV x1), (2, knV (knW (x1 + 1)))]) [1, 2, 0] rfl ?_
      refine kfX5_dropLowestPoke_l14_ok X K hr hlk x0 x1 hx0 hx1 μ ?_ knF _ (knCw _)  hf
      intro hf
      refine kj_iinc X 1 (L' := [(1, knV (knW (x1 + 1))), (0, knO G x0)]) dX5_dropLowestPoke_49 rfl (by decide) rfl ?_
      refine kj_goto X (tgt := 2) dX5_dropLowestPoke_52 (by decide) ?_
      refine kj_sub (L' := [(0, knO G x0), (1, knV (knW (x1 + 1)))]) [1, 0] rfl ?_
      exact ih _ (knCw _)  hf

set_option maxHeartbeats 4000000 in
set_option maxRecDepth 100000 in
theorem kcX5_dropLowestPoke {G : knGT} (l : Launch) {a0 : Int} (ha0 : knKd a0 = 3) {μ : knMem} {q : Int × knMem} (hf : kfX5_dropLowestPoke a0 μ = some q) : knC0 G l yX5_dropLowestPoke cX5_dropLowestPoke 3 (some .boolean) 2 47 [knO G a0] μ (knZ q.1) (some (knV q.1)) q.2 := by
  unfold kfX5_dropLowestPoke at hf
  refine kn_ofJ (plainFor_of_name (by decide)) (Nat.le_of_ble_eq_true rfl) (L := [(0, knO G a0)]) rfl ?_
  intro p e s m args below meth c X K hr hlk
  refine kj_iconst X dX5_dropLowestPoke_0 ?_
  refine kj_istoren X (L' := [(1, knV 0), (0, knO G a0)]) dX5_dropLowestPoke_1 (by decide) rfl ?_
  refine kj_sub (L' := [(0, knO G a0), (1, knV 0)]) [1, 0] rfl ?_
  refine kfX5_dropLowestPoke_l2_ok X K hr hlk a0 ha0 μ ?_ knF _ (show knC (0) from ⟨by omega, by omega⟩)  hf
  intro hf
  refine kj_iconst X dX5_dropLowestPoke_55 ?_
  cases hf
  exact kj_zret X (Or.inl rfl) hr (kn_nb (Or.inl rfl)) dX5_dropLowestPoke_56 hlk

def kfX5_simplify_l2  (x0 : Int)  (kc : (knMem) → Option (Int × knMem)) : Nat → Int → knMem → Option (Int × knMem)
  | 0, _, _ => none
  | n + 1, x1, μ =>
    if 7 ≤ x1 then
     kc μ
    else
     Option.bind (kfX5_dropLowestCurl x0 μ) (fun q2 =>
      (fun (k10 : (knMem) → Option (Int × knMem)) =>
       if q2.1 = 0 then
        Option.bind (kfX5_dropLowestPoke x0 q2.2) (fun q13 =>
         if q13.1 = 0 then
          some (0, q13.2)
         else
          k10 q13.2)
       else
        k10 q2.2)
       (fun q10 =>
       kfX5_simplify_l2  x0 kc n (knW (x1 + 1)) q10))

def kfX5_simplify (a0 : Int) (μ : knMem) : Option (Int × knMem) :=
 kfX5_simplify_l2 a0  (fun w17 =>
  some (0, w17)) knF 0 μ

theorem knWvX5_simplify : knWv yX5_simplify cX5_simplify 2 (some (.object "KnotLaboratory$Refusal")) 0 := ⟨(knGm 617 (by decide +kernel) rfl), (knGm 116 (by decide +kernel) rfl), (knGm 615 (by decide +kernel) rfl), (knGm 616 (by decide +kernel) rfl), by decide +kernel, by decide +kernel, by decide +kernel⟩
set_option maxHeartbeats 4000000 in
set_option maxRecDepth 100000 in
theorem kfX5_simplify_l2_ok {q : Int × knMem} {kc : (knMem) → Option (Int × knMem)} {G : knGT} {p : Program} {l : Launch} {e : Env} {s : State} {m : MethodId} {args : Array Value} {below : List Frame} {meth : Method} {c : Code} (X : knX p m c cX5_simplify 2 s args yX5_simplify.cls) (K : knK G s s.heap) (hr : meth.sig.returnType = (some (.object "KnotLaboratory$Refusal"))) (hlk : meth.locks = false) (x0 : Int) (hx0 : knKd x0 = 3)  (hk : ∀ (μ1 : knMem), kc μ1 = some q → knJ G p l e { frames := 3, cells := 0, slots := 0, locals := 69 } s m args below meth c 2 0 0 (MQ below (knPo G (0 ≤ q.1 ∧ q.1 < 6) (some (knRf G q.1)) q.2) args s 0 0 (knA G)) 32 [] [] μ1) : ∀ (n : Nat) (x1 : Int) (hx1 : knC x1) (μ : knMem), kfX5_simplify_l2  x0 kc n x1 μ = some q → knJ G p l e { frames := 3, cells := 0, slots := 0, locals := 69 } s m args below meth c 2 0 0 (MQ below (knPo G (0 ≤ q.1 ∧ q.1 < 6) (some (knRf G q.1)) q.2) args s 0 0 (knA G)) 2 [(0, knO G x0), (1, knV x1)] [] μ := by
  intro n
  induction n with
  | zero => intro x1 hx1 μ hf; cases hf
  | succ n ih =>
    intro x1 hx1 μ hf
    unfold kfX5_simplify_l2 at hf
    refine kj_iloadn X 1 dX5_simplify_2 rfl ?_
    refine kj_bipush X (n := 7) dX5_simplify_3 rfl ?_
    refine kj_ic_ge X (tgt := 32) dX5_simplify_5 (by decide) hx1 (show knC (7) from ⟨by omega, by omega⟩) (fun h1 => ?_) (fun h1 => ?_)
    · replace hf := knIp hf h1
      refine kj_sub (L' := []) [] rfl ?_
      exact hk _ hf
    · replace hf := knIq hf h1
      refine kj_aloadn X 0 dX5_simplify_8 rfl ?_
      obtain ⟨q2, h3, hf⟩ := knBd_inv hf
      refine kj_callV (As := []) (rest := []) X K (kcX5_dropLowestCurl l hx0 h3) knWvX5_dropLowestCurl (knGm 618 (by decide +kernel) rfl) (by decide) (knKd_in hx0 (by decide)) (knEnt_3 hx0) rfl rfl rfl (Nat.le_of_ble_eq_true rfl) (by decide) dX5_simplify_9 rfl (fun h4 => ?_)
      have j10 : ∀ (m10 : knMem), (fun q10 =>
       kfX5_simplify_l2  x0 kc n (knW (x1 + 1)) q10) m10 = some q → knJ G p l e { frames := 3, cells := 0, slots := 0, locals := 69 } s m args below meth c 2 0 0 (MQ below (knPo G (0 ≤ q.1 ∧ q.1 < 6) (some (knRf G q.1)) q.2) args s 0 0 (knA G)) 26 [(0, knO G x0), (1, knV x1)] [] m10 := by
        intro m10
        intro hf
        refine kj_iinc X 1 (L' := [(1, knV (knW (x1 + 1))), (0, knO G x0)]) dX5_simplify_26 rfl (by decide) rfl ?_
        refine kj_goto X (tgt := 2) dX5_simplify_29 (by decide) ?_
        refine kj_sub (L' := [(0, knO G x0), (1, knV (knW (x1 + 1)))]) [1, 0] rfl ?_
        exact ih _ (knCw _) _ hf
      refine kj_if_ne X (tgt := 26) dX5_simplify_12 (by decide) (knZ_c h4) (fun h12 => ?_) (fun h12 => ?_)
      · replace hf := knIq hf h12
        refine kj_sub (L' := [(0, knO G x0), (1, knV x1)]) [0, 1] rfl ?_
        exact j10 _ hf
      · replace hf := knIp hf h12
        refine kj_aloadn X 0 dX5_simplify_15 rfl ?_
        obtain ⟨q13, h14, hf⟩ := knBd_inv hf
        refine kj_callV (As := []) (rest := []) X K (kcX5_dropLowestPoke l hx0 h14) knWvX5_dropLowestPoke (knGm 637 (by decide +kernel) rfl) (by decide) (knKd_in hx0 (by decide)) (knEnt_3 hx0) rfl rfl rfl (Nat.le_of_ble_eq_true rfl) (by decide) dX5_simplify_16 rfl (fun h15 => ?_)
        refine kj_if_ne X (tgt := 26) dX5_simplify_19 (by decide) (knZ_c h15) (fun h16 => ?_) (fun h16 => ?_)
        · replace hf := knIq hf h16
          refine kj_sub (L' := [(0, knO G x0), (1, knV x1)]) [0, 1] rfl ?_
          exact j10 _ hf
        · replace hf := knIp hf h16
          refine kj_refusal X K (i := 0) (by decide) (knGm 432 (by decide +kernel) rfl) dX5_simplify_22 ?_
          cases hf
          exact kj_aret X (show 0 ≤ (0 : Int) ∧ (0 : Int) < 6 from ⟨by omega, by omega⟩) hr (Or.inl ⟨_, rfl⟩) (Or.inr ⟨_, rfl⟩) dX5_simplify_25 hlk

set_option maxHeartbeats 4000000 in
set_option maxRecDepth 100000 in
theorem kcX5_simplify {G : knGT} (l : Launch) {a0 : Int} (ha0 : knKd a0 = 3) {μ : knMem} {q : Int × knMem} (hf : kfX5_simplify a0 μ = some q) : knC0 G l yX5_simplify cX5_simplify 2 (some (.object "KnotLaboratory$Refusal")) 3 69 [knO G a0] μ (0 ≤ q.1 ∧ q.1 < 6) (some (knRf G q.1)) q.2 := by
  unfold kfX5_simplify at hf
  refine kn_ofJ (plainFor_of_name (by decide)) (Nat.le_of_ble_eq_true rfl) (L := [(0, knO G a0)]) rfl ?_
  intro p e s m args below meth c X K hr hlk
  refine kj_iconst X dX5_simplify_0 ?_
  refine kj_istoren X (L' := [(1, knV 0), (0, knO G a0)]) dX5_simplify_1 (by decide) rfl ?_
  refine kj_sub (L' := [(0, knO G a0), (1, knV 0)]) [1, 0] rfl ?_
  refine kfX5_simplify_l2_ok X K hr hlk a0 ha0  ?_ knF _ (show knC (0) from ⟨by omega, by omega⟩) _ hf
  intro w17_m
  intro hf
  refine kj_refusal X K (i := 0) (by decide) (knGm 432 (by decide +kernel) rfl) dX5_simplify_32 ?_
  cases hf
  exact kj_aret X (show 0 ≤ (0 : Int) ∧ (0 : Int) < 6 from ⟨by omega, by omega⟩) hr (Or.inl ⟨_, rfl⟩) (Or.inr ⟨_, rfl⟩) dX5_simplify_35 hlk

def kfX12_reduce  (μ : knMem) : Option (Int × Int × knMem) :=
 Option.bind (kfX6_stage 1 μ) (fun q2 =>
  Option.bind (kfX5_simplify 2 q2) (fun q5 =>
   Option.bind (kfX12_finishChange q5.1 q5.2) (fun q8 =>
    if q8.1 = 0 then
    some (0, (knW ((μ 2 3) - (q8.2 2 3))), q8.2)
    else
    some (q8.1, 0, q8.2))))

theorem knWvX12_reduce : knWv yX12_reduce cX12_reduce 2 (some .int) 0 := ⟨(knGm 613 (by decide +kernel) rfl), (knGm 114 (by decide +kernel) rfl), (knGm 611 (by decide +kernel) rfl), (knGm 612 (by decide +kernel) rfl), by decide +kernel, by decide +kernel, by decide +kernel⟩
set_option maxHeartbeats 4000000 in
set_option maxRecDepth 100000 in
theorem kcX12_reduce {G : knGT} (l : Launch) (hl : l.stackTraces = false)   {μ : knMem} {q : Int × Int × knMem} (hf : kfX12_reduce  μ = some q) : knCx G l yX12_reduce cX12_reduce 2 (some .int) 8 141 1 6 [knO G 0] μ (knC q.2.1) q.1 (some (knV q.2.1)) q.2.2 := by
  unfold kfX12_reduce at hf
  refine kn_ofJx (by decide) (Nat.le_of_ble_eq_true rfl) (L := [(0, knO G 0)]) rfl ?_
  intro p e s m args below meth c X K hr hlk hnx
  refine kj_aloadn X 0 dX12_reduce_0 rfl ?_
  refine kj_geto (k := 1) (o2 := 2) X K kdc_0 (by decide) (knEnt_9 kdc_0) rfl (by decide) knInX12 (knGm 362 (by decide +kernel) rfl) rfl rfl dX12_reduce_1 ?_
  refine kj_geti (k := 3) (ki := 3) X K rfl kdc_2 (by decide) (knEnt_3 kdc_2) rfl (by decide) knInX5 (knGm 180 (by decide +kernel) rfl) rfl rfl dX12_reduce_4 (fun h1 => ?_)
  refine kj_istoren X (L' := [(1, knV (μ 2 3)), (0, knO G 0)]) dX12_reduce_7 (by decide) rfl ?_
  refine kj_aloadn X 1 dX12_reduce_8 rfl ?_
  refine kj_geto (k := 5) (o2 := 23) X K kdc_0 (by decide) (knEnt_9 kdc_0) rfl (by decide) knInX12 (knGm 366 (by decide +kernel) rfl) rfl rfl dX12_reduce_9 ?_
  refine kj_aloadn X 1 dX12_reduce_12 rfl ?_
  refine kj_geto (k := 0) (o2 := 1) X K kdc_0 (by decide) (knEnt_9 kdc_0) rfl (by decide) knInX12 (knGm 361 (by decide +kernel) rfl) rfl rfl dX12_reduce_13 ?_
  obtain ⟨q2, h3, hf⟩ := knBd_inv hf
  refine kj_callV (As := [knO G 1]) (rest := []) X K (kcX6_stage l kdc_1 h3) knWvX6_stage (knGm 408 (by decide +kernel) rfl) (by decide) (knKd_in kdc_23 (by decide)) (knEnt_4 kdc_23) rfl rfl rfl (Nat.le_of_ble_eq_true rfl) (by decide) dX12_reduce_16 rfl (fun h4 => ?_)
  refine kj_aloadn X 1 dX12_reduce_19 rfl ?_
  refine kj_aloadn X 1 dX12_reduce_20 rfl ?_
  refine kj_geto (k := 1) (o2 := 2) X K kdc_0 (by decide) (knEnt_9 kdc_0) rfl (by decide) knInX12 (knGm 362 (by decide +kernel) rfl) rfl rfl dX12_reduce_21 ?_
  obtain ⟨q5, h6, hf⟩ := knBd_inv hf
  refine kj_callV (As := []) (rest := [knO G 0]) X K (kcX5_simplify l kdc_2 h6) knWvX5_simplify (knGm 614 (by decide +kernel) rfl) (by decide) (knKd_in kdc_2 (by decide)) (knEnt_3 kdc_2) rfl rfl rfl (Nat.le_of_ble_eq_true rfl) (by decide) dX12_reduce_24 rfl (fun h7 => ?_)
  obtain ⟨q8, h9, hf⟩ := knBd_inv hf
  refine kjx_callV (As := [knRf G q5.1]) (rest := []) X K (kcX12_finishChange l hl h7 h9) knWvX12_finishChange (knGm 434 (by decide +kernel) rfl) (by decide) (knKd_in kdc_0 (by decide)) (knEnt_9 kdc_0) rfl rfl rfl (Nat.le_of_ble_eq_true rfl) (by decide) dX12_reduce_27 rfl (fun h11 h10 => ?_) (fun E12 h11 h13 => ?_)
  · replace hf := knIp hf h11
    refine kj_iloadn X 0 dX12_reduce_30 rfl ?_
    refine kj_aloadn X 1 dX12_reduce_31 rfl ?_
    refine kj_geto (k := 1) (o2 := 2) X K kdc_0 (by decide) (knEnt_9 kdc_0) rfl (by decide) knInX12 (knGm 362 (by decide +kernel) rfl) rfl rfl dX12_reduce_32 ?_
    refine kj_geti (k := 3) (ki := 3) X K rfl kdc_2 (by decide) (knEnt_3 kdc_2) rfl (by decide) knInX5 (knGm 180 (by decide +kernel) rfl) rfl rfl dX12_reduce_35 (fun h14 => ?_)
    refine kj_isub X dX12_reduce_38 ?_
    cases hf
    exact kjx_iret X (knCw _) rfl (by decide) (by decide) hr dX12_reduce_39 hlk
  · replace hf := knIq hf h11
    cases hf
    exact kjx_out h11 h13 (by decide) (by decide) hnx hlk

def kfX12_crossingCount  (μ : knMem) : Option (Int) :=
 some (μ 2 3)

theorem knWvX12_crossingCount : knWv yX12_crossingCount cX12_crossingCount 1 (some .int) 0 := ⟨(knGm 648 (by decide +kernel) rfl), (knGm 114 (by decide +kernel) rfl), (knGm 646 (by decide +kernel) rfl), (knGm 647 (by decide +kernel) rfl), by decide +kernel, by decide +kernel, by decide +kernel⟩
set_option maxHeartbeats 4000000 in
set_option maxRecDepth 100000 in
theorem kcX12_crossingCount {G : knGT} (l : Launch)   {μ : knMem} {q : Int} (hf : kfX12_crossingCount  μ = some q) : knC0 G l yX12_crossingCount cX12_crossingCount 1 (some .int) 0 0 [knO G 0] μ (knC q) (some (knV q)) μ := by
  unfold kfX12_crossingCount at hf
  refine kn_ofJ (plainFor_of_name (by decide)) (Nat.le_of_ble_eq_true rfl) (L := [(0, knO G 0)]) rfl ?_
  intro p e s m args below meth c X K hr hlk
  refine kj_aloadn X 0 dX12_crossingCount_0 rfl ?_
  refine kj_geto (k := 1) (o2 := 2) X K kdc_0 (by decide) (knEnt_9 kdc_0) rfl (by decide) knInX12 (knGm 362 (by decide +kernel) rfl) rfl rfl dX12_crossingCount_1 ?_
  refine kj_geti (k := 3) (ki := 3) X K rfl kdc_2 (by decide) (knEnt_3 kdc_2) rfl (by decide) knInX5 (knGm 180 (by decide +kernel) rfl) rfl rfl dX12_crossingCount_4 (fun h1 => ?_)
  cases hf
  exact kj_iret X h1 hr dX12_crossingCount_7 hlk

def kfX12_requirePosition (a1 : Int) (μ : knMem) : Option (Int) :=
 Option.bind (kfX5_hasPosition 2 a1 μ) (fun q1 =>
  if q1 = 0 then
   some 1
  else
   some 0)

theorem knWvX12_requirePosition : knWv yX12_requirePosition cX12_requirePosition 2 none 1 := ⟨(knGm 1036 (by decide +kernel) rfl), (knGm 114 (by decide +kernel) rfl), (knGm 1035 (by decide +kernel) rfl), (knGm 17 (by decide +kernel) rfl), by decide +kernel, by decide +kernel, by decide +kernel⟩
set_option maxHeartbeats 4000000 in
set_option maxRecDepth 100000 in
theorem kcX12_requirePosition {G : knGT} (l : Launch) (hl : l.stackTraces = false) {a1 : Int} (ha1 : knC a1) {μ : knMem} {q : Int} (hf : kfX12_requirePosition a1 μ = some q) : knCx G l yX12_requirePosition cX12_requirePosition 2 none 6 100 1 6 [knO G 0, knV a1] μ True q none μ := by
  unfold kfX12_requirePosition at hf
  refine kn_ofJx (by decide) (Nat.le_of_ble_eq_true rfl) (L := [(0, knO G 0), (1, knV a1)]) rfl ?_
  intro p e s m args below meth c X K hr hlk hnx
  refine kj_aloadn X 0 dX12_requirePosition_0 rfl ?_
  refine kj_geto (k := 1) (o2 := 2) X K kdc_0 (by decide) (knEnt_9 kdc_0) rfl (by decide) knInX12 (knGm 362 (by decide +kernel) rfl) rfl rfl dX12_requirePosition_1 ?_
  refine kj_iloadn X 1 dX12_requirePosition_4 rfl ?_
  obtain ⟨q1, h2, hf⟩ := knBd_inv hf
  refine kj_callV (As := [knV a1]) (rest := []) X K (kcX5_hasPosition l kdc_2 ha1 h2) knWvX5_hasPosition (knGm 1037 (by decide +kernel) rfl) (by decide) (knKd_in kdc_2 (by decide)) (knEnt_3 kdc_2) rfl rfl rfl (Nat.le_of_ble_eq_true rfl) (by decide) dX12_requirePosition_5 rfl (fun h3 => ?_)
  refine kj_if_ne X (tgt := 22) dX12_requirePosition_8 (by decide) (knZ_c h3) (fun h4 => ?_) (fun h4 => ?_)
  · replace hf := knIq hf h4
    cases hf
    exact kjx_vret X trivial rfl (by decide) (by decide) hr dX12_requirePosition_22 hlk
  · replace hf := knIp hf h4
    cases hf
    exact kjx_throwW X K hl (i := 5) (by show (1 : Int) ≠ 0; decide) rfl (by decide +kernel) (by decide) rfl rfl knTh1.1 knTh1.2 dX12_requirePosition_11 dX12_requirePosition_14 dX12_requirePosition_15 dX12_requirePosition_18 dX12_requirePosition_21 hnx (by decide) hlk (by decide) (by decide)

def kfX12_crossingAt (a1 : Int) (μ : knMem) : Option (Int × Int) :=
 Option.bind (kfX12_requirePosition a1 μ) (fun q1 =>
  if q1 = 0 then
  Option.bind (kfX5_crossingOf 2 a1 μ) (fun q7 =>
   some (0, q7))
  else
  some (q1, 0))

theorem knWvX12_crossingAt : knWv yX12_crossingAt cX12_crossingAt 2 (some .int) 1 := ⟨(knGm 1032 (by decide +kernel) rfl), (knGm 114 (by decide +kernel) rfl), (knGm 1030 (by decide +kernel) rfl), (knGm 1031 (by decide +kernel) rfl), by decide +kernel, by decide +kernel, by decide +kernel⟩
set_option maxHeartbeats 4000000 in
set_option maxRecDepth 100000 in
theorem kcX12_crossingAt {G : knGT} (l : Launch) (hl : l.stackTraces = false) {a1 : Int} (ha1 : knC a1) {μ : knMem} {q : Int × Int} (hf : kfX12_crossingAt a1 μ = some q) : knCx G l yX12_crossingAt cX12_crossingAt 2 (some .int) 7 121 1 6 [knO G 0, knV a1] μ (knC q.2) q.1 (some (knV q.2)) μ := by
  unfold kfX12_crossingAt at hf
  refine kn_ofJx (by decide) (Nat.le_of_ble_eq_true rfl) (L := [(0, knO G 0), (1, knV a1)]) rfl ?_
  intro p e s m args below meth c X K hr hlk hnx
  refine kj_aloadn X 0 dX12_crossingAt_0 rfl ?_
  refine kj_iloadn X 1 dX12_crossingAt_1 rfl ?_
  obtain ⟨q1, h2, hf⟩ := knBd_inv hf
  refine kjx_callV (As := [knV a1]) (rest := []) X K (kcX12_requirePosition l hl ha1 h2) knWvX12_requirePosition (knGm 1033 (by decide +kernel) rfl) (by decide) (knKd_in kdc_0 (by decide)) (knEnt_9 kdc_0) rfl rfl rfl (Nat.le_of_ble_eq_true rfl) (by decide) dX12_crossingAt_2 rfl (fun h4 h3 => ?_) (fun E5 h4 h6 => ?_)
  · replace hf := knIp hf h4
    refine kj_aloadn X 0 dX12_crossingAt_5 rfl ?_
    refine kj_geto (k := 1) (o2 := 2) X K kdc_0 (by decide) (knEnt_9 kdc_0) rfl (by decide) knInX12 (knGm 362 (by decide +kernel) rfl) rfl rfl dX12_crossingAt_6 ?_
    refine kj_iloadn X 1 dX12_crossingAt_9 rfl ?_
    obtain ⟨q7, h8, hf⟩ := knBd_inv hf
    refine kj_callV (As := [knV a1]) (rest := []) X K (kcX5_crossingOf l kdc_2 ha1 h8) knWvX5_crossingOf (knGm 606 (by decide +kernel) rfl) (by decide) (knKd_in kdc_2 (by decide)) (knEnt_3 kdc_2) rfl rfl rfl (Nat.le_of_ble_eq_true rfl) (by decide) dX12_crossingAt_10 rfl (fun h9 => ?_)
    cases hf
    exact kjx_iret X h9 rfl (by decide) (by decide) hr dX12_crossingAt_13 hlk
  · replace hf := knIq hf h4
    cases hf
    exact kjx_out h4 h6 (by decide) (by decide) hnx hlk

def kfX5_passesOver_l2  (x0 : Int) (x1 : Int) (μ : knMem) (kc : (Unit) → Option (Int)) : Nat → Int → Option (Int)
  | 0, _ => none
  | n + 1, x2 =>
    if (μ x0 3) ≤ x2 then
     kc ()
    else
     knGd (0 ≤ x2 ∧ x2 < 7)
      (if (μ (x0 + 1) x2) = x1 then
      some 1
     else
      kfX5_passesOver_l2  x0 x1 μ kc n (knW (x2 + 1)))

def kfX5_passesOver (a0 : Int) (a1 : Int) (μ : knMem) : Option (Int) :=
 kfX5_passesOver_l2 a0 a1 μ (fun _ =>
  some 0) knF 0

theorem knWvX5_passesOver : knWv yX5_passesOver cX5_passesOver 3 (some .boolean) 1 := ⟨(knGm 668 (by decide +kernel) rfl), (knGm 116 (by decide +kernel) rfl), (knGm 666 (by decide +kernel) rfl), (knGm 667 (by decide +kernel) rfl), by decide +kernel, by decide +kernel, by decide +kernel⟩
set_option maxHeartbeats 4000000 in
set_option maxRecDepth 100000 in
theorem kfX5_passesOver_l2_ok {q : Int} {kc : (Unit) → Option (Int)} {G : knGT} {p : Program} {l : Launch} {e : Env} {s : State} {m : MethodId} {args : Array Value} {below : List Frame} {meth : Method} {c : Code} (X : knX p m c cX5_passesOver 3 s args yX5_passesOver.cls) (K : knK G s s.heap) (hr : meth.sig.returnType = (some .boolean)) (hlk : meth.locks = false) (x0 : Int) (x1 : Int) (hx0 : knKd x0 = 3) (hx1 : knC x1) (μ : knMem) (hk : kc () = some q → knJ G p l e { frames := 0, cells := 0, slots := 0, locals := 0 } s m args below meth c 3 0 0 (MQ below (knPo G (knZ q) (some (knV q)) μ) args s 0 0 (knA G)) 28 [] [] μ) : ∀ (n : Nat) (x2 : Int) (hx2 : knC x2) , kfX5_passesOver_l2  x0 x1 μ kc n x2 = some q → knJ G p l e { frames := 0, cells := 0, slots := 0, locals := 0 } s m args below meth c 3 0 0 (MQ below (knPo G (knZ q) (some (knV q)) μ) args s 0 0 (knA G)) 2 [(0, knO G x0), (1, knV x1), (2, knV x2)] [] μ := by
  intro n
  induction n with
  | zero => intro x2 hx2 hf; cases hf
  | succ n ih =>
    intro x2 hx2 hf
    unfold kfX5_passesOver_l2 at hf
    refine kj_iloadn X 2 dX5_passesOver_2 rfl ?_
    refine kj_aloadn X 0 dX5_passesOver_3 rfl ?_
    refine kj_geti (k := 3) (ki := 3) X K rfl hx0 (by decide) (knEnt_3 hx0) rfl (by decide) knInX5 (knGm 177 (by decide +kernel) rfl) rfl rfl dX5_passesOver_4 (fun h1 => ?_)
    refine kj_ic_ge X (tgt := 28) dX5_passesOver_7 (by decide) hx2 h1 (fun h2 => ?_) (fun h2 => ?_)
    · replace hf := knIp hf h2
      refine kj_sub (L' := []) [] rfl ?_
      exact hk  hf
    · replace hf := knIq hf h2
      refine kj_aloadn X 0 dX5_passesOver_10 rfl ?_
      refine kj_geto (k := 0) (o2 := (x0 + 1)) X K hx0 (by decide) (knEnt_3 hx0) rfl (by decide) knInX5 (knGm 166 (by decide +kernel) rfl) rfl rfl dX5_passesOver_11 ?_
      refine kj_iloadn X 2 dX5_passesOver_14 rfl ?_
      obtain ⟨h3, hf⟩ := knGd_inv hf
      refine kj_iald X K (knD3 hx0).1.1 hx2 (knD3 hx0).2.1 h3 dX5_passesOver_15 (fun h4 => ?_)
      refine kj_iloadn X 1 dX5_passesOver_16 rfl ?_
      refine kj_ic_ne X (tgt := 22) dX5_passesOver_17 (by decide) h4 hx1 (fun h5 => ?_) (fun h5 => ?_)
      · replace hf := knIq hf h5
        refine kj_iinc X 2 (L' := [(2, knV (knW (x2 + 1))), (0, knO G x0), (1, knV x1)]) dX5_passesOver_22 rfl (by decide) rfl ?_
        refine kj_goto X (tgt := 2) dX5_passesOver_25 (by decide) ?_
        refine kj_sub (L' := [(0, knO G x0), (1, knV x1), (2, knV (knW (x2 + 1)))]) [1, 2, 0] rfl ?_
        exact ih _ (knCw _)  hf
      · replace hf := knIp hf h5
        refine kj_iconst X dX5_passesOver_20 ?_
        cases hf
        exact kj_zret X (Or.inr rfl) hr (kn_nb (Or.inr rfl)) dX5_passesOver_21 hlk

set_option maxHeartbeats 4000000 in
set_option maxRecDepth 100000 in
theorem kcX5_passesOver {G : knGT} (l : Launch) {a0 : Int} {a1 : Int} (ha0 : knKd a0 = 3) (ha1 : knC a1) {μ : knMem} {q : Int} (hf : kfX5_passesOver a0 a1 μ = some q) : knC0 G l yX5_passesOver cX5_passesOver 3 (some .boolean) 0 0 [knO G a0, knV a1] μ (knZ q) (some (knV q)) μ := by
  unfold kfX5_passesOver at hf
  refine kn_ofJ (plainFor_of_name (by decide)) (Nat.le_of_ble_eq_true rfl) (L := [(0, knO G a0), (1, knV a1)]) rfl ?_
  intro p e s m args below meth c X K hr hlk
  refine kj_iconst X dX5_passesOver_0 ?_
  refine kj_istoren X (L' := [(2, knV 0), (0, knO G a0), (1, knV a1)]) dX5_passesOver_1 (by decide) rfl ?_
  refine kj_sub (L' := [(0, knO G a0), (1, knV a1), (2, knV 0)]) [1, 2, 0] rfl ?_
  refine kfX5_passesOver_l2_ok X K hr hlk a0 a1 ha0 ha1 μ ?_ knF _ (show knC (0) from ⟨by omega, by omega⟩)  hf
  intro hf
  refine kj_iconst X dX5_passesOver_28 ?_
  cases hf
  exact kj_zret X (Or.inl rfl) hr (kn_nb (Or.inl rfl)) dX5_passesOver_29 hlk

def kfX12_isOver (a1 : Int) (μ : knMem) : Option (Int × Int) :=
 Option.bind (kfX12_requirePosition a1 μ) (fun q1 =>
  if q1 = 0 then
  Option.bind (kfX5_passesOver 2 a1 μ) (fun q7 =>
   some (0, q7))
  else
  some (q1, 0))

theorem knWvX12_isOver : knWv yX12_isOver cX12_isOver 2 (some .boolean) 1 := ⟨(knGm 1045 (by decide +kernel) rfl), (knGm 114 (by decide +kernel) rfl), (knGm 1043 (by decide +kernel) rfl), (knGm 1044 (by decide +kernel) rfl), by decide +kernel, by decide +kernel, by decide +kernel⟩
set_option maxHeartbeats 4000000 in
set_option maxRecDepth 100000 in
theorem kcX12_isOver {G : knGT} (l : Launch) (hl : l.stackTraces = false) {a1 : Int} (ha1 : knC a1) {μ : knMem} {q : Int × Int} (hf : kfX12_isOver a1 μ = some q) : knCx G l yX12_isOver cX12_isOver 2 (some .boolean) 7 121 1 6 [knO G 0, knV a1] μ (knZ q.2) q.1 (some (knV q.2)) μ := by
  unfold kfX12_isOver at hf
  refine kn_ofJx (by decide) (Nat.le_of_ble_eq_true rfl) (L := [(0, knO G 0), (1, knV a1)]) rfl ?_
  intro p e s m args below meth c X K hr hlk hnx
  refine kj_aloadn X 0 dX12_isOver_0 rfl ?_
  refine kj_iloadn X 1 dX12_isOver_1 rfl ?_
  obtain ⟨q1, h2, hf⟩ := knBd_inv hf
  refine kjx_callV (As := [knV a1]) (rest := []) X K (kcX12_requirePosition l hl ha1 h2) knWvX12_requirePosition (knGm 1033 (by decide +kernel) rfl) (by decide) (knKd_in kdc_0 (by decide)) (knEnt_9 kdc_0) rfl rfl rfl (Nat.le_of_ble_eq_true rfl) (by decide) dX12_isOver_2 rfl (fun h4 h3 => ?_) (fun E5 h4 h6 => ?_)
  · replace hf := knIp hf h4
    refine kj_aloadn X 0 dX12_isOver_5 rfl ?_
    refine kj_geto (k := 1) (o2 := 2) X K kdc_0 (by decide) (knEnt_9 kdc_0) rfl (by decide) knInX12 (knGm 362 (by decide +kernel) rfl) rfl rfl dX12_isOver_6 ?_
    refine kj_iloadn X 1 dX12_isOver_9 rfl ?_
    obtain ⟨q7, h8, hf⟩ := knBd_inv hf
    refine kj_callV (As := [knV a1]) (rest := []) X K (kcX5_passesOver l kdc_2 ha1 h8) knWvX5_passesOver (knGm 887 (by decide +kernel) rfl) (by decide) (knKd_in kdc_2 (by decide)) (knEnt_3 kdc_2) rfl rfl rfl (Nat.le_of_ble_eq_true rfl) (by decide) dX12_isOver_10 rfl (fun h9 => ?_)
    cases hf
    exact kjx_zret X h9 rfl (by decide) (by decide) hr (kn_nb h9) dX12_isOver_13 hlk
  · replace hf := knIq hf h4
    cases hf
    exact kjx_out h4 h6 (by decide) (by decide) hnx hlk

def kfX12_requireCrossing (a1 : Int) (μ : knMem) : Option (Int) :=
 Option.bind (kfX5_hasCrossing 2 a1 μ) (fun q1 =>
  if q1 = 0 then
   some 1
  else
   some 0)

theorem knWvX12_requireCrossing : knWv yX12_requireCrossing cX12_requireCrossing 2 none 1 := ⟨(knGm 1056 (by decide +kernel) rfl), (knGm 114 (by decide +kernel) rfl), (knGm 1055 (by decide +kernel) rfl), (knGm 18 (by decide +kernel) rfl), by decide +kernel, by decide +kernel, by decide +kernel⟩
set_option maxHeartbeats 4000000 in
set_option maxRecDepth 100000 in
theorem kcX12_requireCrossing {G : knGT} (l : Launch) (hl : l.stackTraces = false) {a1 : Int} (ha1 : knC a1) {μ : knMem} {q : Int} (hf : kfX12_requireCrossing a1 μ = some q) : knCx G l yX12_requireCrossing cX12_requireCrossing 2 none 6 100 1 6 [knO G 0, knV a1] μ True q none μ := by
  unfold kfX12_requireCrossing at hf
  refine kn_ofJx (by decide) (Nat.le_of_ble_eq_true rfl) (L := [(0, knO G 0), (1, knV a1)]) rfl ?_
  intro p e s m args below meth c X K hr hlk hnx
  refine kj_aloadn X 0 dX12_requireCrossing_0 rfl ?_
  refine kj_geto (k := 1) (o2 := 2) X K kdc_0 (by decide) (knEnt_9 kdc_0) rfl (by decide) knInX12 (knGm 362 (by decide +kernel) rfl) rfl rfl dX12_requireCrossing_1 ?_
  refine kj_iloadn X 1 dX12_requireCrossing_4 rfl ?_
  obtain ⟨q1, h2, hf⟩ := knBd_inv hf
  refine kj_callV (As := [knV a1]) (rest := []) X K (kcX5_hasCrossing l kdc_2 ha1 h2) knWvX5_hasCrossing (knGm 1057 (by decide +kernel) rfl) (by decide) (knKd_in kdc_2 (by decide)) (knEnt_3 kdc_2) rfl rfl rfl (Nat.le_of_ble_eq_true rfl) (by decide) dX12_requireCrossing_5 rfl (fun h3 => ?_)
  refine kj_if_ne X (tgt := 22) dX12_requireCrossing_8 (by decide) (knZ_c h3) (fun h4 => ?_) (fun h4 => ?_)
  · replace hf := knIq hf h4
    cases hf
    exact kjx_vret X trivial rfl (by decide) (by decide) hr dX12_requireCrossing_22 hlk
  · replace hf := knIp hf h4
    cases hf
    exact kjx_throwW X K hl (i := 6) (by show (1 : Int) ≠ 0; decide) rfl (by decide +kernel) (by decide) rfl rfl knTh1.1 knTh1.2 dX12_requireCrossing_11 dX12_requireCrossing_14 dX12_requireCrossing_15 dX12_requireCrossing_18 dX12_requireCrossing_21 hnx (by decide) hlk (by decide) (by decide)

def kfX12_isPositive (a1 : Int) (μ : knMem) : Option (Int × Int) :=
 Option.bind (kfX12_requireCrossing a1 μ) (fun q1 =>
  if q1 = 0 then
  knGd (0 ≤ a1 ∧ a1 < 7)
   (some (0, (μ 5 a1)))
  else
  some (q1, 0))

theorem knWvX12_isPositive : knWv yX12_isPositive cX12_isPositive 2 (some .boolean) 1 := ⟨(knGm 1052 (by decide +kernel) rfl), (knGm 114 (by decide +kernel) rfl), (knGm 1050 (by decide +kernel) rfl), (knGm 1051 (by decide +kernel) rfl), by decide +kernel, by decide +kernel, by decide +kernel⟩
set_option maxHeartbeats 4000000 in
set_option maxRecDepth 100000 in
theorem kcX12_isPositive {G : knGT} (l : Launch) (hl : l.stackTraces = false) {a1 : Int} (ha1 : knC a1) {μ : knMem} {q : Int × Int} (hf : kfX12_isPositive a1 μ = some q) : knCx G l yX12_isPositive cX12_isPositive 2 (some .boolean) 7 121 1 6 [knO G 0, knV a1] μ (knZ q.2) q.1 (some (knV q.2)) μ := by
  unfold kfX12_isPositive at hf
  refine kn_ofJx (by decide) (Nat.le_of_ble_eq_true rfl) (L := [(0, knO G 0), (1, knV a1)]) rfl ?_
  intro p e s m args below meth c X K hr hlk hnx
  refine kj_aloadn X 0 dX12_isPositive_0 rfl ?_
  refine kj_iloadn X 1 dX12_isPositive_1 rfl ?_
  obtain ⟨q1, h2, hf⟩ := knBd_inv hf
  refine kjx_callV (As := [knV a1]) (rest := []) X K (kcX12_requireCrossing l hl ha1 h2) knWvX12_requireCrossing (knGm 1053 (by decide +kernel) rfl) (by decide) (knKd_in kdc_0 (by decide)) (knEnt_9 kdc_0) rfl rfl rfl (Nat.le_of_ble_eq_true rfl) (by decide) dX12_isPositive_2 rfl (fun h4 h3 => ?_) (fun E5 h4 h6 => ?_)
  · replace hf := knIp hf h4
    refine kj_aloadn X 0 dX12_isPositive_5 rfl ?_
    refine kj_geto (k := 1) (o2 := 2) X K kdc_0 (by decide) (knEnt_9 kdc_0) rfl (by decide) knInX12 (knGm 362 (by decide +kernel) rfl) rfl rfl dX12_isPositive_6 ?_
    refine kj_geto (k := 2) (o2 := 5) X K kdc_2 (by decide) (knEnt_3 kdc_2) rfl (by decide) knInX5 (knGm 175 (by decide +kernel) rfl) rfl rfl dX12_isPositive_9 ?_
    refine kj_iloadn X 1 dX12_isPositive_12 rfl ?_
    obtain ⟨h7, hf⟩ := knGd_inv hf
    refine kj_zald X K kdc_5 ha1 lnc_5 h7 dX12_isPositive_13 (fun h8 => ?_)
    cases hf
    exact kjx_zret X h8 rfl (by decide) (by decide) hr (kn_nb h8) dX12_isPositive_14 hlk
  · replace hf := knIq hf h4
    cases hf
    exact kjx_out h4 h6 (by decide) (by decide) hnx hlk

def kfX12_overPosition (a1 : Int) (μ : knMem) : Option (Int × Int) :=
 Option.bind (kfX12_requireCrossing a1 μ) (fun q1 =>
  if q1 = 0 then
  knGd (0 ≤ a1 ∧ a1 < 7)
   (some (0, (μ 3 a1)))
  else
  some (q1, 0))

theorem knWvX12_overPosition : knWv yX12_overPosition cX12_overPosition 2 (some .int) 1 := ⟨(knGm 1065 (by decide +kernel) rfl), (knGm 114 (by decide +kernel) rfl), (knGm 1063 (by decide +kernel) rfl), (knGm 1064 (by decide +kernel) rfl), by decide +kernel, by decide +kernel, by decide +kernel⟩
set_option maxHeartbeats 4000000 in
set_option maxRecDepth 100000 in
theorem kcX12_overPosition {G : knGT} (l : Launch) (hl : l.stackTraces = false) {a1 : Int} (ha1 : knC a1) {μ : knMem} {q : Int × Int} (hf : kfX12_overPosition a1 μ = some q) : knCx G l yX12_overPosition cX12_overPosition 2 (some .int) 7 121 1 6 [knO G 0, knV a1] μ (knC q.2) q.1 (some (knV q.2)) μ := by
  unfold kfX12_overPosition at hf
  refine kn_ofJx (by decide) (Nat.le_of_ble_eq_true rfl) (L := [(0, knO G 0), (1, knV a1)]) rfl ?_
  intro p e s m args below meth c X K hr hlk hnx
  refine kj_aloadn X 0 dX12_overPosition_0 rfl ?_
  refine kj_iloadn X 1 dX12_overPosition_1 rfl ?_
  obtain ⟨q1, h2, hf⟩ := knBd_inv hf
  refine kjx_callV (As := [knV a1]) (rest := []) X K (kcX12_requireCrossing l hl ha1 h2) knWvX12_requireCrossing (knGm 1053 (by decide +kernel) rfl) (by decide) (knKd_in kdc_0 (by decide)) (knEnt_9 kdc_0) rfl rfl rfl (Nat.le_of_ble_eq_true rfl) (by decide) dX12_overPosition_2 rfl (fun h4 h3 => ?_) (fun E5 h4 h6 => ?_)
  · replace hf := knIp hf h4
    refine kj_aloadn X 0 dX12_overPosition_5 rfl ?_
    refine kj_geto (k := 1) (o2 := 2) X K kdc_0 (by decide) (knEnt_9 kdc_0) rfl (by decide) knInX12 (knGm 362 (by decide +kernel) rfl) rfl rfl dX12_overPosition_6 ?_
    refine kj_geto (k := 0) (o2 := 3) X K kdc_2 (by decide) (knEnt_3 kdc_2) rfl (by decide) knInX5 (knGm 169 (by decide +kernel) rfl) rfl rfl dX12_overPosition_9 ?_
    refine kj_iloadn X 1 dX12_overPosition_12 rfl ?_
    obtain ⟨h7, hf⟩ := knGd_inv hf
    refine kj_iald X K kdc_3 ha1 lnc_3 h7 dX12_overPosition_13 (fun h8 => ?_)
    cases hf
    exact kjx_iret X h8 rfl (by decide) (by decide) hr dX12_overPosition_14 hlk
  · replace hf := knIq hf h4
    cases hf
    exact kjx_out h4 h6 (by decide) (by decide) hnx hlk

def kfX12_underPosition (a1 : Int) (μ : knMem) : Option (Int × Int) :=
 Option.bind (kfX12_requireCrossing a1 μ) (fun q1 =>
  if q1 = 0 then
  knGd (0 ≤ a1 ∧ a1 < 7)
   (some (0, (μ 4 a1)))
  else
  some (q1, 0))

theorem knWvX12_underPosition : knWv yX12_underPosition cX12_underPosition 2 (some .int) 1 := ⟨(knGm 1072 (by decide +kernel) rfl), (knGm 114 (by decide +kernel) rfl), (knGm 1070 (by decide +kernel) rfl), (knGm 1071 (by decide +kernel) rfl), by decide +kernel, by decide +kernel, by decide +kernel⟩
set_option maxHeartbeats 4000000 in
set_option maxRecDepth 100000 in
theorem kcX12_underPosition {G : knGT} (l : Launch) (hl : l.stackTraces = false) {a1 : Int} (ha1 : knC a1) {μ : knMem} {q : Int × Int} (hf : kfX12_underPosition a1 μ = some q) : knCx G l yX12_underPosition cX12_underPosition 2 (some .int) 7 121 1 6 [knO G 0, knV a1] μ (knC q.2) q.1 (some (knV q.2)) μ := by
  unfold kfX12_underPosition at hf
  refine kn_ofJx (by decide) (Nat.le_of_ble_eq_true rfl) (L := [(0, knO G 0), (1, knV a1)]) rfl ?_
  intro p e s m args below meth c X K hr hlk hnx
  refine kj_aloadn X 0 dX12_underPosition_0 rfl ?_
  refine kj_iloadn X 1 dX12_underPosition_1 rfl ?_
  obtain ⟨q1, h2, hf⟩ := knBd_inv hf
  refine kjx_callV (As := [knV a1]) (rest := []) X K (kcX12_requireCrossing l hl ha1 h2) knWvX12_requireCrossing (knGm 1053 (by decide +kernel) rfl) (by decide) (knKd_in kdc_0 (by decide)) (knEnt_9 kdc_0) rfl rfl rfl (Nat.le_of_ble_eq_true rfl) (by decide) dX12_underPosition_2 rfl (fun h4 h3 => ?_) (fun E5 h4 h6 => ?_)
  · replace hf := knIp hf h4
    refine kj_aloadn X 0 dX12_underPosition_5 rfl ?_
    refine kj_geto (k := 1) (o2 := 2) X K kdc_0 (by decide) (knEnt_9 kdc_0) rfl (by decide) knInX12 (knGm 362 (by decide +kernel) rfl) rfl rfl dX12_underPosition_6 ?_
    refine kj_geto (k := 1) (o2 := 4) X K kdc_2 (by decide) (knEnt_3 kdc_2) rfl (by decide) knInX5 (knGm 173 (by decide +kernel) rfl) rfl rfl dX12_underPosition_9 ?_
    refine kj_iloadn X 1 dX12_underPosition_12 rfl ?_
    obtain ⟨h7, hf⟩ := knGd_inv hf
    refine kj_iald X K kdc_4 ha1 lnc_4 h7 dX12_underPosition_13 (fun h8 => ?_)
    cases hf
    exact kjx_iret X h8 rfl (by decide) (by decide) hr dX12_underPosition_14 hlk
  · replace hf := knIq hf h4
    cases hf
    exact kjx_out h4 h6 (by decide) (by decide) hnx hlk

def kfX12_writhe  (μ : knMem) : Option (Int) :=
 Option.bind (kfX5_signSum 2 μ) (fun q1 =>
  some q1)

theorem knWvX12_writhe : knWv yX12_writhe cX12_writhe 1 (some .int) 0 := ⟨(knGm 652 (by decide +kernel) rfl), (knGm 114 (by decide +kernel) rfl), (knGm 650 (by decide +kernel) rfl), (knGm 651 (by decide +kernel) rfl), by decide +kernel, by decide +kernel, by decide +kernel⟩
set_option maxHeartbeats 4000000 in
set_option maxRecDepth 100000 in
theorem kcX12_writhe {G : knGT} (l : Launch)   {μ : knMem} {q : Int} (hf : kfX12_writhe  μ = some q) : knC0 G l yX12_writhe cX12_writhe 1 (some .int) 1 22 [knO G 0] μ (knC q) (some (knV q)) μ := by
  unfold kfX12_writhe at hf
  refine kn_ofJ (plainFor_of_name (by decide)) (Nat.le_of_ble_eq_true rfl) (L := [(0, knO G 0)]) rfl ?_
  intro p e s m args below meth c X K hr hlk
  refine kj_aloadn X 0 dX12_writhe_0 rfl ?_
  refine kj_geto (k := 1) (o2 := 2) X K kdc_0 (by decide) (knEnt_9 kdc_0) rfl (by decide) knInX12 (knGm 362 (by decide +kernel) rfl) rfl rfl dX12_writhe_1 ?_
  obtain ⟨q1, h2, hf⟩ := knBd_inv hf
  refine kj_callV (As := []) (rest := []) X K (kcX5_signSum l kdc_2 h2) knWvX5_signSum (knGm 594 (by decide +kernel) rfl) (by decide) (knKd_in kdc_2 (by decide)) (knEnt_3 kdc_2) rfl rfl rfl (Nat.le_of_ble_eq_true rfl) (by decide) dX12_writhe_4 rfl (fun h3 => ?_)
  cases hf
  exact kj_iret X h3 hr dX12_writhe_7 hlk

def kfX12_isCurl (a1 : Int) (μ : knMem) : Option (Int × Int) :=
 Option.bind (kfX12_requireCrossing a1 μ) (fun q1 =>
  if q1 = 0 then
  Option.bind (kfX5_curls 2 a1 μ) (fun q7 =>
   some (0, q7))
  else
  some (q1, 0))

theorem knWvX12_isCurl : knWv yX12_isCurl cX12_isCurl 2 (some .boolean) 1 := ⟨(knGm 1079 (by decide +kernel) rfl), (knGm 114 (by decide +kernel) rfl), (knGm 1077 (by decide +kernel) rfl), (knGm 1078 (by decide +kernel) rfl), by decide +kernel, by decide +kernel, by decide +kernel⟩
set_option maxHeartbeats 4000000 in
set_option maxRecDepth 100000 in
theorem kcX12_isCurl {G : knGT} (l : Launch) (hl : l.stackTraces = false) {a1 : Int} (ha1 : knC a1) {μ : knMem} {q : Int × Int} (hf : kfX12_isCurl a1 μ = some q) : knCx G l yX12_isCurl cX12_isCurl 2 (some .boolean) 7 121 1 6 [knO G 0, knV a1] μ (knZ q.2) q.1 (some (knV q.2)) μ := by
  unfold kfX12_isCurl at hf
  refine kn_ofJx (by decide) (Nat.le_of_ble_eq_true rfl) (L := [(0, knO G 0), (1, knV a1)]) rfl ?_
  intro p e s m args below meth c X K hr hlk hnx
  refine kj_aloadn X 0 dX12_isCurl_0 rfl ?_
  refine kj_iloadn X 1 dX12_isCurl_1 rfl ?_
  obtain ⟨q1, h2, hf⟩ := knBd_inv hf
  refine kjx_callV (As := [knV a1]) (rest := []) X K (kcX12_requireCrossing l hl ha1 h2) knWvX12_requireCrossing (knGm 1053 (by decide +kernel) rfl) (by decide) (knKd_in kdc_0 (by decide)) (knEnt_9 kdc_0) rfl rfl rfl (Nat.le_of_ble_eq_true rfl) (by decide) dX12_isCurl_2 rfl (fun h4 h3 => ?_) (fun E5 h4 h6 => ?_)
  · replace hf := knIp hf h4
    refine kj_aloadn X 0 dX12_isCurl_5 rfl ?_
    refine kj_geto (k := 1) (o2 := 2) X K kdc_0 (by decide) (knEnt_9 kdc_0) rfl (by decide) knInX12 (knGm 362 (by decide +kernel) rfl) rfl rfl dX12_isCurl_6 ?_
    refine kj_iloadn X 1 dX12_isCurl_9 rfl ?_
    obtain ⟨q7, h8, hf⟩ := knBd_inv hf
    refine kj_callV (As := [knV a1]) (rest := []) X K (kcX5_curls l kdc_2 ha1 h8) knWvX5_curls (knGm 1080 (by decide +kernel) rfl) (by decide) (knKd_in kdc_2 (by decide)) (knEnt_3 kdc_2) rfl rfl rfl (Nat.le_of_ble_eq_true rfl) (by decide) dX12_isCurl_10 rfl (fun h9 => ?_)
    cases hf
    exact kjx_zret X h9 rfl (by decide) (by decide) hr (kn_nb h9) dX12_isCurl_13 hlk
  · replace hf := knIq hf h4
    cases hf
    exact kjx_out h4 h6 (by decide) (by decide) hnx hlk

def kfX12_isPoke (a1 : Int) (a2 : Int) (μ : knMem) : Option (Int × Int) :=
 Option.bind (kfX12_requireCrossing a1 μ) (fun q1 =>
  if q1 = 0 then
  Option.bind (kfX12_requireCrossing a2 μ) (fun q7 =>
   if q7 = 0 then
   Option.bind (kfX5_pokes 2 a1 a2 μ) (fun q13 =>
    some (0, q13))
   else
   some (q7, 0))
  else
  some (q1, 0))

theorem knWvX12_isPoke : knWv yX12_isPoke cX12_isPoke 3 (some .boolean) 2 := ⟨(knGm 1087 (by decide +kernel) rfl), (knGm 114 (by decide +kernel) rfl), (knGm 1085 (by decide +kernel) rfl), (knGm 1086 (by decide +kernel) rfl), by decide +kernel, by decide +kernel, by decide +kernel⟩
set_option maxHeartbeats 4000000 in
set_option maxRecDepth 100000 in
theorem kcX12_isPoke {G : knGT} (l : Launch) (hl : l.stackTraces = false) {a1 : Int} {a2 : Int} (ha1 : knC a1) (ha2 : knC a2) {μ : knMem} {q : Int × Int} (hf : kfX12_isPoke a1 a2 μ = some q) : knCx G l yX12_isPoke cX12_isPoke 3 (some .boolean) 7 121 2 12 [knO G 0, knV a1, knV a2] μ (knZ q.2) q.1 (some (knV q.2)) μ := by
  unfold kfX12_isPoke at hf
  refine kn_ofJx (by decide) (Nat.le_of_ble_eq_true rfl) (L := [(0, knO G 0), (1, knV a1), (2, knV a2)]) rfl ?_
  intro p e s m args below meth c X K hr hlk hnx
  refine kj_aloadn X 0 dX12_isPoke_0 rfl ?_
  refine kj_iloadn X 1 dX12_isPoke_1 rfl ?_
  obtain ⟨q1, h2, hf⟩ := knBd_inv hf
  refine kjx_callV (As := [knV a1]) (rest := []) X K (kcX12_requireCrossing l hl ha1 h2) knWvX12_requireCrossing (knGm 1053 (by decide +kernel) rfl) (by decide) (knKd_in kdc_0 (by decide)) (knEnt_9 kdc_0) rfl rfl rfl (Nat.le_of_ble_eq_true rfl) (by decide) dX12_isPoke_2 rfl (fun h4 h3 => ?_) (fun E5 h4 h6 => ?_)
  · replace hf := knIp hf h4
    refine kj_aloadn X 0 dX12_isPoke_5 rfl ?_
    refine kj_iloadn X 2 dX12_isPoke_6 rfl ?_
    obtain ⟨q7, h8, hf⟩ := knBd_inv hf
    refine kjx_callV (As := [knV a2]) (rest := []) X K (kcX12_requireCrossing l hl ha2 h8) knWvX12_requireCrossing (knGm 1053 (by decide +kernel) rfl) (by decide) (knKd_in kdc_0 (by decide)) (knEnt_9 kdc_0) rfl rfl rfl (Nat.le_of_ble_eq_true rfl) (by decide) dX12_isPoke_7 rfl (fun h10 h9 => ?_) (fun E11 h10 h12 => ?_)
    · replace hf := knIp hf h10
      refine kj_aloadn X 0 dX12_isPoke_10 rfl ?_
      refine kj_geto (k := 1) (o2 := 2) X K kdc_0 (by decide) (knEnt_9 kdc_0) rfl (by decide) knInX12 (knGm 362 (by decide +kernel) rfl) rfl rfl dX12_isPoke_11 ?_
      refine kj_iloadn X 1 dX12_isPoke_14 rfl ?_
      refine kj_iloadn X 2 dX12_isPoke_15 rfl ?_
      obtain ⟨q13, h14, hf⟩ := knBd_inv hf
      refine kj_callV (As := [knV a1, knV a2]) (rest := []) X K (kcX5_pokes l kdc_2 ha1 ha2 h14) knWvX5_pokes (knGm 1088 (by decide +kernel) rfl) (by decide) (knKd_in kdc_2 (by decide)) (knEnt_3 kdc_2) rfl rfl rfl (Nat.le_of_ble_eq_true rfl) (by decide) dX12_isPoke_16 rfl (fun h15 => ?_)
      cases hf
      exact kjx_zret X h15 rfl (by decide) (by decide) hr (kn_nb h15) dX12_isPoke_19 hlk
    · replace hf := knIq hf h10
      cases hf
      exact kjx_out h10 h12 (by decide) (by decide) hnx hlk
  · replace hf := knIq hf h4
    cases hf
    exact kjx_out h4 h6 (by decide) (by decide) hnx hlk

def kfX5_after (a0 : Int) (a1 : Int) (μ : knMem) : Option (Int) :=
 some (if a1 = (knW ((knW (2 * (μ a0 3))) - 1)) then 0 else (knW (a1 + 1)) : Int)

theorem knWvX5_after : knWv yX5_after cX5_after 2 (some .int) 1 := ⟨(knGm 664 (by decide +kernel) rfl), (knGm 116 (by decide +kernel) rfl), (knGm 662 (by decide +kernel) rfl), (knGm 663 (by decide +kernel) rfl), by decide +kernel, by decide +kernel, by decide +kernel⟩
set_option maxHeartbeats 4000000 in
set_option maxRecDepth 100000 in
theorem kcX5_after {G : knGT} (l : Launch) {a0 : Int} {a1 : Int} (ha0 : knKd a0 = 3) (ha1 : knC a1) {μ : knMem} {q : Int} (hf : kfX5_after a0 a1 μ = some q) : knC0 G l yX5_after cX5_after 2 (some .int) 0 0 [knO G a0, knV a1] μ (knC q) (some (knV q)) μ := by
  unfold kfX5_after at hf
  refine kn_ofJ (plainFor_of_name (by decide)) (Nat.le_of_ble_eq_true rfl) (L := [(0, knO G a0), (1, knV a1)]) rfl ?_
  intro p e s m args below meth c X K hr hlk
  refine kj_iloadn X 1 dX5_after_0 rfl ?_
  refine kj_iconst X dX5_after_1 ?_
  refine kj_aloadn X 0 dX5_after_2 rfl ?_
  refine kj_geti (k := 3) (ki := 3) X K rfl ha0 (by decide) (knEnt_3 ha0) rfl (by decide) knInX5 (knGm 177 (by decide +kernel) rfl) rfl rfl dX5_after_3 (fun h1 => ?_)
  refine kj_imul X dX5_after_6 ?_
  refine kj_iconst X dX5_after_7 ?_
  refine kj_isub X dX5_after_8 ?_
  have j3 : ∀ (t3_0 : Int) (et3_0 : t3_0 = (if a1 = (knW ((knW (2 * (μ a0 3))) - 1)) then 0 else (knW (a1 + 1)) : Int)) (ht3_0 : knC t3_0), knJ G p l e { frames := 0, cells := 0, slots := 0, locals := 0 } s m args below meth c 2 0 0 (MQ below (knPo G (knC q) (some (knV q)) μ) args s 0 0 (knA G)) 19 [] [knV t3_0] μ := by
    intro t3_0 et3_0 ht3_0
    subst et3_0
    cases hf
    exact kj_iret X ht3_0 hr dX5_after_19 hlk
  refine kj_ic_ne X (tgt := 16) dX5_after_9 (by decide) ha1 (knCw _) (fun h5 => ?_) (fun h5 => ?_)
  · refine kj_iloadn X 1 dX5_after_16 rfl ?_
    refine kj_iconst X dX5_after_17 ?_
    refine kj_iadd X dX5_after_18 ?_
    refine kj_sub (L' := []) [] rfl ?_
    exact j3 (knW (a1 + 1)) (by rw [if_neg h5]) (knCw _)
  · refine kj_iconst X dX5_after_12 ?_
    refine kj_goto X (tgt := 19) dX5_after_13 (by decide) ?_
    refine kj_sub (L' := []) [] rfl ?_
    exact j3 0 (by rw [if_pos h5]) (show knC (0) from ⟨by omega, by omega⟩)

def kfX5_alternates_l2  (x0 : Int) (μ : knMem) (kc : (Unit) → Option (Int)) : Nat → Int → Option (Int)
  | 0, _ => none
  | n + 1, x1 =>
    if (μ x0 3) ≤ x1 then
     kc ()
    else
     knGd (0 ≤ x1 ∧ x1 < 7)
      (Option.bind (kfX5_after x0 (μ (x0 + 1) x1) μ) (fun q5 =>
      Option.bind (kfX5_passesOver x0 q5 μ) (fun q8 =>
       if q8 = 0 then
        kfX5_alternates_l2  x0 μ kc n (knW (x1 + 1))
       else
        some 0)))

def kfX5_alternates (a0 : Int) (μ : knMem) : Option (Int) :=
 kfX5_alternates_l2 a0 μ (fun _ =>
  some 1) knF 0

theorem knWvX5_alternates : knWv yX5_alternates cX5_alternates 2 (some .boolean) 0 := ⟨(knGm 660 (by decide +kernel) rfl), (knGm 116 (by decide +kernel) rfl), (knGm 658 (by decide +kernel) rfl), (knGm 659 (by decide +kernel) rfl), by decide +kernel, by decide +kernel, by decide +kernel⟩
set_option maxHeartbeats 4000000 in
set_option maxRecDepth 100000 in
theorem kfX5_alternates_l2_ok {q : Int} {kc : (Unit) → Option (Int)} {G : knGT} {p : Program} {l : Launch} {e : Env} {s : State} {m : MethodId} {args : Array Value} {below : List Frame} {meth : Method} {c : Code} (X : knX p m c cX5_alternates 2 s args yX5_alternates.cls) (K : knK G s s.heap) (hr : meth.sig.returnType = (some .boolean)) (hlk : meth.locks = false) (x0 : Int) (hx0 : knKd x0 = 3) (μ : knMem) (hk : kc () = some q → knJ G p l e { frames := 1, cells := 0, slots := 0, locals := 22 } s m args below meth c 2 0 0 (MQ below (knPo G (knZ q) (some (knV q)) μ) args s 0 0 (knA G)) 35 [] [] μ) : ∀ (n : Nat) (x1 : Int) (hx1 : knC x1) , kfX5_alternates_l2  x0 μ kc n x1 = some q → knJ G p l e { frames := 1, cells := 0, slots := 0, locals := 22 } s m args below meth c 2 0 0 (MQ below (knPo G (knZ q) (some (knV q)) μ) args s 0 0 (knA G)) 2 [(0, knO G x0), (1, knV x1)] [] μ := by
  intro n
  induction n with
  | zero => intro x1 hx1 hf; cases hf
  | succ n ih =>
    intro x1 hx1 hf
    unfold kfX5_alternates_l2 at hf
    refine kj_iloadn X 1 dX5_alternates_2 rfl ?_
    refine kj_aloadn X 0 dX5_alternates_3 rfl ?_
    refine kj_geti (k := 3) (ki := 3) X K rfl hx0 (by decide) (knEnt_3 hx0) rfl (by decide) knInX5 (knGm 177 (by decide +kernel) rfl) rfl rfl dX5_alternates_4 (fun h1 => ?_)
    refine kj_ic_ge X (tgt := 35) dX5_alternates_7 (by decide) hx1 h1 (fun h2 => ?_) (fun h2 => ?_)
    · replace hf := knIp hf h2
      refine kj_sub (L' := []) [] rfl ?_
      exact hk  hf
    · replace hf := knIq hf h2
      refine kj_aloadn X 0 dX5_alternates_10 rfl ?_
      refine kj_aloadn X 0 dX5_alternates_11 rfl ?_
      refine kj_aloadn X 0 dX5_alternates_12 rfl ?_
      refine kj_geto (k := 0) (o2 := (x0 + 1)) X K hx0 (by decide) (knEnt_3 hx0) rfl (by decide) knInX5 (knGm 166 (by decide +kernel) rfl) rfl rfl dX5_alternates_13 ?_
      refine kj_iloadn X 1 dX5_alternates_16 rfl ?_
      obtain ⟨h3, hf⟩ := knGd_inv hf
      refine kj_iald X K (knD3 hx0).1.1 hx1 (knD3 hx0).2.1 h3 dX5_alternates_17 (fun h4 => ?_)
      obtain ⟨q5, h6, hf⟩ := knBd_inv hf
      refine kj_callV (As := [knV (μ (x0 + 1) x1)]) (rest := [knO G x0]) X K (kcX5_after l hx0 h4 h6) knWvX5_after (knGm 661 (by decide +kernel) rfl) (by decide) (knKd_in hx0 (by decide)) (knEnt_3 hx0) rfl rfl rfl (Nat.le_of_ble_eq_true rfl) (by decide) dX5_alternates_18 rfl (fun h7 => ?_)
      obtain ⟨q8, h9, hf⟩ := knBd_inv hf
      refine kj_callV (As := [knV q5]) (rest := []) X K (kcX5_passesOver l hx0 h7 h9) knWvX5_passesOver (knGm 665 (by decide +kernel) rfl) (by decide) (knKd_in hx0 (by decide)) (knEnt_3 hx0) rfl rfl rfl (Nat.le_of_ble_eq_true rfl) (by decide) dX5_alternates_21 rfl (fun h10 => ?_)
      refine kj_if_eq X (tgt := 29) dX5_alternates_24 (by decide) (knZ_c h10) (fun h11 => ?_) (fun h11 => ?_)
      · replace hf := knIp hf h11
        refine kj_iinc X 1 (L' := [(1, knV (knW (x1 + 1))), (0, knO G x0)]) dX5_alternates_29 rfl (by decide) rfl ?_
        refine kj_goto X (tgt := 2) dX5_alternates_32 (by decide) ?_
        refine kj_sub (L' := [(0, knO G x0), (1, knV (knW (x1 + 1)))]) [1, 0] rfl ?_
        exact ih _ (knCw _)  hf
      · replace hf := knIq hf h11
        refine kj_iconst X dX5_alternates_27 ?_
        cases hf
        exact kj_zret X (Or.inl rfl) hr (kn_nb (Or.inl rfl)) dX5_alternates_28 hlk

set_option maxHeartbeats 4000000 in
set_option maxRecDepth 100000 in
theorem kcX5_alternates {G : knGT} (l : Launch) {a0 : Int} (ha0 : knKd a0 = 3) {μ : knMem} {q : Int} (hf : kfX5_alternates a0 μ = some q) : knC0 G l yX5_alternates cX5_alternates 2 (some .boolean) 1 22 [knO G a0] μ (knZ q) (some (knV q)) μ := by
  unfold kfX5_alternates at hf
  refine kn_ofJ (plainFor_of_name (by decide)) (Nat.le_of_ble_eq_true rfl) (L := [(0, knO G a0)]) rfl ?_
  intro p e s m args below meth c X K hr hlk
  refine kj_iconst X dX5_alternates_0 ?_
  refine kj_istoren X (L' := [(1, knV 0), (0, knO G a0)]) dX5_alternates_1 (by decide) rfl ?_
  refine kj_sub (L' := [(0, knO G a0), (1, knV 0)]) [1, 0] rfl ?_
  refine kfX5_alternates_l2_ok X K hr hlk a0 ha0 μ ?_ knF _ (show knC (0) from ⟨by omega, by omega⟩)  hf
  intro hf
  refine kj_iconst X dX5_alternates_35 ?_
  cases hf
  exact kj_zret X (Or.inr rfl) hr (kn_nb (Or.inr rfl)) dX5_alternates_36 hlk

def kfX12_isAlternating  (μ : knMem) : Option (Int) :=
 Option.bind (kfX5_alternates 2 μ) (fun q1 =>
  some q1)

theorem knWvX12_isAlternating : knWv yX12_isAlternating cX12_isAlternating 1 (some .boolean) 0 := ⟨(knGm 656 (by decide +kernel) rfl), (knGm 114 (by decide +kernel) rfl), (knGm 654 (by decide +kernel) rfl), (knGm 655 (by decide +kernel) rfl), by decide +kernel, by decide +kernel, by decide +kernel⟩
set_option maxHeartbeats 4000000 in
set_option maxRecDepth 100000 in
theorem kcX12_isAlternating {G : knGT} (l : Launch)   {μ : knMem} {q : Int} (hf : kfX12_isAlternating  μ = some q) : knC0 G l yX12_isAlternating cX12_isAlternating 1 (some .boolean) 2 43 [knO G 0] μ (knZ q) (some (knV q)) μ := by
  unfold kfX12_isAlternating at hf
  refine kn_ofJ (plainFor_of_name (by decide)) (Nat.le_of_ble_eq_true rfl) (L := [(0, knO G 0)]) rfl ?_
  intro p e s m args below meth c X K hr hlk
  refine kj_aloadn X 0 dX12_isAlternating_0 rfl ?_
  refine kj_geto (k := 1) (o2 := 2) X K kdc_0 (by decide) (knEnt_9 kdc_0) rfl (by decide) knInX12 (knGm 362 (by decide +kernel) rfl) rfl rfl dX12_isAlternating_1 ?_
  obtain ⟨q1, h2, hf⟩ := knBd_inv hf
  refine kj_callV (As := []) (rest := []) X K (kcX5_alternates l kdc_2 h2) knWvX5_alternates (knGm 657 (by decide +kernel) rfl) (by decide) (knKd_in kdc_2 (by decide)) (knEnt_3 kdc_2) rfl rfl rfl (Nat.le_of_ble_eq_true rfl) (by decide) dX12_isAlternating_4 rfl (fun h3 => ?_)
  cases hf
  exact kj_zret X h3 hr (kn_nb h3) dX12_isAlternating_7 hlk

def kfX12_reducedCrossings  (μ : knMem) : Option (Int × knMem) :=
 Option.bind (kfX5_copyFrom 19 2 μ) (fun q1 =>
  Option.bind (kfX5_simplify 19 q1) (fun q4 =>
   some ((q4.2 19 3), q4.2)))

theorem knWvX12_reducedCrossings : knWv yX12_reducedCrossings cX12_reducedCrossings 1 (some .int) 0 := ⟨(knGm 672 (by decide +kernel) rfl), (knGm 114 (by decide +kernel) rfl), (knGm 670 (by decide +kernel) rfl), (knGm 671 (by decide +kernel) rfl), by decide +kernel, by decide +kernel, by decide +kernel⟩
set_option maxHeartbeats 4000000 in
set_option maxRecDepth 100000 in
theorem kcX12_reducedCrossings {G : knGT} (l : Launch)   {μ : knMem} {q : Int × knMem} (hf : kfX12_reducedCrossings  μ = some q) : knC0 G l yX12_reducedCrossings cX12_reducedCrossings 1 (some .int) 4 90 [knO G 0] μ (knC q.1) (some (knV q.1)) q.2 := by
  unfold kfX12_reducedCrossings at hf
  refine kn_ofJ (plainFor_of_name (by decide)) (Nat.le_of_ble_eq_true rfl) (L := [(0, knO G 0)]) rfl ?_
  intro p e s m args below meth c X K hr hlk
  refine kj_aloadn X 0 dX12_reducedCrossings_0 rfl ?_
  refine kj_geto (k := 4) (o2 := 19) X K kdc_0 (by decide) (knEnt_9 kdc_0) rfl (by decide) knInX12 (knGm 365 (by decide +kernel) rfl) rfl rfl dX12_reducedCrossings_1 ?_
  refine kj_aloadn X 0 dX12_reducedCrossings_4 rfl ?_
  refine kj_geto (k := 1) (o2 := 2) X K kdc_0 (by decide) (knEnt_9 kdc_0) rfl (by decide) knInX12 (knGm 362 (by decide +kernel) rfl) rfl rfl dX12_reducedCrossings_5 ?_
  obtain ⟨q1, h2, hf⟩ := knBd_inv hf
  refine kj_callV (As := [knO G 2]) (rest := []) X K (kcX5_copyFrom l kdc_19 kdc_2 h2) knWvX5_copyFrom (knGm 673 (by decide +kernel) rfl) (by decide) (knKd_in kdc_19 (by decide)) (knEnt_3 kdc_19) rfl rfl rfl (Nat.le_of_ble_eq_true rfl) (by decide) dX12_reducedCrossings_8 rfl (fun h3 => ?_)
  refine kj_aloadn X 0 dX12_reducedCrossings_11 rfl ?_
  refine kj_geto (k := 4) (o2 := 19) X K kdc_0 (by decide) (knEnt_9 kdc_0) rfl (by decide) knInX12 (knGm 365 (by decide +kernel) rfl) rfl rfl dX12_reducedCrossings_12 ?_
  obtain ⟨q4, h5, hf⟩ := knBd_inv hf
  refine kj_callV (As := []) (rest := []) X K (kcX5_simplify l kdc_19 h5) knWvX5_simplify (knGm 614 (by decide +kernel) rfl) (by decide) (knKd_in kdc_19 (by decide)) (knEnt_3 kdc_19) rfl rfl rfl (Nat.le_of_ble_eq_true rfl) (by decide) dX12_reducedCrossings_15 rfl (fun h6 => ?_)
  refine kj_pop X dX12_reducedCrossings_18 rfl ?_
  refine kj_aloadn X 0 dX12_reducedCrossings_19 rfl ?_
  refine kj_geto (k := 4) (o2 := 19) X K kdc_0 (by decide) (knEnt_9 kdc_0) rfl (by decide) knInX12 (knGm 365 (by decide +kernel) rfl) rfl rfl dX12_reducedCrossings_20 ?_
  refine kj_geti (k := 3) (ki := 3) X K rfl kdc_19 (by decide) (knEnt_3 kdc_19) rfl (by decide) knInX5 (knGm 180 (by decide +kernel) rfl) rfl rfl dX12_reducedCrossings_23 (fun h7 => ?_)
  cases hf
  exact kj_iret X h7 hr dX12_reducedCrossings_26 hlk

def kfX5_rankOf_l22  (x0 : Int) (x1 : Int) (x2 : Int) (μ : knMem) (kc : (Int) → Option (Int)) : Nat → Int → Int → Option (Int)
  | 0, _, _ => none
  | n + 1, x3, x4 =>
    if (μ x0 3) ≤ x4 then
     kc x3
    else
     knGd (0 ≤ x4 ∧ x4 < 7)
      (Option.bind (kfX5_distance x0 (μ (x0 + 1) x4) (μ (x0 + 2) x4) μ) (fun q12 =>
      kfX5_rankOf_l22  x0 x1 x2 μ kc n (if q12 < x2 then (knW (x3 + 1)) else if q12 = x2 then if x1 ≤ x4 then x3 else (knW (x3 + 1)) else x3 : Int) (knW (x4 + 1))))

def kfX5_rankOf (a0 : Int) (a1 : Int) (μ : knMem) : Option (Int) :=
 knGd (0 ≤ a1 ∧ a1 < 7)
  (Option.bind (kfX5_distance a0 (μ (a0 + 1) a1) (μ (a0 + 2) a1) μ) (fun q4 =>
  kfX5_rankOf_l22 a0 a1 q4 μ (fun w25 =>
   some w25) knF 0 0))

theorem knWvX5_rankOf : knWv yX5_rankOf cX5_rankOf 6 (some .int) 1 := ⟨(knGm 1105 (by decide +kernel) rfl), (knGm 116 (by decide +kernel) rfl), (knGm 1104 (by decide +kernel) rfl), (knGm 19 (by decide +kernel) rfl), by decide +kernel, by decide +kernel, by decide +kernel⟩
set_option maxHeartbeats 4000000 in
set_option maxRecDepth 100000 in
theorem kfX5_rankOf_l22_ok {q : Int} {kc : (Int) → Option (Int)} {G : knGT} {p : Program} {l : Launch} {e : Env} {s : State} {m : MethodId} {args : Array Value} {below : List Frame} {meth : Method} {c : Code} (X : knX p m c cX5_rankOf 6 s args yX5_rankOf.cls) (K : knK G s s.heap) (hr : meth.sig.returnType = (some .int)) (hlk : meth.locks = false) (x0 : Int) (x1 : Int) (x2 : Int) (hx0 : knKd x0 = 3) (hx1 : knC x1) (hx2 : knC x2) (μ : knMem) (hk : ∀ (y3 : Int) (hy3 : knC y3), kc y3 = some q → knJ G p l e { frames := 1, cells := 0, slots := 0, locals := 24 } s m args below meth c 6 0 0 (MQ below (knPo G (knC q) (some (knV q)) μ) args s 0 0 (knA G)) 78 [(3, knV y3)] [] μ) : ∀ (n : Nat) (x3 : Int) (hx3 : knC x3) (x4 : Int) (hx4 : knC x4) , kfX5_rankOf_l22  x0 x1 x2 μ kc n x3 x4 = some q → knJ G p l e { frames := 1, cells := 0, slots := 0, locals := 24 } s m args below meth c 6 0 0 (MQ below (knPo G (knC q) (some (knV q)) μ) args s 0 0 (knA G)) 22 [(0, knO G x0), (1, knV x1), (2, knV x2), (3, knV x3), (4, knV x4)] [] μ := by
  intro n
  induction n with
  | zero => intro x3 hx3 x4 hx4 hf; cases hf
  | succ n ih =>
    intro x3 hx3 x4 hx4 hf
    unfold kfX5_rankOf_l22 at hf
    refine kj_iload X 4 dX5_rankOf_22 rfl ?_
    refine kj_aloadn X 0 dX5_rankOf_24 rfl ?_
    refine kj_geti (k := 3) (ki := 3) X K rfl hx0 (by decide) (knEnt_3 hx0) rfl (by decide) knInX5 (knGm 177 (by decide +kernel) rfl) rfl rfl dX5_rankOf_25 (fun h7 => ?_)
    refine kj_ic_ge X (tgt := 78) dX5_rankOf_28 (by decide) hx4 h7 (fun h8 => ?_) (fun h8 => ?_)
    · replace hf := knIp hf h8
      refine kj_sub (L' := [(3, knV x3)]) [3] rfl ?_
      exact hk _ hx3 hf
    · replace hf := knIq hf h8
      refine kj_aloadn X 0 dX5_rankOf_31 rfl ?_
      refine kj_aloadn X 0 dX5_rankOf_32 rfl ?_
      refine kj_geto (k := 0) (o2 := (x0 + 1)) X K hx0 (by decide) (knEnt_3 hx0) rfl (by decide) knInX5 (knGm 166 (by decide +kernel) rfl) rfl rfl dX5_rankOf_33 ?_
      refine kj_iload X 4 dX5_rankOf_36 rfl ?_
      obtain ⟨h9, hf⟩ := knGd_inv hf
      refine kj_iald X K (knD3 hx0).1.1 hx4 (knD3 hx0).2.1 h9 dX5_rankOf_38 (fun h10 => ?_)
      refine kj_aloadn X 0 dX5_rankOf_39 rfl ?_
      refine kj_geto (k := 1) (o2 := (x0 + 2)) X K hx0 (by decide) (knEnt_3 hx0) rfl (by decide) knInX5 (knGm 170 (by decide +kernel) rfl) rfl rfl dX5_rankOf_40 ?_
      refine kj_iload X 4 dX5_rankOf_43 rfl ?_
      refine kj_iald X K (knD3 hx0).1.2.1 hx4 (knD3 hx0).2.2.1 h9 dX5_rankOf_45 (fun h11 => ?_)
      obtain ⟨q12, h13, hf⟩ := knBd_inv hf
      refine kj_callV (As := [knV (μ (x0 + 1) x4), knV (μ (x0 + 2) x4)]) (rest := []) X K (kcX5_distance l hx0 h10 h11 h13) knWvX5_distance (knGm 626 (by decide +kernel) rfl) (by decide) (knKd_in hx0 (by decide)) (knEnt_3 hx0) rfl rfl rfl (Nat.le_of_ble_eq_true rfl) (by decide) dX5_rankOf_46 rfl (fun h14 => ?_)
      refine kj_istore X (L' := [(5, knV q12), (0, knO G x0), (1, knV x1), (2, knV x2), (3, knV x3), (4, knV x4)]) dX5_rankOf_49 (by decide) rfl ?_
      refine kj_iload X 0 dX5_rankOf_51 rfl ?_
      refine kj_iloadn X 3 dX5_rankOf_53 rfl ?_
      have j18 : ∀ (t18_0 : Int) (et18_0 : t18_0 = (if q12 < x2 then (knW (x3 + 1)) else if q12 = x2 then if x1 ≤ x4 then x3 else (knW (x3 + 1)) else x3 : Int)) (ht18_0 : knC t18_0), knJ G p l e { frames := 1, cells := 0, slots := 0, locals := 24 } s m args below meth c 6 0 0 (MQ below (knPo G (knC q) (some (knV q)) μ) args s 0 0 (knA G)) 72 [(0, knO G x0), (1, knV x1), (2, knV x2), (3, knV t18_0), (4, knV x4)] [] μ := by
        intro t18_0 et18_0 ht18_0
        subst et18_0
        refine kj_iinc X 4 (L' := [(4, knV (knW (x4 + 1))), (0, knO G x0), (1, knV x1), (2, knV x2), (3, knV (if q12 < x2 then (knW (x3 + 1)) else if q12 = x2 then if x1 ≤ x4 then x3 else (knW (x3 + 1)) else x3 : Int))]) dX5_rankOf_72 rfl (by decide) rfl ?_
        refine kj_goto X (tgt := 22) dX5_rankOf_75 (by decide) ?_
        refine kj_sub (L' := [(0, knO G x0), (1, knV x1), (2, knV x2), (3, knV (if q12 < x2 then (knW (x3 + 1)) else if q12 = x2 then if x1 ≤ x4 then x3 else (knW (x3 + 1)) else x3 : Int)), (4, knV (knW (x4 + 1)))]) [1, 2, 3, 4, 0] rfl ?_
        exact ih _ ht18_0 _ (knCw _)  hf
      refine kj_ic_lt X (tgt := 69) dX5_rankOf_54 (by decide) h14 hx2 (fun h22 => ?_) (fun h22 => ?_)
      · refine kj_iinc X 4 (L' := [(3, knV (knW (x3 + 1))), (5, knV q12), (0, knO G x0), (1, knV x1), (2, knV x2), (4, knV x4)]) dX5_rankOf_69 rfl (by decide) rfl ?_
        refine kj_sub (L' := [(0, knO G x0), (1, knV x1), (2, knV x2), (3, knV (knW (x3 + 1))), (4, knV x4)]) [2, 3, 4, 0, 5] rfl ?_
        exact j18 (knW (x3 + 1)) (by rw [if_pos h22]) (knCw _)
      · refine kj_iload X 0 dX5_rankOf_57 rfl ?_
        refine kj_iloadn X 3 dX5_rankOf_59 rfl ?_
        refine kj_ic_ne X (tgt := 72) dX5_rankOf_60 (by decide) h14 hx2 (fun h23 => ?_) (fun h23 => ?_)
        · refine kj_sub (L' := [(0, knO G x0), (1, knV x1), (2, knV x2), (3, knV x3), (4, knV x4)]) [1, 2, 3, 4, 5] rfl ?_
          exact j18 x3 (by rw [if_neg h22, if_neg h23]) hx3
        · refine kj_iload X 5 dX5_rankOf_63 rfl ?_
          refine kj_iloadn X 2 dX5_rankOf_65 rfl ?_
          refine kj_ic_ge X (tgt := 72) dX5_rankOf_66 (by decide) hx4 hx1 (fun h24 => ?_) (fun h24 => ?_)
          · refine kj_sub (L' := [(0, knO G x0), (1, knV x1), (2, knV x2), (3, knV x3), (4, knV x4)]) [1, 2, 3, 4, 5] rfl ?_
            exact j18 x3 (by rw [if_neg h22, if_pos h23, if_pos h24]) hx3
          · refine kj_iinc X 4 (L' := [(3, knV (knW (x3 + 1))), (5, knV q12), (0, knO G x0), (1, knV x1), (2, knV x2), (4, knV x4)]) dX5_rankOf_69 rfl (by decide) rfl ?_
            refine kj_sub (L' := [(0, knO G x0), (1, knV x1), (2, knV x2), (3, knV (knW (x3 + 1))), (4, knV x4)]) [2, 3, 4, 0, 5] rfl ?_
            exact j18 (knW (x3 + 1)) (by rw [if_neg h22, if_pos h23, if_neg h24]) (knCw _)

set_option maxHeartbeats 4000000 in
set_option maxRecDepth 100000 in
theorem kcX5_rankOf {G : knGT} (l : Launch) {a0 : Int} {a1 : Int} (ha0 : knKd a0 = 3) (ha1 : knC a1) {μ : knMem} {q : Int} (hf : kfX5_rankOf a0 a1 μ = some q) : knC0 G l yX5_rankOf cX5_rankOf 6 (some .int) 1 24 [knO G a0, knV a1] μ (knC q) (some (knV q)) μ := by
  unfold kfX5_rankOf at hf
  refine kn_ofJ (plainFor_of_name (by decide)) (Nat.le_of_ble_eq_true rfl) (L := [(0, knO G a0), (1, knV a1)]) rfl ?_
  intro p e s m args below meth c X K hr hlk
  refine kj_aloadn X 0 dX5_rankOf_0 rfl ?_
  refine kj_aloadn X 0 dX5_rankOf_1 rfl ?_
  refine kj_geto (k := 0) (o2 := (a0 + 1)) X K ha0 (by decide) (knEnt_3 ha0) rfl (by decide) knInX5 (knGm 166 (by decide +kernel) rfl) rfl rfl dX5_rankOf_2 ?_
  refine kj_iloadn X 1 dX5_rankOf_5 rfl ?_
  obtain ⟨h1, hf⟩ := knGd_inv hf
  refine kj_iald X K (knD3 ha0).1.1 ha1 (knD3 ha0).2.1 h1 dX5_rankOf_6 (fun h2 => ?_)
  refine kj_aloadn X 0 dX5_rankOf_7 rfl ?_
  refine kj_geto (k := 1) (o2 := (a0 + 2)) X K ha0 (by decide) (knEnt_3 ha0) rfl (by decide) knInX5 (knGm 170 (by decide +kernel) rfl) rfl rfl dX5_rankOf_8 ?_
  refine kj_iloadn X 1 dX5_rankOf_11 rfl ?_
  refine kj_iald X K (knD3 ha0).1.2.1 ha1 (knD3 ha0).2.2.1 h1 dX5_rankOf_12 (fun h3 => ?_)
  obtain ⟨q4, h5, hf⟩ := knBd_inv hf
  refine kj_callV (As := [knV (μ (a0 + 1) a1), knV (μ (a0 + 2) a1)]) (rest := []) X K (kcX5_distance l ha0 h2 h3 h5) knWvX5_distance (knGm 626 (by decide +kernel) rfl) (by decide) (knKd_in ha0 (by decide)) (knEnt_3 ha0) rfl rfl rfl (Nat.le_of_ble_eq_true rfl) (by decide) dX5_rankOf_13 rfl (fun h6 => ?_)
  refine kj_istoren X (L' := [(2, knV q4), (0, knO G a0), (1, knV a1)]) dX5_rankOf_16 (by decide) rfl ?_
  refine kj_iconst X dX5_rankOf_17 ?_
  refine kj_istoren X (L' := [(3, knV 0), (2, knV q4), (0, knO G a0), (1, knV a1)]) dX5_rankOf_18 (by decide) rfl ?_
  refine kj_iconst X dX5_rankOf_19 ?_
  refine kj_istore X (L' := [(4, knV 0), (3, knV 0), (2, knV q4), (0, knO G a0), (1, knV a1)]) dX5_rankOf_20 (by decide) rfl ?_
  refine kj_sub (L' := [(0, knO G a0), (1, knV a1), (2, knV q4), (3, knV 0), (4, knV 0)]) [3, 4, 2, 1, 0] rfl ?_
  refine kfX5_rankOf_l22_ok X K hr hlk a0 a1 q4 ha0 ha1 h6 μ ?_ knF _ (show knC (0) from ⟨by omega, by omega⟩) _ (show knC (0) from ⟨by omega, by omega⟩)  hf
  intro w25_0 hw25_0
  intro hf
  refine kj_iloadn X 0 dX5_rankOf_78 rfl ?_
  cases hf
  exact kj_iret X hw25_0 hr dX5_rankOf_79 hlk

def kfX5_crossingOfRank_l2  (x0 : Int) (x1 : Int) (μ : knMem) (kc : (Unit) → Option (Int)) : Nat → Int → Option (Int)
  | 0, _ => none
  | n + 1, x2 =>
    if (μ x0 3) ≤ x2 then
     kc ()
    else
     Option.bind (kfX5_rankOf x0 x2 μ) (fun q3 =>
      if q3 = x1 then
       some x2
      else
       kfX5_crossingOfRank_l2  x0 x1 μ kc n (knW (x2 + 1)))

def kfX5_crossingOfRank (a0 : Int) (a1 : Int) (μ : knMem) : Option (Int) :=
 kfX5_crossingOfRank_l2 a0 a1 μ (fun _ =>
  some (-1)) knF 0

theorem knWvX5_crossingOfRank : knWv yX5_crossingOfRank cX5_crossingOfRank 3 (some .int) 1 := ⟨(knGm 1101 (by decide +kernel) rfl), (knGm 116 (by decide +kernel) rfl), (knGm 1099 (by decide +kernel) rfl), (knGm 1100 (by decide +kernel) rfl), by decide +kernel, by decide +kernel, by decide +kernel⟩
set_option maxHeartbeats 4000000 in
set_option maxRecDepth 100000 in
theorem kfX5_crossingOfRank_l2_ok {q : Int} {kc : (Unit) → Option (Int)} {G : knGT} {p : Program} {l : Launch} {e : Env} {s : State} {m : MethodId} {args : Array Value} {below : List Frame} {meth : Method} {c : Code} (X : knX p m c cX5_crossingOfRank 3 s args yX5_crossingOfRank.cls) (K : knK G s s.heap) (hr : meth.sig.returnType = (some .int)) (hlk : meth.locks = false) (x0 : Int) (x1 : Int) (hx0 : knKd x0 = 3) (hx1 : knC x1) (μ : knMem) (hk : kc () = some q → knJ G p l e { frames := 2, cells := 0, slots := 0, locals := 49 } s m args below meth c 3 0 0 (MQ below (knPo G (knC q) (some (knV q)) μ) args s 0 0 (knA G)) 27 [] [] μ) : ∀ (n : Nat) (x2 : Int) (hx2 : knC x2) , kfX5_crossingOfRank_l2  x0 x1 μ kc n x2 = some q → knJ G p l e { frames := 2, cells := 0, slots := 0, locals := 49 } s m args below meth c 3 0 0 (MQ below (knPo G (knC q) (some (knV q)) μ) args s 0 0 (knA G)) 2 [(0, knO G x0), (1, knV x1), (2, knV x2)] [] μ := by
  intro n
  induction n with
  | zero => intro x2 hx2 hf; cases hf
  | succ n ih =>
    intro x2 hx2 hf
    unfold kfX5_crossingOfRank_l2 at hf
    refine kj_iloadn X 2 dX5_crossingOfRank_2 rfl ?_
    refine kj_aloadn X 0 dX5_crossingOfRank_3 rfl ?_
    refine kj_geti (k := 3) (ki := 3) X K rfl hx0 (by decide) (knEnt_3 hx0) rfl (by decide) knInX5 (knGm 177 (by decide +kernel) rfl) rfl rfl dX5_crossingOfRank_4 (fun h1 => ?_)
    refine kj_ic_ge X (tgt := 27) dX5_crossingOfRank_7 (by decide) hx2 h1 (fun h2 => ?_) (fun h2 => ?_)
    · replace hf := knIp hf h2
      refine kj_sub (L' := []) [] rfl ?_
      exact hk  hf
    · replace hf := knIq hf h2
      refine kj_aloadn X 0 dX5_crossingOfRank_10 rfl ?_
      refine kj_iloadn X 2 dX5_crossingOfRank_11 rfl ?_
      obtain ⟨q3, h4, hf⟩ := knBd_inv hf
      refine kj_callV (As := [knV x2]) (rest := []) X K (kcX5_rankOf l hx0 hx2 h4) knWvX5_rankOf (knGm 1102 (by decide +kernel) rfl) (by decide) (knKd_in hx0 (by decide)) (knEnt_3 hx0) rfl rfl rfl (Nat.le_of_ble_eq_true rfl) (by decide) dX5_crossingOfRank_12 rfl (fun h5 => ?_)
      refine kj_iloadn X 1 dX5_crossingOfRank_15 rfl ?_
      refine kj_ic_ne X (tgt := 21) dX5_crossingOfRank_16 (by decide) h5 hx1 (fun h6 => ?_) (fun h6 => ?_)
      · replace hf := knIq hf h6
        refine kj_iinc X 2 (L' := [(2, knV (knW (x2 + 1))), (0, knO G x0), (1, knV x1)]) dX5_crossingOfRank_21 rfl (by decide) rfl ?_
        refine kj_goto X (tgt := 2) dX5_crossingOfRank_24 (by decide) ?_
        refine kj_sub (L' := [(0, knO G x0), (1, knV x1), (2, knV (knW (x2 + 1)))]) [1, 2, 0] rfl ?_
        exact ih _ (knCw _)  hf
      · replace hf := knIp hf h6
        refine kj_iloadn X 2 dX5_crossingOfRank_19 rfl ?_
        cases hf
        exact kj_iret X hx2 hr dX5_crossingOfRank_20 hlk

set_option maxHeartbeats 4000000 in
set_option maxRecDepth 100000 in
theorem kcX5_crossingOfRank {G : knGT} (l : Launch) {a0 : Int} {a1 : Int} (ha0 : knKd a0 = 3) (ha1 : knC a1) {μ : knMem} {q : Int} (hf : kfX5_crossingOfRank a0 a1 μ = some q) : knC0 G l yX5_crossingOfRank cX5_crossingOfRank 3 (some .int) 2 49 [knO G a0, knV a1] μ (knC q) (some (knV q)) μ := by
  unfold kfX5_crossingOfRank at hf
  refine kn_ofJ (plainFor_of_name (by decide)) (Nat.le_of_ble_eq_true rfl) (L := [(0, knO G a0), (1, knV a1)]) rfl ?_
  intro p e s m args below meth c X K hr hlk
  refine kj_iconst X dX5_crossingOfRank_0 ?_
  refine kj_istoren X (L' := [(2, knV 0), (0, knO G a0), (1, knV a1)]) dX5_crossingOfRank_1 (by decide) rfl ?_
  refine kj_sub (L' := [(0, knO G a0), (1, knV a1), (2, knV 0)]) [1, 2, 0] rfl ?_
  refine kfX5_crossingOfRank_l2_ok X K hr hlk a0 a1 ha0 ha1 μ ?_ knF _ (show knC (0) from ⟨by omega, by omega⟩)  hf
  intro hf
  refine kj_iconst X dX5_crossingOfRank_27 ?_
  cases hf
  exact kj_iret X (show knC (-1) from ⟨by omega, by omega⟩) hr dX5_crossingOfRank_28 hlk

def kfX12_crossingByChord (a1 : Int) (μ : knMem) : Option (Int × Int) :=
 Option.bind (kfX5_hasCrossing 2 a1 μ) (fun q1 =>
  if q1 = 0 then
   some (5, 0)
  else
   Option.bind (kfX5_crossingOfRank 2 a1 μ) (fun q5 =>
    some (0, q5)))

theorem knWvX12_crossingByChord : knWv yX12_crossingByChord cX12_crossingByChord 2 (some .int) 1 := ⟨(knGm 1096 (by decide +kernel) rfl), (knGm 114 (by decide +kernel) rfl), (knGm 1094 (by decide +kernel) rfl), (knGm 1095 (by decide +kernel) rfl), by decide +kernel, by decide +kernel, by decide +kernel⟩
set_option maxHeartbeats 4000000 in
set_option maxRecDepth 100000 in
theorem kcX12_crossingByChord {G : knGT} (l : Launch) (hl : l.stackTraces = false) {a1 : Int} (ha1 : knC a1) {μ : knMem} {q : Int × Int} (hf : kfX12_crossingByChord a1 μ = some q) : knCx G l yX12_crossingByChord cX12_crossingByChord 2 (some .int) 6 100 1 6 [knO G 0, knV a1] μ (knC q.2) q.1 (some (knV q.2)) μ := by
  unfold kfX12_crossingByChord at hf
  refine kn_ofJx (by decide) (Nat.le_of_ble_eq_true rfl) (L := [(0, knO G 0), (1, knV a1)]) rfl ?_
  intro p e s m args below meth c X K hr hlk hnx
  refine kj_aloadn X 0 dX12_crossingByChord_0 rfl ?_
  refine kj_geto (k := 1) (o2 := 2) X K kdc_0 (by decide) (knEnt_9 kdc_0) rfl (by decide) knInX12 (knGm 362 (by decide +kernel) rfl) rfl rfl dX12_crossingByChord_1 ?_
  refine kj_iloadn X 1 dX12_crossingByChord_4 rfl ?_
  obtain ⟨q1, h2, hf⟩ := knBd_inv hf
  refine kj_callV (As := [knV a1]) (rest := []) X K (kcX5_hasCrossing l kdc_2 ha1 h2) knWvX5_hasCrossing (knGm 1057 (by decide +kernel) rfl) (by decide) (knKd_in kdc_2 (by decide)) (knEnt_3 kdc_2) rfl rfl rfl (Nat.le_of_ble_eq_true rfl) (by decide) dX12_crossingByChord_5 rfl (fun h3 => ?_)
  refine kj_if_ne X (tgt := 21) dX12_crossingByChord_8 (by decide) (knZ_c h3) (fun h4 => ?_) (fun h4 => ?_)
  · replace hf := knIq hf h4
    refine kj_aloadn X 0 dX12_crossingByChord_21 rfl ?_
    refine kj_geto (k := 1) (o2 := 2) X K kdc_0 (by decide) (knEnt_9 kdc_0) rfl (by decide) knInX12 (knGm 362 (by decide +kernel) rfl) rfl rfl dX12_crossingByChord_22 ?_
    refine kj_iloadn X 1 dX12_crossingByChord_25 rfl ?_
    obtain ⟨q5, h6, hf⟩ := knBd_inv hf
    refine kj_callV (As := [knV a1]) (rest := []) X K (kcX5_crossingOfRank l kdc_2 ha1 h6) knWvX5_crossingOfRank (knGm 1098 (by decide +kernel) rfl) (by decide) (knKd_in kdc_2 (by decide)) (knEnt_3 kdc_2) rfl rfl rfl (Nat.le_of_ble_eq_true rfl) (by decide) dX12_crossingByChord_26 rfl (fun h7 => ?_)
    cases hf
    exact kjx_iret X h7 rfl (by decide) (by decide) hr dX12_crossingByChord_29 hlk
  · replace hf := knIp hf h4
    cases hf
    exact kjx_throw5 X K hl (i := 7) (by show (5 : Int) ≠ 0; decide) rfl (by decide +kernel) (by decide) rfl rfl knTh5.1 knTh5.2 dX12_crossingByChord_11 dX12_crossingByChord_14 dX12_crossingByChord_15 dX12_crossingByChord_17 dX12_crossingByChord_20 hnx (by decide) hlk (by decide) (by decide)

def kfX5_arcs (a0 : Int) (μ : knMem) : Option (Int) :=
 some (if (μ a0 3) = 0 then 1 else (μ a0 3) : Int)

theorem knWvX5_arcs : knWv yX5_arcs cX5_arcs 1 (some .int) 0 := ⟨(knGm 681 (by decide +kernel) rfl), (knGm 116 (by decide +kernel) rfl), (knGm 679 (by decide +kernel) rfl), (knGm 680 (by decide +kernel) rfl), by decide +kernel, by decide +kernel, by decide +kernel⟩
set_option maxHeartbeats 4000000 in
set_option maxRecDepth 100000 in
theorem kcX5_arcs {G : knGT} (l : Launch) {a0 : Int} (ha0 : knKd a0 = 3) {μ : knMem} {q : Int} (hf : kfX5_arcs a0 μ = some q) : knC0 G l yX5_arcs cX5_arcs 1 (some .int) 0 0 [knO G a0] μ (knC q) (some (knV q)) μ := by
  unfold kfX5_arcs at hf
  refine kn_ofJ (plainFor_of_name (by decide)) (Nat.le_of_ble_eq_true rfl) (L := [(0, knO G a0)]) rfl ?_
  intro p e s m args below meth c X K hr hlk
  refine kj_aloadn X 0 dX5_arcs_0 rfl ?_
  refine kj_geti (k := 3) (ki := 3) X K rfl ha0 (by decide) (knEnt_3 ha0) rfl (by decide) knInX5 (knGm 177 (by decide +kernel) rfl) rfl rfl dX5_arcs_1 (fun h1 => ?_)
  have j4 : ∀ (t4_0 : Int) (et4_0 : t4_0 = (if (μ a0 3) = 0 then 1 else (μ a0 3) : Int)) (ht4_0 : knC t4_0), knJ G p l e { frames := 0, cells := 0, slots := 0, locals := 0 } s m args below meth c 1 0 0 (MQ below (knPo G (knC q) (some (knV q)) μ) args s 0 0 (knA G)) 15 [] [knV t4_0] μ := by
    intro t4_0 et4_0 ht4_0
    subst et4_0
    cases hf
    exact kj_iret X ht4_0 hr dX5_arcs_15 hlk
  refine kj_if_ne X (tgt := 11) dX5_arcs_4 (by decide) h1 (fun h7 => ?_) (fun h7 => ?_)
  · refine kj_aloadn X 0 dX5_arcs_11 rfl ?_
    refine kj_geti (k := 3) (ki := 3) X K rfl ha0 (by decide) (knEnt_3 ha0) rfl (by decide) knInX5 (knGm 177 (by decide +kernel) rfl) rfl rfl dX5_arcs_12 (fun h8 => ?_)
    refine kj_sub (L' := []) [] rfl ?_
    exact j4 (μ a0 3) (by rw [if_neg h7]) h8
  · refine kj_iconst X dX5_arcs_7 ?_
    refine kj_goto X (tgt := 15) dX5_arcs_8 (by decide) ?_
    refine kj_sub (L' := []) [] rfl ?_
    exact j4 1 (by rw [if_pos h7]) (show knC (1) from ⟨by omega, by omega⟩)

def kfX12_arcCount  (μ : knMem) : Option (Int) :=
 Option.bind (kfX5_arcs 2 μ) (fun q1 =>
  some q1)

theorem knWvX12_arcCount : knWv yX12_arcCount cX12_arcCount 1 (some .int) 0 := ⟨(knGm 677 (by decide +kernel) rfl), (knGm 114 (by decide +kernel) rfl), (knGm 675 (by decide +kernel) rfl), (knGm 676 (by decide +kernel) rfl), by decide +kernel, by decide +kernel, by decide +kernel⟩
set_option maxHeartbeats 4000000 in
set_option maxRecDepth 100000 in
theorem kcX12_arcCount {G : knGT} (l : Launch)   {μ : knMem} {q : Int} (hf : kfX12_arcCount  μ = some q) : knC0 G l yX12_arcCount cX12_arcCount 1 (some .int) 1 20 [knO G 0] μ (knC q) (some (knV q)) μ := by
  unfold kfX12_arcCount at hf
  refine kn_ofJ (plainFor_of_name (by decide)) (Nat.le_of_ble_eq_true rfl) (L := [(0, knO G 0)]) rfl ?_
  intro p e s m args below meth c X K hr hlk
  refine kj_aloadn X 0 dX12_arcCount_0 rfl ?_
  refine kj_geto (k := 1) (o2 := 2) X K kdc_0 (by decide) (knEnt_9 kdc_0) rfl (by decide) knInX12 (knGm 362 (by decide +kernel) rfl) rfl rfl dX12_arcCount_1 ?_
  obtain ⟨q1, h2, hf⟩ := knBd_inv hf
  refine kj_callV (As := []) (rest := []) X K (kcX5_arcs l kdc_2 h2) knWvX5_arcs (knGm 678 (by decide +kernel) rfl) (by decide) (knKd_in kdc_2 (by decide)) (knEnt_3 kdc_2) rfl rfl rfl (Nat.le_of_ble_eq_true rfl) (by decide) dX12_arcCount_4 rfl (fun h3 => ?_)
  cases hf
  exact kj_iret X h3 hr dX12_arcCount_7 hlk

def kfX5_arcOf_l4  (x0 : Int) (x1 : Int) (μ : knMem) (kc : (Int) → Option (Int)) : Nat → Int → Int → Option (Int)
  | 0, _, _ => none
  | n + 1, x2, x3 =>
    if (μ x0 3) ≤ x3 then
     kc x2
    else
     knGd (0 ≤ x3 ∧ x3 < 7)
      (kfX5_arcOf_l4  x0 x1 μ kc n (if x1 < (μ (x0 + 2) x3) then x2 else (knW (x2 + 1)) : Int) (knW (x3 + 1)))

def kfX5_arcOf (a0 : Int) (a1 : Int) (μ : knMem) : Option (Int) :=
 kfX5_arcOf_l4 a0 a1 μ (fun w9 =>
  some (if w9 = 0 then (knW ((μ a0 3) - 1)) else (knW (w9 - 1)) : Int)) knF 0 0

theorem knWvX5_arcOf : knWv yX5_arcOf cX5_arcOf 4 (some .int) 1 := ⟨(knGm 697 (by decide +kernel) rfl), (knGm 116 (by decide +kernel) rfl), (knGm 695 (by decide +kernel) rfl), (knGm 696 (by decide +kernel) rfl), by decide +kernel, by decide +kernel, by decide +kernel⟩
set_option maxHeartbeats 4000000 in
set_option maxRecDepth 100000 in
theorem kfX5_arcOf_l4_ok {q : Int} {kc : (Int) → Option (Int)} {G : knGT} {p : Program} {l : Launch} {e : Env} {s : State} {m : MethodId} {args : Array Value} {below : List Frame} {meth : Method} {c : Code} (X : knX p m c cX5_arcOf 4 s args yX5_arcOf.cls) (K : knK G s s.heap) (hr : meth.sig.returnType = (some .int)) (hlk : meth.locks = false) (x0 : Int) (x1 : Int) (hx0 : knKd x0 = 3) (hx1 : knC x1) (μ : knMem) (hk : ∀ (y2 : Int) (hy2 : knC y2), kc y2 = some q → knJ G p l e { frames := 0, cells := 0, slots := 0, locals := 0 } s m args below meth c 4 0 0 (MQ below (knPo G (knC q) (some (knV q)) μ) args s 0 0 (knA G)) 31 [(0, knO G x0), (2, knV y2)] [] μ) : ∀ (n : Nat) (x2 : Int) (hx2 : knC x2) (x3 : Int) (hx3 : knC x3) , kfX5_arcOf_l4  x0 x1 μ kc n x2 x3 = some q → knJ G p l e { frames := 0, cells := 0, slots := 0, locals := 0 } s m args below meth c 4 0 0 (MQ below (knPo G (knC q) (some (knV q)) μ) args s 0 0 (knA G)) 4 [(0, knO G x0), (1, knV x1), (2, knV x2), (3, knV x3)] [] μ := by
  intro n
  induction n with
  | zero => intro x2 hx2 x3 hx3 hf; cases hf
  | succ n ih =>
    intro x2 hx2 x3 hx3 hf
    unfold kfX5_arcOf_l4 at hf
    refine kj_iloadn X 3 dX5_arcOf_4 rfl ?_
    refine kj_aloadn X 0 dX5_arcOf_5 rfl ?_
    refine kj_geti (k := 3) (ki := 3) X K rfl hx0 (by decide) (knEnt_3 hx0) rfl (by decide) knInX5 (knGm 177 (by decide +kernel) rfl) rfl rfl dX5_arcOf_6 (fun h1 => ?_)
    refine kj_ic_ge X (tgt := 31) dX5_arcOf_9 (by decide) hx3 h1 (fun h2 => ?_) (fun h2 => ?_)
    · replace hf := knIp hf h2
      refine kj_sub (L' := [(0, knO G x0), (2, knV x2)]) [0, 2] rfl ?_
      exact hk _ hx2 hf
    · replace hf := knIq hf h2
      refine kj_aloadn X 0 dX5_arcOf_12 rfl ?_
      refine kj_geto (k := 1) (o2 := (x0 + 2)) X K hx0 (by decide) (knEnt_3 hx0) rfl (by decide) knInX5 (knGm 170 (by decide +kernel) rfl) rfl rfl dX5_arcOf_13 ?_
      refine kj_iloadn X 3 dX5_arcOf_16 rfl ?_
      obtain ⟨h3, hf⟩ := knGd_inv hf
      refine kj_iald X K (knD3 hx0).1.2.1 hx3 (knD3 hx0).2.2.1 h3 dX5_arcOf_17 (fun h4 => ?_)
      refine kj_iloadn X 1 dX5_arcOf_18 rfl ?_
      have j6 : ∀ (t6_0 : Int) (et6_0 : t6_0 = (if x1 < (μ (x0 + 2) x3) then x2 else (knW (x2 + 1)) : Int)) (ht6_0 : knC t6_0), knJ G p l e { frames := 0, cells := 0, slots := 0, locals := 0 } s m args below meth c 4 0 0 (MQ below (knPo G (knC q) (some (knV q)) μ) args s 0 0 (knA G)) 25 [(0, knO G x0), (1, knV x1), (2, knV t6_0), (3, knV x3)] [] μ := by
        intro t6_0 et6_0 ht6_0
        subst et6_0
        refine kj_iinc X 3 (L' := [(3, knV (knW (x3 + 1))), (0, knO G x0), (1, knV x1), (2, knV (if x1 < (μ (x0 + 2) x3) then x2 else (knW (x2 + 1)) : Int))]) dX5_arcOf_25 rfl (by decide) rfl ?_
        refine kj_goto X (tgt := 4) dX5_arcOf_28 (by decide) ?_
        refine kj_sub (L' := [(0, knO G x0), (1, knV x1), (2, knV (if x1 < (μ (x0 + 2) x3) then x2 else (knW (x2 + 1)) : Int)), (3, knV (knW (x3 + 1)))]) [1, 2, 3, 0] rfl ?_
        exact ih _ ht6_0 _ (knCw _)  hf
      refine kj_ic_gt X (tgt := 25) dX5_arcOf_19 (by decide) h4 hx1 (fun h8 => ?_) (fun h8 => ?_)
      · refine kj_sub (L' := [(0, knO G x0), (1, knV x1), (2, knV x2), (3, knV x3)]) [0, 1, 2, 3] rfl ?_
        exact j6 x2 (by rw [if_pos h8]) hx2
      · refine kj_iinc X 2 (L' := [(2, knV (knW (x2 + 1))), (0, knO G x0), (1, knV x1), (3, knV x3)]) dX5_arcOf_22 rfl (by decide) rfl ?_
        refine kj_sub (L' := [(0, knO G x0), (1, knV x1), (2, knV (knW (x2 + 1))), (3, knV x3)]) [1, 2, 0, 3] rfl ?_
        exact j6 (knW (x2 + 1)) (by rw [if_neg h8]) (knCw _)

set_option maxHeartbeats 4000000 in
set_option maxRecDepth 100000 in
theorem kcX5_arcOf {G : knGT} (l : Launch) {a0 : Int} {a1 : Int} (ha0 : knKd a0 = 3) (ha1 : knC a1) {μ : knMem} {q : Int} (hf : kfX5_arcOf a0 a1 μ = some q) : knC0 G l yX5_arcOf cX5_arcOf 4 (some .int) 0 0 [knO G a0, knV a1] μ (knC q) (some (knV q)) μ := by
  unfold kfX5_arcOf at hf
  refine kn_ofJ (plainFor_of_name (by decide)) (Nat.le_of_ble_eq_true rfl) (L := [(0, knO G a0), (1, knV a1)]) rfl ?_
  intro p e s m args below meth c X K hr hlk
  refine kj_iconst X dX5_arcOf_0 ?_
  refine kj_istoren X (L' := [(2, knV 0), (0, knO G a0), (1, knV a1)]) dX5_arcOf_1 (by decide) rfl ?_
  refine kj_iconst X dX5_arcOf_2 ?_
  refine kj_istoren X (L' := [(3, knV 0), (2, knV 0), (0, knO G a0), (1, knV a1)]) dX5_arcOf_3 (by decide) rfl ?_
  refine kj_sub (L' := [(0, knO G a0), (1, knV a1), (2, knV 0), (3, knV 0)]) [2, 3, 1, 0] rfl ?_
  refine kfX5_arcOf_l4_ok X K hr hlk a0 a1 ha0 ha1 μ ?_ knF _ (show knC (0) from ⟨by omega, by omega⟩) _ (show knC (0) from ⟨by omega, by omega⟩)  hf
  intro w9_0 hw9_0
  intro hf
  refine kj_iloadn X 1 dX5_arcOf_31 rfl ?_
  have j19 : ∀ (t19_0 : Int) (et19_0 : t19_0 = (if w9_0 = 0 then (knW ((μ a0 3) - 1)) else (knW (w9_0 - 1)) : Int)) (ht19_0 : knC t19_0), knJ G p l e { frames := 0, cells := 0, slots := 0, locals := 0 } s m args below meth c 4 0 0 (MQ below (knPo G (knC q) (some (knV q)) μ) args s 0 0 (knA G)) 47 [] [knV t19_0] μ := by
    intro t19_0 et19_0 ht19_0
    subst et19_0
    cases hf
    exact kj_iret X ht19_0 hr dX5_arcOf_47 hlk
  refine kj_if_ne X (tgt := 44) dX5_arcOf_32 (by decide) hw9_0 (fun h22 => ?_) (fun h22 => ?_)
  · refine kj_iloadn X 1 dX5_arcOf_44 rfl ?_
    refine kj_iconst X dX5_arcOf_45 ?_
    refine kj_isub X dX5_arcOf_46 ?_
    refine kj_sub (L' := []) [] rfl ?_
    exact j19 (knW (w9_0 - 1)) (by rw [if_neg h22]) (knCw _)
  · refine kj_aloadn X 0 dX5_arcOf_35 rfl ?_
    refine kj_geti (k := 3) (ki := 3) X K rfl ha0 (by decide) (knEnt_3 ha0) rfl (by decide) knInX5 (knGm 177 (by decide +kernel) rfl) rfl rfl dX5_arcOf_36 (fun h23 => ?_)
    refine kj_iconst X dX5_arcOf_39 ?_
    refine kj_isub X dX5_arcOf_40 ?_
    refine kj_goto X (tgt := 47) dX5_arcOf_41 (by decide) ?_
    refine kj_sub (L' := []) [] rfl ?_
    exact j19 (knW ((μ a0 3) - 1)) (by rw [if_pos h22]) (knCw _)

def kfX12_arcAt (a1 : Int) (μ : knMem) : Option (Int × Int) :=
 Option.bind (kfX12_requirePosition a1 μ) (fun q1 =>
  if q1 = 0 then
  Option.bind (kfX5_arcOf 2 a1 μ) (fun q7 =>
   some (0, q7))
  else
  some (q1, 0))

theorem knWvX12_arcAt : knWv yX12_arcAt cX12_arcAt 2 (some .int) 1 := ⟨(knGm 1112 (by decide +kernel) rfl), (knGm 114 (by decide +kernel) rfl), (knGm 1110 (by decide +kernel) rfl), (knGm 1111 (by decide +kernel) rfl), by decide +kernel, by decide +kernel, by decide +kernel⟩
set_option maxHeartbeats 4000000 in
set_option maxRecDepth 100000 in
theorem kcX12_arcAt {G : knGT} (l : Launch) (hl : l.stackTraces = false) {a1 : Int} (ha1 : knC a1) {μ : knMem} {q : Int × Int} (hf : kfX12_arcAt a1 μ = some q) : knCx G l yX12_arcAt cX12_arcAt 2 (some .int) 7 121 1 6 [knO G 0, knV a1] μ (knC q.2) q.1 (some (knV q.2)) μ := by
  unfold kfX12_arcAt at hf
  refine kn_ofJx (by decide) (Nat.le_of_ble_eq_true rfl) (L := [(0, knO G 0), (1, knV a1)]) rfl ?_
  intro p e s m args below meth c X K hr hlk hnx
  refine kj_aloadn X 0 dX12_arcAt_0 rfl ?_
  refine kj_iloadn X 1 dX12_arcAt_1 rfl ?_
  obtain ⟨q1, h2, hf⟩ := knBd_inv hf
  refine kjx_callV (As := [knV a1]) (rest := []) X K (kcX12_requirePosition l hl ha1 h2) knWvX12_requirePosition (knGm 1033 (by decide +kernel) rfl) (by decide) (knKd_in kdc_0 (by decide)) (knEnt_9 kdc_0) rfl rfl rfl (Nat.le_of_ble_eq_true rfl) (by decide) dX12_arcAt_2 rfl (fun h4 h3 => ?_) (fun E5 h4 h6 => ?_)
  · replace hf := knIp hf h4
    refine kj_aloadn X 0 dX12_arcAt_5 rfl ?_
    refine kj_geto (k := 1) (o2 := 2) X K kdc_0 (by decide) (knEnt_9 kdc_0) rfl (by decide) knInX12 (knGm 362 (by decide +kernel) rfl) rfl rfl dX12_arcAt_6 ?_
    refine kj_iloadn X 1 dX12_arcAt_9 rfl ?_
    obtain ⟨q7, h8, hf⟩ := knBd_inv hf
    refine kj_callV (As := [knV a1]) (rest := []) X K (kcX5_arcOf l kdc_2 ha1 h8) knWvX5_arcOf (knGm 1113 (by decide +kernel) rfl) (by decide) (knKd_in kdc_2 (by decide)) (knEnt_3 kdc_2) rfl rfl rfl (Nat.le_of_ble_eq_true rfl) (by decide) dX12_arcAt_10 rfl (fun h9 => ?_)
    cases hf
    exact kjx_iret X h9 rfl (by decide) (by decide) hr dX12_arcAt_13 hlk
  · replace hf := knIq hf h4
    cases hf
    exact kjx_out h4 h6 (by decide) (by decide) hnx hlk

def kfX5_before (a0 : Int) (a1 : Int) (μ : knMem) : Option (Int) :=
 some (if a1 = 0 then (knW ((knW (2 * (μ a0 3))) - 1)) else (knW (a1 - 1)) : Int)

theorem knWvX5_before : knWv yX5_before cX5_before 2 (some .int) 1 := ⟨(knGm 701 (by decide +kernel) rfl), (knGm 116 (by decide +kernel) rfl), (knGm 699 (by decide +kernel) rfl), (knGm 700 (by decide +kernel) rfl), by decide +kernel, by decide +kernel, by decide +kernel⟩
set_option maxHeartbeats 4000000 in
set_option maxRecDepth 100000 in
theorem kcX5_before {G : knGT} (l : Launch) {a0 : Int} {a1 : Int} (ha0 : knKd a0 = 3) (ha1 : knC a1) {μ : knMem} {q : Int} (hf : kfX5_before a0 a1 μ = some q) : knC0 G l yX5_before cX5_before 2 (some .int) 0 0 [knO G a0, knV a1] μ (knC q) (some (knV q)) μ := by
  unfold kfX5_before at hf
  refine kn_ofJ (plainFor_of_name (by decide)) (Nat.le_of_ble_eq_true rfl) (L := [(0, knO G a0), (1, knV a1)]) rfl ?_
  intro p e s m args below meth c X K hr hlk
  refine kj_iloadn X 1 dX5_before_0 rfl ?_
  have j3 : ∀ (t3_0 : Int) (et3_0 : t3_0 = (if a1 = 0 then (knW ((knW (2 * (μ a0 3))) - 1)) else (knW (a1 - 1)) : Int)) (ht3_0 : knC t3_0), knJ G p l e { frames := 0, cells := 0, slots := 0, locals := 0 } s m args below meth c 2 0 0 (MQ below (knPo G (knC q) (some (knV q)) μ) args s 0 0 (knA G)) 18 [] [knV t3_0] μ := by
    intro t3_0 et3_0 ht3_0
    subst et3_0
    cases hf
    exact kj_iret X ht3_0 hr dX5_before_18 hlk
  refine kj_if_ne X (tgt := 15) dX5_before_1 (by decide) ha1 (fun h6 => ?_) (fun h6 => ?_)
  · refine kj_iloadn X 1 dX5_before_15 rfl ?_
    refine kj_iconst X dX5_before_16 ?_
    refine kj_isub X dX5_before_17 ?_
    refine kj_sub (L' := []) [] rfl ?_
    exact j3 (knW (a1 - 1)) (by rw [if_neg h6]) (knCw _)
  · refine kj_iconst X dX5_before_4 ?_
    refine kj_aloadn X 0 dX5_before_5 rfl ?_
    refine kj_geti (k := 3) (ki := 3) X K rfl ha0 (by decide) (knEnt_3 ha0) rfl (by decide) knInX5 (knGm 177 (by decide +kernel) rfl) rfl rfl dX5_before_6 (fun h7 => ?_)
    refine kj_imul X dX5_before_9 ?_
    refine kj_iconst X dX5_before_10 ?_
    refine kj_isub X dX5_before_11 ?_
    refine kj_goto X (tgt := 18) dX5_before_12 (by decide) ?_
    refine kj_sub (L' := []) [] rfl ?_
    exact j3 (knW ((knW (2 * (μ a0 3))) - 1)) (by rw [if_pos h6]) (knCw _)

def kfX3_readArcs_l10  (x1 : Int)  (kc : (knMem) → Option (knMem)) : Nat → Int → knMem → Option (knMem)
  | 0, _, _ => none
  | n + 1, x2, μ =>
    if (μ 106 5) ≤ x2 then
     kc μ
    else
     knGd (0 ≤ x2 ∧ x2 < 7)
      (Option.bind (kfX5_arcOf x1 (μ (x1 + 1) x2) μ) (fun q7 =>
      Option.bind (kfX5_before x1 (μ (x1 + 2) x2) (knUp μ 107 x2 q7)) (fun q10 =>
       Option.bind (kfX5_arcOf x1 q10 (knUp μ 107 x2 q7)) (fun q13 =>
        Option.bind (kfX5_arcOf x1 (μ (x1 + 2) x2) (knUp (knUp μ 107 x2 q7) 108 x2 q13)) (fun q16 =>
         kfX3_readArcs_l10  x1 kc n (knW (x2 + 1)) (knUp (knUp (knUp μ 107 x2 q7) 108 x2 q13) 109 x2 q16))))))

def kfX3_readArcs (a1 : Int) (μ : knMem) : Option (knMem) :=
 kfX3_readArcs_l10 a1  (fun w19 =>
  some w19) knF 0 (knUp μ 106 5 (μ a1 3))

theorem knWvX3_readArcs : knWv yX3_readArcs cX3_readArcs 4 none 1 := ⟨(knGm 693 (by decide +kernel) rfl), (knGm 119 (by decide +kernel) rfl), (knGm 692 (by decide +kernel) rfl), (knGm 7 (by decide +kernel) rfl), by decide +kernel, by decide +kernel, by decide +kernel⟩
set_option maxHeartbeats 4000000 in
set_option maxRecDepth 100000 in
theorem kfX3_readArcs_l10_ok {q : knMem} {kc : (knMem) → Option (knMem)} {G : knGT} {p : Program} {l : Launch} {e : Env} {s : State} {m : MethodId} {args : Array Value} {below : List Frame} {meth : Method} {c : Code} (X : knX p m c cX3_readArcs 4 s args yX3_readArcs.cls) (K : knK G s s.heap) (hr : meth.sig.returnType = none) (hlk : meth.locks = false) (x1 : Int) (hx1 : knKd x1 = 3)  (hk : ∀ (μ1 : knMem), kc μ1 = some q → knJ G p l e { frames := 1, cells := 0, slots := 0, locals := 23 } s m args below meth c 4 0 0 (MQ below (knPo G True none q) args s 0 0 (knA G)) 73 [] [] μ1) : ∀ (n : Nat) (x2 : Int) (hx2 : knC x2) (μ : knMem), kfX3_readArcs_l10  x1 kc n x2 μ = some q → knJ G p l e { frames := 1, cells := 0, slots := 0, locals := 23 } s m args below meth c 4 0 0 (MQ below (knPo G True none q) args s 0 0 (knA G)) 10 [(0, knO G 106), (1, knO G x1), (2, knV x2)] [] μ := by
  intro n
  induction n with
  | zero => intro x2 hx2 μ hf; cases hf
  | succ n ih =>
    intro x2 hx2 μ hf
    unfold kfX3_readArcs_l10 at hf
    refine kj_iloadn X 2 dX3_readArcs_10 rfl ?_
    refine kj_aloadn X 0 dX3_readArcs_11 rfl ?_
    refine kj_geti (k := 5) (ki := 5) X K rfl kdc_106 (by decide) (knEnt_2 kdc_106) rfl (by decide) knInX3 (knGm 264 (by decide +kernel) rfl) rfl rfl dX3_readArcs_12 (fun h2 => ?_)
    refine kj_ic_ge X (tgt := 73) dX3_readArcs_15 (by decide) hx2 h2 (fun h3 => ?_) (fun h3 => ?_)
    · replace hf := knIp hf h3
      refine kj_sub (L' := []) [] rfl ?_
      exact hk _ hf
    · replace hf := knIq hf h3
      refine kj_aloadn X 1 dX3_readArcs_18 rfl ?_
      refine kj_geto (k := 1) (o2 := (x1 + 2)) X K hx1 (by decide) (knEnt_3 hx1) rfl (by decide) knInX5 (knGm 171 (by decide +kernel) rfl) rfl rfl dX3_readArcs_19 ?_
      refine kj_iloadn X 2 dX3_readArcs_22 rfl ?_
      obtain ⟨h4, hf⟩ := knGd_inv hf
      refine kj_iald X K (knD3 hx1).1.2.1 hx2 (knD3 hx1).2.2.1 h4 dX3_readArcs_23 (fun h5 => ?_)
      refine kj_istoren X (L' := [(3, knV (μ (x1 + 2) x2)), (0, knO G 106), (1, knO G x1), (2, knV x2)]) dX3_readArcs_24 (by decide) rfl ?_
      refine kj_aloadn X 1 dX3_readArcs_25 rfl ?_
      refine kj_geto (k := 0) (o2 := 107) X K kdc_106 (by decide) (knEnt_2 kdc_106) rfl (by decide) knInX3 (knGm 259 (by decide +kernel) rfl) rfl rfl dX3_readArcs_26 ?_
      refine kj_iloadn X 3 dX3_readArcs_29 rfl ?_
      refine kj_aloadn X 2 dX3_readArcs_30 rfl ?_
      refine kj_aloadn X 2 dX3_readArcs_31 rfl ?_
      refine kj_geto (k := 0) (o2 := (x1 + 1)) X K hx1 (by decide) (knEnt_3 hx1) rfl (by decide) knInX5 (knGm 167 (by decide +kernel) rfl) rfl rfl dX3_readArcs_32 ?_
      refine kj_iloadn X 3 dX3_readArcs_35 rfl ?_
      refine kj_iald X K (knD3 hx1).1.1 hx2 (knD3 hx1).2.1 h4 dX3_readArcs_36 (fun h6 => ?_)
      obtain ⟨q7, h8, hf⟩ := knBd_inv hf
      refine kj_callV (As := [knV (μ (x1 + 1) x2)]) (rest := [knV x2, knO G 107]) X K (kcX5_arcOf l hx1 h6 h8) knWvX5_arcOf (knGm 694 (by decide +kernel) rfl) (by decide) (knKd_in hx1 (by decide)) (knEnt_3 hx1) rfl rfl rfl (Nat.le_of_ble_eq_true rfl) (by decide) dX3_readArcs_37 rfl (fun h9 => ?_)
      refine kj_iast X K kdc_107 hx2 h9 lnc_107 h4 dX3_readArcs_40 ?_
      refine kj_aloadn X 1 dX3_readArcs_41 rfl ?_
      refine kj_geto (k := 1) (o2 := 108) X K kdc_106 (by decide) (knEnt_2 kdc_106) rfl (by decide) knInX3 (knGm 260 (by decide +kernel) rfl) rfl rfl dX3_readArcs_42 ?_
      refine kj_iloadn X 3 dX3_readArcs_45 rfl ?_
      refine kj_aloadn X 2 dX3_readArcs_46 rfl ?_
      refine kj_aloadn X 2 dX3_readArcs_47 rfl ?_
      refine kj_iloadn X 0 dX3_readArcs_48 rfl ?_
      obtain ⟨q10, h11, hf⟩ := knBd_inv hf
      refine kj_callV (As := [knV (μ (x1 + 2) x2)]) (rest := [knO G x1, knV x2, knO G 108]) X K (kcX5_before l hx1 h5 h11) knWvX5_before (knGm 698 (by decide +kernel) rfl) (by decide) (knKd_in hx1 (by decide)) (knEnt_3 hx1) rfl rfl rfl (Nat.le_of_ble_eq_true rfl) (by decide) dX3_readArcs_49 rfl (fun h12 => ?_)
      obtain ⟨q13, h14, hf⟩ := knBd_inv hf
      refine kj_callV (As := [knV q10]) (rest := [knV x2, knO G 108]) X K (kcX5_arcOf l hx1 h12 h14) knWvX5_arcOf (knGm 694 (by decide +kernel) rfl) (by decide) (knKd_in hx1 (by decide)) (knEnt_3 hx1) rfl rfl rfl (Nat.le_of_ble_eq_true rfl) (by decide) dX3_readArcs_52 rfl (fun h15 => ?_)
      refine kj_iast X K kdc_108 hx2 h15 lnc_108 h4 dX3_readArcs_55 ?_
      refine kj_aloadn X 1 dX3_readArcs_56 rfl ?_
      refine kj_geto (k := 2) (o2 := 109) X K kdc_106 (by decide) (knEnt_2 kdc_106) rfl (by decide) knInX3 (knGm 261 (by decide +kernel) rfl) rfl rfl dX3_readArcs_57 ?_
      refine kj_iloadn X 3 dX3_readArcs_60 rfl ?_
      refine kj_aloadn X 2 dX3_readArcs_61 rfl ?_
      refine kj_iloadn X 0 dX3_readArcs_62 rfl ?_
      obtain ⟨q16, h17, hf⟩ := knBd_inv hf
      refine kj_callV (As := [knV (μ (x1 + 2) x2)]) (rest := [knV x2, knO G 109]) X K (kcX5_arcOf l hx1 h5 h17) knWvX5_arcOf (knGm 694 (by decide +kernel) rfl) (by decide) (knKd_in hx1 (by decide)) (knEnt_3 hx1) rfl rfl rfl (Nat.le_of_ble_eq_true rfl) (by decide) dX3_readArcs_63 rfl (fun h18 => ?_)
      refine kj_iast X K kdc_109 hx2 h18 lnc_109 h4 dX3_readArcs_66 ?_
      refine kj_iinc X 3 (L' := [(2, knV (knW (x2 + 1))), (3, knV (μ (x1 + 2) x2)), (0, knO G 106), (1, knO G x1)]) dX3_readArcs_67 rfl (by decide) rfl ?_
      refine kj_goto X (tgt := 10) dX3_readArcs_70 (by decide) ?_
      refine kj_sub (L' := [(0, knO G 106), (1, knO G x1), (2, knV (knW (x2 + 1)))]) [2, 3, 0] rfl ?_
      exact ih _ (knCw _) _ hf

set_option maxHeartbeats 4000000 in
set_option maxRecDepth 100000 in
theorem kcX3_readArcs {G : knGT} (l : Launch) {a1 : Int} (ha1 : knKd a1 = 3) {μ : knMem} {q : knMem} (hf : kfX3_readArcs a1 μ = some q) : knC0 G l yX3_readArcs cX3_readArcs 4 none 1 23 [knO G 106, knO G a1] μ True none q := by
  unfold kfX3_readArcs at hf
  refine kn_ofJ (plainFor_of_name (by decide)) (Nat.le_of_ble_eq_true rfl) (L := [(0, knO G 106), (1, knO G a1)]) rfl ?_
  intro p e s m args below meth c X K hr hlk
  refine kj_aloadn X 0 dX3_readArcs_0 rfl ?_
  refine kj_aloadn X 1 dX3_readArcs_1 rfl ?_
  refine kj_geti (k := 3) (ki := 3) X K rfl ha1 (by decide) (knEnt_3 ha1) rfl (by decide) knInX5 (knGm 178 (by decide +kernel) rfl) rfl rfl dX3_readArcs_2 (fun h1 => ?_)
  refine kj_putf (k := 5) (ki := 5) (x := (μ a1 3)) (ty := .int) X K rfl (knKd_in kdc_106 (by decide)) (knEnt_2 kdc_106) rfl (by decide) knInX3 tyX3_ok nmX3 (knGm 264 (by decide +kernel) rfl) rfl rfl (by decide +kernel) rfl rfl (by simp) (by rw [knEnt_2 kdc_106, knUp_row]; rfl) (fun _ => h1) (fun h => by rw [kdc_106] at h; cases h) (fun h => by rw [kdc_106] at h; cases h) dX3_readArcs_5 ?_
  refine kj_iconst X dX3_readArcs_8 ?_
  refine kj_istoren X (L' := [(2, knV 0), (0, knO G 106), (1, knO G a1)]) dX3_readArcs_9 (by decide) rfl ?_
  refine kj_sub (L' := [(0, knO G 106), (1, knO G a1), (2, knV 0)]) [1, 2, 0] rfl ?_
  refine kfX3_readArcs_l10_ok X K hr hlk a1 ha1  ?_ knF _ (show knC (0) from ⟨by omega, by omega⟩) _ hf
  intro w19_m
  intro hf
  cases hf
  exact kj_vret X trivial hr dX3_readArcs_73 hlk

def kfJ7_fill_53178_l5  (x0 : Int) (x1 : Int) (x3 : Int)  (kc : (knMem) → Option (knMem)) : Nat → Int → knMem → Option (knMem)
  | 0, _, _ => none
  | n + 1, x2, μ =>
    if x3 ≤ x2 then
     kc μ
    else
     knGd (0 ≤ x2 ∧ x2 < (knLn x0))
      (kfJ7_fill_53178_l5  x0 x1 x3 kc n (knW (x2 + 1)) (knUp μ x0 x2 x1))

def kfJ7_fill_53178 (a0 : Int) (a1 : Int) (μ : knMem) : Option (knMem) :=
 kfJ7_fill_53178_l5 a0 a1 (knLn a0)  (fun w3 =>
  some w3) knF 0 μ

theorem knWkJ7_fill_53178 : knWk yJ7_fill_53178 cJ7_fill_53178 4 none 2 := ⟨(knGm 726 (by decide +kernel) rfl), (knGm 138 (by decide +kernel) rfl), (knGm 725 (by decide +kernel) rfl), by decide +kernel, by decide +kernel, by decide +kernel⟩
set_option maxHeartbeats 4000000 in
set_option maxRecDepth 100000 in
theorem kfJ7_fill_53178_l5_ok {q : knMem} {kc : (knMem) → Option (knMem)} {G : knGT} {p : Program} {l : Launch} {e : Env} {s : State} {m : MethodId} {args : Array Value} {below : List Frame} {meth : Method} {c : Code} (X : knX p m c cJ7_fill_53178 4 s args yJ7_fill_53178.cls) (K : knK G s s.heap) (hr : meth.sig.returnType = none) (hlk : meth.locks = false) (x0 : Int) (x1 : Int) (x3 : Int) (hx0 : knKd x0 = 20) (hx1 : knC x1) (hx3 : knC x3)  (hk : ∀ (μ1 : knMem), kc μ1 = some q → knJ G p l e { frames := 0, cells := 0, slots := 0, locals := 0 } s m args below meth c 4 0 0 (MQ below (knPo G True none q) args s 0 0 (knA G)) 20 [] [] μ1) : ∀ (n : Nat) (x2 : Int) (hx2 : knC x2) (μ : knMem), kfJ7_fill_53178_l5  x0 x1 x3 kc n x2 μ = some q → knJ G p l e { frames := 0, cells := 0, slots := 0, locals := 0 } s m args below meth c 4 0 0 (MQ below (knPo G True none q) args s 0 0 (knA G)) 5 [(0, knO G x0), (1, knV x1), (2, knV x2), (3, knV x3)] [] μ := by
  intro n
  induction n with
  | zero => intro x2 hx2 μ hf; cases hf
  | succ n ih =>
    intro x2 hx2 μ hf
    unfold kfJ7_fill_53178_l5 at hf
    refine kj_iloadn X 2 dJ7_fill_53178_5 rfl ?_
    refine kj_iloadn X 3 dJ7_fill_53178_6 rfl ?_
    refine kj_ic_ge X (tgt := 20) dJ7_fill_53178_7 (by decide) hx2 hx3 (fun h1 => ?_) (fun h1 => ?_)
    · replace hf := knIp hf h1
      refine kj_sub (L' := []) [] rfl ?_
      exact hk _ hf
    · replace hf := knIq hf h1
      refine kj_aloadn X 0 dJ7_fill_53178_10 rfl ?_
      refine kj_iloadn X 2 dJ7_fill_53178_11 rfl ?_
      refine kj_iloadn X 1 dJ7_fill_53178_12 rfl ?_
      obtain ⟨h2, hf⟩ := knGd_inv hf
      refine kj_iast X K hx0 hx2 hx1 rfl h2 dJ7_fill_53178_13 ?_
      refine kj_iinc X 2 (L' := [(2, knV (knW (x2 + 1))), (0, knO G x0), (1, knV x1), (3, knV x3)]) dJ7_fill_53178_14 rfl (by decide) rfl ?_
      refine kj_goto X (tgt := 5) dJ7_fill_53178_17 (by decide) ?_
      refine kj_sub (L' := [(0, knO G x0), (1, knV x1), (2, knV (knW (x2 + 1))), (3, knV x3)]) [1, 2, 0, 3] rfl ?_
      exact ih _ (knCw _) _ hf

set_option maxHeartbeats 4000000 in
set_option maxRecDepth 100000 in
theorem kcJ7_fill_53178 {G : knGT} (l : Launch) {a0 : Int} {a1 : Int} (ha0 : knKd a0 = 20) (ha1 : knC a1) {μ : knMem} {q : knMem} (hf : kfJ7_fill_53178 a0 a1 μ = some q) : knC0 G l yJ7_fill_53178 cJ7_fill_53178 4 none 0 0 [knO G a0, knV a1] μ True none q := by
  unfold kfJ7_fill_53178 at hf
  refine kn_ofJ kn_pf6 (Nat.le_of_ble_eq_true rfl) (L := [(0, knO G a0), (1, knV a1)]) rfl ?_
  intro p e s m args below meth c X K hr hlk
  refine kj_iconst X dJ7_fill_53178_0 ?_
  refine kj_istoren X (L' := [(2, knV 0), (0, knO G a0), (1, knV a1)]) dJ7_fill_53178_1 (by decide) rfl ?_
  refine kj_aloadn X 1 dJ7_fill_53178_2 rfl ?_
  refine kj_alen20 X K ha0 dJ7_fill_53178_3 ?_
  refine kj_istoren X (L' := [(3, knV (knLn a0)), (2, knV 0), (0, knO G a0), (1, knV a1)]) dJ7_fill_53178_4 (by decide) rfl ?_
  refine kj_sub (L' := [(0, knO G a0), (1, knV a1), (2, knV 0), (3, knV (knLn a0))]) [2, 3, 1, 0] rfl ?_
  refine kfJ7_fill_53178_l5_ok X K hr hlk a0 a1 (knLn a0) ha0 ha1 (knC_ln _)  ?_ knF _ (show knC (0) from ⟨by omega, by omega⟩) _ hf
  intro w3_m
  intro hf
  cases hf
  exact kj_vret X trivial hr dJ7_fill_53178_20 hlk

def kfX3_fillRows_l77  (x1 : Int) (x2 : Int)  (kc : (knMem) → Option (knMem)) : Nat → Int → knMem → Option (knMem)
  | 0, _, _ => none
  | n + 1, x3, μ =>
    if (μ 106 5) ≤ x3 then
     kc μ
    else
     knGd (0 ≤ x2 ∧ x2 < 7)
      (knGd (0 ≤ x3 ∧ x3 < 7)
      (Option.bind (kfJ9_floorMod_7cf53 (μ (111 + x2) x3) x1 μ) (fun q21 =>
      kfX3_fillRows_l77  x1 x2 kc n (knW (x3 + 1)) (knUp μ (111 + x2) x3 q21))))

def kfX3_fillRows_l2  (x1 : Int)  (kc : (knMem) → Option (knMem)) : Nat → Int → knMem → Option (knMem)
  | 0, _, _ => none
  | n + 1, x2, μ =>
    if (μ 106 5) ≤ x2 then
     kc μ
    else
     knGd (0 ≤ x2 ∧ x2 < 7)
      (Option.bind (kfJ7_fill_53178 (111 + x2) 0 μ) (fun q4 =>
      knGd (0 ≤ (q4 107 x2) ∧ (q4 107 x2) < 7)
       (knGd (0 ≤ ((knUp q4 (111 + x2) (q4 107 x2) (knW ((q4 (111 + x2) (q4 107 x2)) + 2))) 108 x2) ∧ ((knUp q4 (111 + x2) (q4 107 x2) (knW ((q4 (111 + x2) (q4 107 x2)) + 2))) 108 x2) < 7)
       (knGd (0 ≤ ((knUp (knUp q4 (111 + x2) (q4 107 x2) (knW ((q4 (111 + x2) (q4 107 x2)) + 2))) (111 + x2) ((knUp q4 (111 + x2) (q4 107 x2) (knW ((q4 (111 + x2) (q4 107 x2)) + 2))) 108 x2) (knW (((knUp q4 (111 + x2) (q4 107 x2) (knW ((q4 (111 + x2) (q4 107 x2)) + 2))) (111 + x2) ((knUp q4 (111 + x2) (q4 107 x2) (knW ((q4 (111 + x2) (q4 107 x2)) + 2))) 108 x2)) + (knW (x1 - 1))))) 109 x2) ∧ ((knUp (knUp q4 (111 + x2) (q4 107 x2) (knW ((q4 (111 + x2) (q4 107 x2)) + 2))) (111 + x2) ((knUp q4 (111 + x2) (q4 107 x2) (knW ((q4 (111 + x2) (q4 107 x2)) + 2))) 108 x2) (knW (((knUp q4 (111 + x2) (q4 107 x2) (knW ((q4 (111 + x2) (q4 107 x2)) + 2))) (111 + x2) ((knUp q4 (111 + x2) (q4 107 x2) (knW ((q4 (111 + x2) (q4 107 x2)) + 2))) 108 x2)) + (knW (x1 - 1))))) 109 x2) < 7)
       (kfX3_fillRows_l77 x1 x2  (fun w24 =>
       kfX3_fillRows_l2  x1 kc n (knW (x2 + 1)) w24) knF 0 (knUp (knUp (knUp q4 (111 + x2) (q4 107 x2) (knW ((q4 (111 + x2) (q4 107 x2)) + 2))) (111 + x2) ((knUp q4 (111 + x2) (q4 107 x2) (knW ((q4 (111 + x2) (q4 107 x2)) + 2))) 108 x2) (knW (((knUp q4 (111 + x2) (q4 107 x2) (knW ((q4 (111 + x2) (q4 107 x2)) + 2))) (111 + x2) ((knUp q4 (111 + x2) (q4 107 x2) (knW ((q4 (111 + x2) (q4 107 x2)) + 2))) 108 x2)) + (knW (x1 - 1))))) (111 + x2) ((knUp (knUp q4 (111 + x2) (q4 107 x2) (knW ((q4 (111 + x2) (q4 107 x2)) + 2))) (111 + x2) ((knUp q4 (111 + x2) (q4 107 x2) (knW ((q4 (111 + x2) (q4 107 x2)) + 2))) 108 x2) (knW (((knUp q4 (111 + x2) (q4 107 x2) (knW ((q4 (111 + x2) (q4 107 x2)) + 2))) (111 + x2) ((knUp q4 (111 + x2) (q4 107 x2) (knW ((q4 (111 + x2) (q4 107 x2)) + 2))) 108 x2)) + (knW (x1 - 1))))) 109 x2) (knW (((knUp (knUp q4 (111 + x2) (q4 107 x2) (knW ((q4 (111 + x2) (q4 107 x2)) + 2))) (111 + x2) ((knUp q4 (111 + x2) (q4 107 x2) (knW ((q4 (111 + x2) (q4 107 x2)) + 2))) 108 x2) (knW (((knUp q4 (111 + x2) (q4 107 x2) (knW ((q4 (111 + x2) (q4 107 x2)) + 2))) (111 + x2) ((knUp q4 (111 + x2) (q4 107 x2) (knW ((q4 (111 + x2) (q4 107 x2)) + 2))) 108 x2)) + (knW (x1 - 1))))) (111 + x2) ((knUp (knUp q4 (111 + x2) (q4 107 x2) (knW ((q4 (111 + x2) (q4 107 x2)) + 2))) (111 + x2) ((knUp q4 (111 + x2) (q4 107 x2) (knW ((q4 (111 + x2) (q4 107 x2)) + 2))) 108 x2) (knW (((knUp q4 (111 + x2) (q4 107 x2) (knW ((q4 (111 + x2) (q4 107 x2)) + 2))) (111 + x2) ((knUp q4 (111 + x2) (q4 107 x2) (knW ((q4 (111 + x2) (q4 107 x2)) + 2))) 108 x2)) + (knW (x1 - 1))))) 109 x2)) + (knW (x1 - 1))))))))))

def kfX3_fillRows (a1 : Int) (μ : knMem) : Option (knMem) :=
 kfX3_fillRows_l2 a1  (fun w25 =>
  some w25) knF 0 μ

theorem knWvX3_fillRows : knWv yX3_fillRows cX3_fillRows 4 none 1 := ⟨(knGm 818 (by decide +kernel) rfl), (knGm 119 (by decide +kernel) rfl), (knGm 817 (by decide +kernel) rfl), (knGm 10 (by decide +kernel) rfl), by decide +kernel, by decide +kernel, by decide +kernel⟩
set_option maxHeartbeats 4000000 in
set_option maxRecDepth 100000 in
theorem kfX3_fillRows_l77_ok {q : knMem} {kc : (knMem) → Option (knMem)} {G : knGT} {p : Program} {l : Launch} {e : Env} {s : State} {m : MethodId} {args : Array Value} {below : List Frame} {meth : Method} {c : Code} (X : knX p m c cX3_fillRows 4 s args yX3_fillRows.cls) (K : knK G s s.heap) (hr : meth.sig.returnType = none) (hlk : meth.locks = false) (x1 : Int) (x2 : Int) (hx1 : knC x1) (hx2 : knC x2)  (hk : ∀ (μ1 : knMem), kc μ1 = some q → knJ G p l e { frames := 1, cells := 0, slots := 0, locals := 23 } s m args below meth c 4 0 0 (MQ below (knPo G True none q) args s 0 0 (knA G)) 111 [(0, knO G 106), (1, knV x1), (2, knV x2)] [] μ1) : ∀ (n : Nat) (x3 : Int) (hx3 : knC x3) (μ : knMem), kfX3_fillRows_l77  x1 x2 kc n x3 μ = some q → knJ G p l e { frames := 1, cells := 0, slots := 0, locals := 23 } s m args below meth c 4 0 0 (MQ below (knPo G True none q) args s 0 0 (knA G)) 77 [(0, knO G 106), (1, knV x1), (2, knV x2), (3, knV x3)] [] μ := by
  intro n
  induction n with
  | zero => intro x3 hx3 μ hf; cases hf
  | succ n ih =>
    intro x3 hx3 μ hf
    unfold kfX3_fillRows_l77 at hf
    refine kj_iloadn X 3 dX3_fillRows_77 rfl ?_
    refine kj_aloadn X 0 dX3_fillRows_78 rfl ?_
    refine kj_geti (k := 5) (ki := 5) X K rfl kdc_106 (by decide) (knEnt_2 kdc_106) rfl (by decide) knInX3 (knGm 264 (by decide +kernel) rfl) rfl rfl dX3_fillRows_79 (fun h16 => ?_)
    refine kj_ic_ge X (tgt := 111) dX3_fillRows_82 (by decide) hx3 h16 (fun h17 => ?_) (fun h17 => ?_)
    · replace hf := knIp hf h17
      refine kj_sub (L' := [(0, knO G 106), (1, knV x1), (2, knV x2)]) [0, 1, 2] rfl ?_
      exact hk _ hf
    · replace hf := knIq hf h17
      refine kj_aloadn X 0 dX3_fillRows_85 rfl ?_
      refine kj_geto (k := 3) (o2 := 110) X K kdc_106 (by decide) (knEnt_2 kdc_106) rfl (by decide) knInX3 (knGm 262 (by decide +kernel) rfl) rfl rfl dX3_fillRows_86 ?_
      refine kj_iloadn X 2 dX3_fillRows_89 rfl ?_
      obtain ⟨h18, hf⟩ := knGd_inv hf
      refine kj_ald24 X K kdc_110 hx2 lnc_110 h18 dX3_fillRows_90 ?_
      refine kj_iloadn X 3 dX3_fillRows_91 rfl ?_
      refine kj_aloadn X 0 dX3_fillRows_92 rfl ?_
      refine kj_geto (k := 3) (o2 := 110) X K kdc_106 (by decide) (knEnt_2 kdc_106) rfl (by decide) knInX3 (knGm 262 (by decide +kernel) rfl) rfl rfl dX3_fillRows_93 ?_
      refine kj_iloadn X 2 dX3_fillRows_96 rfl ?_
      refine kj_ald24 X K kdc_110 hx2 lnc_110 h18 dX3_fillRows_97 ?_
      refine kj_iloadn X 3 dX3_fillRows_98 rfl ?_
      obtain ⟨h19, hf⟩ := knGd_inv hf
      refine kj_iald X K (knRows h18).1 hx3 (knRows h18).2 h19 dX3_fillRows_99 (fun h20 => ?_)
      refine kj_iloadn X 1 dX3_fillRows_100 rfl ?_
      obtain ⟨q21, h22, hf⟩ := knBd_inv hf
      refine kj_callS (As := [knV (μ (111 + x2) x3), knV x1]) (rest := [knV x3, knO G (111 + x2)]) X K (kcJ9_floorMod_7cf53 l h20 hx1 h22) knWkJ9_floorMod_7cf53 (knGm 820 (by decide +kernel) rfl) (by decide)  rfl (Nat.le_of_ble_eq_true rfl) (by decide) dX3_fillRows_101 rfl (fun h23 => ?_)
      refine kj_iast X K (knRows h18).1 hx3 h23 (knRows h18).2 h19 dX3_fillRows_104 ?_
      refine kj_iinc X 3 (L' := [(3, knV (knW (x3 + 1))), (0, knO G 106), (1, knV x1), (2, knV x2)]) dX3_fillRows_105 rfl (by decide) rfl ?_
      refine kj_goto X (tgt := 77) dX3_fillRows_108 (by decide) ?_
      refine kj_sub (L' := [(0, knO G 106), (1, knV x1), (2, knV x2), (3, knV (knW (x3 + 1)))]) [1, 2, 3, 0] rfl ?_
      exact ih _ (knCw _) _ hf

set_option maxHeartbeats 4000000 in
set_option maxRecDepth 100000 in
theorem kfX3_fillRows_l2_ok {q : knMem} {kc : (knMem) → Option (knMem)} {G : knGT} {p : Program} {l : Launch} {e : Env} {s : State} {m : MethodId} {args : Array Value} {below : List Frame} {meth : Method} {c : Code} (X : knX p m c cX3_fillRows 4 s args yX3_fillRows.cls) (K : knK G s s.heap) (hr : meth.sig.returnType = none) (hlk : meth.locks = false) (x1 : Int) (hx1 : knC x1)  (hk : ∀ (μ1 : knMem), kc μ1 = some q → knJ G p l e { frames := 1, cells := 0, slots := 0, locals := 23 } s m args below meth c 4 0 0 (MQ below (knPo G True none q) args s 0 0 (knA G)) 117 [] [] μ1) : ∀ (n : Nat) (x2 : Int) (hx2 : knC x2) (μ : knMem), kfX3_fillRows_l2  x1 kc n x2 μ = some q → knJ G p l e { frames := 1, cells := 0, slots := 0, locals := 23 } s m args below meth c 4 0 0 (MQ below (knPo G True none q) args s 0 0 (knA G)) 2 [(0, knO G 106), (1, knV x1), (2, knV x2)] [] μ := by
  intro n
  induction n with
  | zero => intro x2 hx2 μ hf; cases hf
  | succ n ih =>
    intro x2 hx2 μ hf
    unfold kfX3_fillRows_l2 at hf
    refine kj_iloadn X 2 dX3_fillRows_2 rfl ?_
    refine kj_aloadn X 0 dX3_fillRows_3 rfl ?_
    refine kj_geti (k := 5) (ki := 5) X K rfl kdc_106 (by decide) (knEnt_2 kdc_106) rfl (by decide) knInX3 (knGm 264 (by decide +kernel) rfl) rfl rfl dX3_fillRows_4 (fun h1 => ?_)
    refine kj_ic_ge X (tgt := 117) dX3_fillRows_7 (by decide) hx2 h1 (fun h2 => ?_) (fun h2 => ?_)
    · replace hf := knIp hf h2
      refine kj_sub (L' := []) [] rfl ?_
      exact hk _ hf
    · replace hf := knIq hf h2
      refine kj_aloadn X 0 dX3_fillRows_10 rfl ?_
      refine kj_geto (k := 3) (o2 := 110) X K kdc_106 (by decide) (knEnt_2 kdc_106) rfl (by decide) knInX3 (knGm 262 (by decide +kernel) rfl) rfl rfl dX3_fillRows_11 ?_
      refine kj_iloadn X 2 dX3_fillRows_14 rfl ?_
      obtain ⟨h3, hf⟩ := knGd_inv hf
      refine kj_ald24 X K kdc_110 hx2 lnc_110 h3 dX3_fillRows_15 ?_
      refine kj_iconst X dX3_fillRows_16 ?_
      obtain ⟨q4, h5, hf⟩ := knBd_inv hf
      refine kj_callS (As := [knO G (111 + x2), knV 0]) (rest := []) X K (kcJ7_fill_53178 l (knRows h3).1 (show knC (0) from ⟨by omega, by omega⟩) h5) knWkJ7_fill_53178 (knGm 819 (by decide +kernel) rfl) (by decide)  rfl (Nat.le_of_ble_eq_true rfl) (by decide) dX3_fillRows_17 rfl (fun h6 => ?_)
      refine kj_aloadn X 0 dX3_fillRows_20 rfl ?_
      refine kj_geto (k := 3) (o2 := 110) X K kdc_106 (by decide) (knEnt_2 kdc_106) rfl (by decide) knInX3 (knGm 262 (by decide +kernel) rfl) rfl rfl dX3_fillRows_21 ?_
      refine kj_iloadn X 2 dX3_fillRows_24 rfl ?_
      refine kj_ald24 X K kdc_110 hx2 lnc_110 h3 dX3_fillRows_25 ?_
      refine kj_aloadn X 0 dX3_fillRows_26 rfl ?_
      refine kj_geto (k := 0) (o2 := 107) X K kdc_106 (by decide) (knEnt_2 kdc_106) rfl (by decide) knInX3 (knGm 259 (by decide +kernel) rfl) rfl rfl dX3_fillRows_27 ?_
      refine kj_iloadn X 2 dX3_fillRows_30 rfl ?_
      refine kj_iald X K kdc_107 hx2 lnc_107 h3 dX3_fillRows_31 (fun h7 => ?_)
      refine kj_dup2 X dX3_fillRows_32 rfl rfl ?_
      obtain ⟨h8, hf⟩ := knGd_inv hf
      refine kj_iald X K (knRows h3).1 h7 (knRows h3).2 h8 dX3_fillRows_33 (fun h9 => ?_)
      refine kj_iconst X dX3_fillRows_34 ?_
      refine kj_iadd X dX3_fillRows_35 ?_
      refine kj_iast X K (knRows h3).1 h7 (knCw _) (knRows h3).2 h8 dX3_fillRows_36 ?_
      refine kj_aloadn X 0 dX3_fillRows_37 rfl ?_
      refine kj_geto (k := 3) (o2 := 110) X K kdc_106 (by decide) (knEnt_2 kdc_106) rfl (by decide) knInX3 (knGm 262 (by decide +kernel) rfl) rfl rfl dX3_fillRows_38 ?_
      refine kj_iloadn X 2 dX3_fillRows_41 rfl ?_
      refine kj_ald24 X K kdc_110 hx2 lnc_110 h3 dX3_fillRows_42 ?_
      refine kj_aloadn X 0 dX3_fillRows_43 rfl ?_
      refine kj_geto (k := 1) (o2 := 108) X K kdc_106 (by decide) (knEnt_2 kdc_106) rfl (by decide) knInX3 (knGm 260 (by decide +kernel) rfl) rfl rfl dX3_fillRows_44 ?_
      refine kj_iloadn X 2 dX3_fillRows_47 rfl ?_
      refine kj_iald X K kdc_108 hx2 lnc_108 h3 dX3_fillRows_48 (fun h10 => ?_)
      refine kj_dup2 X dX3_fillRows_49 rfl rfl ?_
      obtain ⟨h11, hf⟩ := knGd_inv hf
      refine kj_iald X K (knRows h3).1 h10 (knRows h3).2 h11 dX3_fillRows_50 (fun h12 => ?_)
      refine kj_iloadn X 1 dX3_fillRows_51 rfl ?_
      refine kj_iconst X dX3_fillRows_52 ?_
      refine kj_isub X dX3_fillRows_53 ?_
      refine kj_iadd X dX3_fillRows_54 ?_
      refine kj_iast X K (knRows h3).1 h10 (knCw _) (knRows h3).2 h11 dX3_fillRows_55 ?_
      refine kj_aloadn X 0 dX3_fillRows_56 rfl ?_
      refine kj_geto (k := 3) (o2 := 110) X K kdc_106 (by decide) (knEnt_2 kdc_106) rfl (by decide) knInX3 (knGm 262 (by decide +kernel) rfl) rfl rfl dX3_fillRows_57 ?_
      refine kj_iloadn X 2 dX3_fillRows_60 rfl ?_
      refine kj_ald24 X K kdc_110 hx2 lnc_110 h3 dX3_fillRows_61 ?_
      refine kj_aloadn X 0 dX3_fillRows_62 rfl ?_
      refine kj_geto (k := 2) (o2 := 109) X K kdc_106 (by decide) (knEnt_2 kdc_106) rfl (by decide) knInX3 (knGm 261 (by decide +kernel) rfl) rfl rfl dX3_fillRows_63 ?_
      refine kj_iloadn X 2 dX3_fillRows_66 rfl ?_
      refine kj_iald X K kdc_109 hx2 lnc_109 h3 dX3_fillRows_67 (fun h13 => ?_)
      refine kj_dup2 X dX3_fillRows_68 rfl rfl ?_
      obtain ⟨h14, hf⟩ := knGd_inv hf
      refine kj_iald X K (knRows h3).1 h13 (knRows h3).2 h14 dX3_fillRows_69 (fun h15 => ?_)
      refine kj_iloadn X 1 dX3_fillRows_70 rfl ?_
      refine kj_iconst X dX3_fillRows_71 ?_
      refine kj_isub X dX3_fillRows_72 ?_
      refine kj_iadd X dX3_fillRows_73 ?_
      refine kj_iast X K (knRows h3).1 h13 (knCw _) (knRows h3).2 h14 dX3_fillRows_74 ?_
      refine kj_iconst X dX3_fillRows_75 ?_
      refine kj_istoren X (L' := [(3, knV 0), (0, knO G 106), (1, knV x1), (2, knV x2)]) dX3_fillRows_76 (by decide) rfl ?_
      refine kj_sub (L' := [(0, knO G 106), (1, knV x1), (2, knV x2), (3, knV 0)]) [1, 2, 3, 0] rfl ?_
      refine kfX3_fillRows_l77_ok X K hr hlk x1 x2 hx1 hx2  ?_ knF _ (show knC (0) from ⟨by omega, by omega⟩) _ hf
      intro w24_m
      intro hf
      refine kj_iinc X 2 (L' := [(2, knV (knW (x2 + 1))), (0, knO G 106), (1, knV x1)]) dX3_fillRows_111 rfl (by decide) rfl ?_
      refine kj_goto X (tgt := 2) dX3_fillRows_114 (by decide) ?_
      refine kj_sub (L' := [(0, knO G 106), (1, knV x1), (2, knV (knW (x2 + 1)))]) [1, 2, 0] rfl ?_
      exact ih _ (knCw _) _ hf

set_option maxHeartbeats 4000000 in
set_option maxRecDepth 100000 in
theorem kcX3_fillRows {G : knGT} (l : Launch) {a1 : Int} (ha1 : knC a1) {μ : knMem} {q : knMem} (hf : kfX3_fillRows a1 μ = some q) : knC0 G l yX3_fillRows cX3_fillRows 4 none 1 23 [knO G 106, knV a1] μ True none q := by
  unfold kfX3_fillRows at hf
  refine kn_ofJ (plainFor_of_name (by decide)) (Nat.le_of_ble_eq_true rfl) (L := [(0, knO G 106), (1, knV a1)]) rfl ?_
  intro p e s m args below meth c X K hr hlk
  refine kj_iconst X dX3_fillRows_0 ?_
  refine kj_istoren X (L' := [(2, knV 0), (0, knO G 106), (1, knV a1)]) dX3_fillRows_1 (by decide) rfl ?_
  refine kj_sub (L' := [(0, knO G 106), (1, knV a1), (2, knV 0)]) [1, 2, 0] rfl ?_
  refine kfX3_fillRows_l2_ok X K hr hlk a1 ha1  ?_ knF _ (show knC (0) from ⟨by omega, by omega⟩) _ hf
  intro w25_m
  intro hf
  cases hf
  exact kj_vret X trivial hr dX3_fillRows_117 hlk

def kfX3_pivotRow_l2  (x2 : Int) (μ : knMem) (kc : (Unit) → Option (Int)) : Nat → Int → Option (Int)
  | 0, _ => none
  | n + 1, x3 =>
    if (μ 106 5) ≤ x3 then
     kc ()
    else
     knGd (0 ≤ x3 ∧ x3 < 7)
      (knGd (0 ≤ x2 ∧ x2 < 7)
      (if (μ (111 + x3) x2) = 0 then
      kfX3_pivotRow_l2  x2 μ kc n (knW (x3 + 1))
     else
      some x3))

def kfX3_pivotRow (a1 : Int) (a2 : Int) (μ : knMem) : Option (Int) :=
 kfX3_pivotRow_l2 a2 μ (fun _ =>
  some (μ 106 5)) knF a1

theorem knWvX3_pivotRow : knWv yX3_pivotRow cX3_pivotRow 4 (some .int) 2 := ⟨(knGm 831 (by decide +kernel) rfl), (knGm 119 (by decide +kernel) rfl), (knGm 830 (by decide +kernel) rfl), (knGm 12 (by decide +kernel) rfl), by decide +kernel, by decide +kernel, by decide +kernel⟩
set_option maxHeartbeats 4000000 in
set_option maxRecDepth 100000 in
theorem kfX3_pivotRow_l2_ok {q : Int} {kc : (Unit) → Option (Int)} {G : knGT} {p : Program} {l : Launch} {e : Env} {s : State} {m : MethodId} {args : Array Value} {below : List Frame} {meth : Method} {c : Code} (X : knX p m c cX3_pivotRow 4 s args yX3_pivotRow.cls) (K : knK G s s.heap) (hr : meth.sig.returnType = (some .int)) (hlk : meth.locks = false) (x2 : Int) (hx2 : knC x2) (μ : knMem) (hk : kc () = some q → knJ G p l e { frames := 0, cells := 0, slots := 0, locals := 0 } s m args below meth c 4 0 0 (MQ below (knPo G (knC q) (some (knV q)) μ) args s 0 0 (knA G)) 29 [(0, knO G 106)] [] μ) : ∀ (n : Nat) (x3 : Int) (hx3 : knC x3) , kfX3_pivotRow_l2  x2 μ kc n x3 = some q → knJ G p l e { frames := 0, cells := 0, slots := 0, locals := 0 } s m args below meth c 4 0 0 (MQ below (knPo G (knC q) (some (knV q)) μ) args s 0 0 (knA G)) 2 [(0, knO G 106), (2, knV x2), (3, knV x3)] [] μ := by
  intro n
  induction n with
  | zero => intro x3 hx3 hf; cases hf
  | succ n ih =>
    intro x3 hx3 hf
    unfold kfX3_pivotRow_l2 at hf
    refine kj_iloadn X 2 dX3_pivotRow_2 rfl ?_
    refine kj_aloadn X 0 dX3_pivotRow_3 rfl ?_
    refine kj_geti (k := 5) (ki := 5) X K rfl kdc_106 (by decide) (knEnt_2 kdc_106) rfl (by decide) knInX3 (knGm 264 (by decide +kernel) rfl) rfl rfl dX3_pivotRow_4 (fun h1 => ?_)
    refine kj_ic_ge X (tgt := 29) dX3_pivotRow_7 (by decide) hx3 h1 (fun h2 => ?_) (fun h2 => ?_)
    · replace hf := knIp hf h2
      refine kj_sub (L' := [(0, knO G 106)]) [0] rfl ?_
      exact hk  hf
    · replace hf := knIq hf h2
      refine kj_aloadn X 0 dX3_pivotRow_10 rfl ?_
      refine kj_geto (k := 3) (o2 := 110) X K kdc_106 (by decide) (knEnt_2 kdc_106) rfl (by decide) knInX3 (knGm 262 (by decide +kernel) rfl) rfl rfl dX3_pivotRow_11 ?_
      refine kj_iloadn X 2 dX3_pivotRow_14 rfl ?_
      obtain ⟨h3, hf⟩ := knGd_inv hf
      refine kj_ald24 X K kdc_110 hx3 lnc_110 h3 dX3_pivotRow_15 ?_
      refine kj_iloadn X 1 dX3_pivotRow_16 rfl ?_
      obtain ⟨h4, hf⟩ := knGd_inv hf
      refine kj_iald X K (knRows h3).1 hx2 (knRows h3).2 h4 dX3_pivotRow_17 (fun h5 => ?_)
      refine kj_if_eq X (tgt := 23) dX3_pivotRow_18 (by decide) h5 (fun h6 => ?_) (fun h6 => ?_)
      · replace hf := knIp hf h6
        refine kj_iinc X 2 (L' := [(3, knV (knW (x3 + 1))), (0, knO G 106), (2, knV x2)]) dX3_pivotRow_23 rfl (by decide) rfl ?_
        refine kj_goto X (tgt := 2) dX3_pivotRow_26 (by decide) ?_
        refine kj_sub (L' := [(0, knO G 106), (2, knV x2), (3, knV (knW (x3 + 1)))]) [1, 2, 0] rfl ?_
        exact ih _ (knCw _)  hf
      · replace hf := knIq hf h6
        refine kj_iloadn X 2 dX3_pivotRow_21 rfl ?_
        cases hf
        exact kj_iret X hx3 hr dX3_pivotRow_22 hlk

set_option maxHeartbeats 4000000 in
set_option maxRecDepth 100000 in
theorem kcX3_pivotRow {G : knGT} (l : Launch) {a1 : Int} {a2 : Int} (ha1 : knC a1) (ha2 : knC a2) {μ : knMem} {q : Int} (hf : kfX3_pivotRow a1 a2 μ = some q) : knC0 G l yX3_pivotRow cX3_pivotRow 4 (some .int) 0 0 [knO G 106, knV a1, knV a2] μ (knC q) (some (knV q)) μ := by
  unfold kfX3_pivotRow at hf
  refine kn_ofJ (plainFor_of_name (by decide)) (Nat.le_of_ble_eq_true rfl) (L := [(0, knO G 106), (1, knV a1), (2, knV a2)]) rfl ?_
  intro p e s m args below meth c X K hr hlk
  refine kj_iloadn X 1 dX3_pivotRow_0 rfl ?_
  refine kj_istoren X (L' := [(3, knV a1), (0, knO G 106), (1, knV a1), (2, knV a2)]) dX3_pivotRow_1 (by decide) rfl ?_
  refine kj_sub (L' := [(0, knO G 106), (2, knV a2), (3, knV a1)]) [1, 3, 0] rfl ?_
  refine kfX3_pivotRow_l2_ok X K hr hlk a2 ha2 μ ?_ knF _ ha1  hf
  intro hf
  refine kj_aloadn X 0 dX3_pivotRow_29 rfl ?_
  refine kj_geti (k := 5) (ki := 5) X K rfl kdc_106 (by decide) (knEnt_2 kdc_106) rfl (by decide) knInX3 (knGm 264 (by decide +kernel) rfl) rfl rfl dX3_pivotRow_30 (fun h9 => ?_)
  cases hf
  exact kj_iret X h9 hr dX3_pivotRow_33 hlk

def kfX3_exchangeRows_l2  (x1 : Int) (x2 : Int)  (kc : (knMem) → Option (knMem)) : Nat → Int → knMem → Option (knMem)
  | 0, _, _ => none
  | n + 1, x3, μ =>
    if (μ 106 5) ≤ x3 then
     kc μ
    else
     knGd (0 ≤ x1 ∧ x1 < 7)
      (knGd (0 ≤ x3 ∧ x3 < 7)
      (knGd (0 ≤ x2 ∧ x2 < 7)
      (kfX3_exchangeRows_l2  x1 x2 kc n (knW (x3 + 1)) (knUp (knUp μ (111 + x1) x3 (μ (111 + x2) x3)) (111 + x2) x3 (μ (111 + x1) x3)))))

def kfX3_exchangeRows (a1 : Int) (a2 : Int) (μ : knMem) : Option (knMem) :=
 kfX3_exchangeRows_l2 a1 a2  (fun w8 =>
  some w8) knF 0 μ

theorem knWvX3_exchangeRows : knWv yX3_exchangeRows cX3_exchangeRows 5 none 2 := ⟨(knGm 835 (by decide +kernel) rfl), (knGm 119 (by decide +kernel) rfl), (knGm 834 (by decide +kernel) rfl), (knGm 13 (by decide +kernel) rfl), by decide +kernel, by decide +kernel, by decide +kernel⟩
set_option maxHeartbeats 4000000 in
set_option maxRecDepth 100000 in
theorem kfX3_exchangeRows_l2_ok {q : knMem} {kc : (knMem) → Option (knMem)} {G : knGT} {p : Program} {l : Launch} {e : Env} {s : State} {m : MethodId} {args : Array Value} {below : List Frame} {meth : Method} {c : Code} (X : knX p m c cX3_exchangeRows 5 s args yX3_exchangeRows.cls) (K : knK G s s.heap) (hr : meth.sig.returnType = none) (hlk : meth.locks = false) (x1 : Int) (x2 : Int) (hx1 : knC x1) (hx2 : knC x2)  (hk : ∀ (μ1 : knMem), kc μ1 = some q → knJ G p l e { frames := 0, cells := 0, slots := 0, locals := 0 } s m args below meth c 5 0 0 (MQ below (knPo G True none q) args s 0 0 (knA G)) 52 [] [] μ1) : ∀ (n : Nat) (x3 : Int) (hx3 : knC x3) (μ : knMem), kfX3_exchangeRows_l2  x1 x2 kc n x3 μ = some q → knJ G p l e { frames := 0, cells := 0, slots := 0, locals := 0 } s m args below meth c 5 0 0 (MQ below (knPo G True none q) args s 0 0 (knA G)) 2 [(0, knO G 106), (1, knV x1), (2, knV x2), (3, knV x3)] [] μ := by
  intro n
  induction n with
  | zero => intro x3 hx3 μ hf; cases hf
  | succ n ih =>
    intro x3 hx3 μ hf
    unfold kfX3_exchangeRows_l2 at hf
    refine kj_iloadn X 3 dX3_exchangeRows_2 rfl ?_
    refine kj_aloadn X 0 dX3_exchangeRows_3 rfl ?_
    refine kj_geti (k := 5) (ki := 5) X K rfl kdc_106 (by decide) (knEnt_2 kdc_106) rfl (by decide) knInX3 (knGm 264 (by decide +kernel) rfl) rfl rfl dX3_exchangeRows_4 (fun h1 => ?_)
    refine kj_ic_ge X (tgt := 52) dX3_exchangeRows_7 (by decide) hx3 h1 (fun h2 => ?_) (fun h2 => ?_)
    · replace hf := knIp hf h2
      refine kj_sub (L' := []) [] rfl ?_
      exact hk _ hf
    · replace hf := knIq hf h2
      refine kj_aloadn X 0 dX3_exchangeRows_10 rfl ?_
      refine kj_geto (k := 3) (o2 := 110) X K kdc_106 (by decide) (knEnt_2 kdc_106) rfl (by decide) knInX3 (knGm 262 (by decide +kernel) rfl) rfl rfl dX3_exchangeRows_11 ?_
      refine kj_iloadn X 1 dX3_exchangeRows_14 rfl ?_
      obtain ⟨h3, hf⟩ := knGd_inv hf
      refine kj_ald24 X K kdc_110 hx1 lnc_110 h3 dX3_exchangeRows_15 ?_
      refine kj_iloadn X 3 dX3_exchangeRows_16 rfl ?_
      obtain ⟨h4, hf⟩ := knGd_inv hf
      refine kj_iald X K (knRows h3).1 hx3 (knRows h3).2 h4 dX3_exchangeRows_17 (fun h5 => ?_)
      refine kj_istore X (L' := [(4, knV (μ (111 + x1) x3)), (0, knO G 106), (1, knV x1), (2, knV x2), (3, knV x3)]) dX3_exchangeRows_18 (by decide) rfl ?_
      refine kj_aloadn X 1 dX3_exchangeRows_20 rfl ?_
      refine kj_geto (k := 3) (o2 := 110) X K kdc_106 (by decide) (knEnt_2 kdc_106) rfl (by decide) knInX3 (knGm 262 (by decide +kernel) rfl) rfl rfl dX3_exchangeRows_21 ?_
      refine kj_iloadn X 2 dX3_exchangeRows_24 rfl ?_
      refine kj_ald24 X K kdc_110 hx1 lnc_110 h3 dX3_exchangeRows_25 ?_
      refine kj_iloadn X 4 dX3_exchangeRows_26 rfl ?_
      refine kj_aloadn X 1 dX3_exchangeRows_27 rfl ?_
      refine kj_geto (k := 3) (o2 := 110) X K kdc_106 (by decide) (knEnt_2 kdc_106) rfl (by decide) knInX3 (knGm 262 (by decide +kernel) rfl) rfl rfl dX3_exchangeRows_28 ?_
      refine kj_iloadn X 3 dX3_exchangeRows_31 rfl ?_
      obtain ⟨h6, hf⟩ := knGd_inv hf
      refine kj_ald24 X K kdc_110 hx2 lnc_110 h6 dX3_exchangeRows_32 ?_
      refine kj_iloadn X 4 dX3_exchangeRows_33 rfl ?_
      refine kj_iald X K (knRows h6).1 hx3 (knRows h6).2 h4 dX3_exchangeRows_34 (fun h7 => ?_)
      refine kj_iast X K (knRows h3).1 hx3 h7 (knRows h3).2 h4 dX3_exchangeRows_35 ?_
      refine kj_aloadn X 1 dX3_exchangeRows_36 rfl ?_
      refine kj_geto (k := 3) (o2 := 110) X K kdc_106 (by decide) (knEnt_2 kdc_106) rfl (by decide) knInX3 (knGm 262 (by decide +kernel) rfl) rfl rfl dX3_exchangeRows_37 ?_
      refine kj_iloadn X 3 dX3_exchangeRows_40 rfl ?_
      refine kj_ald24 X K kdc_110 hx2 lnc_110 h6 dX3_exchangeRows_41 ?_
      refine kj_iloadn X 4 dX3_exchangeRows_42 rfl ?_
      refine kj_iload X 0 dX3_exchangeRows_43 rfl ?_
      refine kj_iast X K (knRows h6).1 hx3 h5 (knRows h6).2 h4 dX3_exchangeRows_45 ?_
      refine kj_iinc X 4 (L' := [(3, knV (knW (x3 + 1))), (4, knV (μ (111 + x1) x3)), (0, knO G 106), (1, knV x1), (2, knV x2)]) dX3_exchangeRows_46 rfl (by decide) rfl ?_
      refine kj_goto X (tgt := 2) dX3_exchangeRows_49 (by decide) ?_
      refine kj_sub (L' := [(0, knO G 106), (1, knV x1), (2, knV x2), (3, knV (knW (x3 + 1)))]) [2, 3, 4, 0] rfl ?_
      exact ih _ (knCw _) _ hf

set_option maxHeartbeats 4000000 in
set_option maxRecDepth 100000 in
theorem kcX3_exchangeRows {G : knGT} (l : Launch) {a1 : Int} {a2 : Int} (ha1 : knC a1) (ha2 : knC a2) {μ : knMem} {q : knMem} (hf : kfX3_exchangeRows a1 a2 μ = some q) : knC0 G l yX3_exchangeRows cX3_exchangeRows 5 none 0 0 [knO G 106, knV a1, knV a2] μ True none q := by
  unfold kfX3_exchangeRows at hf
  refine kn_ofJ (plainFor_of_name (by decide)) (Nat.le_of_ble_eq_true rfl) (L := [(0, knO G 106), (1, knV a1), (2, knV a2)]) rfl ?_
  intro p e s m args below meth c X K hr hlk
  refine kj_iconst X dX3_exchangeRows_0 ?_
  refine kj_istoren X (L' := [(3, knV 0), (0, knO G 106), (1, knV a1), (2, knV a2)]) dX3_exchangeRows_1 (by decide) rfl ?_
  refine kj_sub (L' := [(0, knO G 106), (1, knV a1), (2, knV a2), (3, knV 0)]) [1, 2, 3, 0] rfl ?_
  refine kfX3_exchangeRows_l2_ok X K hr hlk a1 a2 ha1 ha2  ?_ knF _ (show knC (0) from ⟨by omega, by omega⟩) _ hf
  intro w8_m
  intro hf
  cases hf
  exact kj_vret X trivial hr dX3_exchangeRows_52 hlk

def kfX3_cancel_l23  (x1 : Int) (x2 : Int) (x4 : Int) (x5 : Int) (x6 : Int)  (kc : (knMem) → Option (knMem)) : Nat → Int → knMem → Option (knMem)
  | 0, _, _ => none
  | n + 1, x7, μ =>
    if (μ 106 5) ≤ x7 then
     kc μ
    else
     knGd (0 ≤ x1 ∧ x1 < 7)
      (knGd (0 ≤ x7 ∧ x7 < 7)
      (knGd (0 ≤ x2 ∧ x2 < 7)
      (Option.bind (kfJ9_floorMod_7cf53 (knW ((knW ((μ (111 + x1) x7) * x5)) - (knW ((μ (111 + x2) x7) * x6)))) x4 μ) (fun q13 =>
      kfX3_cancel_l23  x1 x2 x4 x5 x6 kc n (knW (x7 + 1)) (knUp μ (111 + x1) x7 q13)))))

def kfX3_cancel (a1 : Int) (a2 : Int) (a3 : Int) (a4 : Int) (μ : knMem) : Option (knMem) :=
 knGd (0 ≤ a2 ∧ a2 < 7)
  (knGd (0 ≤ a3 ∧ a3 < 7)
  (knGd (0 ≤ a1 ∧ a1 < 7)
  (kfX3_cancel_l23 a1 a2 a4 (μ (111 + a2) a3) (μ (111 + a1) a3)  (fun w16 =>
  some w16) knF 0 μ)))

theorem knWvX3_cancel : knWv yX3_cancel cX3_cancel 9 none 4 := ⟨(knGm 839 (by decide +kernel) rfl), (knGm 119 (by decide +kernel) rfl), (knGm 838 (by decide +kernel) rfl), (knGm 14 (by decide +kernel) rfl), by decide +kernel, by decide +kernel, by decide +kernel⟩
set_option maxHeartbeats 4000000 in
set_option maxRecDepth 100000 in
theorem kfX3_cancel_l23_ok {q : knMem} {kc : (knMem) → Option (knMem)} {G : knGT} {p : Program} {l : Launch} {e : Env} {s : State} {m : MethodId} {args : Array Value} {below : List Frame} {meth : Method} {c : Code} (X : knX p m c cX3_cancel 9 s args yX3_cancel.cls) (K : knK G s s.heap) (hr : meth.sig.returnType = none) (hlk : meth.locks = false) (x1 : Int) (x2 : Int) (x4 : Int) (x5 : Int) (x6 : Int) (hx1 : knC x1) (hx2 : knC x2) (hx4 : knC x4) (hx5 : knC x5) (hx6 : knC x6)  (hk : ∀ (μ1 : knMem), kc μ1 = some q → knJ G p l e { frames := 1, cells := 0, slots := 0, locals := 22 } s m args below meth c 9 0 0 (MQ below (knPo G True none q) args s 0 0 (knA G)) 81 [] [] μ1) : ∀ (n : Nat) (x7 : Int) (hx7 : knC x7) (μ : knMem), kfX3_cancel_l23  x1 x2 x4 x5 x6 kc n x7 μ = some q → knJ G p l e { frames := 1, cells := 0, slots := 0, locals := 22 } s m args below meth c 9 0 0 (MQ below (knPo G True none q) args s 0 0 (knA G)) 23 [(0, knO G 106), (1, knV x1), (2, knV x2), (4, knV x4), (5, knV x5), (6, knV x6), (7, knV x7)] [] μ := by
  intro n
  induction n with
  | zero => intro x7 hx7 μ hf; cases hf
  | succ n ih =>
    intro x7 hx7 μ hf
    unfold kfX3_cancel_l23 at hf
    refine kj_iload X 6 dX3_cancel_23 rfl ?_
    refine kj_aloadn X 0 dX3_cancel_25 rfl ?_
    refine kj_geti (k := 5) (ki := 5) X K rfl kdc_106 (by decide) (knEnt_2 kdc_106) rfl (by decide) knInX3 (knGm 264 (by decide +kernel) rfl) rfl rfl dX3_cancel_26 (fun h6 => ?_)
    refine kj_ic_ge X (tgt := 81) dX3_cancel_29 (by decide) hx7 h6 (fun h7 => ?_) (fun h7 => ?_)
    · replace hf := knIp hf h7
      refine kj_sub (L' := []) [] rfl ?_
      exact hk _ hf
    · replace hf := knIq hf h7
      refine kj_aloadn X 0 dX3_cancel_32 rfl ?_
      refine kj_geto (k := 3) (o2 := 110) X K kdc_106 (by decide) (knEnt_2 kdc_106) rfl (by decide) knInX3 (knGm 262 (by decide +kernel) rfl) rfl rfl dX3_cancel_33 ?_
      refine kj_iloadn X 1 dX3_cancel_36 rfl ?_
      obtain ⟨h8, hf⟩ := knGd_inv hf
      refine kj_ald24 X K kdc_110 hx1 lnc_110 h8 dX3_cancel_37 ?_
      refine kj_iload X 6 dX3_cancel_38 rfl ?_
      obtain ⟨h9, hf⟩ := knGd_inv hf
      refine kj_iald X K (knRows h8).1 hx7 (knRows h8).2 h9 dX3_cancel_40 (fun h10 => ?_)
      refine kj_iload X 4 dX3_cancel_41 rfl ?_
      refine kj_imul X dX3_cancel_43 ?_
      refine kj_aloadn X 0 dX3_cancel_44 rfl ?_
      refine kj_geto (k := 3) (o2 := 110) X K kdc_106 (by decide) (knEnt_2 kdc_106) rfl (by decide) knInX3 (knGm 262 (by decide +kernel) rfl) rfl rfl dX3_cancel_45 ?_
      refine kj_iloadn X 2 dX3_cancel_48 rfl ?_
      obtain ⟨h11, hf⟩ := knGd_inv hf
      refine kj_ald24 X K kdc_110 hx2 lnc_110 h11 dX3_cancel_49 ?_
      refine kj_iload X 6 dX3_cancel_50 rfl ?_
      refine kj_iald X K (knRows h11).1 hx7 (knRows h11).2 h9 dX3_cancel_52 (fun h12 => ?_)
      refine kj_iload X 5 dX3_cancel_53 rfl ?_
      refine kj_imul X dX3_cancel_55 ?_
      refine kj_isub X dX3_cancel_56 ?_
      refine kj_istore X (L' := [(8, knV (knW ((knW ((μ (111 + x1) x7) * x5)) - (knW ((μ (111 + x2) x7) * x6))))), (0, knO G 106), (1, knV x1), (2, knV x2), (4, knV x4), (5, knV x5), (6, knV x6), (7, knV x7)]) dX3_cancel_57 (by decide) rfl ?_
      refine kj_aloadn X 1 dX3_cancel_59 rfl ?_
      refine kj_geto (k := 3) (o2 := 110) X K kdc_106 (by decide) (knEnt_2 kdc_106) rfl (by decide) knInX3 (knGm 262 (by decide +kernel) rfl) rfl rfl dX3_cancel_60 ?_
      refine kj_iloadn X 2 dX3_cancel_63 rfl ?_
      refine kj_ald24 X K kdc_110 hx1 lnc_110 h8 dX3_cancel_64 ?_
      refine kj_iload X 7 dX3_cancel_65 rfl ?_
      refine kj_iload X 0 dX3_cancel_67 rfl ?_
      refine kj_iload X 4 dX3_cancel_69 rfl ?_
      obtain ⟨q13, h14, hf⟩ := knBd_inv hf
      refine kj_callS (As := [knV (knW ((knW ((μ (111 + x1) x7) * x5)) - (knW ((μ (111 + x2) x7) * x6)))), knV x4]) (rest := [knV x7, knO G (111 + x1)]) X K (kcJ9_floorMod_7cf53 l (knCw _) hx4 h14) knWkJ9_floorMod_7cf53 (knGm 820 (by decide +kernel) rfl) (by decide)  rfl (Nat.le_of_ble_eq_true rfl) (by decide) dX3_cancel_71 rfl (fun h15 => ?_)
      refine kj_iast X K (knRows h8).1 hx7 h15 (knRows h8).2 h9 dX3_cancel_74 ?_
      refine kj_iinc X 7 (L' := [(7, knV (knW (x7 + 1))), (8, knV (knW ((knW ((μ (111 + x1) x7) * x5)) - (knW ((μ (111 + x2) x7) * x6))))), (0, knO G 106), (1, knV x1), (2, knV x2), (4, knV x4), (5, knV x5), (6, knV x6)]) dX3_cancel_75 rfl (by decide) rfl ?_
      refine kj_goto X (tgt := 23) dX3_cancel_78 (by decide) ?_
      refine kj_sub (L' := [(0, knO G 106), (1, knV x1), (2, knV x2), (4, knV x4), (5, knV x5), (6, knV x6), (7, knV (knW (x7 + 1)))]) [2, 3, 4, 5, 6, 7, 0] rfl ?_
      exact ih _ (knCw _) _ hf

set_option maxHeartbeats 4000000 in
set_option maxRecDepth 100000 in
theorem kcX3_cancel {G : knGT} (l : Launch) {a1 : Int} {a2 : Int} {a3 : Int} {a4 : Int} (ha1 : knC a1) (ha2 : knC a2) (ha3 : knC a3) (ha4 : knC a4) {μ : knMem} {q : knMem} (hf : kfX3_cancel a1 a2 a3 a4 μ = some q) : knC0 G l yX3_cancel cX3_cancel 9 none 1 22 [knO G 106, knV a1, knV a2, knV a3, knV a4] μ True none q := by
  unfold kfX3_cancel at hf
  refine kn_ofJ (plainFor_of_name (by decide)) (Nat.le_of_ble_eq_true rfl) (L := [(0, knO G 106), (1, knV a1), (2, knV a2), (3, knV a3), (4, knV a4)]) rfl ?_
  intro p e s m args below meth c X K hr hlk
  refine kj_aloadn X 0 dX3_cancel_0 rfl ?_
  refine kj_geto (k := 3) (o2 := 110) X K kdc_106 (by decide) (knEnt_2 kdc_106) rfl (by decide) knInX3 (knGm 262 (by decide +kernel) rfl) rfl rfl dX3_cancel_1 ?_
  refine kj_iloadn X 2 dX3_cancel_4 rfl ?_
  obtain ⟨h1, hf⟩ := knGd_inv hf
  refine kj_ald24 X K kdc_110 ha2 lnc_110 h1 dX3_cancel_5 ?_
  refine kj_iloadn X 3 dX3_cancel_6 rfl ?_
  obtain ⟨h2, hf⟩ := knGd_inv hf
  refine kj_iald X K (knRows h1).1 ha3 (knRows h1).2 h2 dX3_cancel_7 (fun h3 => ?_)
  refine kj_istore X (L' := [(5, knV (μ (111 + a2) a3)), (0, knO G 106), (1, knV a1), (2, knV a2), (3, knV a3), (4, knV a4)]) dX3_cancel_8 (by decide) rfl ?_
  refine kj_aloadn X 1 dX3_cancel_10 rfl ?_
  refine kj_geto (k := 3) (o2 := 110) X K kdc_106 (by decide) (knEnt_2 kdc_106) rfl (by decide) knInX3 (knGm 262 (by decide +kernel) rfl) rfl rfl dX3_cancel_11 ?_
  refine kj_iloadn X 2 dX3_cancel_14 rfl ?_
  obtain ⟨h4, hf⟩ := knGd_inv hf
  refine kj_ald24 X K kdc_110 ha1 lnc_110 h4 dX3_cancel_15 ?_
  refine kj_iloadn X 4 dX3_cancel_16 rfl ?_
  refine kj_iald X K (knRows h4).1 ha3 (knRows h4).2 h2 dX3_cancel_17 (fun h5 => ?_)
  refine kj_istore X (L' := [(6, knV (μ (111 + a1) a3)), (5, knV (μ (111 + a2) a3)), (0, knO G 106), (1, knV a1), (2, knV a2), (3, knV a3), (4, knV a4)]) dX3_cancel_18 (by decide) rfl ?_
  refine kj_iconst X dX3_cancel_20 ?_
  refine kj_istore X (L' := [(7, knV 0), (6, knV (μ (111 + a1) a3)), (5, knV (μ (111 + a2) a3)), (0, knO G 106), (1, knV a1), (2, knV a2), (3, knV a3), (4, knV a4)]) dX3_cancel_21 (by decide) rfl ?_
  refine kj_sub (L' := [(0, knO G 106), (1, knV a1), (2, knV a2), (4, knV a4), (5, knV (μ (111 + a2) a3)), (6, knV (μ (111 + a1) a3)), (7, knV 0)]) [3, 4, 5, 7, 2, 1, 0] rfl ?_
  refine kfX3_cancel_l23_ok X K hr hlk a1 a2 a4 (μ (111 + a2) a3) (μ (111 + a1) a3) ha1 ha2 ha4 h3 h5  ?_ knF _ (show knC (0) from ⟨by omega, by omega⟩) _ hf
  intro w16_m
  intro hf
  cases hf
  exact kj_vret X trivial hr dX3_cancel_81 hlk

def kfX3_eliminate_l41  (x1 : Int) (x2 : Int) (x3 : Int)  (kc : (knMem) → Option (Int × knMem)) : Nat → Int → knMem → Option (Int × knMem)
  | 0, _, _ => none
  | n + 1, x5, μ =>
    if (μ 106 5) ≤ x5 then
     kc μ
    else
     Option.bind (kfX3_cancel x5 x2 x3 x1 μ) (fun q20 =>
      kfX3_eliminate_l41  x1 x2 x3 kc n (knW (x5 + 1)) q20)

def kfX3_eliminate_l4  (x1 : Int)  (kc : (Int × knMem) → Option (Int × knMem)) : Nat → Int → Int → knMem → Option (Int × knMem)
  | 0, _, _, _ => none
  | n + 1, x2, x3, μ =>
    if (μ 106 5) ≤ x3 then
     kc (x2, μ)
    else
     Option.bind (kfX3_pivotRow x2 x3 μ) (fun q3 =>
      (fun (k12 : (Int × knMem) → Option (Int × knMem)) =>
       if (μ 106 5) ≤ q3 then
        k12 (x2, μ)
       else
        Option.bind (kfX3_exchangeRows x2 q3 μ) (fun q15 =>
         kfX3_eliminate_l41 x1 x2 x3  (fun w23 =>
          k12 ((knW (x2 + 1)), w23)) knF (knW (x2 + 1)) q15))
       (fun q12 =>
       kfX3_eliminate_l4  x1 kc n q12.1 (knW (x3 + 1)) q12.2))

def kfX3_eliminate (a1 : Int) (μ : knMem) : Option (Int × knMem) :=
 kfX3_eliminate_l4 a1  (fun w24 =>
  some (w24.1, w24.2)) knF 0 0 μ

theorem knWvX3_eliminate : knWv yX3_eliminate cX3_eliminate 6 (some .int) 1 := ⟨(knGm 827 (by decide +kernel) rfl), (knGm 119 (by decide +kernel) rfl), (knGm 826 (by decide +kernel) rfl), (knGm 11 (by decide +kernel) rfl), by decide +kernel, by decide +kernel, by decide +kernel⟩
set_option maxHeartbeats 4000000 in
set_option maxRecDepth 100000 in
theorem kfX3_eliminate_l41_ok {q : Int × knMem} {kc : (knMem) → Option (Int × knMem)} {G : knGT} {p : Program} {l : Launch} {e : Env} {s : State} {m : MethodId} {args : Array Value} {below : List Frame} {meth : Method} {c : Code} (X : knX p m c cX3_eliminate 6 s args yX3_eliminate.cls) (K : knK G s s.heap) (hr : meth.sig.returnType = (some .int)) (hlk : meth.locks = false) (x1 : Int) (x2 : Int) (x3 : Int) (hx1 : knC x1) (hx2 : knC x2) (hx3 : knC x3)  (hk : ∀ (μ1 : knMem), kc μ1 = some q → knJ G p l e { frames := 2, cells := 0, slots := 0, locals := 50 } s m args below meth c 6 0 0 (MQ below (knPo G (knC q.1) (some (knV q.1)) q.2) args s 0 0 (knA G)) 65 [(0, knO G 106), (1, knV x1), (2, knV x2), (3, knV x3)] [] μ1) : ∀ (n : Nat) (x5 : Int) (hx5 : knC x5) (μ : knMem), kfX3_eliminate_l41  x1 x2 x3 kc n x5 μ = some q → knJ G p l e { frames := 2, cells := 0, slots := 0, locals := 50 } s m args below meth c 6 0 0 (MQ below (knPo G (knC q.1) (some (knV q.1)) q.2) args s 0 0 (knA G)) 41 [(0, knO G 106), (1, knV x1), (2, knV x2), (3, knV x3), (5, knV x5)] [] μ := by
  intro n
  induction n with
  | zero => intro x5 hx5 μ hf; cases hf
  | succ n ih =>
    intro x5 hx5 μ hf
    unfold kfX3_eliminate_l41 at hf
    refine kj_iload X 4 dX3_eliminate_41 rfl ?_
    refine kj_aloadn X 0 dX3_eliminate_43 rfl ?_
    refine kj_geti (k := 5) (ki := 5) X K rfl kdc_106 (by decide) (knEnt_2 kdc_106) rfl (by decide) knInX3 (knGm 264 (by decide +kernel) rfl) rfl rfl dX3_eliminate_44 (fun h18 => ?_)
    refine kj_ic_ge X (tgt := 65) dX3_eliminate_47 (by decide) hx5 h18 (fun h19 => ?_) (fun h19 => ?_)
    · replace hf := knIp hf h19
      refine kj_sub (L' := [(0, knO G 106), (1, knV x1), (2, knV x2), (3, knV x3)]) [0, 1, 2, 3] rfl ?_
      exact hk _ hf
    · replace hf := knIq hf h19
      refine kj_aloadn X 0 dX3_eliminate_50 rfl ?_
      refine kj_iload X 4 dX3_eliminate_51 rfl ?_
      refine kj_iloadn X 2 dX3_eliminate_53 rfl ?_
      refine kj_iloadn X 3 dX3_eliminate_54 rfl ?_
      refine kj_iloadn X 1 dX3_eliminate_55 rfl ?_
      obtain ⟨q20, h21, hf⟩ := knBd_inv hf
      refine kj_callV (As := [knV x5, knV x2, knV x3, knV x1]) (rest := []) X K (kcX3_cancel l hx5 hx2 hx3 hx1 h21) knWvX3_cancel (knGm 836 (by decide +kernel) rfl) (by decide) (knKd_in kdc_106 (by decide)) (knEnt_2 kdc_106) rfl rfl rfl (Nat.le_of_ble_eq_true rfl) (by decide) dX3_eliminate_56 rfl (fun h22 => ?_)
      refine kj_iinc X 4 (L' := [(5, knV (knW (x5 + 1))), (0, knO G 106), (1, knV x1), (2, knV x2), (3, knV x3)]) dX3_eliminate_59 rfl (by decide) rfl ?_
      refine kj_goto X (tgt := 41) dX3_eliminate_62 (by decide) ?_
      refine kj_sub (L' := [(0, knO G 106), (1, knV x1), (2, knV x2), (3, knV x3), (5, knV (knW (x5 + 1)))]) [1, 2, 3, 4, 0] rfl ?_
      exact ih _ (knCw _) _ hf

set_option maxHeartbeats 4000000 in
set_option maxRecDepth 100000 in
theorem kfX3_eliminate_l4_ok {q : Int × knMem} {kc : (Int × knMem) → Option (Int × knMem)} {G : knGT} {p : Program} {l : Launch} {e : Env} {s : State} {m : MethodId} {args : Array Value} {below : List Frame} {meth : Method} {c : Code} (X : knX p m c cX3_eliminate 6 s args yX3_eliminate.cls) (K : knK G s s.heap) (hr : meth.sig.returnType = (some .int)) (hlk : meth.locks = false) (x1 : Int) (hx1 : knC x1)  (hk : ∀ (y2 : Int) (hy2 : knC y2) (μ1 : knMem), kc (y2, μ1) = some q → knJ G p l e { frames := 2, cells := 0, slots := 0, locals := 50 } s m args below meth c 6 0 0 (MQ below (knPo G (knC q.1) (some (knV q.1)) q.2) args s 0 0 (knA G)) 74 [(2, knV y2)] [] μ1) : ∀ (n : Nat) (x2 : Int) (hx2 : knC x2) (x3 : Int) (hx3 : knC x3) (μ : knMem), kfX3_eliminate_l4  x1 kc n x2 x3 μ = some q → knJ G p l e { frames := 2, cells := 0, slots := 0, locals := 50 } s m args below meth c 6 0 0 (MQ below (knPo G (knC q.1) (some (knV q.1)) q.2) args s 0 0 (knA G)) 4 [(0, knO G 106), (1, knV x1), (2, knV x2), (3, knV x3)] [] μ := by
  intro n
  induction n with
  | zero => intro x2 hx2 x3 hx3 μ hf; cases hf
  | succ n ih =>
    intro x2 hx2 x3 hx3 μ hf
    unfold kfX3_eliminate_l4 at hf
    refine kj_iloadn X 3 dX3_eliminate_4 rfl ?_
    refine kj_aloadn X 0 dX3_eliminate_5 rfl ?_
    refine kj_geti (k := 5) (ki := 5) X K rfl kdc_106 (by decide) (knEnt_2 kdc_106) rfl (by decide) knInX3 (knGm 264 (by decide +kernel) rfl) rfl rfl dX3_eliminate_6 (fun h1 => ?_)
    refine kj_ic_ge X (tgt := 74) dX3_eliminate_9 (by decide) hx3 h1 (fun h2 => ?_) (fun h2 => ?_)
    · replace hf := knIp hf h2
      refine kj_sub (L' := [(2, knV x2)]) [2] rfl ?_
      exact hk _ hx2 _ hf
    · replace hf := knIq hf h2
      refine kj_aloadn X 0 dX3_eliminate_12 rfl ?_
      refine kj_iloadn X 2 dX3_eliminate_13 rfl ?_
      refine kj_iloadn X 3 dX3_eliminate_14 rfl ?_
      obtain ⟨q3, h4, hf⟩ := knBd_inv hf
      refine kj_callV (As := [knV x2, knV x3]) (rest := []) X K (kcX3_pivotRow l hx2 hx3 h4) knWvX3_pivotRow (knGm 828 (by decide +kernel) rfl) (by decide) (knKd_in kdc_106 (by decide)) (knEnt_2 kdc_106) rfl rfl rfl (Nat.le_of_ble_eq_true rfl) (by decide) dX3_eliminate_15 rfl (fun h5 => ?_)
      refine kj_istore X (L' := [(4, knV q3), (0, knO G 106), (1, knV x1), (2, knV x2), (3, knV x3)]) dX3_eliminate_18 (by decide) rfl ?_
      refine kj_iload X 0 dX3_eliminate_20 rfl ?_
      refine kj_aloadn X 1 dX3_eliminate_22 rfl ?_
      refine kj_geti (k := 5) (ki := 5) X K rfl kdc_106 (by decide) (knEnt_2 kdc_106) rfl (by decide) knInX3 (knGm 264 (by decide +kernel) rfl) rfl rfl dX3_eliminate_23 (fun h6 => ?_)
      have j12 : ∀ (t12_0 : Int) (ht12_0 : knC t12_0) (m12 : knMem), (fun q12 =>
       kfX3_eliminate_l4  x1 kc n q12.1 (knW (x3 + 1)) q12.2) (t12_0, m12) = some q → knJ G p l e { frames := 2, cells := 0, slots := 0, locals := 50 } s m args below meth c 6 0 0 (MQ below (knPo G (knC q.1) (some (knV q.1)) q.2) args s 0 0 (knA G)) 68 [(0, knO G 106), (1, knV x1), (2, knV t12_0), (3, knV x3)] [] m12 := by
        intro t12_0 ht12_0 m12
        intro hf
        refine kj_iinc X 3 (L' := [(3, knV (knW (x3 + 1))), (0, knO G 106), (1, knV x1), (2, knV t12_0)]) dX3_eliminate_68 rfl (by decide) rfl ?_
        refine kj_goto X (tgt := 4) dX3_eliminate_71 (by decide) ?_
        refine kj_sub (L' := [(0, knO G 106), (1, knV x1), (2, knV t12_0), (3, knV (knW (x3 + 1)))]) [1, 2, 3, 0] rfl ?_
        exact ih _ ht12_0 _ (knCw _) _ hf
      refine kj_ic_ge X (tgt := 68) dX3_eliminate_26 (by decide) h5 h6 (fun h14 => ?_) (fun h14 => ?_)
      · replace hf := knIp hf h14
        refine kj_sub (L' := [(0, knO G 106), (1, knV x1), (2, knV x2), (3, knV x3)]) [1, 2, 3, 4] rfl ?_
        exact j12 _ hx2 _ hf
      · replace hf := knIq hf h14
        refine kj_aloadn X 1 dX3_eliminate_29 rfl ?_
        refine kj_iloadn X 3 dX3_eliminate_30 rfl ?_
        refine kj_iload X 0 dX3_eliminate_31 rfl ?_
        obtain ⟨q15, h16, hf⟩ := knBd_inv hf
        refine kj_callV (As := [knV x2, knV q3]) (rest := []) X K (kcX3_exchangeRows l hx2 h5 h16) knWvX3_exchangeRows (knGm 832 (by decide +kernel) rfl) (by decide) (knKd_in kdc_106 (by decide)) (knEnt_2 kdc_106) rfl rfl rfl (Nat.le_of_ble_eq_true rfl) (by decide) dX3_eliminate_33 rfl (fun h17 => ?_)
        refine kj_iloadn X 3 dX3_eliminate_36 rfl ?_
        refine kj_iconst X dX3_eliminate_37 ?_
        refine kj_iadd X dX3_eliminate_38 ?_
        refine kj_istore X (L' := [(5, knV (knW (x2 + 1))), (4, knV q3), (0, knO G 106), (1, knV x1), (2, knV x2), (3, knV x3)]) dX3_eliminate_39 (by decide) rfl ?_
        refine kj_sub (L' := [(0, knO G 106), (1, knV x1), (2, knV x2), (3, knV x3), (5, knV (knW (x2 + 1)))]) [2, 3, 4, 5, 0] rfl ?_
        refine kfX3_eliminate_l41_ok X K hr hlk x1 x2 x3 hx1 hx2 hx3  ?_ knF _ (knCw _) _ hf
        intro w23_m
        intro hf
        refine kj_iinc X 2 (L' := [(2, knV (knW (x2 + 1))), (0, knO G 106), (1, knV x1), (3, knV x3)]) dX3_eliminate_65 rfl (by decide) rfl ?_
        refine kj_sub (L' := [(0, knO G 106), (1, knV x1), (2, knV (knW (x2 + 1))), (3, knV x3)]) [1, 2, 0, 3] rfl ?_
        exact j12 _ (knCw _) _ hf

set_option maxHeartbeats 4000000 in
set_option maxRecDepth 100000 in
theorem kcX3_eliminate {G : knGT} (l : Launch) {a1 : Int} (ha1 : knC a1) {μ : knMem} {q : Int × knMem} (hf : kfX3_eliminate a1 μ = some q) : knC0 G l yX3_eliminate cX3_eliminate 6 (some .int) 2 50 [knO G 106, knV a1] μ (knC q.1) (some (knV q.1)) q.2 := by
  unfold kfX3_eliminate at hf
  refine kn_ofJ (plainFor_of_name (by decide)) (Nat.le_of_ble_eq_true rfl) (L := [(0, knO G 106), (1, knV a1)]) rfl ?_
  intro p e s m args below meth c X K hr hlk
  refine kj_iconst X dX3_eliminate_0 ?_
  refine kj_istoren X (L' := [(2, knV 0), (0, knO G 106), (1, knV a1)]) dX3_eliminate_1 (by decide) rfl ?_
  refine kj_iconst X dX3_eliminate_2 ?_
  refine kj_istoren X (L' := [(3, knV 0), (2, knV 0), (0, knO G 106), (1, knV a1)]) dX3_eliminate_3 (by decide) rfl ?_
  refine kj_sub (L' := [(0, knO G 106), (1, knV a1), (2, knV 0), (3, knV 0)]) [2, 3, 1, 0] rfl ?_
  refine kfX3_eliminate_l4_ok X K hr hlk a1 ha1  ?_ knF _ (show knC (0) from ⟨by omega, by omega⟩) _ (show knC (0) from ⟨by omega, by omega⟩) _ hf
  intro w24_0 hw24_0 w24_m
  intro hf
  refine kj_iloadn X 0 dX3_eliminate_74 rfl ?_
  cases hf
  exact kj_iret X hw24_0 hr dX3_eliminate_75 hlk

def kfX3_countByElimination_l27  (x2 : Int) (x3 : Int) (μ : knMem) (kc : (Int) → Option (Int × knMem)) : Nat → Int → Int → Option (Int × knMem)
  | 0, _, _ => none
  | n + 1, x4, x5 =>
    if x3 ≤ x5 then
     kc x4
    else
     kfX3_countByElimination_l27  x2 x3 μ kc n (knW (x4 * x2)) (knW (x5 + 1))

def kfX3_countByElimination (a1 : Int) (a2 : Int) (μ : knMem) : Option (Int × knMem) :=
 Option.bind (kfX3_readArcs a1 μ) (fun q1 =>
  Option.bind (kfX3_fillRows a2 q1) (fun q4 =>
   Option.bind (kfX5_arcs a1 q4) (fun q7 =>
    Option.bind (kfX3_eliminate a2 q4) (fun q10 =>
     kfX3_countByElimination_l27 a2 (knW (q7 - q10.1)) q10.2 (fun w14 =>
      some (w14, q10.2)) knF 1 0))))

theorem knWvX3_countByElimination : knWv yX3_countByElimination cX3_countByElimination 6 (some .int) 2 := ⟨(knGm 814 (by decide +kernel) rfl), (knGm 119 (by decide +kernel) rfl), (knGm 812 (by decide +kernel) rfl), (knGm 813 (by decide +kernel) rfl), by decide +kernel, by decide +kernel, by decide +kernel⟩
set_option maxHeartbeats 4000000 in
set_option maxRecDepth 100000 in
theorem kfX3_countByElimination_l27_ok {q : Int × knMem} {kc : (Int) → Option (Int × knMem)} {G : knGT} {p : Program} {l : Launch} {e : Env} {s : State} {m : MethodId} {args : Array Value} {below : List Frame} {meth : Method} {c : Code} (X : knX p m c cX3_countByElimination 6 s args yX3_countByElimination.cls) (K : knK G s s.heap) (hr : meth.sig.returnType = (some .int)) (hlk : meth.locks = false) (x2 : Int) (x3 : Int) (hx2 : knC x2) (hx3 : knC x3) (μ : knMem) (hk : ∀ (y4 : Int) (hy4 : knC y4), kc y4 = some q → knJ G p l e { frames := 3, cells := 0, slots := 0, locals := 75 } s m args below meth c 6 0 0 (MQ below (knPo G (knC q.1) (some (knV q.1)) q.2) args s 0 0 (knA G)) 45 [(4, knV y4)] [] μ) : ∀ (n : Nat) (x4 : Int) (hx4 : knC x4) (x5 : Int) (hx5 : knC x5) , kfX3_countByElimination_l27  x2 x3 μ kc n x4 x5 = some q → knJ G p l e { frames := 3, cells := 0, slots := 0, locals := 75 } s m args below meth c 6 0 0 (MQ below (knPo G (knC q.1) (some (knV q.1)) q.2) args s 0 0 (knA G)) 27 [(2, knV x2), (3, knV x3), (4, knV x4), (5, knV x5)] [] μ := by
  intro n
  induction n with
  | zero => intro x4 hx4 x5 hx5 hf; cases hf
  | succ n ih =>
    intro x4 hx4 x5 hx5 hf
    unfold kfX3_countByElimination_l27 at hf
    refine kj_iload X 3 dX3_countByElimination_27 rfl ?_
    refine kj_iloadn X 1 dX3_countByElimination_29 rfl ?_
    refine kj_ic_ge X (tgt := 45) dX3_countByElimination_30 (by decide) hx5 hx3 (fun h13 => ?_) (fun h13 => ?_)
    · replace hf := knIp hf h13
      refine kj_sub (L' := [(4, knV x4)]) [2] rfl ?_
      exact hk _ hx4 hf
    · replace hf := knIq hf h13
      refine kj_iload X 2 dX3_countByElimination_33 rfl ?_
      refine kj_iloadn X 0 dX3_countByElimination_35 rfl ?_
      refine kj_imul X dX3_countByElimination_36 ?_
      refine kj_istore X (L' := [(4, knV (knW (x4 * x2))), (2, knV x2), (3, knV x3), (5, knV x5)]) dX3_countByElimination_37 (by decide) rfl ?_
      refine kj_iinc X 3 (L' := [(5, knV (knW (x5 + 1))), (4, knV (knW (x4 * x2))), (2, knV x2), (3, knV x3)]) dX3_countByElimination_39 rfl (by decide) rfl ?_
      refine kj_goto X (tgt := 27) dX3_countByElimination_42 (by decide) ?_
      refine kj_sub (L' := [(2, knV x2), (3, knV x3), (4, knV (knW (x4 * x2))), (5, knV (knW (x5 + 1)))]) [2, 3, 1, 0] rfl ?_
      exact ih _ (knCw _) _ (knCw _)  hf

set_option maxHeartbeats 4000000 in
set_option maxRecDepth 100000 in
theorem kcX3_countByElimination {G : knGT} (l : Launch) {a1 : Int} {a2 : Int} (ha1 : knKd a1 = 3) (ha2 : knC a2) {μ : knMem} {q : Int × knMem} (hf : kfX3_countByElimination a1 a2 μ = some q) : knC0 G l yX3_countByElimination cX3_countByElimination 6 (some .int) 3 75 [knO G 106, knO G a1, knV a2] μ (knC q.1) (some (knV q.1)) q.2 := by
  unfold kfX3_countByElimination at hf
  refine kn_ofJ (plainFor_of_name (by decide)) (Nat.le_of_ble_eq_true rfl) (L := [(0, knO G 106), (1, knO G a1), (2, knV a2)]) rfl ?_
  intro p e s m args below meth c X K hr hlk
  refine kj_aloadn X 0 dX3_countByElimination_0 rfl ?_
  refine kj_aloadn X 1 dX3_countByElimination_1 rfl ?_
  obtain ⟨q1, h2, hf⟩ := knBd_inv hf
  refine kj_callV (As := [knO G a1]) (rest := []) X K (kcX3_readArcs l ha1 h2) knWvX3_readArcs (knGm 690 (by decide +kernel) rfl) (by decide) (knKd_in kdc_106 (by decide)) (knEnt_2 kdc_106) rfl rfl rfl (Nat.le_of_ble_eq_true rfl) (by decide) dX3_countByElimination_2 rfl (fun h3 => ?_)
  refine kj_aloadn X 0 dX3_countByElimination_5 rfl ?_
  refine kj_iloadn X 2 dX3_countByElimination_6 rfl ?_
  obtain ⟨q4, h5, hf⟩ := knBd_inv hf
  refine kj_callV (As := [knV a2]) (rest := []) X K (kcX3_fillRows l ha2 h5) knWvX3_fillRows (knGm 815 (by decide +kernel) rfl) (by decide) (knKd_in kdc_106 (by decide)) (knEnt_2 kdc_106) rfl rfl rfl (Nat.le_of_ble_eq_true rfl) (by decide) dX3_countByElimination_7 rfl (fun h6 => ?_)
  refine kj_aloadn X 1 dX3_countByElimination_10 rfl ?_
  obtain ⟨q7, h8, hf⟩ := knBd_inv hf
  refine kj_callV (As := []) (rest := []) X K (kcX5_arcs l ha1 h8) knWvX5_arcs (knGm 823 (by decide +kernel) rfl) (by decide) (knKd_in ha1 (by decide)) (knEnt_3 ha1) rfl rfl rfl (Nat.le_of_ble_eq_true rfl) (by decide) dX3_countByElimination_11 rfl (fun h9 => ?_)
  refine kj_aloadn X 0 dX3_countByElimination_14 rfl ?_
  refine kj_iloadn X 2 dX3_countByElimination_15 rfl ?_
  obtain ⟨q10, h11, hf⟩ := knBd_inv hf
  refine kj_callV (As := [knV a2]) (rest := [knV q7]) X K (kcX3_eliminate l ha2 h11) knWvX3_eliminate (knGm 824 (by decide +kernel) rfl) (by decide) (knKd_in kdc_106 (by decide)) (knEnt_2 kdc_106) rfl rfl rfl (Nat.le_of_ble_eq_true rfl) (by decide) dX3_countByElimination_16 rfl (fun h12 => ?_)
  refine kj_isub X dX3_countByElimination_19 ?_
  refine kj_istoren X (L' := [(3, knV (knW (q7 - q10.1))), (0, knO G 106), (1, knO G a1), (2, knV a2)]) dX3_countByElimination_20 (by decide) rfl ?_
  refine kj_iconst X dX3_countByElimination_21 ?_
  refine kj_istore X (L' := [(4, knV 1), (3, knV (knW (q7 - q10.1))), (0, knO G 106), (1, knO G a1), (2, knV a2)]) dX3_countByElimination_22 (by decide) rfl ?_
  refine kj_iconst X dX3_countByElimination_24 ?_
  refine kj_istore X (L' := [(5, knV 0), (4, knV 1), (3, knV (knW (q7 - q10.1))), (0, knO G 106), (1, knO G a1), (2, knV a2)]) dX3_countByElimination_25 (by decide) rfl ?_
  refine kj_sub (L' := [(2, knV a2), (3, knV (knW (q7 - q10.1))), (4, knV 1), (5, knV 0)]) [5, 2, 1, 0] rfl ?_
  refine kfX3_countByElimination_l27_ok X K hr hlk a2 (knW (q7 - q10.1)) ha2 (knCw _) q10.2 ?_ knF _ (show knC (1) from ⟨by omega, by omega⟩) _ (show knC (0) from ⟨by omega, by omega⟩)  hf
  intro w14_0 hw14_0
  intro hf
  refine kj_iload X 0 dX3_countByElimination_45 rfl ?_
  cases hf
  exact kj_iret X hw14_0 hr dX3_countByElimination_47 hlk

def kfX12_colourings (a1 : Int) (μ : knMem) : Option (Int × Int × knMem) :=
 (fun (k4 : (Unit) → Option (Int × Int × knMem)) =>
  if a1 = 3 then
   k4 ()
  else
   if a1 = 5 then
    k4 ()
   else
    if a1 = 7 then
     k4 ()
    else
     some (2, 0, μ))
  (fun _ =>
  Option.bind (kfX3_countByElimination 2 a1 μ) (fun q5 =>
   some (0, q5.1, q5.2)))

theorem knWvX12_colourings : knWv yX12_colourings cX12_colourings 2 (some .int) 1 := ⟨(knGm 1121 (by decide +kernel) rfl), (knGm 114 (by decide +kernel) rfl), (knGm 1119 (by decide +kernel) rfl), (knGm 1120 (by decide +kernel) rfl), by decide +kernel, by decide +kernel, by decide +kernel⟩
set_option maxHeartbeats 4000000 in
set_option maxRecDepth 100000 in
theorem kcX12_colourings {G : knGT} (l : Launch) (hl : l.stackTraces = false) {a1 : Int} (ha1 : knC a1) {μ : knMem} {q : Int × Int × knMem} (hf : kfX12_colourings a1 μ = some q) : knCx G l yX12_colourings cX12_colourings 2 (some .int) 6 100 1 6 [knO G 0, knV a1] μ (knC q.2.1) q.1 (some (knV q.2.1)) q.2.2 := by
  unfold kfX12_colourings at hf
  refine kn_ofJx (by decide) (Nat.le_of_ble_eq_true rfl) (L := [(0, knO G 0), (1, knV a1)]) rfl ?_
  intro p e s m args below meth c X K hr hlk hnx
  refine kj_iloadn X 1 dX12_colourings_0 rfl ?_
  refine kj_iconst X dX12_colourings_1 ?_
  have j4 : (fun _ =>
   Option.bind (kfX3_countByElimination 2 a1 μ) (fun q5 =>
    some (0, q5.1, q5.2))) () = some q → knJ G p l e { frames := 6, cells := 1, slots := 6, locals := 100 } s m args below meth c 2 0 0 (vx_MQ below (knPx G (knC q.2.1) q.1 (some (knV q.2.1)) q.2.2) (knXC G q.1 q.2.2) args s 1 6 (knA G)) 26 [(0, knO G 0), (1, knV a1)] [] μ := by
    intro hf
    refine kj_aloadn X 0 dX12_colourings_26 rfl ?_
    refine kj_geto (k := 6) (o2 := 106) X K kdc_0 (by decide) (knEnt_9 kdc_0) rfl (by decide) knInX12 (knGm 367 (by decide +kernel) rfl) rfl rfl dX12_colourings_27 ?_
    refine kj_aloadn X 0 dX12_colourings_30 rfl ?_
    refine kj_geto (k := 1) (o2 := 2) X K kdc_0 (by decide) (knEnt_9 kdc_0) rfl (by decide) knInX12 (knGm 362 (by decide +kernel) rfl) rfl rfl dX12_colourings_31 ?_
    refine kj_iloadn X 1 dX12_colourings_34 rfl ?_
    obtain ⟨q8, h9, hf⟩ := knBd_inv hf
    refine kj_callV (As := [knO G 2, knV a1]) (rest := []) X K (kcX3_countByElimination l kdc_2 ha1 h9) knWvX3_countByElimination (knGm 811 (by decide +kernel) rfl) (by decide) (knKd_in kdc_106 (by decide)) (knEnt_2 kdc_106) rfl rfl rfl (Nat.le_of_ble_eq_true rfl) (by decide) dX12_colourings_35 rfl (fun h10 => ?_)
    cases hf
    exact kjx_iret X h10 rfl (by decide) (by decide) hr dX12_colourings_38 hlk
  refine kj_ic_eq X (tgt := 26) dX12_colourings_2 (by decide) ha1 (show knC (3) from ⟨by omega, by omega⟩) (fun h12 => ?_) (fun h12 => ?_)
  · replace hf := knIp hf h12
    refine kj_sub (L' := [(0, knO G 0), (1, knV a1)]) [0, 1] rfl ?_
    exact j4  hf
  · replace hf := knIq hf h12
    refine kj_iloadn X 1 dX12_colourings_5 rfl ?_
    refine kj_iconst X dX12_colourings_6 ?_
    refine kj_ic_eq X (tgt := 26) dX12_colourings_7 (by decide) ha1 (show knC (5) from ⟨by omega, by omega⟩) (fun h13 => ?_) (fun h13 => ?_)
    · replace hf := knIp hf h13
      refine kj_sub (L' := [(0, knO G 0), (1, knV a1)]) [0, 1] rfl ?_
      exact j4  hf
    · replace hf := knIq hf h13
      refine kj_iloadn X 1 dX12_colourings_10 rfl ?_
      refine kj_bipush X (n := 7) dX12_colourings_11 rfl ?_
      refine kj_ic_eq X (tgt := 26) dX12_colourings_13 (by decide) ha1 (show knC (7) from ⟨by omega, by omega⟩) (fun h14 => ?_) (fun h14 => ?_)
      · replace hf := knIp hf h14
        refine kj_sub (L' := [(0, knO G 0), (1, knV a1)]) [0, 1] rfl ?_
        exact j4  hf
      · replace hf := knIq hf h14
        cases hf
        exact kjx_throw X K hl (i := 8) (by show (2 : Int) ≠ 0; decide) rfl (by decide +kernel) (by decide) rfl rfl knTh2.1 knTh2.2 dX12_colourings_16 dX12_colourings_19 dX12_colourings_20 dX12_colourings_22 dX12_colourings_25 hnx (by decide) hlk (by decide) (by decide)

def kfX3_fits_l2  (x1 : Int) (μ : knMem) (kc : (Unit) → Option (Int)) : Nat → Int → Option (Int)
  | 0, _ => none
  | n + 1, x2 =>
    if (μ 106 5) ≤ x2 then
     kc ()
    else
     knGd (0 ≤ x2 ∧ x2 < 7)
      (Option.bind (kfJ9_max_7cf53 (μ 108 x2) (μ 109 x2) μ) (fun q7 =>
      Option.bind (kfJ9_max_7cf53 (μ 107 x2) q7 μ) (fun q10 =>
       (fun (k21 : (Unit) → Option (Int)) =>
        if q10 = x1 then
         knGd (0 ≤ (μ 107 x2) ∧ (μ 107 x2) < 7)
          (knGd (0 ≤ (μ 108 x2) ∧ (μ 108 x2) < 7)
          (knGd (0 ≤ (μ 109 x2) ∧ (μ 109 x2) < 7)
          (if (knRem (knW ((knW ((knW (2 * (μ 118 (μ 107 x2)))) - (μ 118 (μ 108 x2)))) - (μ 118 (μ 109 x2)))) 3) = 0 then
          k21 ()
         else
          some 0)))
        else
         k21 ())
        (fun _ =>
        kfX3_fits_l2  x1 μ kc n (knW (x2 + 1))))))

def kfX3_fits (a1 : Int) (μ : knMem) : Option (Int) :=
 kfX3_fits_l2 a1 μ (fun _ =>
  some 1) knF 0

theorem knWvX3_fits : knWv yX3_fits cX3_fits 6 (some .boolean) 1 := ⟨(knGm 708 (by decide +kernel) rfl), (knGm 119 (by decide +kernel) rfl), (knGm 707 (by decide +kernel) rfl), (knGm 8 (by decide +kernel) rfl), by decide +kernel, by decide +kernel, by decide +kernel⟩
set_option maxHeartbeats 4000000 in
set_option maxRecDepth 100000 in
theorem kfX3_fits_l2_ok {q : Int} {kc : (Unit) → Option (Int)} {G : knGT} {p : Program} {l : Launch} {e : Env} {s : State} {m : MethodId} {args : Array Value} {below : List Frame} {meth : Method} {c : Code} (X : knX p m c cX3_fits 6 s args yX3_fits.cls) (K : knK G s s.heap) (hr : meth.sig.returnType = (some .boolean)) (hlk : meth.locks = false) (x1 : Int) (hx1 : knC x1) (μ : knMem) (hk : kc () = some q → knJ G p l e { frames := 1, cells := 0, slots := 0, locals := 21 } s m args below meth c 6 0 0 (MQ below (knPo G (knZ q) (some (knV q)) μ) args s 0 0 (knA G)) 85 [] [] μ) : ∀ (n : Nat) (x2 : Int) (hx2 : knC x2) , kfX3_fits_l2  x1 μ kc n x2 = some q → knJ G p l e { frames := 1, cells := 0, slots := 0, locals := 21 } s m args below meth c 6 0 0 (MQ below (knPo G (knZ q) (some (knV q)) μ) args s 0 0 (knA G)) 2 [(0, knO G 106), (1, knV x1), (2, knV x2)] [] μ := by
  intro n
  induction n with
  | zero => intro x2 hx2 hf; cases hf
  | succ n ih =>
    intro x2 hx2 hf
    unfold kfX3_fits_l2 at hf
    refine kj_iloadn X 2 dX3_fits_2 rfl ?_
    refine kj_aloadn X 0 dX3_fits_3 rfl ?_
    refine kj_geti (k := 5) (ki := 5) X K rfl kdc_106 (by decide) (knEnt_2 kdc_106) rfl (by decide) knInX3 (knGm 264 (by decide +kernel) rfl) rfl rfl dX3_fits_4 (fun h1 => ?_)
    refine kj_ic_ge X (tgt := 85) dX3_fits_7 (by decide) hx2 h1 (fun h2 => ?_) (fun h2 => ?_)
    · replace hf := knIp hf h2
      refine kj_sub (L' := []) [] rfl ?_
      exact hk  hf
    · replace hf := knIq hf h2
      refine kj_aloadn X 0 dX3_fits_10 rfl ?_
      refine kj_geto (k := 0) (o2 := 107) X K kdc_106 (by decide) (knEnt_2 kdc_106) rfl (by decide) knInX3 (knGm 259 (by decide +kernel) rfl) rfl rfl dX3_fits_11 ?_
      refine kj_iloadn X 2 dX3_fits_14 rfl ?_
      obtain ⟨h3, hf⟩ := knGd_inv hf
      refine kj_iald X K kdc_107 hx2 lnc_107 h3 dX3_fits_15 (fun h4 => ?_)
      refine kj_istoren X (L' := [(3, knV (μ 107 x2)), (0, knO G 106), (1, knV x1), (2, knV x2)]) dX3_fits_16 (by decide) rfl ?_
      refine kj_aloadn X 1 dX3_fits_17 rfl ?_
      refine kj_geto (k := 1) (o2 := 108) X K kdc_106 (by decide) (knEnt_2 kdc_106) rfl (by decide) knInX3 (knGm 260 (by decide +kernel) rfl) rfl rfl dX3_fits_18 ?_
      refine kj_iloadn X 3 dX3_fits_21 rfl ?_
      refine kj_iald X K kdc_108 hx2 lnc_108 h3 dX3_fits_22 (fun h5 => ?_)
      refine kj_istore X (L' := [(4, knV (μ 108 x2)), (3, knV (μ 107 x2)), (0, knO G 106), (1, knV x1), (2, knV x2)]) dX3_fits_23 (by decide) rfl ?_
      refine kj_aloadn X 2 dX3_fits_25 rfl ?_
      refine kj_geto (k := 2) (o2 := 109) X K kdc_106 (by decide) (knEnt_2 kdc_106) rfl (by decide) knInX3 (knGm 261 (by decide +kernel) rfl) rfl rfl dX3_fits_26 ?_
      refine kj_iloadn X 4 dX3_fits_29 rfl ?_
      refine kj_iald X K kdc_109 hx2 lnc_109 h3 dX3_fits_30 (fun h6 => ?_)
      refine kj_istore X (L' := [(5, knV (μ 109 x2)), (4, knV (μ 108 x2)), (3, knV (μ 107 x2)), (0, knO G 106), (1, knV x1), (2, knV x2)]) dX3_fits_31 (by decide) rfl ?_
      refine kj_iloadn X 2 dX3_fits_33 rfl ?_
      refine kj_iload X 1 dX3_fits_34 rfl ?_
      refine kj_iload X 0 dX3_fits_36 rfl ?_
      obtain ⟨q7, h8, hf⟩ := knBd_inv hf
      refine kj_callS (As := [knV (μ 108 x2), knV (μ 109 x2)]) (rest := [knV (μ 107 x2)]) X K (kcJ9_max_7cf53 l h5 h6 h8) knWkJ9_max_7cf53 (knGm 709 (by decide +kernel) rfl) (by decide)  rfl (Nat.le_of_ble_eq_true rfl) (by decide) dX3_fits_38 rfl (fun h9 => ?_)
      obtain ⟨q10, h11, hf⟩ := knBd_inv hf
      refine kj_callS (As := [knV (μ 107 x2), knV q7]) (rest := []) X K (kcJ9_max_7cf53 l h4 h9 h11) knWkJ9_max_7cf53 (knGm 709 (by decide +kernel) rfl) (by decide)  rfl (Nat.le_of_ble_eq_true rfl) (by decide) dX3_fits_41 rfl (fun h12 => ?_)
      refine kj_iloadn X 4 dX3_fits_44 rfl ?_
      have j21 : (fun _ =>
       kfX3_fits_l2  x1 μ kc n (knW (x2 + 1))) () = some q → knJ G p l e { frames := 1, cells := 0, slots := 0, locals := 21 } s m args below meth c 6 0 0 (MQ below (knPo G (knZ q) (some (knV q)) μ) args s 0 0 (knA G)) 79 [(0, knO G 106), (1, knV x1), (2, knV x2)] [] μ := by
        intro hf
        refine kj_iinc X 2 (L' := [(2, knV (knW (x2 + 1))), (0, knO G 106), (1, knV x1)]) dX3_fits_79 rfl (by decide) rfl ?_
        refine kj_goto X (tgt := 2) dX3_fits_82 (by decide) ?_
        refine kj_sub (L' := [(0, knO G 106), (1, knV x1), (2, knV (knW (x2 + 1)))]) [1, 2, 0] rfl ?_
        exact ih _ (knCw _)  hf
      refine kj_ic_ne X (tgt := 79) dX3_fits_45 (by decide) h12 hx1 (fun h23 => ?_) (fun h23 => ?_)
      · replace hf := knIq hf h23
        refine kj_sub (L' := [(0, knO G 106), (1, knV x1), (2, knV x2)]) [3, 4, 5] rfl ?_
        exact j21  hf
      · replace hf := knIp hf h23
        refine kj_iconst X dX3_fits_48 ?_
        refine kj_aloadn X 3 dX3_fits_49 rfl ?_
        refine kj_geto (k := 4) (o2 := 118) X K kdc_106 (by decide) (knEnt_2 kdc_106) rfl (by decide) knInX3 (knGm 263 (by decide +kernel) rfl) rfl rfl dX3_fits_50 ?_
        refine kj_iloadn X 2 dX3_fits_53 rfl ?_
        obtain ⟨h24, hf⟩ := knGd_inv hf
        refine kj_iald X K kdc_118 h4 lnc_118 h24 dX3_fits_54 (fun h25 => ?_)
        refine kj_imul X dX3_fits_55 ?_
        refine kj_aloadn X 3 dX3_fits_56 rfl ?_
        refine kj_geto (k := 4) (o2 := 118) X K kdc_106 (by decide) (knEnt_2 kdc_106) rfl (by decide) knInX3 (knGm 263 (by decide +kernel) rfl) rfl rfl dX3_fits_57 ?_
        refine kj_iload X 1 dX3_fits_60 rfl ?_
        obtain ⟨h26, hf⟩ := knGd_inv hf
        refine kj_iald X K kdc_118 h5 lnc_118 h26 dX3_fits_62 (fun h27 => ?_)
        refine kj_isub X dX3_fits_63 ?_
        refine kj_aloadn X 3 dX3_fits_64 rfl ?_
        refine kj_geto (k := 4) (o2 := 118) X K kdc_106 (by decide) (knEnt_2 kdc_106) rfl (by decide) knInX3 (knGm 263 (by decide +kernel) rfl) rfl rfl dX3_fits_65 ?_
        refine kj_iload X 0 dX3_fits_68 rfl ?_
        obtain ⟨h28, hf⟩ := knGd_inv hf
        refine kj_iald X K kdc_118 h6 lnc_118 h28 dX3_fits_70 (fun h29 => ?_)
        refine kj_isub X dX3_fits_71 ?_
        refine kj_iconst X dX3_fits_72 ?_
        refine kj_irem X dX3_fits_73 (show knC (3) from ⟨by omega, by omega⟩) (by decide) ?_
        refine kj_if_eq X (tgt := 79) dX3_fits_74 (by decide) (knC_rem _ _) (fun h30 => ?_) (fun h30 => ?_)
        · replace hf := knIp hf h30
          refine kj_sub (L' := [(0, knO G 106), (1, knV x1), (2, knV x2)]) [3, 4, 5] rfl ?_
          exact j21  hf
        · replace hf := knIq hf h30
          refine kj_iconst X dX3_fits_77 ?_
          cases hf
          exact kj_zret X (Or.inl rfl) hr (kn_nb (Or.inl rfl)) dX3_fits_78 hlk

set_option maxHeartbeats 4000000 in
set_option maxRecDepth 100000 in
theorem kcX3_fits {G : knGT} (l : Launch) {a1 : Int} (ha1 : knC a1) {μ : knMem} {q : Int} (hf : kfX3_fits a1 μ = some q) : knC0 G l yX3_fits cX3_fits 6 (some .boolean) 1 21 [knO G 106, knV a1] μ (knZ q) (some (knV q)) μ := by
  unfold kfX3_fits at hf
  refine kn_ofJ (plainFor_of_name (by decide)) (Nat.le_of_ble_eq_true rfl) (L := [(0, knO G 106), (1, knV a1)]) rfl ?_
  intro p e s m args below meth c X K hr hlk
  refine kj_iconst X dX3_fits_0 ?_
  refine kj_istoren X (L' := [(2, knV 0), (0, knO G 106), (1, knV a1)]) dX3_fits_1 (by decide) rfl ?_
  refine kj_sub (L' := [(0, knO G 106), (1, knV a1), (2, knV 0)]) [1, 2, 0] rfl ?_
  refine kfX3_fits_l2_ok X K hr hlk a1 ha1 μ ?_ knF _ (show knC (0) from ⟨by omega, by omega⟩)  hf
  intro hf
  refine kj_iconst X dX3_fits_85 ?_
  cases hf
  exact kj_zret X (Or.inr rfl) hr (kn_nb (Or.inr rfl)) dX3_fits_86 hlk

def kfX5_sets (a0 : Int) (μ : knMem) : Option (Int) :=
 some (knShl 1 (μ a0 3))

theorem knWvX5_sets : knWv yX5_sets cX5_sets 1 (some .int) 0 := ⟨(knGm 730 (by decide +kernel) rfl), (knGm 116 (by decide +kernel) rfl), (knGm 728 (by decide +kernel) rfl), (knGm 729 (by decide +kernel) rfl), by decide +kernel, by decide +kernel, by decide +kernel⟩
set_option maxHeartbeats 4000000 in
set_option maxRecDepth 100000 in
theorem kcX5_sets {G : knGT} (l : Launch) {a0 : Int} (ha0 : knKd a0 = 3) {μ : knMem} {q : Int} (hf : kfX5_sets a0 μ = some q) : knC0 G l yX5_sets cX5_sets 1 (some .int) 0 0 [knO G a0] μ (knC q) (some (knV q)) μ := by
  unfold kfX5_sets at hf
  refine kn_ofJ (plainFor_of_name (by decide)) (Nat.le_of_ble_eq_true rfl) (L := [(0, knO G a0)]) rfl ?_
  intro p e s m args below meth c X K hr hlk
  refine kj_iconst X dX5_sets_0 ?_
  refine kj_aloadn X 0 dX5_sets_1 rfl ?_
  refine kj_geti (k := 3) (ki := 3) X K rfl ha0 (by decide) (knEnt_3 ha0) rfl (by decide) knInX5 (knGm 177 (by decide +kernel) rfl) rfl rfl dX5_sets_2 (fun h1 => ?_)
  refine kj_ishl X dX5_sets_5 ?_
  cases hf
  exact kj_iret X (knC_shl _ _) hr dX5_sets_6 hlk

def kfX5_passes (a0 : Int) (μ : knMem) : Option (Int) :=
 some (knW (2 * (μ a0 3)))

theorem knWvX5_passes : knWv yX5_passes cX5_passes 1 (some .int) 0 := ⟨(knGm 745 (by decide +kernel) rfl), (knGm 116 (by decide +kernel) rfl), (knGm 743 (by decide +kernel) rfl), (knGm 744 (by decide +kernel) rfl), by decide +kernel, by decide +kernel, by decide +kernel⟩
set_option maxHeartbeats 4000000 in
set_option maxRecDepth 100000 in
theorem kcX5_passes {G : knGT} (l : Launch) {a0 : Int} (ha0 : knKd a0 = 3) {μ : knMem} {q : Int} (hf : kfX5_passes a0 μ = some q) : knC0 G l yX5_passes cX5_passes 1 (some .int) 0 0 [knO G a0] μ (knC q) (some (knV q)) μ := by
  unfold kfX5_passes at hf
  refine kn_ofJ (plainFor_of_name (by decide)) (Nat.le_of_ble_eq_true rfl) (L := [(0, knO G a0)]) rfl ?_
  intro p e s m args below meth c X K hr hlk
  refine kj_iconst X dX5_passes_0 ?_
  refine kj_aloadn X 0 dX5_passes_1 rfl ?_
  refine kj_geti (k := 3) (ki := 3) X K rfl ha0 (by decide) (knEnt_3 ha0) rfl (by decide) knInX5 (knGm 177 (by decide +kernel) rfl) rfl rfl dX5_passes_2 (fun h1 => ?_)
  refine kj_imul X dX5_passes_5 ?_
  cases hf
  exact kj_iret X (knCw _) hr dX5_passes_6 hlk

def kfX2_separate_l2  (x1 : Int)  (kc : (knMem) → Option (Int × knMem)) : Nat → Int → knMem → Option (Int × knMem)
  | 0, _, _ => none
  | n + 1, x2, μ =>
    Option.bind (kfX5_passes x1 μ) (fun q1 =>
     if q1 ≤ x2 then
      kc μ
     else
      knGd ((0 : Int) ≤ 0 ∧ (0 : Int) < 8)
       (knGd (0 ≤ x2 ∧ x2 < 14)
       (kfX2_separate_l2  x1 kc n (knW (x2 + 1)) (knUp μ (124 + 0) x2 x2))))

def kfX2_separate (a1 : Int) (μ : knMem) : Option (Int × knMem) :=
 kfX2_separate_l2 a1  (fun w7 =>
  Option.bind (α := Int)
   (if (w7 a1 3) = 0 then
    some 1
   else
    Option.bind (kfX5_passes a1 w7) (fun q16 =>
     some q16))
   (fun q13 =>
   some (q13, w7))) knF 0 μ

theorem knWvX2_separate : knWv yX2_separate cX2_separate 3 (some .int) 1 := ⟨(knGm 741 (by decide +kernel) rfl), (knGm 120 (by decide +kernel) rfl), (knGm 740 (by decide +kernel) rfl), (knGm 9 (by decide +kernel) rfl), by decide +kernel, by decide +kernel, by decide +kernel⟩
set_option maxHeartbeats 4000000 in
set_option maxRecDepth 100000 in
theorem kfX2_separate_l2_ok {q : Int × knMem} {kc : (knMem) → Option (Int × knMem)} {G : knGT} {p : Program} {l : Launch} {e : Env} {s : State} {m : MethodId} {args : Array Value} {below : List Frame} {meth : Method} {c : Code} (X : knX p m c cX2_separate 3 s args yX2_separate.cls) (K : knK G s s.heap) (hr : meth.sig.returnType = (some .int)) (hlk : meth.locks = false) (x1 : Int) (hx1 : knKd x1 = 3)  (hk : ∀ (μ1 : knMem), kc μ1 = some q → knJ G p l e { frames := 1, cells := 0, slots := 0, locals := 20 } s m args below meth c 3 0 0 (MQ below (knPo G (knC q.1) (some (knV q.1)) q.2) args s 0 0 (knA G)) 25 [(1, knO G x1)] [] μ1) : ∀ (n : Nat) (x2 : Int) (hx2 : knC x2) (μ : knMem), kfX2_separate_l2  x1 kc n x2 μ = some q → knJ G p l e { frames := 1, cells := 0, slots := 0, locals := 20 } s m args below meth c 3 0 0 (MQ below (knPo G (knC q.1) (some (knV q.1)) q.2) args s 0 0 (knA G)) 2 [(0, knO G 119), (1, knO G x1), (2, knV x2)] [] μ := by
  intro n
  induction n with
  | zero => intro x2 hx2 μ hf; cases hf
  | succ n ih =>
    intro x2 hx2 μ hf
    unfold kfX2_separate_l2 at hf
    refine kj_iloadn X 2 dX2_separate_2 rfl ?_
    refine kj_aloadn X 1 dX2_separate_3 rfl ?_
    obtain ⟨q1, h2, hf⟩ := knBd_inv hf
    refine kj_callV (As := []) (rest := [knV x2]) X K (kcX5_passes l hx1 h2) knWvX5_passes (knGm 742 (by decide +kernel) rfl) (by decide) (knKd_in hx1 (by decide)) (knEnt_3 hx1) rfl rfl rfl (Nat.le_of_ble_eq_true rfl) (by decide) dX2_separate_4 rfl (fun h3 => ?_)
    refine kj_ic_ge X (tgt := 25) dX2_separate_7 (by decide) hx2 h3 (fun h4 => ?_) (fun h4 => ?_)
    · replace hf := knIp hf h4
      refine kj_sub (L' := [(1, knO G x1)]) [1] rfl ?_
      exact hk _ hf
    · replace hf := knIq hf h4
      refine kj_aloadn X 0 dX2_separate_10 rfl ?_
      refine kj_geto (k := 3) (o2 := 123) X K kdc_119 (by decide) (knEnt_1 kdc_119) rfl (by decide) knInX2 (knGm 291 (by decide +kernel) rfl) rfl rfl dX2_separate_11 ?_
      refine kj_iconst X dX2_separate_14 ?_
      obtain ⟨h5, hf⟩ := knGd_inv hf
      refine kj_ald24 X K kdc_123 (show knC (0) from ⟨by omega, by omega⟩) lnc_123 h5 dX2_separate_15 ?_
      refine kj_iloadn X 2 dX2_separate_16 rfl ?_
      refine kj_iloadn X 2 dX2_separate_17 rfl ?_
      obtain ⟨h6, hf⟩ := knGd_inv hf
      refine kj_iast X K (knJoined h5).1 hx2 hx2 (knJoined h5).2 h6 dX2_separate_18 ?_
      refine kj_iinc X 2 (L' := [(2, knV (knW (x2 + 1))), (0, knO G 119), (1, knO G x1)]) dX2_separate_19 rfl (by decide) rfl ?_
      refine kj_goto X (tgt := 2) dX2_separate_22 (by decide) ?_
      refine kj_sub (L' := [(0, knO G 119), (1, knO G x1), (2, knV (knW (x2 + 1)))]) [1, 2, 0] rfl ?_
      exact ih _ (knCw _) _ hf

set_option maxHeartbeats 4000000 in
set_option maxRecDepth 100000 in
theorem kcX2_separate {G : knGT} (l : Launch) {a1 : Int} (ha1 : knKd a1 = 3) {μ : knMem} {q : Int × knMem} (hf : kfX2_separate a1 μ = some q) : knC0 G l yX2_separate cX2_separate 3 (some .int) 1 20 [knO G 119, knO G a1] μ (knC q.1) (some (knV q.1)) q.2 := by
  unfold kfX2_separate at hf
  refine kn_ofJ (plainFor_of_name (by decide)) (Nat.le_of_ble_eq_true rfl) (L := [(0, knO G 119), (1, knO G a1)]) rfl ?_
  intro p e s m args below meth c X K hr hlk
  refine kj_iconst X dX2_separate_0 ?_
  refine kj_istoren X (L' := [(2, knV 0), (0, knO G 119), (1, knO G a1)]) dX2_separate_1 (by decide) rfl ?_
  refine kj_sub (L' := [(0, knO G 119), (1, knO G a1), (2, knV 0)]) [1, 2, 0] rfl ?_
  refine kfX2_separate_l2_ok X K hr hlk a1 ha1  ?_ knF _ (show knC (0) from ⟨by omega, by omega⟩) _ hf
  intro w7_m
  intro hf
  refine kj_aloadn X 0 dX2_separate_25 rfl ?_
  refine kj_geti (k := 3) (ki := 3) X K rfl ha1 (by decide) (knEnt_3 ha1) rfl (by decide) knInX5 (knGm 179 (by decide +kernel) rfl) rfl rfl dX2_separate_26 (fun h19 => ?_)
  have j24 : ∀ (t24_0 : Int) (ht24_0 : knC t24_0), (fun q24 =>
   some (q24, w7_m)) t24_0 = some q → knJ G p l e { frames := 1, cells := 0, slots := 0, locals := 20 } s m args below meth c 3 0 0 (MQ below (knPo G (knC q.1) (some (knV q.1)) q.2) args s 0 0 (knA G)) 40 [] [knV t24_0] w7_m := by
    intro t24_0 ht24_0
    intro hf
    cases hf
    exact kj_iret X ht24_0 hr dX2_separate_40 hlk
  obtain ⟨b25, hb25, hf⟩ := knBd_inv hf
  refine kj_if_ne X (tgt := 36) dX2_separate_29 (by decide) h19 (fun h26 => ?_) (fun h26 => ?_)
  · replace hb25 := knIq hb25 h26
    refine kj_aloadn X 0 dX2_separate_36 rfl ?_
    obtain ⟨q27, h28, hb25⟩ := knBd_inv hb25
    refine kj_callV (As := []) (rest := []) X K (kcX5_passes l ha1 h28) knWvX5_passes (knGm 742 (by decide +kernel) rfl) (by decide) (knKd_in ha1 (by decide)) (knEnt_3 ha1) rfl rfl rfl (Nat.le_of_ble_eq_true rfl) (by decide) dX2_separate_37 rfl (fun h29 => ?_)
    cases hb25
    refine kj_sub (L' := []) [] rfl ?_
    exact j24 _ h29 hf
  · replace hb25 := knIp hb25 h26
    refine kj_iconst X dX2_separate_32 ?_
    refine kj_goto X (tgt := 40) dX2_separate_33 (by decide) ?_
    cases hb25
    refine kj_sub (L' := []) [] rfl ?_
    exact j24 _ (show knC (1) from ⟨by omega, by omega⟩) hf

