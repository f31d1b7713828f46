def kfX12_isInSet (a0 : Int) (a1 : Int) (μ : knMem) : Option (Int) :=
 some (if (knAnd (knShr a1 a0) 1) = 1 then 1 else 0 : Int)

theorem knWkX12_isInSet : knWk yX12_isInSet cX12_isInSet 2 (some .boolean) 2 := ⟨(knGm 733 (by decide +kernel) rfl), (knGm 114 (by decide +kernel) rfl), (knGm 732 (by decide +kernel) rfl), by decide +kernel, by decide +kernel, by decide +kernel⟩
set_option maxHeartbeats 4000000 in
set_option maxRecDepth 100000 in
theorem kcX12_isInSet {G : knGT} (l : Launch) {a0 : Int} {a1 : Int} (ha0 : knC a0) (ha1 : knC a1) {μ : knMem} {q : Int} (hf : kfX12_isInSet a0 a1 μ = some q) : knC0 G l yX12_isInSet cX12_isInSet 2 (some .boolean) 0 0 [knV a0, knV a1] μ (knZ q) (some (knV q)) μ := by
  unfold kfX12_isInSet at hf
  refine kn_ofJ (plainFor_of_name (by decide)) (Nat.le_of_ble_eq_true rfl) (L := [(0, knV a0), (1, knV a1)]) rfl ?_
  intro p e s m args below meth c X K hr hlk
  refine kj_iloadn X 1 dX12_isInSet_0 rfl ?_
  refine kj_iloadn X 0 dX12_isInSet_1 rfl ?_
  refine kj_ishr X dX12_isInSet_2 ?_
  refine kj_iconst X dX12_isInSet_3 ?_
  refine kj_iand X dX12_isInSet_4 ?_
  refine kj_iconst X dX12_isInSet_5 ?_
  have j2 : ∀ (t2_0 : Int) (et2_0 : t2_0 = (if (knAnd (knShr a1 a0) 1) = 1 then 1 else 0 : Int)) (ht2_0 : knZ t2_0), knJ G p l e { frames := 0, cells := 0, slots := 0, locals := 0 } s m args below meth c 2 0 0 (MQ below (knPo G (knZ q) (some (knV q)) μ) args s 0 0 (knA G)) 14 [] [knV t2_0] μ := by
    intro t2_0 et2_0 ht2_0
    subst et2_0
    cases hf
    exact kj_zret X ht2_0 hr (kn_nb ht2_0) dX12_isInSet_14 hlk
  refine kj_ic_ne X (tgt := 13) dX12_isInSet_6 (by decide) (knC_and _ _) (show knC (1) from ⟨by omega, by omega⟩) (fun h4 => ?_) (fun h4 => ?_)
  · refine kj_iconst X dX12_isInSet_13 ?_
    refine kj_sub (L' := []) [] rfl ?_
    exact j2 0 (by rw [if_neg h4]) (Or.inl rfl)
  · refine kj_iconst X dX12_isInSet_9 ?_
    refine kj_goto X (tgt := 14) dX12_isInSet_10 (by decide) ?_
    refine kj_sub (L' := []) [] rfl ?_
    exact j2 1 (by rw [if_pos h4]) (Or.inr rfl)

def kfX2_join_l20  (x2 : Int) (x3 : Int) (x4 : Int)  (kc : (knMem) → Option (Int × knMem)) : Nat → Int → knMem → Option (Int × knMem)
  | 0, _, _ => none
  | n + 1, x5, μ =>
    if (knLn x2) ≤ x5 then
     kc μ
    else
     knGd (0 ≤ x5 ∧ x5 < (knLn x2))
      (Option.bind (α := knMem)
      (if (μ x2 x5) = x4 then
       some (knUp μ x2 x5 x3)
      else
       some μ)
      (fun q10 =>
      kfX2_join_l20  x2 x3 x4 kc n (knW (x5 + 1)) q10))

def kfX2_join (a0 : Int) (a1 : Int) (a2 : Int) (μ : knMem) : Option (Int × knMem) :=
 knGd (0 ≤ a0 ∧ a0 < (knLn a2))
  (knGd (0 ≤ a1 ∧ a1 < (knLn a2))
  (if (μ a2 a0) = (μ a2 a1) then
  some (0, μ)
 else
  kfX2_join_l20 a2 (μ a2 a0) (μ a2 a1)  (fun w13 =>
   some (1, w13)) knF 0 μ))

theorem knWkX2_join : knWk yX2_join cX2_join 6 (some .int) 3 := ⟨(knGm 752 (by decide +kernel) rfl), (knGm 120 (by decide +kernel) rfl), (knGm 751 (by decide +kernel) rfl), by decide +kernel, by decide +kernel, by decide +kernel⟩
set_option maxHeartbeats 4000000 in
set_option maxRecDepth 100000 in
theorem kfX2_join_l20_ok {q : Int × knMem} {kc : (knMem) → Option (Int × knMem)} {G : knGT} {p : Program} {l : Launch} {e : Env} {s : State} {m : MethodId} {args : Array Value} {below : List Frame} {meth : Method} {c : Code} (X : knX p m c cX2_join 6 s args yX2_join.cls) (K : knK G s s.heap) (hr : meth.sig.returnType = (some .int)) (hlk : meth.locks = false) (x2 : Int) (x3 : Int) (x4 : Int) (hx2 : knKd x2 = 20) (hx3 : knC x3) (hx4 : knC x4)  (hk : ∀ (μ1 : knMem), kc μ1 = some q → knJ G p l e { frames := 0, cells := 0, slots := 0, locals := 0 } s m args below meth c 6 0 0 (MQ below (knPo G (knC q.1) (some (knV q.1)) q.2) args s 0 0 (knA G)) 47 [] [] μ1) : ∀ (n : Nat) (x5 : Int) (hx5 : knC x5) (μ : knMem), kfX2_join_l20  x2 x3 x4 kc n x5 μ = some q → knJ G p l e { frames := 0, cells := 0, slots := 0, locals := 0 } s m args below meth c 6 0 0 (MQ below (knPo G (knC q.1) (some (knV q.1)) q.2) args s 0 0 (knA G)) 20 [(2, knO G x2), (3, knV x3), (4, knV x4), (5, knV x5)] [] μ := by
  intro n
  induction n with
  | zero => intro x5 hx5 μ hf; cases hf
  | succ n ih =>
    intro x5 hx5 μ hf
    unfold kfX2_join_l20 at hf
    refine kj_iload X 3 dX2_join_20 rfl ?_
    refine kj_aloadn X 0 dX2_join_22 rfl ?_
    refine kj_alen20 X K hx2 dX2_join_23 ?_
    refine kj_ic_ge X (tgt := 47) dX2_join_24 (by decide) hx5 (knC_ln _) (fun h6 => ?_) (fun h6 => ?_)
    · replace hf := knIp hf h6
      refine kj_sub (L' := []) [] rfl ?_
      exact hk _ hf
    · replace hf := knIq hf h6
      refine kj_aloadn X 0 dX2_join_27 rfl ?_
      refine kj_iload X 3 dX2_join_28 rfl ?_
      obtain ⟨h7, hf⟩ := knGd_inv hf
      refine kj_iald X K hx2 hx5 rfl h7 dX2_join_30 (fun h8 => ?_)
      refine kj_iload X 2 dX2_join_31 rfl ?_
      have j10 : ∀ (m10 : knMem), (fun q10 =>
       kfX2_join_l20  x2 x3 x4 kc n (knW (x5 + 1)) q10) m10 = some q → knJ G p l e { frames := 0, cells := 0, slots := 0, locals := 0 } s m args below meth c 6 0 0 (MQ below (knPo G (knC q.1) (some (knV q.1)) q.2) args s 0 0 (knA G)) 41 [(2, knO G x2), (3, knV x3), (4, knV x4), (5, knV x5)] [] m10 := by
        intro m10
        intro hf
        refine kj_iinc X 3 (L' := [(5, knV (knW (x5 + 1))), (2, knO G x2), (3, knV x3), (4, knV x4)]) dX2_join_41 rfl (by decide) rfl ?_
        refine kj_goto X (tgt := 20) dX2_join_44 (by decide) ?_
        refine kj_sub (L' := [(2, knO G x2), (3, knV x3), (4, knV x4), (5, knV (knW (x5 + 1)))]) [1, 2, 3, 0] rfl ?_
        exact ih _ (knCw _) _ hf
      obtain ⟨b11, hb11, hf⟩ := knBd_inv hf
      refine kj_ic_ne X (tgt := 41) dX2_join_33 (by decide) h8 hx4 (fun h12 => ?_) (fun h12 => ?_)
      · replace hb11 := knIq hb11 h12
        cases hb11
        refine kj_sub (L' := [(2, knO G x2), (3, knV x3), (4, knV x4), (5, knV x5)]) [0, 1, 2, 3] rfl ?_
        exact j10 _ hf
      · replace hb11 := knIp hb11 h12
        refine kj_aloadn X 0 dX2_join_36 rfl ?_
        refine kj_iload X 3 dX2_join_37 rfl ?_
        refine kj_iloadn X 1 dX2_join_39 rfl ?_
        refine kj_iast X K hx2 hx5 hx3 rfl h7 dX2_join_40 ?_
        cases hb11
        refine kj_sub (L' := [(2, knO G x2), (3, knV x3), (4, knV x4), (5, knV x5)]) [0, 1, 2, 3] rfl ?_
        exact j10 _ hf

set_option maxHeartbeats 4000000 in
set_option maxRecDepth 100000 in
theorem kcX2_join {G : knGT} (l : Launch) {a0 : Int} {a1 : Int} {a2 : Int} (ha0 : knC a0) (ha1 : knC a1) (ha2 : knKd a2 = 20) {μ : knMem} {q : Int × knMem} (hf : kfX2_join a0 a1 a2 μ = some q) : knC0 G l yX2_join cX2_join 6 (some .int) 0 0 [knV a0, knV a1, knO G a2] μ (knC q.1) (some (knV q.1)) q.2 := by
  unfold kfX2_join at hf
  refine kn_ofJ (plainFor_of_name (by decide)) (Nat.le_of_ble_eq_true rfl) (L := [(0, knV a0), (1, knV a1), (2, knO G a2)]) rfl ?_
  intro p e s m args below meth c X K hr hlk
  refine kj_aloadn X 2 dX2_join_0 rfl ?_
  refine kj_iloadn X 0 dX2_join_1 rfl ?_
  obtain ⟨h1, hf⟩ := knGd_inv hf
  refine kj_iald X K ha2 ha0 rfl h1 dX2_join_2 (fun h2 => ?_)
  refine kj_istoren X (L' := [(3, knV (μ a2 a0)), (0, knV a0), (1, knV a1), (2, knO G a2)]) dX2_join_3 (by decide) rfl ?_
  refine kj_aloadn X 3 dX2_join_4 rfl ?_
  refine kj_iloadn X 2 dX2_join_5 rfl ?_
  obtain ⟨h3, hf⟩ := knGd_inv hf
  refine kj_iald X K ha2 ha1 rfl h3 dX2_join_6 (fun h4 => ?_)
  refine kj_istore X (L' := [(4, knV (μ a2 a1)), (3, knV (μ a2 a0)), (0, knV a0), (1, knV a1), (2, knO G a2)]) dX2_join_7 (by decide) rfl ?_
  refine kj_iloadn X 1 dX2_join_9 rfl ?_
  refine kj_iload X 0 dX2_join_10 rfl ?_
  refine kj_ic_ne X (tgt := 17) dX2_join_12 (by decide) h2 h4 (fun h5 => ?_) (fun h5 => ?_)
  · replace hf := knIq hf h5
    refine kj_iconst X dX2_join_17 ?_
    refine kj_istore X (L' := [(5, knV 0), (4, knV (μ a2 a1)), (3, knV (μ a2 a0)), (0, knV a0), (1, knV a1), (2, knO G a2)]) dX2_join_18 (by decide) rfl ?_
    refine kj_sub (L' := [(2, knO G a2), (3, knV (μ a2 a0)), (4, knV (μ a2 a1)), (5, knV 0)]) [5, 2, 1, 0] rfl ?_
    refine kfX2_join_l20_ok X K hr hlk a2 (μ a2 a0) (μ a2 a1) ha2 h2 h4  ?_ knF _ (show knC (0) from ⟨by omega, by omega⟩) _ hf
    intro w13_m
    intro hf
    refine kj_iconst X dX2_join_47 ?_
    cases hf
    exact kj_iret X (show knC (1) from ⟨by omega, by omega⟩) hr dX2_join_48 hlk
  · replace hf := knIp hf h5
    refine kj_iconst X dX2_join_15 ?_
    cases hf
    exact kj_iret X (show knC (0) from ⟨by omega, by omega⟩) hr dX2_join_16 hlk

def kfX2_smooth (a0 : Int) (a1 : Int) (a2 : Int) (a3 : Int) (μ : knMem) : Option (Int × knMem) :=
 knGd (0 ≤ a1 ∧ a1 < 7)
  (Option.bind (kfX5_before a0 (μ (a0 + 1) a1) μ) (fun q4 =>
  Option.bind (kfX5_before a0 (μ (a0 + 2) a1) μ) (fun q7 =>
   if a2 = 0 then
    Option.bind (kfX2_join q4 q7 a3 μ) (fun q11 =>
     Option.bind (kfX2_join (μ (a0 + 1) a1) (μ (a0 + 2) a1) a3 q11.2) (fun q14 =>
      some ((knW (q11.1 + q14.1)), q14.2)))
   else
    Option.bind (kfX2_join q4 (μ (a0 + 2) a1) a3 μ) (fun q17 =>
     Option.bind (kfX2_join q7 (μ (a0 + 1) a1) a3 q17.2) (fun q20 =>
      some ((knW (q17.1 + q20.1)), q20.2))))))

theorem knWkX2_smooth : knWk yX2_smooth cX2_smooth 8 (some .int) 4 := ⟨(knGm 748 (by decide +kernel) rfl), (knGm 120 (by decide +kernel) rfl), (knGm 747 (by decide +kernel) rfl), by decide +kernel, by decide +kernel, by decide +kernel⟩
set_option maxHeartbeats 4000000 in
set_option maxRecDepth 100000 in
theorem kcX2_smooth {G : knGT} (l : Launch) {a0 : Int} {a1 : Int} {a2 : Int} {a3 : Int} (ha0 : knKd a0 = 3) (ha1 : knC a1) (ha2 : knZ a2) (ha3 : knKd a3 = 20) {μ : knMem} {q : Int × knMem} (hf : kfX2_smooth a0 a1 a2 a3 μ = some q) : knC0 G l yX2_smooth cX2_smooth 8 (some .int) 1 25 [knO G a0, knV a1, knV a2, knO G a3] μ (knC q.1) (some (knV q.1)) q.2 := by
  unfold kfX2_smooth at hf
  refine kn_ofJ (plainFor_of_name (by decide)) (Nat.le_of_ble_eq_true rfl) (L := [(0, knO G a0), (1, knV a1), (2, knV a2), (3, knO G a3)]) rfl ?_
  intro p e s m args below meth c X K hr hlk
  refine kj_aloadn X 0 dX2_smooth_0 rfl ?_
  refine kj_geto (k := 0) (o2 := (a0 + 1)) X K ha0 (by decide) (knEnt_3 ha0) rfl (by decide) knInX5 (knGm 168 (by decide +kernel) rfl) rfl rfl dX2_smooth_1 ?_
  refine kj_iloadn X 1 dX2_smooth_4 rfl ?_
  obtain ⟨h1, hf⟩ := knGd_inv hf
  refine kj_iald X K (knD3 ha0).1.1 ha1 (knD3 ha0).2.1 h1 dX2_smooth_5 (fun h2 => ?_)
  refine kj_istore X (L' := [(4, knV (μ (a0 + 1) a1)), (0, knO G a0), (1, knV a1), (2, knV a2), (3, knO G a3)]) dX2_smooth_6 (by decide) rfl ?_
  refine kj_aloadn X 1 dX2_smooth_8 rfl ?_
  refine kj_geto (k := 1) (o2 := (a0 + 2)) X K ha0 (by decide) (knEnt_3 ha0) rfl (by decide) knInX5 (knGm 172 (by decide +kernel) rfl) rfl rfl dX2_smooth_9 ?_
  refine kj_iloadn X 2 dX2_smooth_12 rfl ?_
  refine kj_iald X K (knD3 ha0).1.2.1 ha1 (knD3 ha0).2.2.1 h1 dX2_smooth_13 (fun h3 => ?_)
  refine kj_istore X (L' := [(5, knV (μ (a0 + 2) a1)), (4, knV (μ (a0 + 1) a1)), (0, knO G a0), (1, knV a1), (2, knV a2), (3, knO G a3)]) dX2_smooth_14 (by decide) rfl ?_
  refine kj_aloadn X 2 dX2_smooth_16 rfl ?_
  refine kj_iload X 1 dX2_smooth_17 rfl ?_
  obtain ⟨q4, h5, hf⟩ := knBd_inv hf
  refine kj_callV (As := [knV (μ (a0 + 1) a1)]) (rest := []) X K (kcX5_before l ha0 h2 h5) knWvX5_before (knGm 749 (by decide +kernel) rfl) (by decide) (knKd_in ha0 (by decide)) (knEnt_3 ha0) rfl rfl rfl (Nat.le_of_ble_eq_true rfl) (by decide) dX2_smooth_19 rfl (fun h6 => ?_)
  refine kj_istore X (L' := [(6, knV q4), (5, knV (μ (a0 + 2) a1)), (4, knV (μ (a0 + 1) a1)), (0, knO G a0), (1, knV a1), (2, knV a2), (3, knO G a3)]) dX2_smooth_22 (by decide) rfl ?_
  refine kj_aloadn X 3 dX2_smooth_24 rfl ?_
  refine kj_iload X 1 dX2_smooth_25 rfl ?_
  obtain ⟨q7, h8, hf⟩ := knBd_inv hf
  refine kj_callV (As := [knV (μ (a0 + 2) a1)]) (rest := []) X K (kcX5_before l ha0 h3 h8) knWvX5_before (knGm 749 (by decide +kernel) rfl) (by decide) (knKd_in ha0 (by decide)) (knEnt_3 ha0) rfl rfl rfl (Nat.le_of_ble_eq_true rfl) (by decide) dX2_smooth_27 rfl (fun h9 => ?_)
  refine kj_istore X (L' := [(7, knV q7), (6, knV q4), (5, knV (μ (a0 + 2) a1)), (4, knV (μ (a0 + 1) a1)), (0, knO G a0), (1, knV a1), (2, knV a2), (3, knO G a3)]) dX2_smooth_30 (by decide) rfl ?_
  refine kj_iloadn X 6 dX2_smooth_32 rfl ?_
  refine kj_if_eq X (tgt := 54) dX2_smooth_33 (by decide) (knZ_c ha2) (fun h10 => ?_) (fun h10 => ?_)
  · replace hf := knIp hf h10
    refine kj_iload X 1 dX2_smooth_54 rfl ?_
    refine kj_iload X 0 dX2_smooth_56 rfl ?_
    refine kj_aloadn X 7 dX2_smooth_58 rfl ?_
    obtain ⟨q11, h12, hf⟩ := knBd_inv hf
    refine kj_callS (As := [knV q4, knV q7, knO G a3]) (rest := []) X K (kcX2_join l h6 h9 ha3 h12) knWkX2_join (knGm 750 (by decide +kernel) rfl) (by decide)  rfl (Nat.le_of_ble_eq_true rfl) (by decide) dX2_smooth_59 rfl (fun h13 => ?_)
    refine kj_iload X 3 dX2_smooth_62 rfl ?_
    refine kj_iload X 2 dX2_smooth_64 rfl ?_
    refine kj_aloadn X 7 dX2_smooth_66 rfl ?_
    obtain ⟨q14, h15, hf⟩ := knBd_inv hf
    refine kj_callS (As := [knV (μ (a0 + 1) a1), knV (μ (a0 + 2) a1), knO G a3]) (rest := [knV q11.1]) X K (kcX2_join l h2 h3 ha3 h15) knWkX2_join (knGm 750 (by decide +kernel) rfl) (by decide)  rfl (Nat.le_of_ble_eq_true rfl) (by decide) dX2_smooth_67 rfl (fun h16 => ?_)
    refine kj_iadd X dX2_smooth_70 ?_
    cases hf
    exact kj_iret X (knCw _) hr dX2_smooth_71 hlk
  · replace hf := knIq hf h10
    refine kj_iload X 1 dX2_smooth_36 rfl ?_
    refine kj_iload X 2 dX2_smooth_38 rfl ?_
    refine kj_aloadn X 7 dX2_smooth_40 rfl ?_
    obtain ⟨q17, h18, hf⟩ := knBd_inv hf
    refine kj_callS (As := [knV q4, knV (μ (a0 + 2) a1), knO G a3]) (rest := []) X K (kcX2_join l h6 h3 ha3 h18) knWkX2_join (knGm 750 (by decide +kernel) rfl) (by decide)  rfl (Nat.le_of_ble_eq_true rfl) (by decide) dX2_smooth_41 rfl (fun h19 => ?_)
    refine kj_iload X 0 dX2_smooth_44 rfl ?_
    refine kj_iload X 3 dX2_smooth_46 rfl ?_
    refine kj_aloadn X 7 dX2_smooth_48 rfl ?_
    obtain ⟨q20, h21, hf⟩ := knBd_inv hf
    refine kj_callS (As := [knV q7, knV (μ (a0 + 1) a1), knO G a3]) (rest := [knV q17.1]) X K (kcX2_join l h9 h2 ha3 h21) knWkX2_join (knGm 750 (by decide +kernel) rfl) (by decide)  rfl (Nat.le_of_ble_eq_true rfl) (by decide) dX2_smooth_49 rfl (fun h22 => ?_)
    refine kj_iadd X dX2_smooth_52 ?_
    cases hf
    exact kj_iret X (knCw _) hr dX2_smooth_53 hlk

def kfX2_loopsOf_l9  (x1 : Int) (x2 : Int)  (kc : (Int × knMem) → Option (Int × knMem)) : Nat → Int → Int → knMem → Option (Int × knMem)
  | 0, _, _, _ => none
  | n + 1, x3, x4, μ =>
    if (μ x1 3) ≤ x4 then
     kc (x3, μ)
    else
     Option.bind (kfX12_isInSet x4 x2 μ) (fun q6 =>
      knGd ((0 : Int) ≤ 0 ∧ (0 : Int) < 8)
       (Option.bind (kfX2_smooth x1 x4 q6 (124 + 0) μ) (fun q10 =>
       kfX2_loopsOf_l9  x1 x2 kc n (knW (x3 - q10.1)) (knW (x4 + 1)) q10.2)))

def kfX2_loopsOf (a1 : Int) (a2 : Int) (μ : knMem) : Option (Int × knMem) :=
 Option.bind (kfX2_separate a1 μ) (fun q1 =>
  kfX2_loopsOf_l9 a1 a2  (fun w13 =>
   some (w13.1, w13.2)) knF q1.1 0 q1.2)

theorem knWvX2_loopsOf : knWv yX2_loopsOf cX2_loopsOf 5 (some .int) 2 := ⟨(knGm 737 (by decide +kernel) rfl), (knGm 120 (by decide +kernel) rfl), (knGm 735 (by decide +kernel) rfl), (knGm 736 (by decide +kernel) rfl), by decide +kernel, by decide +kernel, by decide +kernel⟩
set_option maxHeartbeats 4000000 in
set_option maxRecDepth 100000 in
theorem kfX2_loopsOf_l9_ok {q : Int × knMem} {kc : (Int × knMem) → Option (Int × knMem)} {G : knGT} {p : Program} {l : Launch} {e : Env} {s : State} {m : MethodId} {args : Array Value} {below : List Frame} {meth : Method} {c : Code} (X : knX p m c cX2_loopsOf 5 s args yX2_loopsOf.cls) (K : knK G s s.heap) (hr : meth.sig.returnType = (some .int)) (hlk : meth.locks = false) (x1 : Int) (x2 : Int) (hx1 : knKd x1 = 3) (hx2 : knC x2)  (hk : ∀ (y3 : Int) (hy3 : knC y3) (μ1 : knMem), kc (y3, μ1) = some q → knJ G p l e { frames := 2, cells := 0, slots := 0, locals := 52 } s m args below meth c 5 0 0 (MQ below (knPo G (knC q.1) (some (knV q.1)) q.2) args s 0 0 (knA G)) 45 [(3, knV y3)] [] μ1) : ∀ (n : Nat) (x3 : Int) (hx3 : knC x3) (x4 : Int) (hx4 : knC x4) (μ : knMem), kfX2_loopsOf_l9  x1 x2 kc n x3 x4 μ = some q → knJ G p l e { frames := 2, cells := 0, slots := 0, locals := 52 } s m args below meth c 5 0 0 (MQ below (knPo G (knC q.1) (some (knV q.1)) q.2) args s 0 0 (knA G)) 9 [(0, knO G 119), (1, knO G x1), (2, knV x2), (3, knV x3), (4, knV x4)] [] μ := by
  intro n
  induction n with
  | zero => intro x3 hx3 x4 hx4 μ hf; cases hf
  | succ n ih =>
    intro x3 hx3 x4 hx4 μ hf
    unfold kfX2_loopsOf_l9 at hf
    refine kj_iload X 4 dX2_loopsOf_9 rfl ?_
    refine kj_aloadn X 1 dX2_loopsOf_11 rfl ?_
    refine kj_geti (k := 3) (ki := 3) X K rfl hx1 (by decide) (knEnt_3 hx1) rfl (by decide) knInX5 (knGm 179 (by decide +kernel) rfl) rfl rfl dX2_loopsOf_12 (fun h4 => ?_)
    refine kj_ic_ge X (tgt := 45) dX2_loopsOf_15 (by decide) hx4 h4 (fun h5 => ?_) (fun h5 => ?_)
    · replace hf := knIp hf h5
      refine kj_sub (L' := [(3, knV x3)]) [3] rfl ?_
      exact hk _ hx3 _ hf
    · replace hf := knIq hf h5
      refine kj_iloadn X 3 dX2_loopsOf_18 rfl ?_
      refine kj_aloadn X 1 dX2_loopsOf_19 rfl ?_
      refine kj_iload X 4 dX2_loopsOf_20 rfl ?_
      refine kj_iload X 4 dX2_loopsOf_22 rfl ?_
      refine kj_iloadn X 2 dX2_loopsOf_24 rfl ?_
      obtain ⟨q6, h7, hf⟩ := knBd_inv hf
      refine kj_callSN (host := "KnotLaboratory") (As := [knV x4, knV x2]) (rest := [knV x4, knO G x1, knV x3]) X K (kcX12_isInSet l hx4 hx2 h7) knWkX12_isInSet (knBm 731 (by decide +kernel) rfl) (by decide)  rfl (Nat.le_of_ble_eq_true rfl) (by decide) dX2_loopsOf_25 rfl (fun h8 => ?_)
      refine kj_aloadn X 0 dX2_loopsOf_28 rfl ?_
      refine kj_geto (k := 3) (o2 := 123) X K kdc_119 (by decide) (knEnt_1 kdc_119) rfl (by decide) knInX2 (knGm 291 (by decide +kernel) rfl) rfl rfl dX2_loopsOf_29 ?_
      refine kj_iconst X dX2_loopsOf_32 ?_
      obtain ⟨h9, hf⟩ := knGd_inv hf
      refine kj_ald24 X K kdc_123 (show knC (0) from ⟨by omega, by omega⟩) lnc_123 h9 dX2_loopsOf_33 ?_
      obtain ⟨q10, h11, hf⟩ := knBd_inv hf
      refine kj_callS (As := [knO G x1, knV x4, knV q6, knO G (124 + 0)]) (rest := [knV x3]) X K (kcX2_smooth l hx1 hx4 h8 (knJoined h9).1 h11) knWkX2_smooth (knGm 746 (by decide +kernel) rfl) (by decide)  rfl (Nat.le_of_ble_eq_true rfl) (by decide) dX2_loopsOf_34 rfl (fun h12 => ?_)
      refine kj_isub X dX2_loopsOf_37 ?_
      refine kj_istoren X (L' := [(3, knV (knW (x3 - q10.1))), (0, knO G 119), (1, knO G x1), (2, knV x2), (4, knV x4)]) dX2_loopsOf_38 (by decide) rfl ?_
      refine kj_iinc X 4 (L' := [(4, knV (knW (x4 + 1))), (3, knV (knW (x3 - q10.1))), (0, knO G 119), (1, knO G x1), (2, knV x2)]) dX2_loopsOf_39 rfl (by decide) rfl ?_
      refine kj_goto X (tgt := 9) dX2_loopsOf_42 (by decide) ?_
      refine kj_sub (L' := [(0, knO G 119), (1, knO G x1), (2, knV x2), (3, knV (knW (x3 - q10.1))), (4, knV (knW (x4 + 1)))]) [2, 3, 4, 1, 0] rfl ?_
      exact ih _ (knCw _) _ (knCw _) _ hf

set_option maxHeartbeats 4000000 in
set_option maxRecDepth 100000 in
theorem kcX2_loopsOf {G : knGT} (l : Launch) {a1 : Int} {a2 : Int} (ha1 : knKd a1 = 3) (ha2 : knC a2) {μ : knMem} {q : Int × knMem} (hf : kfX2_loopsOf a1 a2 μ = some q) : knC0 G l yX2_loopsOf cX2_loopsOf 5 (some .int) 2 52 [knO G 119, knO G a1, knV a2] μ (knC q.1) (some (knV q.1)) q.2 := by
  unfold kfX2_loopsOf at hf
  refine kn_ofJ (plainFor_of_name (by decide)) (Nat.le_of_ble_eq_true rfl) (L := [(0, knO G 119), (1, knO G a1), (2, knV a2)]) rfl ?_
  intro p e s m args below meth c X K hr hlk
  refine kj_aloadn X 0 dX2_loopsOf_0 rfl ?_
  refine kj_aloadn X 1 dX2_loopsOf_1 rfl ?_
  obtain ⟨q1, h2, hf⟩ := knBd_inv hf
  refine kj_callV (As := [knO G a1]) (rest := []) X K (kcX2_separate l ha1 h2) knWvX2_separate (knGm 738 (by decide +kernel) rfl) (by decide) (knKd_in kdc_119 (by decide)) (knEnt_1 kdc_119) rfl rfl rfl (Nat.le_of_ble_eq_true rfl) (by decide) dX2_loopsOf_2 rfl (fun h3 => ?_)
  refine kj_istoren X (L' := [(3, knV q1.1), (0, knO G 119), (1, knO G a1), (2, knV a2)]) dX2_loopsOf_5 (by decide) rfl ?_
  refine kj_iconst X dX2_loopsOf_6 ?_
  refine kj_istore X (L' := [(4, knV 0), (3, knV q1.1), (0, knO G 119), (1, knO G a1), (2, knV a2)]) dX2_loopsOf_7 (by decide) rfl ?_
  refine kj_sub (L' := [(0, knO G 119), (1, knO G a1), (2, knV a2), (3, knV q1.1), (4, knV 0)]) [2, 3, 4, 1, 0] rfl ?_
  refine kfX2_loopsOf_l9_ok X K hr hlk a1 a2 ha1 ha2  ?_ knF _ h3 _ (show knC (0) from ⟨by omega, by omega⟩) _ hf
  intro w13_0 hw13_0 w13_m
  intro hf
  refine kj_iloadn X 0 dX2_loopsOf_45 rfl ?_
  cases hf
  exact kj_iret X hw13_0 hr dX2_loopsOf_46 hlk

def kfX12_loops (a1 : Int) (μ : knMem) : Option (Int × Int × knMem) :=
 (fun (k9 : (Unit) → Option (Int × Int × knMem)) =>
  if a1 < 0 then
   k9 ()
  else
   Option.bind (kfX5_sets 2 μ) (fun q12 =>
    if a1 < q12 then
     Option.bind (kfX2_loopsOf 2 a1 μ) (fun q16 =>
      some (0, q16.1, q16.2))
    else
     k9 ()))
  (fun _ =>
  some (2, 0, μ))

theorem knWvX12_loops : knWv yX12_loops cX12_loops 2 (some .int) 1 := ⟨(knGm 1129 (by decide +kernel) rfl), (knGm 114 (by decide +kernel) rfl), (knGm 1127 (by decide +kernel) rfl), (knGm 1128 (by decide +kernel) rfl), by decide +kernel, by decide +kernel, by decide +kernel⟩
set_option maxHeartbeats 4000000 in
set_option maxRecDepth 100000 in
theorem kcX12_loops {G : knGT} (l : Launch) (hl : l.stackTraces = false) {a1 : Int} (ha1 : knC a1) {μ : knMem} {q : Int × Int × knMem} (hf : kfX12_loops a1 μ = some q) : knCx G l yX12_loops cX12_loops 2 (some .int) 6 100 1 6 [knO G 0, knV a1] μ (knC q.2.1) q.1 (some (knV q.2.1)) q.2.2 := by
  unfold kfX12_loops at hf
  refine kn_ofJx (by decide) (Nat.le_of_ble_eq_true rfl) (L := [(0, knO G 0), (1, knV a1)]) rfl ?_
  intro p e s m args below meth c X K hr hlk hnx
  refine kj_iloadn X 1 dX12_loops_0 rfl ?_
  have j9 : (fun _ =>
   some (2, 0, μ)) () = some q → knJ G p l e { frames := 6, cells := 1, slots := 6, locals := 100 } s m args below meth c 2 0 0 (vx_MQ below (knPx G (knC q.2.1) q.1 (some (knV q.2.1)) q.2.2) (knXC G q.1 q.2.2) args s 1 6 (knA G)) 15 [] [] μ := by
    intro hf
    cases hf
    exact kjx_throw X K hl (i := 9) (by show (2 : Int) ≠ 0; decide) rfl (by decide +kernel) (by decide) rfl rfl knTh2.1 knTh2.2 dX12_loops_15 dX12_loops_18 dX12_loops_19 dX12_loops_21 dX12_loops_24 hnx (by decide) hlk (by decide) (by decide)
  refine kj_if_lt X (tgt := 15) dX12_loops_1 (by decide) ha1 (fun h11 => ?_) (fun h11 => ?_)
  · replace hf := knIp hf h11
    refine kj_sub (L' := []) [] rfl ?_
    exact j9  hf
  · replace hf := knIq hf h11
    refine kj_iloadn X 1 dX12_loops_4 rfl ?_
    refine kj_aloadn X 0 dX12_loops_5 rfl ?_
    refine kj_geto (k := 1) (o2 := 2) X K kdc_0 (by decide) (knEnt_9 kdc_0) rfl (by decide) knInX12 (knGm 362 (by decide +kernel) rfl) rfl rfl dX12_loops_6 ?_
    obtain ⟨q12, h13, hf⟩ := knBd_inv hf
    refine kj_callV (As := []) (rest := [knV a1]) X K (kcX5_sets l kdc_2 h13) knWvX5_sets (knGm 1130 (by decide +kernel) rfl) (by decide) (knKd_in kdc_2 (by decide)) (knEnt_3 kdc_2) rfl rfl rfl (Nat.le_of_ble_eq_true rfl) (by decide) dX12_loops_9 rfl (fun h14 => ?_)
    refine kj_ic_lt X (tgt := 25) dX12_loops_12 (by decide) ha1 h14 (fun h15 => ?_) (fun h15 => ?_)
    · replace hf := knIp hf h15
      refine kj_aloadn X 0 dX12_loops_25 rfl ?_
      refine kj_geto (k := 7) (o2 := 119) X K kdc_0 (by decide) (knEnt_9 kdc_0) rfl (by decide) knInX12 (knGm 368 (by decide +kernel) rfl) rfl rfl dX12_loops_26 ?_
      refine kj_aloadn X 0 dX12_loops_29 rfl ?_
      refine kj_geto (k := 1) (o2 := 2) X K kdc_0 (by decide) (knEnt_9 kdc_0) rfl (by decide) knInX12 (knGm 362 (by decide +kernel) rfl) rfl rfl dX12_loops_30 ?_
      refine kj_iloadn X 1 dX12_loops_33 rfl ?_
      obtain ⟨q16, h17, hf⟩ := knBd_inv hf
      refine kj_callV (As := [knO G 2, knV a1]) (rest := []) X K (kcX2_loopsOf l kdc_2 ha1 h17) knWvX2_loopsOf (knGm 1132 (by decide +kernel) rfl) (by decide) (knKd_in kdc_119 (by decide)) (knEnt_1 kdc_119) rfl rfl rfl (Nat.le_of_ble_eq_true rfl) (by decide) dX12_loops_34 rfl (fun h18 => ?_)
      cases hf
      exact kjx_iret X h18 rfl (by decide) (by decide) hr dX12_loops_37 hlk
    · replace hf := knIq hf h15
      refine kj_sub (L' := []) [] rfl ?_
      exact j9  hf

def kfX12_requireExponent (a0 : Int) (μ : knMem) : Option (Int) :=
 (fun (k3 : (Unit) → Option (Int)) =>
  if a0 < -50 then
   k3 ()
  else
   if a0 ≤ 50 then
    some 0
   else
    k3 ())
  (fun _ =>
  some 2)

theorem knWkX12_requireExponent : knWk yX12_requireExponent cX12_requireExponent 1 none 1 := ⟨(knGm 1142 (by decide +kernel) rfl), (knGm 114 (by decide +kernel) rfl), (knGm 1141 (by decide +kernel) rfl), by decide +kernel, by decide +kernel, by decide +kernel⟩
set_option maxHeartbeats 4000000 in
set_option maxRecDepth 100000 in
theorem kcX12_requireExponent {G : knGT} (l : Launch) (hl : l.stackTraces = false) {a0 : Int} (ha0 : knC a0) {μ : knMem} {q : Int} (hf : kfX12_requireExponent a0 μ = some q) : knCx G l yX12_requireExponent cX12_requireExponent 1 none 6 100 1 6 [knV a0] μ True q none μ := by
  unfold kfX12_requireExponent at hf
  refine kn_ofJx (by decide) (Nat.le_of_ble_eq_true rfl) (L := [(0, knV a0)]) rfl ?_
  intro p e s m args below meth c X K hr hlk hnx
  refine kj_iloadn X 0 dX12_requireExponent_0 rfl ?_
  refine kj_bipush X (n := (-50)) dX12_requireExponent_1 rfl ?_
  have j3 : (fun _ =>
   some 2) () = some q → knJ G p l e { frames := 6, cells := 1, slots := 6, locals := 100 } s m args below meth c 1 0 0 (vx_MQ below (knPx G True q none μ) (knXC G q μ) args s 1 6 (knA G)) 12 [] [] μ := by
    intro hf
    cases hf
    exact kjx_throwW X K hl (i := 10) (by show (2 : Int) ≠ 0; decide) rfl (by decide +kernel) (by decide) rfl rfl knTh2.1 knTh2.2 dX12_requireExponent_12 dX12_requireExponent_15 dX12_requireExponent_16 dX12_requireExponent_19 dX12_requireExponent_22 hnx (by decide) hlk (by decide) (by decide)
  refine kj_ic_lt X (tgt := 12) dX12_requireExponent_3 (by decide) ha0 (show knC (-50) from ⟨by omega, by omega⟩) (fun h5 => ?_) (fun h5 => ?_)
  · replace hf := knIp hf h5
    refine kj_sub (L' := []) [] rfl ?_
    exact j3  hf
  · replace hf := knIq hf h5
    refine kj_iloadn X 0 dX12_requireExponent_6 rfl ?_
    refine kj_bipush X (n := 50) dX12_requireExponent_7 rfl ?_
    refine kj_ic_le X (tgt := 23) dX12_requireExponent_9 (by decide) ha0 (show knC (50) from ⟨by omega, by omega⟩) (fun h6 => ?_) (fun h6 => ?_)
    · replace hf := knIp hf h6
      cases hf
      exact kjx_vret X trivial rfl (by decide) (by decide) hr dX12_requireExponent_23 hlk
    · replace hf := knIq hf h6
      refine kj_sub (L' := []) [] rfl ?_
      exact j3  hf

def kfX2_addFactor_l15  (x0 : Int) (x1 : Int) (x2 : Int)  (kc : (knMem) → Option (knMem)) : Nat → Int → Int → knMem → Option (knMem)
  | 0, _, _, _ => none
  | n + 1, x3, x4, μ =>
    if x2 < x4 then
     kc μ
    else
     Option.bind (α := knMem)
      (if (knW ((knW ((knW (x1 + (knW (4 * x4)))) - (knW (2 * x2)))) + 50)) < 0 then
       some μ
      else
       if (knLn x0) ≤ (knW ((knW ((knW (x1 + (knW (4 * x4)))) - (knW (2 * x2)))) + 50)) then
        some μ
       else
        knGd (0 ≤ (knW ((knW ((knW (x1 + (knW (4 * x4)))) - (knW (2 * x2)))) + 50)) ∧ (knW ((knW ((knW (x1 + (knW (4 * x4)))) - (knW (2 * x2)))) + 50)) < (knLn x0))
         (some (knUp μ x0 (knW ((knW ((knW (x1 + (knW (4 * x4)))) - (knW (2 * x2)))) + 50)) (knW ((μ x0 (knW ((knW ((knW (x1 + (knW (4 * x4)))) - (knW (2 * x2)))) + 50))) + x3)))))
      (fun q9 =>
      knGd ((knW (x4 + 1)) ≠ 0)
       (kfX2_addFactor_l15  x0 x1 x2 kc n (knDiv (knW (x3 * (knW (x2 - x4)))) (knW (x4 + 1))) (knW (x4 + 1)) q9))

def kfX2_addFactor (a0 : Int) (a1 : Int) (a2 : Int) (μ : knMem) : Option (knMem) :=
 kfX2_addFactor_l15 a0 a1 a2  (fun w17 =>
  some w17) knF (if (knRem a2 2) = 0 then 1 else -1 : Int) 0 μ

theorem knWkX2_addFactor : knWk yX2_addFactor cX2_addFactor 6 none 3 := ⟨(knGm 755 (by decide +kernel) rfl), (knGm 120 (by decide +kernel) rfl), (knGm 754 (by decide +kernel) rfl), by decide +kernel, by decide +kernel, by decide +kernel⟩
set_option maxHeartbeats 4000000 in
set_option maxRecDepth 100000 in
theorem kfX2_addFactor_l15_ok {q : knMem} {kc : (knMem) → Option (knMem)} {G : knGT} {p : Program} {l : Launch} {e : Env} {s : State} {m : MethodId} {args : Array Value} {below : List Frame} {meth : Method} {c : Code} (X : knX p m c cX2_addFactor 6 s args yX2_addFactor.cls) (K : knK G s s.heap) (hr : meth.sig.returnType = none) (hlk : meth.locks = false) (x0 : Int) (x1 : Int) (x2 : Int) (hx0 : knKd x0 = 20) (hx1 : knC x1) (hx2 : knC x2)  (hk : ∀ (μ1 : knMem), kc μ1 = some q → knJ G p l e { frames := 0, cells := 0, slots := 0, locals := 0 } s m args below meth c 6 0 0 (MQ below (knPo G True none q) args s 0 0 (knA G)) 74 [] [] μ1) : ∀ (n : Nat) (x3 : Int) (hx3 : knC x3) (x4 : Int) (hx4 : knC x4) (μ : knMem), kfX2_addFactor_l15  x0 x1 x2 kc n x3 x4 μ = some q → knJ G p l e { frames := 0, cells := 0, slots := 0, locals := 0 } s m args below meth c 6 0 0 (MQ below (knPo G True none q) args s 0 0 (knA G)) 15 [(0, knO G x0), (1, knV x1), (2, knV x2), (3, knV x3), (4, knV x4)] [] μ := by
  intro n
  induction n with
  | zero => intro x3 hx3 x4 hx4 μ hf; cases hf
  | succ n ih =>
    intro x3 hx3 x4 hx4 μ hf
    unfold kfX2_addFactor_l15 at hf
    refine kj_iload X 4 dX2_addFactor_15 rfl ?_
    refine kj_iloadn X 2 dX2_addFactor_17 rfl ?_
    refine kj_ic_gt X (tgt := 74) dX2_addFactor_18 (by decide) hx4 hx2 (fun h4 => ?_) (fun h4 => ?_)
    · replace hf := knIp hf h4
      refine kj_sub (L' := []) [] rfl ?_
      exact hk _ hf
    · replace hf := knIq hf h4
      refine kj_iloadn X 1 dX2_addFactor_21 rfl ?_
      refine kj_iconst X dX2_addFactor_22 ?_
      refine kj_iload X 4 dX2_addFactor_23 rfl ?_
      refine kj_imul X dX2_addFactor_25 ?_
      refine kj_iadd X dX2_addFactor_26 ?_
      refine kj_iconst X dX2_addFactor_27 ?_
      refine kj_iloadn X 2 dX2_addFactor_28 rfl ?_
      refine kj_imul X dX2_addFactor_29 ?_
      refine kj_isub X dX2_addFactor_30 ?_
      refine kj_bipush X (n := 50) dX2_addFactor_31 rfl ?_
      refine kj_iadd X dX2_addFactor_33 ?_
      refine kj_istore X (L' := [(5, knV (knW ((knW ((knW (x1 + (knW (4 * x4)))) - (knW (2 * x2)))) + 50))), (0, knO G x0), (1, knV x1), (2, knV x2), (3, knV x3), (4, knV x4)]) dX2_addFactor_34 (by decide) rfl ?_
      refine kj_iload X 0 dX2_addFactor_36 rfl ?_
      have j9 : ∀ (m9 : knMem), (fun q9 =>
       knGd ((knW (x4 + 1)) ≠ 0)
        (kfX2_addFactor_l15  x0 x1 x2 kc n (knDiv (knW (x3 * (knW (x2 - x4)))) (knW (x4 + 1))) (knW (x4 + 1)) q9)) m9 = some q → knJ G p l e { frames := 0, cells := 0, slots := 0, locals := 0 } s m args below meth c 6 0 0 (MQ below (knPo G True none q) args s 0 0 (knA G)) 56 [(0, knO G x0), (1, knV x1), (2, knV x2), (3, knV x3), (4, knV x4)] [] m9 := by
        intro m9
        intro hf
        refine kj_iloadn X 3 dX2_addFactor_56 rfl ?_
        refine kj_iloadn X 2 dX2_addFactor_57 rfl ?_
        refine kj_iload X 4 dX2_addFactor_58 rfl ?_
        refine kj_isub X dX2_addFactor_60 ?_
        refine kj_imul X dX2_addFactor_61 ?_
        refine kj_iload X 4 dX2_addFactor_62 rfl ?_
        refine kj_iconst X dX2_addFactor_64 ?_
        refine kj_iadd X dX2_addFactor_65 ?_
        obtain ⟨h11, hf⟩ := knGd_inv hf
        refine kj_idiv X dX2_addFactor_66 (knCw _) h11 ?_
        refine kj_istoren X (L' := [(3, knV (knDiv (knW (x3 * (knW (x2 - x4)))) (knW (x4 + 1)))), (0, knO G x0), (1, knV x1), (2, knV x2), (4, knV x4)]) dX2_addFactor_67 (by decide) rfl ?_
        refine kj_iinc X 4 (L' := [(4, knV (knW (x4 + 1))), (3, knV (knDiv (knW (x3 * (knW (x2 - x4)))) (knW (x4 + 1)))), (0, knO G x0), (1, knV x1), (2, knV x2)]) dX2_addFactor_68 rfl (by decide) rfl ?_
        refine kj_goto X (tgt := 15) dX2_addFactor_71 (by decide) ?_
        refine kj_sub (L' := [(0, knO G x0), (1, knV x1), (2, knV x2), (3, knV (knDiv (knW (x3 * (knW (x2 - x4)))) (knW (x4 + 1)))), (4, knV (knW (x4 + 1)))]) [2, 3, 4, 1, 0] rfl ?_
        exact ih _ (knC_div _ _) _ (knCw _) _ hf
      obtain ⟨b12, hb12, hf⟩ := knBd_inv hf
      refine kj_if_lt X (tgt := 56) dX2_addFactor_38 (by decide) (knCw _) (fun h13 => ?_) (fun h13 => ?_)
      · replace hb12 := knIp hb12 h13
        cases hb12
        refine kj_sub (L' := [(0, knO G x0), (1, knV x1), (2, knV x2), (3, knV x3), (4, knV x4)]) [1, 2, 3, 4, 5] rfl ?_
        exact j9 _ hf
      · replace hb12 := knIq hb12 h13
        refine kj_iload X 0 dX2_addFactor_41 rfl ?_
        refine kj_aloadn X 1 dX2_addFactor_43 rfl ?_
        refine kj_alen20 X K hx0 dX2_addFactor_44 ?_
        refine kj_ic_ge X (tgt := 56) dX2_addFactor_45 (by decide) (knCw _) (knC_ln _) (fun h14 => ?_) (fun h14 => ?_)
        · replace hb12 := knIp hb12 h14
          cases hb12
          refine kj_sub (L' := [(0, knO G x0), (1, knV x1), (2, knV x2), (3, knV x3), (4, knV x4)]) [1, 2, 3, 4, 5] rfl ?_
          exact j9 _ hf
        · replace hb12 := knIq hb12 h14
          refine kj_aloadn X 1 dX2_addFactor_48 rfl ?_
          refine kj_iload X 0 dX2_addFactor_49 rfl ?_
          refine kj_dup2 X dX2_addFactor_51 rfl rfl ?_
          obtain ⟨h15, hb12⟩ := knGd_inv hb12
          refine kj_iald X K hx0 (knCw _) rfl h15 dX2_addFactor_52 (fun h16 => ?_)
          refine kj_iloadn X 4 dX2_addFactor_53 rfl ?_
          refine kj_iadd X dX2_addFactor_54 ?_
          refine kj_iast X K hx0 (knCw _) (knCw _) rfl h15 dX2_addFactor_55 ?_
          cases hb12
          refine kj_sub (L' := [(0, knO G x0), (1, knV x1), (2, knV x2), (3, knV x3), (4, knV x4)]) [1, 2, 3, 4, 5] rfl ?_
          exact j9 _ hf

set_option maxHeartbeats 4000000 in
set_option maxRecDepth 100000 in
theorem kcX2_addFactor {G : knGT} (l : Launch) {a0 : Int} {a1 : Int} {a2 : Int} (ha0 : knKd a0 = 20) (ha1 : knC a1) (ha2 : knC a2) {μ : knMem} {q : knMem} (hf : kfX2_addFactor a0 a1 a2 μ = some q) : knC0 G l yX2_addFactor cX2_addFactor 6 none 0 0 [knO G a0, knV a1, knV a2] μ True none q := by
  unfold kfX2_addFactor at hf
  refine kn_ofJ (plainFor_of_name (by decide)) (Nat.le_of_ble_eq_true rfl) (L := [(0, knO G a0), (1, knV a1), (2, knV a2)]) rfl ?_
  intro p e s m args below meth c X K hr hlk
  refine kj_iloadn X 2 dX2_addFactor_0 rfl ?_
  refine kj_iconst X dX2_addFactor_1 ?_
  refine kj_irem X dX2_addFactor_2 (show knC (2) from ⟨by omega, by omega⟩) (by decide) ?_
  have j2 : ∀ (t2_0 : Int) (et2_0 : t2_0 = (if (knRem a2 2) = 0 then 1 else -1 : Int)) (ht2_0 : knC t2_0), knJ G p l e { frames := 0, cells := 0, slots := 0, locals := 0 } s m args below meth c 6 0 0 (MQ below (knPo G True none q) args s 0 0 (knA G)) 11 [(0, knO G a0), (1, knV a1), (2, knV a2)] [knV t2_0] μ := by
    intro t2_0 et2_0 ht2_0
    subst et2_0
    refine kj_istoren X (L' := [(3, knV (if (knRem a2 2) = 0 then 1 else -1 : Int)), (0, knO G a0), (1, knV a1), (2, knV a2)]) dX2_addFactor_11 (by decide) rfl ?_
    refine kj_iconst X dX2_addFactor_12 ?_
    refine kj_istore X (L' := [(4, knV 0), (3, knV (if (knRem a2 2) = 0 then 1 else -1 : Int)), (0, knO G a0), (1, knV a1), (2, knV a2)]) dX2_addFactor_13 (by decide) rfl ?_
    refine kj_sub (L' := [(0, knO G a0), (1, knV a1), (2, knV a2), (3, knV (if (knRem a2 2) = 0 then 1 else -1 : Int)), (4, knV 0)]) [2, 3, 4, 1, 0] rfl ?_
    refine kfX2_addFactor_l15_ok X K hr hlk a0 a1 a2 ha0 ha1 ha2  ?_ knF _ ht2_0 _ (show knC (0) from ⟨by omega, by omega⟩) _ hf
    intro w17_m
    intro hf
    cases hf
    exact kj_vret X trivial hr dX2_addFactor_74 hlk
  refine kj_if_ne X (tgt := 10) dX2_addFactor_3 (by decide) (knC_rem _ _) (fun h18 => ?_) (fun h18 => ?_)
  · refine kj_iconst X dX2_addFactor_10 ?_
    refine kj_sub (L' := [(0, knO G a0), (1, knV a1), (2, knV a2)]) [0, 1, 2] rfl ?_
    exact j2 (-1) (by rw [if_neg h18]) (show knC (-1) from ⟨by omega, by omega⟩)
  · refine kj_iconst X dX2_addFactor_6 ?_
    refine kj_goto X (tgt := 11) dX2_addFactor_7 (by decide) ?_
    refine kj_sub (L' := [(0, knO G a0), (1, knV a1), (2, knV a2)]) [0, 1, 2] rfl ?_
    exact j2 1 (by rw [if_pos h18]) (show knC (1) from ⟨by omega, by omega⟩)

def kfX2_sumStates_l23  (x1 : Int) (x2 : Int) (μ : knMem) (kc : (Int) → Option (knMem)) : Nat → Int → Int → Option (knMem)
  | 0, _, _ => none
  | n + 1, x3, x4 =>
    if (μ x1 3) ≤ x4 then
     kc x3
    else
     Option.bind (kfX12_isInSet x4 x2 μ) (fun q10 =>
      knGd (0 ≤ x4 ∧ x4 < 7)
       (kfX2_sumStates_l23  x1 x2 μ kc n (knW (x3 + (if q10 = (μ (x1 + 3) x4) then 1 else -1 : Int))) (knW (x4 + 1))))

def kfX2_sumStates_l10  (x1 : Int)  (kc : (knMem) → Option (knMem)) : Nat → Int → knMem → Option (knMem)
  | 0, _, _ => none
  | n + 1, x2, μ =>
    Option.bind (kfX5_sets x1 μ) (fun q4 =>
     if q4 ≤ x2 then
      kc μ
     else
      kfX2_sumStates_l23 x1 x2 μ (fun w19 =>
       Option.bind (kfX2_loopsOf x1 x2 μ) (fun q20 =>
        Option.bind (kfX2_addFactor 120 w19 (knW (q20.1 - 1)) q20.2) (fun q23 =>
         kfX2_sumStates_l10  x1 kc n (knW (x2 + 1)) q23))) knF 0 0)

def kfX2_sumStates (a1 : Int) (μ : knMem) : Option (knMem) :=
 Option.bind (kfJ7_fill_53178 120 0 μ) (fun q1 =>
  kfX2_sumStates_l10 a1  (fun w32 =>
   some w32) knF 0 q1)

theorem knWvX2_sumStates : knWv yX2_sumStates cX2_sumStates 5 none 1 := ⟨(knGm 723 (by decide +kernel) rfl), (knGm 120 (by decide +kernel) rfl), (knGm 721 (by decide +kernel) rfl), (knGm 722 (by decide +kernel) rfl), by decide +kernel, by decide +kernel, by decide +kernel⟩
set_option maxHeartbeats 4000000 in
set_option maxRecDepth 100000 in
theorem kfX2_sumStates_l23_ok {q : knMem} {kc : (Int) → Option (knMem)} {G : knGT} {p : Program} {l : Launch} {e : Env} {s : State} {m : MethodId} {args : Array Value} {below : List Frame} {meth : Method} {c : Code} (X : knX p m c cX2_sumStates 5 s args yX2_sumStates.cls) (K : knK G s s.heap) (hr : meth.sig.returnType = none) (hlk : meth.locks = false) (x1 : Int) (x2 : Int) (hx1 : knKd x1 = 3) (hx2 : knC x2) (μ : knMem) (hk : ∀ (y3 : Int) (hy3 : knC y3), kc y3 = some q → knJ G p l e { frames := 3, cells := 0, slots := 0, locals := 76 } s m args below meth c 5 0 0 (MQ below (knPo G True none q) args s 0 0 (knA G)) 62 [(0, knO G 119), (1, knO G x1), (2, knV x2), (3, knV y3)] [] μ) : ∀ (n : Nat) (x3 : Int) (hx3 : knC x3) (x4 : Int) (hx4 : knC x4) , kfX2_sumStates_l23  x1 x2 μ kc n x3 x4 = some q → knJ G p l e { frames := 3, cells := 0, slots := 0, locals := 76 } s m args below meth c 5 0 0 (MQ below (knPo G True none q) args s 0 0 (knA G)) 23 [(0, knO G 119), (1, knO G x1), (2, knV x2), (3, knV x3), (4, knV x4)] [] μ := by
  intro n
  induction n with
  | zero => intro x3 hx3 x4 hx4 hf; cases hf
  | succ n ih =>
    intro x3 hx3 x4 hx4 hf
    unfold kfX2_sumStates_l23 at hf
    refine kj_iload X 4 dX2_sumStates_23 rfl ?_
    refine kj_aloadn X 1 dX2_sumStates_25 rfl ?_
    refine kj_geti (k := 3) (ki := 3) X K rfl hx1 (by decide) (knEnt_3 hx1) rfl (by decide) knInX5 (knGm 179 (by decide +kernel) rfl) rfl rfl dX2_sumStates_26 (fun h8 => ?_)
    refine kj_ic_ge X (tgt := 62) dX2_sumStates_29 (by decide) hx4 h8 (fun h9 => ?_) (fun h9 => ?_)
    · replace hf := knIp hf h9
      refine kj_sub (L' := [(0, knO G 119), (1, knO G x1), (2, knV x2), (3, knV x3)]) [0, 1, 2, 3] rfl ?_
      exact hk _ hx3 hf
    · replace hf := knIq hf h9
      refine kj_iloadn X 3 dX2_sumStates_32 rfl ?_
      refine kj_iload X 4 dX2_sumStates_33 rfl ?_
      refine kj_iloadn X 2 dX2_sumStates_35 rfl ?_
      obtain ⟨q10, h11, hf⟩ := knBd_inv hf
      refine kj_callSN (host := "KnotLaboratory") (As := [knV x4, knV x2]) (rest := [knV x3]) X K (kcX12_isInSet l hx4 hx2 h11) knWkX12_isInSet (knBm 731 (by decide +kernel) rfl) (by decide)  rfl (Nat.le_of_ble_eq_true rfl) (by decide) dX2_sumStates_36 rfl (fun h12 => ?_)
      refine kj_aloadn X 1 dX2_sumStates_39 rfl ?_
      refine kj_geto (k := 2) (o2 := (x1 + 3)) X K hx1 (by decide) (knEnt_3 hx1) rfl (by decide) knInX5 (knGm 176 (by decide +kernel) rfl) rfl rfl dX2_sumStates_40 ?_
      refine kj_iload X 4 dX2_sumStates_43 rfl ?_
      obtain ⟨h13, hf⟩ := knGd_inv hf
      refine kj_zald X K (knD3 hx1).1.2.2 hx4 (knD3 hx1).2.2.2 h13 dX2_sumStates_45 (fun h14 => ?_)
      have j16 : ∀ (t16_0 : Int) (et16_0 : t16_0 = (if q10 = (μ (x1 + 3) x4) then 1 else -1 : Int)) (ht16_0 : knC t16_0), knJ G p l e { frames := 3, cells := 0, slots := 0, locals := 76 } s m args below meth c 5 0 0 (MQ below (knPo G True none q) args s 0 0 (knA G)) 54 [(0, knO G 119), (1, knO G x1), (2, knV x2), (4, knV x4)] [knV t16_0, knV x3] μ := by
        intro t16_0 et16_0 ht16_0
        subst et16_0
        refine kj_iadd X dX2_sumStates_54 ?_
        refine kj_istoren X (L' := [(3, knV (knW (x3 + (if q10 = (μ (x1 + 3) x4) then 1 else -1 : Int)))), (0, knO G 119), (1, knO G x1), (2, knV x2), (4, knV x4)]) dX2_sumStates_55 (by decide) rfl ?_
        refine kj_iinc X 4 (L' := [(4, knV (knW (x4 + 1))), (3, knV (knW (x3 + (if q10 = (μ (x1 + 3) x4) then 1 else -1 : Int)))), (0, knO G 119), (1, knO G x1), (2, knV x2)]) dX2_sumStates_56 rfl (by decide) rfl ?_
        refine kj_goto X (tgt := 23) dX2_sumStates_59 (by decide) ?_
        refine kj_sub (L' := [(0, knO G 119), (1, knO G x1), (2, knV x2), (3, knV (knW (x3 + (if q10 = (μ (x1 + 3) x4) then 1 else -1 : Int)))), (4, knV (knW (x4 + 1)))]) [2, 3, 4, 1, 0] rfl ?_
        exact ih _ (knCw _) _ (knCw _)  hf
      refine kj_ic_ne X (tgt := 53) dX2_sumStates_46 (by decide) (knZ_c h12) (knZ_c h14) (fun h18 => ?_) (fun h18 => ?_)
      · refine kj_iconst X dX2_sumStates_53 ?_
        refine kj_sub (L' := [(0, knO G 119), (1, knO G x1), (2, knV x2), (4, knV x4)]) [0, 1, 2, 4] rfl ?_
        exact j16 (-1) (by rw [if_neg h18]) (show knC (-1) from ⟨by omega, by omega⟩)
      · refine kj_iconst X dX2_sumStates_49 ?_
        refine kj_goto X (tgt := 54) dX2_sumStates_50 (by decide) ?_
        refine kj_sub (L' := [(0, knO G 119), (1, knO G x1), (2, knV x2), (4, knV x4)]) [0, 1, 2, 4] rfl ?_
        exact j16 1 (by rw [if_pos h18]) (show knC (1) from ⟨by omega, by omega⟩)

set_option maxHeartbeats 4000000 in
set_option maxRecDepth 100000 in
theorem kfX2_sumStates_l10_ok {q : knMem} {kc : (knMem) → Option (knMem)} {G : knGT} {p : Program} {l : Launch} {e : Env} {s : State} {m : MethodId} {args : Array Value} {below : List Frame} {meth : Method} {c : Code} (X : knX p m c cX2_sumStates 5 s args yX2_sumStates.cls) (K : knK G s s.heap) (hr : meth.sig.returnType = none) (hlk : meth.locks = false) (x1 : Int) (hx1 : knKd x1 = 3)  (hk : ∀ (μ1 : knMem), kc μ1 = some q → knJ G p l e { frames := 3, cells := 0, slots := 0, locals := 76 } s m args below meth c 5 0 0 (MQ below (knPo G True none q) args s 0 0 (knA G)) 84 [] [] μ1) : ∀ (n : Nat) (x2 : Int) (hx2 : knC x2) (μ : knMem), kfX2_sumStates_l10  x1 kc n x2 μ = some q → knJ G p l e { frames := 3, cells := 0, slots := 0, locals := 76 } s m args below meth c 5 0 0 (MQ below (knPo G True none q) args s 0 0 (knA G)) 10 [(0, knO G 119), (1, knO G x1), (2, knV x2)] [] μ := by
  intro n
  induction n with
  | zero => intro x2 hx2 μ hf; cases hf
  | succ n ih =>
    intro x2 hx2 μ hf
    unfold kfX2_sumStates_l10 at hf
    refine kj_iloadn X 2 dX2_sumStates_10 rfl ?_
    refine kj_aloadn X 1 dX2_sumStates_11 rfl ?_
    obtain ⟨q4, h5, hf⟩ := knBd_inv hf
    refine kj_callV (As := []) (rest := [knV x2]) X K (kcX5_sets l hx1 h5) knWvX5_sets (knGm 727 (by decide +kernel) rfl) (by decide) (knKd_in hx1 (by decide)) (knEnt_3 hx1) rfl rfl rfl (Nat.le_of_ble_eq_true rfl) (by decide) dX2_sumStates_12 rfl (fun h6 => ?_)
    refine kj_ic_ge X (tgt := 84) dX2_sumStates_15 (by decide) hx2 h6 (fun h7 => ?_) (fun h7 => ?_)
    · replace hf := knIp hf h7
      refine kj_sub (L' := []) [] rfl ?_
      exact hk _ hf
    · replace hf := knIq hf h7
      refine kj_iconst X dX2_sumStates_18 ?_
      refine kj_istoren X (L' := [(3, knV 0), (0, knO G 119), (1, knO G x1), (2, knV x2)]) dX2_sumStates_19 (by decide) rfl ?_
      refine kj_iconst X dX2_sumStates_20 ?_
      refine kj_istore X (L' := [(4, knV 0), (3, knV 0), (0, knO G 119), (1, knO G x1), (2, knV x2)]) dX2_sumStates_21 (by decide) rfl ?_
      refine kj_sub (L' := [(0, knO G 119), (1, knO G x1), (2, knV x2), (3, knV 0), (4, knV 0)]) [2, 3, 4, 1, 0] rfl ?_
      refine kfX2_sumStates_l23_ok X K hr hlk x1 x2 hx1 hx2 μ ?_ knF _ (show knC (0) from ⟨by omega, by omega⟩) _ (show knC (0) from ⟨by omega, by omega⟩)  hf
      intro w19_0 hw19_0
      intro hf
      refine kj_aloadn X 0 dX2_sumStates_62 rfl ?_
      refine kj_geto (k := 0) (o2 := 120) X K kdc_119 (by decide) (knEnt_1 kdc_119) rfl (by decide) knInX2 (knGm 285 (by decide +kernel) rfl) rfl rfl dX2_sumStates_63 ?_
      refine kj_iloadn X 3 dX2_sumStates_66 rfl ?_
      refine kj_aloadn X 0 dX2_sumStates_67 rfl ?_
      refine kj_aloadn X 1 dX2_sumStates_68 rfl ?_
      refine kj_iloadn X 2 dX2_sumStates_69 rfl ?_
      obtain ⟨q26, h27, hf⟩ := knBd_inv hf
      refine kj_callV (As := [knO G x1, knV x2]) (rest := [knV w19_0, knO G 120]) X K (kcX2_loopsOf l hx1 hx2 h27) knWvX2_loopsOf (knGm 734 (by decide +kernel) rfl) (by decide) (knKd_in kdc_119 (by decide)) (knEnt_1 kdc_119) rfl rfl rfl (Nat.le_of_ble_eq_true rfl) (by decide) dX2_sumStates_70 rfl (fun h28 => ?_)
      refine kj_iconst X dX2_sumStates_73 ?_
      refine kj_isub X dX2_sumStates_74 ?_
      obtain ⟨q29, h30, hf⟩ := knBd_inv hf
      refine kj_callS (As := [knO G 120, knV w19_0, knV (knW (q26.1 - 1))]) (rest := []) X K (kcX2_addFactor l kdc_120 hw19_0 (knCw _) h30) knWkX2_addFactor (knGm 753 (by decide +kernel) rfl) (by decide)  rfl (Nat.le_of_ble_eq_true rfl) (by decide) dX2_sumStates_75 rfl (fun h31 => ?_)
      refine kj_iinc X 2 (L' := [(2, knV (knW (x2 + 1))), (0, knO G 119), (1, knO G x1), (3, knV w19_0)]) dX2_sumStates_78 rfl (by decide) rfl ?_
      refine kj_goto X (tgt := 10) dX2_sumStates_81 (by decide) ?_
      refine kj_sub (L' := [(0, knO G 119), (1, knO G x1), (2, knV (knW (x2 + 1)))]) [1, 2, 0] rfl ?_
      exact ih _ (knCw _) _ hf

set_option maxHeartbeats 4000000 in
set_option maxRecDepth 100000 in
theorem kcX2_sumStates {G : knGT} (l : Launch) {a1 : Int} (ha1 : knKd a1 = 3) {μ : knMem} {q : knMem} (hf : kfX2_sumStates a1 μ = some q) : knC0 G l yX2_sumStates cX2_sumStates 5 none 3 76 [knO G 119, knO G a1] μ True none q := by
  unfold kfX2_sumStates at hf
  refine kn_ofJ (plainFor_of_name (by decide)) (Nat.le_of_ble_eq_true rfl) (L := [(0, knO G 119), (1, knO G a1)]) rfl ?_
  intro p e s m args below meth c X K hr hlk
  refine kj_aloadn X 0 dX2_sumStates_0 rfl ?_
  refine kj_geto (k := 0) (o2 := 120) X K kdc_119 (by decide) (knEnt_1 kdc_119) rfl (by decide) knInX2 (knGm 285 (by decide +kernel) rfl) rfl rfl dX2_sumStates_1 ?_
  refine kj_iconst X dX2_sumStates_4 ?_
  obtain ⟨q1, h2, hf⟩ := knBd_inv hf
  refine kj_callS (As := [knO G 120, knV 0]) (rest := []) X K (kcJ7_fill_53178 l kdc_120 (show knC (0) from ⟨by omega, by omega⟩) h2) knWkJ7_fill_53178 (knGm 724 (by decide +kernel) rfl) (by decide)  rfl (Nat.le_of_ble_eq_true rfl) (by decide) dX2_sumStates_5 rfl (fun h3 => ?_)
  refine kj_iconst X dX2_sumStates_8 ?_
  refine kj_istoren X (L' := [(2, knV 0), (0, knO G 119), (1, knO G a1)]) dX2_sumStates_9 (by decide) rfl ?_
  refine kj_sub (L' := [(0, knO G 119), (1, knO G a1), (2, knV 0)]) [1, 2, 0] rfl ?_
  refine kfX2_sumStates_l10_ok X K hr hlk a1 ha1  ?_ knF _ (show knC (0) from ⟨by omega, by omega⟩) _ hf
  intro w32_m
  intro hf
  cases hf
  exact kj_vret X trivial hr dX2_sumStates_84 hlk

def kfX12_valueAt (a0 : Int) (a1 : Int) (μ : knMem) : Option (Int) :=
 (fun (k5 : (Unit) → Option (Int)) =>
  if (knW (a1 + 50)) < 0 then
   k5 ()
  else
   if (knW (a1 + 50)) < (knLn a0) then
    knGd (0 ≤ (knW (a1 + 50)) ∧ (knW (a1 + 50)) < (knLn a0))
     (some (μ a0 (knW (a1 + 50))))
   else
    k5 ())
  (fun _ =>
  some 0)

theorem knWkX12_valueAt : knWk yX12_valueAt cX12_valueAt 3 (some .int) 2 := ⟨(knGm 759 (by decide +kernel) rfl), (knGm 114 (by decide +kernel) rfl), (knGm 758 (by decide +kernel) rfl), by decide +kernel, by decide +kernel, by decide +kernel⟩
set_option maxHeartbeats 4000000 in
set_option maxRecDepth 100000 in
theorem kcX12_valueAt {G : knGT} (l : Launch) {a0 : Int} {a1 : Int} (ha0 : knKd a0 = 20) (ha1 : knC a1) {μ : knMem} {q : Int} (hf : kfX12_valueAt a0 a1 μ = some q) : knC0 G l yX12_valueAt cX12_valueAt 3 (some .int) 0 0 [knO G a0, knV a1] μ (knC q) (some (knV q)) μ := by
  unfold kfX12_valueAt at hf
  refine kn_ofJ (plainFor_of_name (by decide)) (Nat.le_of_ble_eq_true rfl) (L := [(0, knO G a0), (1, knV a1)]) rfl ?_
  intro p e s m args below meth c X K hr hlk
  refine kj_iloadn X 1 dX12_valueAt_0 rfl ?_
  refine kj_bipush X (n := 50) dX12_valueAt_1 rfl ?_
  refine kj_iadd X dX12_valueAt_3 ?_
  refine kj_istoren X (L' := [(2, knV (knW (a1 + 50))), (0, knO G a0), (1, knV a1)]) dX12_valueAt_4 (by decide) rfl ?_
  refine kj_iloadn X 0 dX12_valueAt_5 rfl ?_
  have j5 : (fun _ =>
   some 0) () = some q → knJ G p l e { frames := 0, cells := 0, slots := 0, locals := 0 } s m args below meth c 3 0 0 (MQ below (knPo G (knC q) (some (knV q)) μ) args s 0 0 (knA G)) 15 [] [] μ := by
    intro hf
    refine kj_iconst X dX12_valueAt_15 ?_
    refine kj_goto X (tgt := 22) dX12_valueAt_16 (by decide) ?_
    cases hf
    exact kj_iret X (show knC (0) from ⟨by omega, by omega⟩) hr dX12_valueAt_22 hlk
  refine kj_if_lt X (tgt := 15) dX12_valueAt_6 (by decide) (knCw _) (fun h7 => ?_) (fun h7 => ?_)
  · replace hf := knIp hf h7
    refine kj_sub (L' := []) [] rfl ?_
    exact j5  hf
  · replace hf := knIq hf h7
    refine kj_iloadn X 0 dX12_valueAt_9 rfl ?_
    refine kj_aloadn X 1 dX12_valueAt_10 rfl ?_
    refine kj_alen20 X K ha0 dX12_valueAt_11 ?_
    refine kj_ic_lt X (tgt := 19) dX12_valueAt_12 (by decide) (knCw _) (knC_ln _) (fun h8 => ?_) (fun h8 => ?_)
    · replace hf := knIp hf h8
      refine kj_aloadn X 1 dX12_valueAt_19 rfl ?_
      refine kj_iloadn X 0 dX12_valueAt_20 rfl ?_
      obtain ⟨h9, hf⟩ := knGd_inv hf
      refine kj_iald X K ha0 (knCw _) rfl h9 dX12_valueAt_21 (fun h10 => ?_)
      cases hf
      exact kj_iret X h10 hr dX12_valueAt_22 hlk
    · replace hf := knIq hf h8
      refine kj_sub (L' := []) [] rfl ?_
      exact j5  hf

def kfX12_bracketCoefficient (a1 : Int) (μ : knMem) : Option (Int × Int × knMem) :=
 Option.bind (kfX12_requireExponent a1 μ) (fun q1 =>
  if q1 = 0 then
  Option.bind (kfX2_sumStates 2 μ) (fun q7 =>
   Option.bind (kfX12_valueAt 120 a1 q7) (fun q10 =>
    some (0, q10, q7)))
  else
  some (q1, 0, μ))

theorem knWvX12_bracketCoefficient : knWv yX12_bracketCoefficient cX12_bracketCoefficient 2 (some .int) 1 := ⟨(knGm 1139 (by decide +kernel) rfl), (knGm 114 (by decide +kernel) rfl), (knGm 1137 (by decide +kernel) rfl), (knGm 1138 (by decide +kernel) rfl), by decide +kernel, by decide +kernel, by decide +kernel⟩
set_option maxHeartbeats 4000000 in
set_option maxRecDepth 100000 in
theorem kcX12_bracketCoefficient {G : knGT} (l : Launch) (hl : l.stackTraces = false) {a1 : Int} (ha1 : knC a1) {μ : knMem} {q : Int × Int × knMem} (hf : kfX12_bracketCoefficient a1 μ = some q) : knCx G l yX12_bracketCoefficient cX12_bracketCoefficient 2 (some .int) 7 120 1 6 [knO G 0, knV a1] μ (knC q.2.1) q.1 (some (knV q.2.1)) q.2.2 := by
  unfold kfX12_bracketCoefficient at hf
  refine kn_ofJx (by decide) (Nat.le_of_ble_eq_true rfl) (L := [(0, knO G 0), (1, knV a1)]) rfl ?_
  intro p e s m args below meth c X K hr hlk hnx
  refine kj_iloadn X 1 dX12_bracketCoefficient_0 rfl ?_
  obtain ⟨q1, h2, hf⟩ := knBd_inv hf
  refine kjx_callS (As := [knV a1]) (rest := []) X K (kcX12_requireExponent l hl ha1 h2) knWkX12_requireExponent (knGm 1140 (by decide +kernel) rfl) (by decide)  rfl (Nat.le_of_ble_eq_true rfl) (by decide) dX12_bracketCoefficient_1 rfl (fun h4 h3 => ?_) (fun E5 h4 h6 => ?_)
  · replace hf := knIp hf h4
    refine kj_aloadn X 0 dX12_bracketCoefficient_4 rfl ?_
    refine kj_geto (k := 7) (o2 := 119) X K kdc_0 (by decide) (knEnt_9 kdc_0) rfl (by decide) knInX12 (knGm 368 (by decide +kernel) rfl) rfl rfl dX12_bracketCoefficient_5 ?_
    refine kj_aloadn X 0 dX12_bracketCoefficient_8 rfl ?_
    refine kj_geto (k := 1) (o2 := 2) X K kdc_0 (by decide) (knEnt_9 kdc_0) rfl (by decide) knInX12 (knGm 362 (by decide +kernel) rfl) rfl rfl dX12_bracketCoefficient_9 ?_
    obtain ⟨q7, h8, hf⟩ := knBd_inv hf
    refine kj_callV (As := [knO G 2]) (rest := []) X K (kcX2_sumStates l kdc_2 h8) knWvX2_sumStates (knGm 800 (by decide +kernel) rfl) (by decide) (knKd_in kdc_119 (by decide)) (knEnt_1 kdc_119) rfl rfl rfl (Nat.le_of_ble_eq_true rfl) (by decide) dX12_bracketCoefficient_12 rfl (fun h9 => ?_)
    refine kj_aloadn X 0 dX12_bracketCoefficient_15 rfl ?_
    refine kj_geto (k := 7) (o2 := 119) X K kdc_0 (by decide) (knEnt_9 kdc_0) rfl (by decide) knInX12 (knGm 368 (by decide +kernel) rfl) rfl rfl dX12_bracketCoefficient_16 ?_
    refine kj_geto (k := 0) (o2 := 120) X K kdc_119 (by decide) (knEnt_1 kdc_119) rfl (by decide) knInX2 (knGm 286 (by decide +kernel) rfl) rfl rfl dX12_bracketCoefficient_19 ?_
    refine kj_iloadn X 1 dX12_bracketCoefficient_22 rfl ?_
    obtain ⟨q10, h11, hf⟩ := knBd_inv hf
    refine kj_callS (As := [knO G 120, knV a1]) (rest := []) X K (kcX12_valueAt l kdc_120 ha1 h11) knWkX12_valueAt (knGm 760 (by decide +kernel) rfl) (by decide)  rfl (Nat.le_of_ble_eq_true rfl) (by decide) dX12_bracketCoefficient_23 rfl (fun h12 => ?_)
    cases hf
    exact kjx_iret X h12 rfl (by decide) (by decide) hr dX12_bracketCoefficient_26 hlk
  · replace hf := knIq hf h4
    cases hf
    exact kjx_out h4 h6 (by decide) (by decide) hnx hlk

def kfX2_normalize_l25  (x2 : Int) (x3 : Int)  (kc : (knMem) → Option (knMem)) : Nat → Int → knMem → Option (knMem)
  | 0, _, _ => none
  | n + 1, x4, μ =>
    if 101 ≤ x4 then
     kc μ
    else
     Option.bind (kfX12_valueAt 120 (knW ((knW (x4 - 50)) + (knW (3 * x2)))) μ) (fun q11 =>
      knGd (0 ≤ x4 ∧ x4 < 101)
       (kfX2_normalize_l25  x2 x3 kc n (knW (x4 + 1)) (knUp μ 122 x4 (knW (x3 * q11)))))

def kfX2_normalize (a1 : Int) (μ : knMem) : Option (knMem) :=
 Option.bind (kfX2_sumStates a1 μ) (fun q1 =>
  Option.bind (kfX5_signSum a1 q1) (fun q4 =>
   kfX2_normalize_l25 q4 (if (knRem q4 2) = 0 then 1 else -1 : Int)  (fun w15 =>
    some w15) knF 0 q1))

theorem knWvX2_normalize : knWv yX2_normalize cX2_normalize 6 none 1 := ⟨(knGm 719 (by decide +kernel) rfl), (knGm 120 (by decide +kernel) rfl), (knGm 717 (by decide +kernel) rfl), (knGm 718 (by decide +kernel) rfl), by decide +kernel, by decide +kernel, by decide +kernel⟩
set_option maxHeartbeats 4000000 in
set_option maxRecDepth 100000 in
theorem kfX2_normalize_l25_ok {q : knMem} {kc : (knMem) → Option (knMem)} {G : knGT} {p : Program} {l : Launch} {e : Env} {s : State} {m : MethodId} {args : Array Value} {below : List Frame} {meth : Method} {c : Code} (X : knX p m c cX2_normalize 6 s args yX2_normalize.cls) (K : knK G s s.heap) (hr : meth.sig.returnType = none) (hlk : meth.locks = false) (x2 : Int) (x3 : Int) (hx2 : knC x2) (hx3 : knC x3)  (hk : ∀ (μ1 : knMem), kc μ1 = some q → knJ G p l e { frames := 4, cells := 0, slots := 0, locals := 100 } s m args below meth c 6 0 0 (MQ below (knPo G True none q) args s 0 0 (knA G)) 67 [] [] μ1) : ∀ (n : Nat) (x4 : Int) (hx4 : knC x4) (μ : knMem), kfX2_normalize_l25  x2 x3 kc n x4 μ = some q → knJ G p l e { frames := 4, cells := 0, slots := 0, locals := 100 } s m args below meth c 6 0 0 (MQ below (knPo G True none q) args s 0 0 (knA G)) 25 [(0, knO G 119), (2, knV x2), (3, knV x3), (4, knV x4)] [] μ := by
  intro n
  induction n with
  | zero => intro x4 hx4 μ hf; cases hf
  | succ n ih =>
    intro x4 hx4 μ hf
    unfold kfX2_normalize_l25 at hf
    refine kj_iload X 3 dX2_normalize_25 rfl ?_
    refine kj_bipush X (n := 101) dX2_normalize_27 rfl ?_
    refine kj_ic_ge X (tgt := 67) dX2_normalize_29 (by decide) hx4 (show knC (101) from ⟨by omega, by omega⟩) (fun h10 => ?_) (fun h10 => ?_)
    · replace hf := knIp hf h10
      refine kj_sub (L' := []) [] rfl ?_
      exact hk _ hf
    · replace hf := knIq hf h10
      refine kj_iload X 3 dX2_normalize_32 rfl ?_
      refine kj_bipush X (n := 50) dX2_normalize_34 rfl ?_
      refine kj_isub X dX2_normalize_36 ?_
      refine kj_istore X (L' := [(5, knV (knW (x4 - 50))), (0, knO G 119), (2, knV x2), (3, knV x3), (4, knV x4)]) dX2_normalize_37 (by decide) rfl ?_
      refine kj_aloadn X 1 dX2_normalize_39 rfl ?_
      refine kj_geto (k := 2) (o2 := 122) X K kdc_119 (by decide) (knEnt_1 kdc_119) rfl (by decide) knInX2 (knGm 289 (by decide +kernel) rfl) rfl rfl dX2_normalize_40 ?_
      refine kj_iload X 4 dX2_normalize_43 rfl ?_
      refine kj_iloadn X 3 dX2_normalize_45 rfl ?_
      refine kj_aloadn X 1 dX2_normalize_46 rfl ?_
      refine kj_geto (k := 0) (o2 := 120) X K kdc_119 (by decide) (knEnt_1 kdc_119) rfl (by decide) knInX2 (knGm 285 (by decide +kernel) rfl) rfl rfl dX2_normalize_47 ?_
      refine kj_iload X 0 dX2_normalize_50 rfl ?_
      refine kj_iconst X dX2_normalize_52 ?_
      refine kj_iloadn X 2 dX2_normalize_53 rfl ?_
      refine kj_imul X dX2_normalize_54 ?_
      refine kj_iadd X dX2_normalize_55 ?_
      obtain ⟨q11, h12, hf⟩ := knBd_inv hf
      refine kj_callSN (host := "KnotLaboratory") (As := [knO G 120, knV (knW ((knW (x4 - 50)) + (knW (3 * x2))))]) (rest := [knV x3, knV x4, knO G 122]) X K (kcX12_valueAt l kdc_120 (knCw _) h12) knWkX12_valueAt (knBm 757 (by decide +kernel) rfl) (by decide)  rfl (Nat.le_of_ble_eq_true rfl) (by decide) dX2_normalize_56 rfl (fun h13 => ?_)
      refine kj_imul X dX2_normalize_59 ?_
      obtain ⟨h14, hf⟩ := knGd_inv hf
      refine kj_iast X K kdc_122 hx4 (knCw _) lnc_122 h14 dX2_normalize_60 ?_
      refine kj_iinc X 4 (L' := [(4, knV (knW (x4 + 1))), (5, knV (knW (x4 - 50))), (0, knO G 119), (2, knV x2), (3, knV x3)]) dX2_normalize_61 rfl (by decide) rfl ?_
      refine kj_goto X (tgt := 25) dX2_normalize_64 (by decide) ?_
      refine kj_sub (L' := [(0, knO G 119), (2, knV x2), (3, knV x3), (4, knV (knW (x4 + 1)))]) [2, 3, 4, 0] rfl ?_
      exact ih _ (knCw _) _ hf

set_option maxHeartbeats 4000000 in
set_option maxRecDepth 100000 in
theorem kcX2_normalize {G : knGT} (l : Launch) {a1 : Int} (ha1 : knKd a1 = 3) {μ : knMem} {q : knMem} (hf : kfX2_normalize a1 μ = some q) : knC0 G l yX2_normalize cX2_normalize 6 none 4 100 [knO G 119, knO G a1] μ True none q := by
  unfold kfX2_normalize at hf
  refine kn_ofJ (plainFor_of_name (by decide)) (Nat.le_of_ble_eq_true rfl) (L := [(0, knO G 119), (1, knO G a1)]) rfl ?_
  intro p e s m args below meth c X K hr hlk
  refine kj_aloadn X 0 dX2_normalize_0 rfl ?_
  refine kj_aloadn X 1 dX2_normalize_1 rfl ?_
  obtain ⟨q1, h2, hf⟩ := knBd_inv hf
  refine kj_callV (As := [knO G a1]) (rest := []) X K (kcX2_sumStates l ha1 h2) knWvX2_sumStates (knGm 720 (by decide +kernel) rfl) (by decide) (knKd_in kdc_119 (by decide)) (knEnt_1 kdc_119) rfl rfl rfl (Nat.le_of_ble_eq_true rfl) (by decide) dX2_normalize_2 rfl (fun h3 => ?_)
  refine kj_aloadn X 1 dX2_normalize_5 rfl ?_
  obtain ⟨q4, h5, hf⟩ := knBd_inv hf
  refine kj_callV (As := []) (rest := []) X K (kcX5_signSum l ha1 h5) knWvX5_signSum (knGm 756 (by decide +kernel) rfl) (by decide) (knKd_in ha1 (by decide)) (knEnt_3 ha1) rfl rfl rfl (Nat.le_of_ble_eq_true rfl) (by decide) dX2_normalize_6 rfl (fun h6 => ?_)
  refine kj_istoren X (L' := [(2, knV q4), (0, knO G 119), (1, knO G a1)]) dX2_normalize_9 (by decide) rfl ?_
  refine kj_iloadn X 0 dX2_normalize_10 rfl ?_
  refine kj_iconst X dX2_normalize_11 ?_
  refine kj_irem X dX2_normalize_12 (show knC (2) from ⟨by omega, by omega⟩) (by decide) ?_
  have j8 : ∀ (t8_0 : Int) (et8_0 : t8_0 = (if (knRem q4 2) = 0 then 1 else -1 : Int)) (ht8_0 : knC t8_0), knJ G p l e { frames := 4, cells := 0, slots := 0, locals := 100 } s m args below meth c 6 0 0 (MQ below (knPo G True none q) args s 0 0 (knA G)) 21 [(0, knO G 119), (2, knV q4)] [knV t8_0] q1 := by
    intro t8_0 et8_0 ht8_0
    subst et8_0
    refine kj_istoren X (L' := [(3, knV (if (knRem q4 2) = 0 then 1 else -1 : Int)), (0, knO G 119), (2, knV q4)]) dX2_normalize_21 (by decide) rfl ?_
    refine kj_iconst X dX2_normalize_22 ?_
    refine kj_istore X (L' := [(4, knV 0), (3, knV (if (knRem q4 2) = 0 then 1 else -1 : Int)), (0, knO G 119), (2, knV q4)]) dX2_normalize_23 (by decide) rfl ?_
    refine kj_sub (L' := [(0, knO G 119), (2, knV q4), (3, knV (if (knRem q4 2) = 0 then 1 else -1 : Int)), (4, knV 0)]) [2, 3, 1, 0] rfl ?_
    refine kfX2_normalize_l25_ok X K hr hlk q4 (if (knRem q4 2) = 0 then 1 else -1 : Int) h6 ht8_0  ?_ knF _ (show knC (0) from ⟨by omega, by omega⟩) _ hf
    intro w15_m
    intro hf
    cases hf
    exact kj_vret X trivial hr dX2_normalize_67 hlk
  refine kj_if_ne X (tgt := 20) dX2_normalize_13 (by decide) (knC_rem _ _) (fun h16 => ?_) (fun h16 => ?_)
  · refine kj_iconst X dX2_normalize_20 ?_
    refine kj_sub (L' := [(0, knO G 119), (2, knV q4)]) [1, 0] rfl ?_
    exact j8 (-1) (by rw [if_neg h16]) (show knC (-1) from ⟨by omega, by omega⟩)
  · refine kj_iconst X dX2_normalize_16 ?_
    refine kj_goto X (tgt := 21) dX2_normalize_17 (by decide) ?_
    refine kj_sub (L' := [(0, knO G 119), (2, knV q4)]) [1, 0] rfl ?_
    exact j8 1 (by rw [if_pos h16]) (show knC (1) from ⟨by omega, by omega⟩)

def kfX12_coefficient (a1 : Int) (μ : knMem) : Option (Int × Int × knMem) :=
 Option.bind (kfX12_requireExponent a1 μ) (fun q1 =>
  if q1 = 0 then
  Option.bind (kfX2_normalize 2 μ) (fun q7 =>
   Option.bind (kfX12_valueAt 122 a1 q7) (fun q10 =>
    some (0, q10, q7)))
  else
  some (q1, 0, μ))

theorem knWvX12_coefficient : knWv yX12_coefficient cX12_coefficient 2 (some .int) 1 := ⟨(knGm 1157 (by decide +kernel) rfl), (knGm 114 (by decide +kernel) rfl), (knGm 1155 (by decide +kernel) rfl), (knGm 1156 (by decide +kernel) rfl), by decide +kernel, by decide +kernel, by decide +kernel⟩
set_option maxHeartbeats 4000000 in
set_option maxRecDepth 100000 in
theorem kcX12_coefficient {G : knGT} (l : Launch) (hl : l.stackTraces = false) {a1 : Int} (ha1 : knC a1) {μ : knMem} {q : Int × Int × knMem} (hf : kfX12_coefficient a1 μ = some q) : knCx G l yX12_coefficient cX12_coefficient 2 (some .int) 7 125 1 6 [knO G 0, knV a1] μ (knC q.2.1) q.1 (some (knV q.2.1)) q.2.2 := by
  unfold kfX12_coefficient at hf
  refine kn_ofJx (by decide) (Nat.le_of_ble_eq_true rfl) (L := [(0, knO G 0), (1, knV a1)]) rfl ?_
  intro p e s m args below meth c X K hr hlk hnx
  refine kj_iloadn X 1 dX12_coefficient_0 rfl ?_
  obtain ⟨q1, h2, hf⟩ := knBd_inv hf
  refine kjx_callS (As := [knV a1]) (rest := []) X K (kcX12_requireExponent l hl ha1 h2) knWkX12_requireExponent (knGm 1140 (by decide +kernel) rfl) (by decide)  rfl (Nat.le_of_ble_eq_true rfl) (by decide) dX12_coefficient_1 rfl (fun h4 h3 => ?_) (fun E5 h4 h6 => ?_)
  · replace hf := knIp hf h4
    refine kj_aloadn X 0 dX12_coefficient_4 rfl ?_
    refine kj_geto (k := 7) (o2 := 119) X K kdc_0 (by decide) (knEnt_9 kdc_0) rfl (by decide) knInX12 (knGm 368 (by decide +kernel) rfl) rfl rfl dX12_coefficient_5 ?_
    refine kj_aloadn X 0 dX12_coefficient_8 rfl ?_
    refine kj_geto (k := 1) (o2 := 2) X K kdc_0 (by decide) (knEnt_9 kdc_0) rfl (by decide) knInX12 (knGm 362 (by decide +kernel) rfl) rfl rfl dX12_coefficient_9 ?_
    obtain ⟨q7, h8, hf⟩ := knBd_inv hf
    refine kj_callV (As := [knO G 2]) (rest := []) X K (kcX2_normalize l kdc_2 h8) knWvX2_normalize (knGm 716 (by decide +kernel) rfl) (by decide) (knKd_in kdc_119 (by decide)) (knEnt_1 kdc_119) rfl rfl rfl (Nat.le_of_ble_eq_true rfl) (by decide) dX12_coefficient_12 rfl (fun h9 => ?_)
    refine kj_aloadn X 0 dX12_coefficient_15 rfl ?_
    refine kj_geto (k := 7) (o2 := 119) X K kdc_0 (by decide) (knEnt_9 kdc_0) rfl (by decide) knInX12 (knGm 368 (by decide +kernel) rfl) rfl rfl dX12_coefficient_16 ?_
    refine kj_geto (k := 2) (o2 := 122) X K kdc_119 (by decide) (knEnt_1 kdc_119) rfl (by decide) knInX2 (knGm 290 (by decide +kernel) rfl) rfl rfl dX12_coefficient_19 ?_
    refine kj_iloadn X 1 dX12_coefficient_22 rfl ?_
    obtain ⟨q10, h11, hf⟩ := knBd_inv hf
    refine kj_callS (As := [knO G 122, knV a1]) (rest := []) X K (kcX12_valueAt l kdc_122 ha1 h11) knWkX12_valueAt (knGm 760 (by decide +kernel) rfl) (by decide)  rfl (Nat.le_of_ble_eq_true rfl) (by decide) dX12_coefficient_23 rfl (fun h12 => ?_)
    cases hf
    exact kjx_iret X h12 rfl (by decide) (by decide) hr dX12_coefficient_26 hlk
  · replace hf := knIq hf h4
    cases hf
    exact kjx_out h4 h6 (by decide) (by decide) hnx hlk

def kfX12_lowestExponent_l14   (μ : knMem) (kc : (Unit) → Option (Int × knMem)) : Nat → Int → Option (Int × knMem)
  | 0, _ => none
  | n + 1, x1 =>
    if 50 ≤ x1 then
     kc ()
    else
     Option.bind (kfX12_valueAt 122 x1 μ) (fun q5 =>
      if q5 = 0 then
       kfX12_lowestExponent_l14   μ kc n (knW (x1 + 1))
      else
       some (x1, μ))

def kfX12_lowestExponent  (μ : knMem) : Option (Int × knMem) :=
 Option.bind (kfX2_normalize 2 μ) (fun q1 =>
  kfX12_lowestExponent_l14  q1 (fun _ =>
   some (50, q1)) knF (-50))

theorem knWvX12_lowestExponent : knWv yX12_lowestExponent cX12_lowestExponent 2 (some .int) 0 := ⟨(knGm 715 (by decide +kernel) rfl), (knGm 114 (by decide +kernel) rfl), (knGm 713 (by decide +kernel) rfl), (knGm 714 (by decide +kernel) rfl), by decide +kernel, by decide +kernel, by decide +kernel⟩
set_option maxHeartbeats 4000000 in
set_option maxRecDepth 100000 in
theorem kfX12_lowestExponent_l14_ok {q : Int × knMem} {kc : (Unit) → Option (Int × knMem)} {G : knGT} {p : Program} {l : Launch} {e : Env} {s : State} {m : MethodId} {args : Array Value} {below : List Frame} {meth : Method} {c : Code} (X : knX p m c cX12_lowestExponent 2 s args yX12_lowestExponent.cls) (K : knK G s s.heap) (hr : meth.sig.returnType = (some .int)) (hlk : meth.locks = false)   (μ : knMem) (hk : kc () = some q → knJ G p l e { frames := 5, cells := 0, slots := 0, locals := 125 } s m args below meth c 2 0 0 (MQ below (knPo G (knC q.1) (some (knV q.1)) q.2) args s 0 0 (knA G)) 42 [] [] μ) : ∀ (n : Nat) (x1 : Int) (hx1 : knC x1) , kfX12_lowestExponent_l14   μ kc n x1 = some q → knJ G p l e { frames := 5, cells := 0, slots := 0, locals := 125 } s m args below meth c 2 0 0 (MQ below (knPo G (knC q.1) (some (knV q.1)) q.2) args s 0 0 (knA G)) 14 [(0, knO G 0), (1, knV x1)] [] μ := by
  intro n
  induction n with
  | zero => intro x1 hx1 hf; cases hf
  | succ n ih =>
    intro x1 hx1 hf
    unfold kfX12_lowestExponent_l14 at hf
    refine kj_iloadn X 1 dX12_lowestExponent_14 rfl ?_
    refine kj_bipush X (n := 50) dX12_lowestExponent_15 rfl ?_
    refine kj_ic_ge X (tgt := 42) dX12_lowestExponent_17 (by decide) hx1 (show knC (50) from ⟨by omega, by omega⟩) (fun h4 => ?_) (fun h4 => ?_)
    · replace hf := knIp hf h4
      refine kj_sub (L' := []) [] rfl ?_
      exact hk  hf
    · replace hf := knIq hf h4
      refine kj_aloadn X 0 dX12_lowestExponent_20 rfl ?_
      refine kj_geto (k := 7) (o2 := 119) X K kdc_0 (by decide) (knEnt_9 kdc_0) rfl (by decide) knInX12 (knGm 368 (by decide +kernel) rfl) rfl rfl dX12_lowestExponent_21 ?_
      refine kj_geto (k := 2) (o2 := 122) X K kdc_119 (by decide) (knEnt_1 kdc_119) rfl (by decide) knInX2 (knGm 290 (by decide +kernel) rfl) rfl rfl dX12_lowestExponent_24 ?_
      refine kj_iloadn X 1 dX12_lowestExponent_27 rfl ?_
      obtain ⟨q5, h6, hf⟩ := knBd_inv hf
      refine kj_callS (As := [knO G 122, knV x1]) (rest := []) X K (kcX12_valueAt l kdc_122 hx1 h6) knWkX12_valueAt (knGm 760 (by decide +kernel) rfl) (by decide)  rfl (Nat.le_of_ble_eq_true rfl) (by decide) dX12_lowestExponent_28 rfl (fun h7 => ?_)
      refine kj_if_eq X (tgt := 36) dX12_lowestExponent_31 (by decide) h7 (fun h8 => ?_) (fun h8 => ?_)
      · replace hf := knIp hf h8
        refine kj_iinc X 1 (L' := [(1, knV (knW (x1 + 1))), (0, knO G 0)]) dX12_lowestExponent_36 rfl (by decide) rfl ?_
        refine kj_goto X (tgt := 14) dX12_lowestExponent_39 (by decide) ?_
        refine kj_sub (L' := [(0, knO G 0), (1, knV (knW (x1 + 1)))]) [1, 0] rfl ?_
        exact ih _ (knCw _)  hf
      · replace hf := knIq hf h8
        refine kj_iloadn X 1 dX12_lowestExponent_34 rfl ?_
        cases hf
        exact kj_iret X hx1 hr dX12_lowestExponent_35 hlk

set_option maxHeartbeats 4000000 in
set_option maxRecDepth 100000 in
theorem kcX12_lowestExponent {G : knGT} (l : Launch)   {μ : knMem} {q : Int × knMem} (hf : kfX12_lowestExponent  μ = some q) : knC0 G l yX12_lowestExponent cX12_lowestExponent 2 (some .int) 5 125 [knO G 0] μ (knC q.1) (some (knV q.1)) q.2 := by
  unfold kfX12_lowestExponent at hf
  refine kn_ofJ (plainFor_of_name (by decide)) (Nat.le_of_ble_eq_true rfl) (L := [(0, knO G 0)]) rfl ?_
  intro p e s m args below meth c X K hr hlk
  refine kj_aloadn X 0 dX12_lowestExponent_0 rfl ?_
  refine kj_geto (k := 7) (o2 := 119) X K kdc_0 (by decide) (knEnt_9 kdc_0) rfl (by decide) knInX12 (knGm 368 (by decide +kernel) rfl) rfl rfl dX12_lowestExponent_1 ?_
  refine kj_aloadn X 0 dX12_lowestExponent_4 rfl ?_
  refine kj_geto (k := 1) (o2 := 2) X K kdc_0 (by decide) (knEnt_9 kdc_0) rfl (by decide) knInX12 (knGm 362 (by decide +kernel) rfl) rfl rfl dX12_lowestExponent_5 ?_
  obtain ⟨q1, h2, hf⟩ := knBd_inv hf
  refine kj_callV (As := [knO G 2]) (rest := []) X K (kcX2_normalize l kdc_2 h2) knWvX2_normalize (knGm 716 (by decide +kernel) rfl) (by decide) (knKd_in kdc_119 (by decide)) (knEnt_1 kdc_119) rfl rfl rfl (Nat.le_of_ble_eq_true rfl) (by decide) dX12_lowestExponent_8 rfl (fun h3 => ?_)
  refine kj_bipush X (n := (-50)) dX12_lowestExponent_11 rfl ?_
  refine kj_istoren X (L' := [(1, knV (-50)), (0, knO G 0)]) dX12_lowestExponent_13 (by decide) rfl ?_
  refine kj_sub (L' := [(0, knO G 0), (1, knV (-50))]) [1, 0] rfl ?_
  refine kfX12_lowestExponent_l14_ok X K hr hlk   q1 ?_ knF _ (show knC (-50) from ⟨by omega, by omega⟩)  hf
  intro hf
  refine kj_bipush X (n := 50) dX12_lowestExponent_42 rfl ?_
  cases hf
  exact kj_iret X (show knC (50) from ⟨by omega, by omega⟩) hr dX12_lowestExponent_44 hlk

def kfX12_highestExponent_l14   (μ : knMem) (kc : (Unit) → Option (Int × knMem)) : Nat → Int → Option (Int × knMem)
  | 0, _ => none
  | n + 1, x1 =>
    if x1 ≤ -50 then
     kc ()
    else
     Option.bind (kfX12_valueAt 122 x1 μ) (fun q5 =>
      if q5 = 0 then
       kfX12_highestExponent_l14   μ kc n (knW (x1 + (-1)))
      else
       some (x1, μ))

def kfX12_highestExponent  (μ : knMem) : Option (Int × knMem) :=
 Option.bind (kfX2_normalize 2 μ) (fun q1 =>
  kfX12_highestExponent_l14  q1 (fun _ =>
   some (-50, q1)) knF 50)

theorem knWvX12_highestExponent : knWv yX12_highestExponent cX12_highestExponent 2 (some .int) 0 := ⟨(knGm 764 (by decide +kernel) rfl), (knGm 114 (by decide +kernel) rfl), (knGm 762 (by decide +kernel) rfl), (knGm 763 (by decide +kernel) rfl), by decide +kernel, by decide +kernel, by decide +kernel⟩
set_option maxHeartbeats 4000000 in
set_option maxRecDepth 100000 in
theorem kfX12_highestExponent_l14_ok {q : Int × knMem} {kc : (Unit) → Option (Int × knMem)} {G : knGT} {p : Program} {l : Launch} {e : Env} {s : State} {m : MethodId} {args : Array Value} {below : List Frame} {meth : Method} {c : Code} (X : knX p m c cX12_highestExponent 2 s args yX12_highestExponent.cls) (K : knK G s s.heap) (hr : meth.sig.returnType = (some .int)) (hlk : meth.locks = false)   (μ : knMem) (hk : kc () = some q → knJ G p l e { frames := 5, cells := 0, slots := 0, locals := 125 } s m args below meth c 2 0 0 (MQ below (knPo G (knC q.1) (some (knV q.1)) q.2) args s 0 0 (knA G)) 42 [] [] μ) : ∀ (n : Nat) (x1 : Int) (hx1 : knC x1) , kfX12_highestExponent_l14   μ kc n x1 = some q → knJ G p l e { frames := 5, cells := 0, slots := 0, locals := 125 } s m args below meth c 2 0 0 (MQ below (knPo G (knC q.1) (some (knV q.1)) q.2) args s 0 0 (knA G)) 14 [(0, knO G 0), (1, knV x1)] [] μ := by
  intro n
  induction n with
  | zero => intro x1 hx1 hf; cases hf
  | succ n ih =>
    intro x1 hx1 hf
    unfold kfX12_highestExponent_l14 at hf
    refine kj_iloadn X 1 dX12_highestExponent_14 rfl ?_
    refine kj_bipush X (n := (-50)) dX12_highestExponent_15 rfl ?_
    refine kj_ic_le X (tgt := 42) dX12_highestExponent_17 (by decide) hx1 (show knC (-50) from ⟨by omega, by omega⟩) (fun h4 => ?_) (fun h4 => ?_)
    · replace hf := knIp hf h4
      refine kj_sub (L' := []) [] rfl ?_
      exact hk  hf
    · replace hf := knIq hf h4
      refine kj_aloadn X 0 dX12_highestExponent_20 rfl ?_
      refine kj_geto (k := 7) (o2 := 119) X K kdc_0 (by decide) (knEnt_9 kdc_0) rfl (by decide) knInX12 (knGm 368 (by decide +kernel) rfl) rfl rfl dX12_highestExponent_21 ?_
      refine kj_geto (k := 2) (o2 := 122) X K kdc_119 (by decide) (knEnt_1 kdc_119) rfl (by decide) knInX2 (knGm 290 (by decide +kernel) rfl) rfl rfl dX12_highestExponent_24 ?_
      refine kj_iloadn X 1 dX12_highestExponent_27 rfl ?_
      obtain ⟨q5, h6, hf⟩ := knBd_inv hf
      refine kj_callS (As := [knO G 122, knV x1]) (rest := []) X K (kcX12_valueAt l kdc_122 hx1 h6) knWkX12_valueAt (knGm 760 (by decide +kernel) rfl) (by decide)  rfl (Nat.le_of_ble_eq_true rfl) (by decide) dX12_highestExponent_28 rfl (fun h7 => ?_)
      refine kj_if_eq X (tgt := 36) dX12_highestExponent_31 (by decide) h7 (fun h8 => ?_) (fun h8 => ?_)
      · replace hf := knIp hf h8
        refine kj_iinc X 1 (L' := [(1, knV (knW (x1 + (-1)))), (0, knO G 0)]) dX12_highestExponent_36 rfl (by decide) rfl ?_
        refine kj_goto X (tgt := 14) dX12_highestExponent_39 (by decide) ?_
        refine kj_sub (L' := [(0, knO G 0), (1, knV (knW (x1 + (-1))))]) [1, 0] rfl ?_
        exact ih _ (knCw _)  hf
      · replace hf := knIq hf h8
        refine kj_iloadn X 1 dX12_highestExponent_34 rfl ?_
        cases hf
        exact kj_iret X hx1 hr dX12_highestExponent_35 hlk

set_option maxHeartbeats 4000000 in
set_option maxRecDepth 100000 in
theorem kcX12_highestExponent {G : knGT} (l : Launch)   {μ : knMem} {q : Int × knMem} (hf : kfX12_highestExponent  μ = some q) : knC0 G l yX12_highestExponent cX12_highestExponent 2 (some .int) 5 125 [knO G 0] μ (knC q.1) (some (knV q.1)) q.2 := by
  unfold kfX12_highestExponent at hf
  refine kn_ofJ (plainFor_of_name (by decide)) (Nat.le_of_ble_eq_true rfl) (L := [(0, knO G 0)]) rfl ?_
  intro p e s m args below meth c X K hr hlk
  refine kj_aloadn X 0 dX12_highestExponent_0 rfl ?_
  refine kj_geto (k := 7) (o2 := 119) X K kdc_0 (by decide) (knEnt_9 kdc_0) rfl (by decide) knInX12 (knGm 368 (by decide +kernel) rfl) rfl rfl dX12_highestExponent_1 ?_
  refine kj_aloadn X 0 dX12_highestExponent_4 rfl ?_
  refine kj_geto (k := 1) (o2 := 2) X K kdc_0 (by decide) (knEnt_9 kdc_0) rfl (by decide) knInX12 (knGm 362 (by decide +kernel) rfl) rfl rfl dX12_highestExponent_5 ?_
  obtain ⟨q1, h2, hf⟩ := knBd_inv hf
  refine kj_callV (As := [knO G 2]) (rest := []) X K (kcX2_normalize l kdc_2 h2) knWvX2_normalize (knGm 716 (by decide +kernel) rfl) (by decide) (knKd_in kdc_119 (by decide)) (knEnt_1 kdc_119) rfl rfl rfl (Nat.le_of_ble_eq_true rfl) (by decide) dX12_highestExponent_8 rfl (fun h3 => ?_)
  refine kj_bipush X (n := 50) dX12_highestExponent_11 rfl ?_
  refine kj_istoren X (L' := [(1, knV 50), (0, knO G 0)]) dX12_highestExponent_13 (by decide) rfl ?_
  refine kj_sub (L' := [(0, knO G 0), (1, knV 50)]) [1, 0] rfl ?_
  refine kfX12_highestExponent_l14_ok X K hr hlk   q1 ?_ knF _ (show knC (50) from ⟨by omega, by omega⟩)  hf
  intro hf
  refine kj_bipush X (n := (-50)) dX12_highestExponent_42 rfl ?_
  cases hf
  exact kj_iret X (show knC (-50) from ⟨by omega, by omega⟩) hr dX12_highestExponent_44 hlk

def kfX12_isPolynomialTrivial_l14   (μ : knMem) (kc : (Unit) → Option (Int × knMem)) : Nat → Int → Option (Int × knMem)
  | 0, _ => none
  | n + 1, x1 =>
    if 50 < x1 then
     kc ()
    else
     Option.bind (kfX12_valueAt 122 x1 μ) (fun q5 =>
      if q5 = (if x1 = 0 then 1 else 0 : Int) then
       kfX12_isPolynomialTrivial_l14   μ kc n (knW (x1 + 1))
      else
       some (0, μ))

def kfX12_isPolynomialTrivial  (μ : knMem) : Option (Int × knMem) :=
 Option.bind (kfX2_normalize 2 μ) (fun q1 =>
  kfX12_isPolynomialTrivial_l14  q1 (fun _ =>
   some (1, q1)) knF (-50))

theorem knWvX12_isPolynomialTrivial : knWv yX12_isPolynomialTrivial cX12_isPolynomialTrivial 2 (some .boolean) 0 := ⟨(knGm 768 (by decide +kernel) rfl), (knGm 114 (by decide +kernel) rfl), (knGm 766 (by decide +kernel) rfl), (knGm 767 (by decide +kernel) rfl), by decide +kernel, by decide +kernel, by decide +kernel⟩
set_option maxHeartbeats 4000000 in
set_option maxRecDepth 100000 in
theorem kfX12_isPolynomialTrivial_l14_ok {q : Int × knMem} {kc : (Unit) → Option (Int × knMem)} {G : knGT} {p : Program} {l : Launch} {e : Env} {s : State} {m : MethodId} {args : Array Value} {below : List Frame} {meth : Method} {c : Code} (X : knX p m c cX12_isPolynomialTrivial 2 s args yX12_isPolynomialTrivial.cls) (K : knK G s s.heap) (hr : meth.sig.returnType = (some .boolean)) (hlk : meth.locks = false)   (μ : knMem) (hk : kc () = some q → knJ G p l e { frames := 5, cells := 0, slots := 0, locals := 125 } s m args below meth c 2 0 0 (MQ below (knPo G (knZ q.1) (some (knV q.1)) q.2) args s 0 0 (knA G)) 51 [] [] μ) : ∀ (n : Nat) (x1 : Int) (hx1 : knC x1) , kfX12_isPolynomialTrivial_l14   μ kc n x1 = some q → knJ G p l e { frames := 5, cells := 0, slots := 0, locals := 125 } s m args below meth c 2 0 0 (MQ below (knPo G (knZ q.1) (some (knV q.1)) q.2) args s 0 0 (knA G)) 14 [(0, knO G 0), (1, knV x1)] [] μ := by
  intro n
  induction n with
  | zero => intro x1 hx1 hf; cases hf
  | succ n ih =>
    intro x1 hx1 hf
    unfold kfX12_isPolynomialTrivial_l14 at hf
    refine kj_iloadn X 1 dX12_isPolynomialTrivial_14 rfl ?_
    refine kj_bipush X (n := 50) dX12_isPolynomialTrivial_15 rfl ?_
    refine kj_ic_gt X (tgt := 51) dX12_isPolynomialTrivial_17 (by decide) hx1 (show knC (50) from ⟨by omega, by omega⟩) (fun h4 => ?_) (fun h4 => ?_)
    · replace hf := knIp hf h4
      refine kj_sub (L' := []) [] rfl ?_
      exact hk  hf
    · replace hf := knIq hf h4
      refine kj_aloadn X 0 dX12_isPolynomialTrivial_20 rfl ?_
      refine kj_geto (k := 7) (o2 := 119) X K kdc_0 (by decide) (knEnt_9 kdc_0) rfl (by decide) knInX12 (knGm 368 (by decide +kernel) rfl) rfl rfl dX12_isPolynomialTrivial_21 ?_
      refine kj_geto (k := 2) (o2 := 122) X K kdc_119 (by decide) (knEnt_1 kdc_119) rfl (by decide) knInX2 (knGm 290 (by decide +kernel) rfl) rfl rfl dX12_isPolynomialTrivial_24 ?_
      refine kj_iloadn X 1 dX12_isPolynomialTrivial_27 rfl ?_
      obtain ⟨q5, h6, hf⟩ := knBd_inv hf
      refine kj_callS (As := [knO G 122, knV x1]) (rest := []) X K (kcX12_valueAt l kdc_122 hx1 h6) knWkX12_valueAt (knGm 760 (by decide +kernel) rfl) (by decide)  rfl (Nat.le_of_ble_eq_true rfl) (by decide) dX12_isPolynomialTrivial_28 rfl (fun h7 => ?_)
      refine kj_iloadn X 1 dX12_isPolynomialTrivial_31 rfl ?_
      have j9 : ∀ (t9_0 : Int) (et9_0 : t9_0 = (if x1 = 0 then 1 else 0 : Int)) (ht9_0 : knZ t9_0), knJ G p l e { frames := 5, cells := 0, slots := 0, locals := 125 } s m args below meth c 2 0 0 (MQ below (knPo G (knZ q.1) (some (knV q.1)) q.2) args s 0 0 (knA G)) 40 [(0, knO G 0), (1, knV x1)] [knV t9_0, knV q5] μ := by
        intro t9_0 et9_0 ht9_0
        subst et9_0
        refine kj_ic_eq X (tgt := 45) dX12_isPolynomialTrivial_40 (by decide) h7 (knZ_c ht9_0) (fun h11 => ?_) (fun h11 => ?_)
        · replace hf := knIp hf h11
          refine kj_iinc X 1 (L' := [(1, knV (knW (x1 + 1))), (0, knO G 0)]) dX12_isPolynomialTrivial_45 rfl (by decide) rfl ?_
          refine kj_goto X (tgt := 14) dX12_isPolynomialTrivial_48 (by decide) ?_
          refine kj_sub (L' := [(0, knO G 0), (1, knV (knW (x1 + 1)))]) [1, 0] rfl ?_
          exact ih _ (knCw _)  hf
        · replace hf := knIq hf h11
          refine kj_iconst X dX12_isPolynomialTrivial_43 ?_
          cases hf
          exact kj_zret X (Or.inl rfl) hr (kn_nb (Or.inl rfl)) dX12_isPolynomialTrivial_44 hlk
      refine kj_if_ne X (tgt := 39) dX12_isPolynomialTrivial_32 (by decide) hx1 (fun h12 => ?_) (fun h12 => ?_)
      · refine kj_iconst X dX12_isPolynomialTrivial_39 ?_
        refine kj_sub (L' := [(0, knO G 0), (1, knV x1)]) [0, 1] rfl ?_
        exact j9 0 (by rw [if_neg h12]) (Or.inl rfl)
      · refine kj_iconst X dX12_isPolynomialTrivial_35 ?_
        refine kj_goto X (tgt := 40) dX12_isPolynomialTrivial_36 (by decide) ?_
        refine kj_sub (L' := [(0, knO G 0), (1, knV x1)]) [0, 1] rfl ?_
        exact j9 1 (by rw [if_pos h12]) (Or.inr rfl)

set_option maxHeartbeats 4000000 in
set_option maxRecDepth 100000 in
theorem kcX12_isPolynomialTrivial {G : knGT} (l : Launch)   {μ : knMem} {q : Int × knMem} (hf : kfX12_isPolynomialTrivial  μ = some q) : knC0 G l yX12_isPolynomialTrivial cX12_isPolynomialTrivial 2 (some .boolean) 5 125 [knO G 0] μ (knZ q.1) (some (knV q.1)) q.2 := by
  unfold kfX12_isPolynomialTrivial at hf
  refine kn_ofJ (plainFor_of_name (by decide)) (Nat.le_of_ble_eq_true rfl) (L := [(0, knO G 0)]) rfl ?_
  intro p e s m args below meth c X K hr hlk
  refine kj_aloadn X 0 dX12_isPolynomialTrivial_0 rfl ?_
  refine kj_geto (k := 7) (o2 := 119) X K kdc_0 (by decide) (knEnt_9 kdc_0) rfl (by decide) knInX12 (knGm 368 (by decide +kernel) rfl) rfl rfl dX12_isPolynomialTrivial_1 ?_
  refine kj_aloadn X 0 dX12_isPolynomialTrivial_4 rfl ?_
  refine kj_geto (k := 1) (o2 := 2) X K kdc_0 (by decide) (knEnt_9 kdc_0) rfl (by decide) knInX12 (knGm 362 (by decide +kernel) rfl) rfl rfl dX12_isPolynomialTrivial_5 ?_
  obtain ⟨q1, h2, hf⟩ := knBd_inv hf
  refine kj_callV (As := [knO G 2]) (rest := []) X K (kcX2_normalize l kdc_2 h2) knWvX2_normalize (knGm 716 (by decide +kernel) rfl) (by decide) (knKd_in kdc_119 (by decide)) (knEnt_1 kdc_119) rfl rfl rfl (Nat.le_of_ble_eq_true rfl) (by decide) dX12_isPolynomialTrivial_8 rfl (fun h3 => ?_)
  refine kj_bipush X (n := (-50)) dX12_isPolynomialTrivial_11 rfl ?_
  refine kj_istoren X (L' := [(1, knV (-50)), (0, knO G 0)]) dX12_isPolynomialTrivial_13 (by decide) rfl ?_
  refine kj_sub (L' := [(0, knO G 0), (1, knV (-50))]) [1, 0] rfl ?_
  refine kfX12_isPolynomialTrivial_l14_ok X K hr hlk   q1 ?_ knF _ (show knC (-50) from ⟨by omega, by omega⟩)  hf
  intro hf
  refine kj_iconst X dX12_isPolynomialTrivial_51 ?_
  cases hf
  exact kj_zret X (Or.inr rfl) hr (kn_nb (Or.inr rfl)) dX12_isPolynomialTrivial_52 hlk

def kfX12_isPlainlyUnknotted  (μ : knMem) : Option (Int × knMem) :=
 Option.bind (kfX12_reducedCrossings  μ) (fun q1 =>
  some ((if q1.1 = 0 then 1 else 0 : Int), q1.2))

theorem knWvX12_isPlainlyUnknotted : knWv yX12_isPlainlyUnknotted cX12_isPlainlyUnknotted 1 (some .boolean) 0 := ⟨(knGm 778 (by decide +kernel) rfl), (knGm 114 (by decide +kernel) rfl), (knGm 776 (by decide +kernel) rfl), (knGm 777 (by decide +kernel) rfl), by decide +kernel, by decide +kernel, by decide +kernel⟩
set_option maxHeartbeats 4000000 in
set_option maxRecDepth 100000 in
theorem kcX12_isPlainlyUnknotted {G : knGT} (l : Launch)   {μ : knMem} {q : Int × knMem} (hf : kfX12_isPlainlyUnknotted  μ = some q) : knC0 G l yX12_isPlainlyUnknotted cX12_isPlainlyUnknotted 1 (some .boolean) 5 110 [knO G 0] μ (knZ q.1) (some (knV q.1)) q.2 := by
  unfold kfX12_isPlainlyUnknotted at hf
  refine kn_ofJ (plainFor_of_name (by decide)) (Nat.le_of_ble_eq_true rfl) (L := [(0, knO G 0)]) rfl ?_
  intro p e s m args below meth c X K hr hlk
  refine kj_aloadn X 0 dX12_isPlainlyUnknotted_0 rfl ?_
  obtain ⟨q1, h2, hf⟩ := knBd_inv hf
  refine kj_callV (As := []) (rest := []) X K (kcX12_reducedCrossings l  h2) knWvX12_reducedCrossings (knGm 779 (by decide +kernel) rfl) (by decide) (knKd_in kdc_0 (by decide)) (knEnt_9 kdc_0) rfl rfl rfl (Nat.le_of_ble_eq_true rfl) (by decide) dX12_isPlainlyUnknotted_1 rfl (fun h3 => ?_)
  have j5 : ∀ (t5_0 : Int) (et5_0 : t5_0 = (if q1.1 = 0 then 1 else 0 : Int)) (ht5_0 : knZ t5_0), knJ G p l e { frames := 5, cells := 0, slots := 0, locals := 110 } s m args below meth c 1 0 0 (MQ below (knPo G (knZ q.1) (some (knV q.1)) q.2) args s 0 0 (knA G)) 12 [] [knV t5_0] q1.2 := by
    intro t5_0 et5_0 ht5_0
    subst et5_0
    cases hf
    exact kj_zret X ht5_0 hr (kn_nb ht5_0) dX12_isPlainlyUnknotted_12 hlk
  refine kj_if_ne X (tgt := 11) dX12_isPlainlyUnknotted_4 (by decide) h3 (fun h7 => ?_) (fun h7 => ?_)
  · refine kj_iconst X dX12_isPlainlyUnknotted_11 ?_
    refine kj_sub (L' := []) [] rfl ?_
    exact j5 0 (by rw [if_neg h7]) (Or.inl rfl)
  · refine kj_iconst X dX12_isPlainlyUnknotted_7 ?_
    refine kj_goto X (tgt := 12) dX12_isPlainlyUnknotted_8 (by decide) ?_
    refine kj_sub (L' := []) [] rfl ?_
    exact j5 1 (by rw [if_pos h7]) (Or.inr rfl)

def kfJ6_bitCount_0f7a4 (a0 : Int) (μ : knMem) : Option (Int) :=
 some (knAnd (knW ((knW ((knAnd (knW ((knW ((knAnd (knW (a0 - (knAnd (knUshr a0 1) 1431655765))) 858993459) + (knAnd (knUshr (knW (a0 - (knAnd (knUshr a0 1) 1431655765))) 2) 858993459))) + (knUshr (knW ((knAnd (knW (a0 - (knAnd (knUshr a0 1) 1431655765))) 858993459) + (knAnd (knUshr (knW (a0 - (knAnd (knUshr a0 1) 1431655765))) 2) 858993459))) 4))) 252645135) + (knUshr (knAnd (knW ((knW ((knAnd (knW (a0 - (knAnd (knUshr a0 1) 1431655765))) 858993459) + (knAnd (knUshr (knW (a0 - (knAnd (knUshr a0 1) 1431655765))) 2) 858993459))) + (knUshr (knW ((knAnd (knW (a0 - (knAnd (knUshr a0 1) 1431655765))) 858993459) + (knAnd (knUshr (knW (a0 - (knAnd (knUshr a0 1) 1431655765))) 2) 858993459))) 4))) 252645135) 8))) + (knUshr (knW ((knAnd (knW ((knW ((knAnd (knW (a0 - (knAnd (knUshr a0 1) 1431655765))) 858993459) + (knAnd (knUshr (knW (a0 - (knAnd (knUshr a0 1) 1431655765))) 2) 858993459))) + (knUshr (knW ((knAnd (knW (a0 - (knAnd (knUshr a0 1) 1431655765))) 858993459) + (knAnd (knUshr (knW (a0 - (knAnd (knUshr a0 1) 1431655765))) 2) 858993459))) 4))) 252645135) + (knUshr (knAnd (knW ((knW ((knAnd (knW (a0 - (knAnd (knUshr a0 1) 1431655765))) 858993459) + (knAnd (knUshr (knW (a0 - (knAnd (knUshr a0 1) 1431655765))) 2) 858993459))) + (knUshr (knW ((knAnd (knW (a0 - (knAnd (knUshr a0 1) 1431655765))) 858993459) + (knAnd (knUshr (knW (a0 - (knAnd (knUshr a0 1) 1431655765))) 2) 858993459))) 4))) 252645135) 8))) 16))) 63)

theorem knWkJ6_bitCount_0f7a4 : knWk yJ6_bitCount_0f7a4 cJ6_bitCount_0f7a4 1 (some .int) 1 := ⟨(knGm 851 (by decide +kernel) rfl), (knGm 140 (by decide +kernel) rfl), (knGm 850 (by decide +kernel) rfl), by decide +kernel, by decide +kernel, by decide +kernel⟩
set_option maxHeartbeats 4000000 in
set_option maxRecDepth 100000 in
theorem kcJ6_bitCount_0f7a4 {G : knGT} (l : Launch) {a0 : Int} (ha0 : knC a0) {μ : knMem} {q : Int} (hf : kfJ6_bitCount_0f7a4 a0 μ = some q) : knC0 G l yJ6_bitCount_0f7a4 cJ6_bitCount_0f7a4 1 (some .int) 0 0 [knV a0] μ (knC q) (some (knV q)) μ := by
  unfold kfJ6_bitCount_0f7a4 at hf
  refine kn_ofJ kn_pf5 (Nat.le_of_ble_eq_true rfl) (L := [(0, knV a0)]) rfl ?_
  intro p e s m args below meth c X K hr hlk
  refine kj_iloadn X 0 dJ6_bitCount_0f7a4_0 rfl ?_
  refine kj_iloadn X 0 dJ6_bitCount_0f7a4_1 rfl ?_
  refine kj_iconst X dJ6_bitCount_0f7a4_2 ?_
  refine kj_iushr X dJ6_bitCount_0f7a4_3 ?_
  refine kj_ldcw X (n := 1431655765) (knGm 852 (by decide +kernel) rfl) dJ6_bitCount_0f7a4_4 ?_
  refine kj_iand X dJ6_bitCount_0f7a4_7 ?_
  refine kj_isub X dJ6_bitCount_0f7a4_8 ?_
  refine kj_istoren X (L' := [(0, knV (knW (a0 - (knAnd (knUshr a0 1) 1431655765))))]) dJ6_bitCount_0f7a4_9 (by decide) rfl ?_
  refine kj_iloadn X 0 dJ6_bitCount_0f7a4_10 rfl ?_
  refine kj_ldcw X (n := 858993459) (knGm 853 (by decide +kernel) rfl) dJ6_bitCount_0f7a4_11 ?_
  refine kj_iand X dJ6_bitCount_0f7a4_14 ?_
  refine kj_iloadn X 0 dJ6_bitCount_0f7a4_15 rfl ?_
  refine kj_iconst X dJ6_bitCount_0f7a4_16 ?_
  refine kj_iushr X dJ6_bitCount_0f7a4_17 ?_
  refine kj_ldcw X (n := 858993459) (knGm 853 (by decide +kernel) rfl) dJ6_bitCount_0f7a4_18 ?_
  refine kj_iand X dJ6_bitCount_0f7a4_21 ?_
  refine kj_iadd X dJ6_bitCount_0f7a4_22 ?_
  refine kj_istoren X (L' := [(0, knV (knW ((knAnd (knW (a0 - (knAnd (knUshr a0 1) 1431655765))) 858993459) + (knAnd (knUshr (knW (a0 - (knAnd (knUshr a0 1) 1431655765))) 2) 858993459))))]) dJ6_bitCount_0f7a4_23 (by decide) rfl ?_
  refine kj_iloadn X 0 dJ6_bitCount_0f7a4_24 rfl ?_
  refine kj_iloadn X 0 dJ6_bitCount_0f7a4_25 rfl ?_
  refine kj_iconst X dJ6_bitCount_0f7a4_26 ?_
  refine kj_iushr X dJ6_bitCount_0f7a4_27 ?_
  refine kj_iadd X dJ6_bitCount_0f7a4_28 ?_
  refine kj_ldcw X (n := 252645135) (knGm 854 (by decide +kernel) rfl) dJ6_bitCount_0f7a4_29 ?_
  refine kj_iand X dJ6_bitCount_0f7a4_32 ?_
  refine kj_istoren X (L' := [(0, knV (knAnd (knW ((knW ((knAnd (knW (a0 - (knAnd (knUshr a0 1) 1431655765))) 858993459) + (knAnd (knUshr (knW (a0 - (knAnd (knUshr a0 1) 1431655765))) 2) 858993459))) + (knUshr (knW ((knAnd (knW (a0 - (knAnd (knUshr a0 1) 1431655765))) 858993459) + (knAnd (knUshr (knW (a0 - (knAnd (knUshr a0 1) 1431655765))) 2) 858993459))) 4))) 252645135))]) dJ6_bitCount_0f7a4_33 (by decide) rfl ?_
  refine kj_iloadn X 0 dJ6_bitCount_0f7a4_34 rfl ?_
  refine kj_iloadn X 0 dJ6_bitCount_0f7a4_35 rfl ?_
  refine kj_bipush X (n := 8) dJ6_bitCount_0f7a4_36 rfl ?_
  refine kj_iushr X dJ6_bitCount_0f7a4_38 ?_
  refine kj_iadd X dJ6_bitCount_0f7a4_39 ?_
  refine kj_istoren X (L' := [(0, knV (knW ((knAnd (knW ((knW ((knAnd (knW (a0 - (knAnd (knUshr a0 1) 1431655765))) 858993459) + (knAnd (knUshr (knW (a0 - (knAnd (knUshr a0 1) 1431655765))) 2) 858993459))) + (knUshr (knW ((knAnd (knW (a0 - (knAnd (knUshr a0 1) 1431655765))) 858993459) + (knAnd (knUshr (knW (a0 - (knAnd (knUshr a0 1) 1431655765))) 2) 858993459))) 4))) 252645135) + (knUshr (knAnd (knW ((knW ((knAnd (knW (a0 - (knAnd (knUshr a0 1) 1431655765))) 858993459) + (knAnd (knUshr (knW (a0 - (knAnd (knUshr a0 1) 1431655765))) 2) 858993459))) + (knUshr (knW ((knAnd (knW (a0 - (knAnd (knUshr a0 1) 1431655765))) 858993459) + (knAnd (knUshr (knW (a0 - (knAnd (knUshr a0 1) 1431655765))) 2) 858993459))) 4))) 252645135) 8))))]) dJ6_bitCount_0f7a4_40 (by decide) rfl ?_
  refine kj_iloadn X 0 dJ6_bitCount_0f7a4_41 rfl ?_
  refine kj_iloadn X 0 dJ6_bitCount_0f7a4_42 rfl ?_
  refine kj_bipush X (n := 16) dJ6_bitCount_0f7a4_43 rfl ?_
  refine kj_iushr X dJ6_bitCount_0f7a4_45 ?_
  refine kj_iadd X dJ6_bitCount_0f7a4_46 ?_
  refine kj_istoren X (L' := [(0, knV (knW ((knW ((knAnd (knW ((knW ((knAnd (knW (a0 - (knAnd (knUshr a0 1) 1431655765))) 858993459) + (knAnd (knUshr (knW (a0 - (knAnd (knUshr a0 1) 1431655765))) 2) 858993459))) + (knUshr (knW ((knAnd (knW (a0 - (knAnd (knUshr a0 1) 1431655765))) 858993459) + (knAnd (knUshr (knW (a0 - (knAnd (knUshr a0 1) 1431655765))) 2) 858993459))) 4))) 252645135) + (knUshr (knAnd (knW ((knW ((knAnd (knW (a0 - (knAnd (knUshr a0 1) 1431655765))) 858993459) + (knAnd (knUshr (knW (a0 - (knAnd (knUshr a0 1) 1431655765))) 2) 858993459))) + (knUshr (knW ((knAnd (knW (a0 - (knAnd (knUshr a0 1) 1431655765))) 858993459) + (knAnd (knUshr (knW (a0 - (knAnd (knUshr a0 1) 1431655765))) 2) 858993459))) 4))) 252645135) 8))) + (knUshr (knW ((knAnd (knW ((knW ((knAnd (knW (a0 - (knAnd (knUshr a0 1) 1431655765))) 858993459) + (knAnd (knUshr (knW (a0 - (knAnd (knUshr a0 1) 1431655765))) 2) 858993459))) + (knUshr (knW ((knAnd (knW (a0 - (knAnd (knUshr a0 1) 1431655765))) 858993459) + (knAnd (knUshr (knW (a0 - (knAnd (knUshr a0 1) 1431655765))) 2) 858993459))) 4))) 252645135) + (knUshr (knAnd (knW ((knW ((knAnd (knW (a0 - (knAnd (knUshr a0 1) 1431655765))) 858993459) + (knAnd (knUshr (knW (a0 - (knAnd (knUshr a0 1) 1431655765))) 2) 858993459))) + (knUshr (knW ((knAnd (knW (a0 - (knAnd (knUshr a0 1) 1431655765))) 858993459) + (knAnd (knUshr (knW (a0 - (knAnd (knUshr a0 1) 1431655765))) 2) 858993459))) 4))) 252645135) 8))) 16))))]) dJ6_bitCount_0f7a4_47 (by decide) rfl ?_
  refine kj_iloadn X 0 dJ6_bitCount_0f7a4_48 rfl ?_
  refine kj_bipush X (n := 63) dJ6_bitCount_0f7a4_49 rfl ?_
  refine kj_iand X dJ6_bitCount_0f7a4_51 ?_
  cases hf
  exact kj_iret X (knC_and _ _) hr dJ6_bitCount_0f7a4_52 hlk

def kfX5_copySwitched_l7  (x0 : Int) (x2 : Int)  (kc : (knMem) → Option (knMem)) : Nat → Int → knMem → Option (knMem)
  | 0, _, _ => none
  | n + 1, x3, μ =>
    if (μ x0 3) ≤ x3 then
     kc μ
    else
     Option.bind (kfX12_isInSet x3 x2 μ) (fun q6 =>
      Option.bind (α := knMem)
       (if q6 = 0 then
        some μ
       else
        Option.bind (kfX5_exchange x0 x3 μ) (fun q16 =>
         some q16))
       (fun q13 =>
       kfX5_copySwitched_l7  x0 x2 kc n (knW (x3 + 1)) q13))

def kfX5_copySwitched (a0 : Int) (a1 : Int) (a2 : Int) (μ : knMem) : Option (knMem) :=
 Option.bind (kfX5_copyFrom a0 a1 μ) (fun q1 =>
  kfX5_copySwitched_l7 a0 a2  (fun w19 =>
   some w19) knF 0 q1)

theorem knWvX5_copySwitched : knWv yX5_copySwitched cX5_copySwitched 4 none 2 := ⟨(knGm 858 (by decide +kernel) rfl), (knGm 116 (by decide +kernel) rfl), (knGm 856 (by decide +kernel) rfl), (knGm 857 (by decide +kernel) rfl), by decide +kernel, by decide +kernel, by decide +kernel⟩
set_option maxHeartbeats 4000000 in
set_option maxRecDepth 100000 in
theorem kfX5_copySwitched_l7_ok {q : knMem} {kc : (knMem) → Option (knMem)} {G : knGT} {p : Program} {l : Launch} {e : Env} {s : State} {m : MethodId} {args : Array Value} {below : List Frame} {meth : Method} {c : Code} (X : knX p m c cX5_copySwitched 4 s args yX5_copySwitched.cls) (K : knK G s s.heap) (hr : meth.sig.returnType = none) (hlk : meth.locks = false) (x0 : Int) (x2 : Int) (hx0 : knKd x0 = 3) (hx2 : knC x2)  (hk : ∀ (μ1 : knMem), kc μ1 = some q → knJ G p l e { frames := 1, cells := 0, slots := 0, locals := 22 } s m args below meth c 4 0 0 (MQ below (knPo G True none q) args s 0 0 (knA G)) 34 [] [] μ1) : ∀ (n : Nat) (x3 : Int) (hx3 : knC x3) (μ : knMem), kfX5_copySwitched_l7  x0 x2 kc n x3 μ = some q → knJ G p l e { frames := 1, cells := 0, slots := 0, locals := 22 } s m args below meth c 4 0 0 (MQ below (knPo G True none q) args s 0 0 (knA G)) 7 [(0, knO G x0), (2, knV x2), (3, knV x3)] [] μ := by
  intro n
  induction n with
  | zero => intro x3 hx3 μ hf; cases hf
  | succ n ih =>
    intro x3 hx3 μ hf
    unfold kfX5_copySwitched_l7 at hf
    refine kj_iloadn X 2 dX5_copySwitched_7 rfl ?_
    refine kj_aloadn X 0 dX5_copySwitched_8 rfl ?_
    refine kj_geti (k := 3) (ki := 3) X K rfl hx0 (by decide) (knEnt_3 hx0) rfl (by decide) knInX5 (knGm 177 (by decide +kernel) rfl) rfl rfl dX5_copySwitched_9 (fun h4 => ?_)
    refine kj_ic_ge X (tgt := 34) dX5_copySwitched_12 (by decide) hx3 h4 (fun h5 => ?_) (fun h5 => ?_)
    · replace hf := knIp hf h5
      refine kj_sub (L' := []) [] rfl ?_
      exact hk _ hf
    · replace hf := knIq hf h5
      refine kj_iloadn X 2 dX5_copySwitched_15 rfl ?_
      refine kj_iloadn X 1 dX5_copySwitched_16 rfl ?_
      obtain ⟨q6, h7, hf⟩ := knBd_inv hf
      refine kj_callSN (host := "KnotLaboratory") (As := [knV x3, knV x2]) (rest := []) X K (kcX12_isInSet l hx3 hx2 h7) knWkX12_isInSet (knBm 860 (by decide +kernel) rfl) (by decide)  rfl (Nat.le_of_ble_eq_true rfl) (by decide) dX5_copySwitched_17 rfl (fun h8 => ?_)
      have j13 : ∀ (m13 : knMem), (fun q13 =>
       kfX5_copySwitched_l7  x0 x2 kc n (knW (x3 + 1)) q13) m13 = some q → knJ G p l e { frames := 1, cells := 0, slots := 0, locals := 22 } s m args below meth c 4 0 0 (MQ below (knPo G True none q) args s 0 0 (knA G)) 28 [(0, knO G x0), (2, knV x2), (3, knV x3)] [] m13 := by
        intro m13
        intro hf
        refine kj_iinc X 2 (L' := [(3, knV (knW (x3 + 1))), (0, knO G x0), (2, knV x2)]) dX5_copySwitched_28 rfl (by decide) rfl ?_
        refine kj_goto X (tgt := 7) dX5_copySwitched_31 (by decide) ?_
        refine kj_sub (L' := [(0, knO G x0), (2, knV x2), (3, knV (knW (x3 + 1)))]) [1, 2, 0] rfl ?_
        exact ih _ (knCw _) _ hf
      obtain ⟨b14, hb14, hf⟩ := knBd_inv hf
      refine kj_if_eq X (tgt := 28) dX5_copySwitched_20 (by decide) (knZ_c h8) (fun h15 => ?_) (fun h15 => ?_)
      · replace hb14 := knIp hb14 h15
        cases hb14
        refine kj_sub (L' := [(0, knO G x0), (2, knV x2), (3, knV x3)]) [0, 1, 2] rfl ?_
        exact j13 _ hf
      · replace hb14 := knIq hb14 h15
        refine kj_aloadn X 0 dX5_copySwitched_23 rfl ?_
        refine kj_iloadn X 2 dX5_copySwitched_24 rfl ?_
        obtain ⟨q16, h17, hb14⟩ := knBd_inv hb14
        refine kj_callV (As := [knV x3]) (rest := []) X K (kcX5_exchange l hx0 hx3 h17) knWvX5_exchange (knGm 428 (by decide +kernel) rfl) (by decide) (knKd_in hx0 (by decide)) (knEnt_3 hx0) rfl rfl rfl (Nat.le_of_ble_eq_true rfl) (by decide) dX5_copySwitched_25 rfl (fun h18 => ?_)
        cases hb14
        refine kj_sub (L' := [(0, knO G x0), (2, knV x2), (3, knV x3)]) [0, 1, 2] rfl ?_
        exact j13 _ hf

set_option maxHeartbeats 4000000 in
set_option maxRecDepth 100000 in
theorem kcX5_copySwitched {G : knGT} (l : Launch) {a0 : Int} {a1 : Int} {a2 : Int} (ha0 : knKd a0 = 3) (ha1 : knKd a1 = 3) (ha2 : knC a2) {μ : knMem} {q : knMem} (hf : kfX5_copySwitched a0 a1 a2 μ = some q) : knC0 G l yX5_copySwitched cX5_copySwitched 4 none 1 22 [knO G a0, knO G a1, knV a2] μ True none q := by
  unfold kfX5_copySwitched at hf
  refine kn_ofJ (plainFor_of_name (by decide)) (Nat.le_of_ble_eq_true rfl) (L := [(0, knO G a0), (1, knO G a1), (2, knV a2)]) rfl ?_
  intro p e s m args below meth c X K hr hlk
  refine kj_aloadn X 0 dX5_copySwitched_0 rfl ?_
  refine kj_aloadn X 1 dX5_copySwitched_1 rfl ?_
  obtain ⟨q1, h2, hf⟩ := knBd_inv hf
  refine kj_callV (As := [knO G a1]) (rest := []) X K (kcX5_copyFrom l ha0 ha1 h2) knWvX5_copyFrom (knGm 859 (by decide +kernel) rfl) (by decide) (knKd_in ha0 (by decide)) (knEnt_3 ha0) rfl rfl rfl (Nat.le_of_ble_eq_true rfl) (by decide) dX5_copySwitched_2 rfl (fun h3 => ?_)
  refine kj_iconst X dX5_copySwitched_5 ?_
  refine kj_istoren X (L' := [(3, knV 0), (0, knO G a0), (1, knO G a1), (2, knV a2)]) dX5_copySwitched_6 (by decide) rfl ?_
  refine kj_sub (L' := [(0, knO G a0), (2, knV a2), (3, knV 0)]) [1, 3, 0] rfl ?_
  refine kfX5_copySwitched_l7_ok X K hr hlk a0 a2 ha0 ha2  ?_ knF _ (show knC (0) from ⟨by omega, by omega⟩) _ hf
  intro w19_m
  intro hf
  cases hf
  exact kj_vret X trivial hr dX5_copySwitched_34 hlk

def kfX11_fewest_l4  (x1 : Int)  (kc : (Int × knMem) → Option (Int × knMem)) : Nat → Int → Int → knMem → Option (Int × knMem)
  | 0, _, _, _ => none
  | n + 1, x2, x3, μ =>
    Option.bind (kfX5_sets x1 μ) (fun q1 =>
     if q1 ≤ x3 then
      kc (x2, μ)
     else
      Option.bind (kfJ6_bitCount_0f7a4 x3 μ) (fun q5 =>
       Option.bind (α := Int × knMem)
        (if x2 = -1 then
         Option.bind (kfX5_copySwitched 133 x1 x3 μ) (fun q29 =>
          Option.bind (kfX5_simplify 133 q29) (fun q32 =>
           if (q32.2 133 3) = 0 then
            some (q5, (knUp q32.2 132 1 x3))
           else
            some (x2, q32.2)))
        else
         if x2 ≤ q5 then
          some (x2, μ)
         else
          Option.bind (kfX5_copySwitched 133 x1 x3 μ) (fun q38 =>
           Option.bind (kfX5_simplify 133 q38) (fun q41 =>
            if (q41.2 133 3) = 0 then
             some (q5, (knUp q41.2 132 1 x3))
            else
             some (x2, q41.2))))
        (fun q26 =>
        kfX11_fewest_l4  x1 kc n q26.1 (knW (x3 + 1)) q26.2)))

def kfX11_fewest (a1 : Int) (μ : knMem) : Option (Int × knMem) :=
 kfX11_fewest_l4 a1  (fun w46 =>
  some (w46.1, w46.2)) knF (-1) 0 μ

theorem knWvX11_fewest : knWv yX11_fewest cX11_fewest 5 (some .int) 1 := ⟨(knGm 847 (by decide +kernel) rfl), (knGm 121 (by decide +kernel) rfl), (knGm 845 (by decide +kernel) rfl), (knGm 846 (by decide +kernel) rfl), by decide +kernel, by decide +kernel, by decide +kernel⟩
set_option maxHeartbeats 4000000 in
set_option maxRecDepth 100000 in
theorem kfX11_fewest_l4_ok {q : Int × knMem} {kc : (Int × knMem) → Option (Int × knMem)} {G : knGT} {p : Program} {l : Launch} {e : Env} {s : State} {m : MethodId} {args : Array Value} {below : List Frame} {meth : Method} {c : Code} (X : knX p m c cX11_fewest 5 s args yX11_fewest.cls) (K : knK G s s.heap) (hr : meth.sig.returnType = (some .int)) (hlk : meth.locks = false) (x1 : Int) (hx1 : knKd x1 = 3)  (hk : ∀ (y2 : Int) (hy2 : knC y2) (μ1 : knMem), kc (y2, μ1) = some q → knJ G p l e { frames := 4, cells := 0, slots := 0, locals := 90 } s m args below meth c 5 0 0 (MQ below (knPo G (knC q.1) (some (knV q.1)) q.2) args s 0 0 (knA G)) 70 [(2, knV y2)] [] μ1) : ∀ (n : Nat) (x2 : Int) (hx2 : knC x2) (x3 : Int) (hx3 : knC x3) (μ : knMem), kfX11_fewest_l4  x1 kc n x2 x3 μ = some q → knJ G p l e { frames := 4, cells := 0, slots := 0, locals := 90 } s m args below meth c 5 0 0 (MQ below (knPo G (knC q.1) (some (knV q.1)) q.2) args s 0 0 (knA G)) 4 [(0, knO G 132), (1, knO G x1), (2, knV x2), (3, knV x3)] [] μ := by
  intro n
  induction n with
  | zero => intro x2 hx2 x3 hx3 μ hf; cases hf
  | succ n ih =>
    intro x2 hx2 x3 hx3 μ hf
    unfold kfX11_fewest_l4 at hf
    refine kj_iloadn X 3 dX11_fewest_4 rfl ?_
    refine kj_aloadn X 1 dX11_fewest_5 rfl ?_
    obtain ⟨q1, h2, hf⟩ := knBd_inv hf
    refine kj_callV (As := []) (rest := [knV x3]) X K (kcX5_sets l hx1 h2) knWvX5_sets (knGm 848 (by decide +kernel) rfl) (by decide) (knKd_in hx1 (by decide)) (knEnt_3 hx1) rfl rfl rfl (Nat.le_of_ble_eq_true rfl) (by decide) dX11_fewest_6 rfl (fun h3 => ?_)
    refine kj_ic_ge X (tgt := 70) dX11_fewest_9 (by decide) hx3 h3 (fun h4 => ?_) (fun h4 => ?_)
    · replace hf := knIp hf h4
      refine kj_sub (L' := [(2, knV x2)]) [2] rfl ?_
      exact hk _ hx2 _ hf
    · replace hf := knIq hf h4
      refine kj_iloadn X 3 dX11_fewest_12 rfl ?_
      obtain ⟨q5, h6, hf⟩ := knBd_inv hf
      refine kj_callS (As := [knV x3]) (rest := []) X K (kcJ6_bitCount_0f7a4 l hx3 h6) knWkJ6_bitCount_0f7a4 (knGm 849 (by decide +kernel) rfl) (by decide)  rfl (Nat.le_of_ble_eq_true rfl) (by decide) dX11_fewest_13 rfl (fun h7 => ?_)
      refine kj_istore X (L' := [(4, knV q5), (0, knO G 132), (1, knO G x1), (2, knV x2), (3, knV x3)]) dX11_fewest_16 (by decide) rfl ?_
      refine kj_iloadn X 3 dX11_fewest_18 rfl ?_
      refine kj_iconst X dX11_fewest_19 ?_
      have j26 : ∀ (t26_0 : Int) (ht26_0 : knC t26_0) (m26 : knMem), (fun q26 =>
       kfX11_fewest_l4  x1 kc n q26.1 (knW (x3 + 1)) q26.2) (t26_0, m26) = some q → knJ G p l e { frames := 4, cells := 0, slots := 0, locals := 90 } s m args below meth c 5 0 0 (MQ below (knPo G (knC q.1) (some (knV q.1)) q.2) args s 0 0 (knA G)) 64 [(0, knO G 132), (1, knO G x1), (2, knV t26_0), (3, knV x3)] [] m26 := by
        intro t26_0 ht26_0 m26
        intro hf
        refine kj_iinc X 3 (L' := [(3, knV (knW (x3 + 1))), (0, knO G 132), (1, knO G x1), (2, knV t26_0)]) dX11_fewest_64 rfl (by decide) rfl ?_
        refine kj_goto X (tgt := 4) dX11_fewest_67 (by decide) ?_
        refine kj_sub (L' := [(0, knO G 132), (1, knO G x1), (2, knV t26_0), (3, knV (knW (x3 + 1)))]) [1, 2, 3, 0] rfl ?_
        exact ih _ ht26_0 _ (knCw _) _ hf
      obtain ⟨b27, hb27, hf⟩ := knBd_inv hf
      refine kj_ic_eq X (tgt := 29) dX11_fewest_20 (by decide) hx2 (show knC (-1) from ⟨by omega, by omega⟩) (fun h28 => ?_) (fun h28 => ?_)
      · replace hb27 := knIp hb27 h28
        refine kj_aloadn X 1 dX11_fewest_29 rfl ?_
        refine kj_geto (k := 0) (o2 := 133) X K kdc_132 (by decide) (knEnt_8 kdc_132) rfl (by decide) knInX11 (knGm 309 (by decide +kernel) rfl) rfl rfl dX11_fewest_30 ?_
        refine kj_aloadn X 2 dX11_fewest_33 rfl ?_
        refine kj_iloadn X 4 dX11_fewest_34 rfl ?_
        obtain ⟨q29, h30, hb27⟩ := knBd_inv hb27
        refine kj_callV (As := [knO G x1, knV x3]) (rest := []) X K (kcX5_copySwitched l kdc_133 hx1 hx3 h30) knWvX5_copySwitched (knGm 855 (by decide +kernel) rfl) (by decide) (knKd_in kdc_133 (by decide)) (knEnt_3 kdc_133) rfl rfl rfl (Nat.le_of_ble_eq_true rfl) (by decide) dX11_fewest_35 rfl (fun h31 => ?_)
        refine kj_aloadn X 1 dX11_fewest_38 rfl ?_
        refine kj_geto (k := 0) (o2 := 133) X K kdc_132 (by decide) (knEnt_8 kdc_132) rfl (by decide) knInX11 (knGm 309 (by decide +kernel) rfl) rfl rfl dX11_fewest_39 ?_
        obtain ⟨q32, h33, hb27⟩ := knBd_inv hb27
        refine kj_callV (As := []) (rest := []) X K (kcX5_simplify l kdc_133 h33) knWvX5_simplify (knGm 861 (by decide +kernel) rfl) (by decide) (knKd_in kdc_133 (by decide)) (knEnt_3 kdc_133) rfl rfl rfl (Nat.le_of_ble_eq_true rfl) (by decide) dX11_fewest_42 rfl (fun h34 => ?_)
        refine kj_pop X dX11_fewest_45 rfl ?_
        refine kj_aloadn X 1 dX11_fewest_46 rfl ?_
        refine kj_geto (k := 0) (o2 := 133) X K kdc_132 (by decide) (knEnt_8 kdc_132) rfl (by decide) knInX11 (knGm 309 (by decide +kernel) rfl) rfl rfl dX11_fewest_47 ?_
        refine kj_geti (k := 3) (ki := 3) X K rfl kdc_133 (by decide) (knEnt_3 kdc_133) rfl (by decide) knInX5 (knGm 181 (by decide +kernel) rfl) rfl rfl dX11_fewest_50 (fun h35 => ?_)
        refine kj_if_ne X (tgt := 64) dX11_fewest_53 (by decide) h35 (fun h36 => ?_) (fun h36 => ?_)
        · replace hb27 := knIq hb27 h36
          cases hb27
          refine kj_sub (L' := [(0, knO G 132), (1, knO G x1), (2, knV x2), (3, knV x3)]) [1, 2, 3, 4] rfl ?_
          exact j26 _ hx2 _ hf
        · replace hb27 := knIp hb27 h36
          refine kj_iload X 0 dX11_fewest_56 rfl ?_
          refine kj_istoren X (L' := [(2, knV q5), (4, knV q5), (0, knO G 132), (1, knO G x1), (3, knV x3)]) dX11_fewest_58 (by decide) rfl ?_
          refine kj_aloadn X 2 dX11_fewest_59 rfl ?_
          refine kj_iloadn X 4 dX11_fewest_60 rfl ?_
          refine kj_putf (k := 1) (ki := 1) (x := x3) (ty := .int) X K rfl (knKd_in kdc_132 (by decide)) (knEnt_8 kdc_132) rfl (by decide) knInX11 tyX11_ok nmX11 (knGm 310 (by decide +kernel) rfl) rfl rfl (by decide +kernel) rfl rfl (by simp) (by rw [knEnt_8 kdc_132, knUp_row]; rfl) (fun _ => hx3) (fun h => by rw [kdc_132] at h; cases h) (fun h => by rw [kdc_132] at h; cases h) dX11_fewest_61 ?_
          cases hb27
          refine kj_sub (L' := [(0, knO G 132), (1, knO G x1), (2, knV q5), (3, knV x3)]) [2, 3, 0, 4] rfl ?_
          exact j26 _ h7 _ hf
      · replace hb27 := knIq hb27 h28
        refine kj_iload X 0 dX11_fewest_23 rfl ?_
        refine kj_iloadn X 3 dX11_fewest_25 rfl ?_
        refine kj_ic_ge X (tgt := 64) dX11_fewest_26 (by decide) h7 hx2 (fun h37 => ?_) (fun h37 => ?_)
        · replace hb27 := knIp hb27 h37
          cases hb27
          refine kj_sub (L' := [(0, knO G 132), (1, knO G x1), (2, knV x2), (3, knV x3)]) [1, 2, 3, 4] rfl ?_
          exact j26 _ hx2 _ hf
        · replace hb27 := knIq hb27 h37
          refine kj_aloadn X 1 dX11_fewest_29 rfl ?_
          refine kj_geto (k := 0) (o2 := 133) X K kdc_132 (by decide) (knEnt_8 kdc_132) rfl (by decide) knInX11 (knGm 309 (by decide +kernel) rfl) rfl rfl dX11_fewest_30 ?_
          refine kj_aloadn X 2 dX11_fewest_33 rfl ?_
          refine kj_iloadn X 4 dX11_fewest_34 rfl ?_
          obtain ⟨q38, h39, hb27⟩ := knBd_inv hb27
          refine kj_callV (As := [knO G x1, knV x3]) (rest := []) X K (kcX5_copySwitched l kdc_133 hx1 hx3 h39) knWvX5_copySwitched (knGm 855 (by decide +kernel) rfl) (by decide) (knKd_in kdc_133 (by decide)) (knEnt_3 kdc_133) rfl rfl rfl (Nat.le_of_ble_eq_true rfl) (by decide) dX11_fewest_35 rfl (fun h40 => ?_)
          refine kj_aloadn X 1 dX11_fewest_38 rfl ?_
          refine kj_geto (k := 0) (o2 := 133) X K kdc_132 (by decide) (knEnt_8 kdc_132) rfl (by decide) knInX11 (knGm 309 (by decide +kernel) rfl) rfl rfl dX11_fewest_39 ?_
          obtain ⟨q41, h42, hb27⟩ := knBd_inv hb27
          refine kj_callV (As := []) (rest := []) X K (kcX5_simplify l kdc_133 h42) knWvX5_simplify (knGm 861 (by decide +kernel) rfl) (by decide) (knKd_in kdc_133 (by decide)) (knEnt_3 kdc_133) rfl rfl rfl (Nat.le_of_ble_eq_true rfl) (by decide) dX11_fewest_42 rfl (fun h43 => ?_)
          refine kj_pop X dX11_fewest_45 rfl ?_
          refine kj_aloadn X 1 dX11_fewest_46 rfl ?_
          refine kj_geto (k := 0) (o2 := 133) X K kdc_132 (by decide) (knEnt_8 kdc_132) rfl (by decide) knInX11 (knGm 309 (by decide +kernel) rfl) rfl rfl dX11_fewest_47 ?_
          refine kj_geti (k := 3) (ki := 3) X K rfl kdc_133 (by decide) (knEnt_3 kdc_133) rfl (by decide) knInX5 (knGm 181 (by decide +kernel) rfl) rfl rfl dX11_fewest_50 (fun h44 => ?_)
          refine kj_if_ne X (tgt := 64) dX11_fewest_53 (by decide) h44 (fun h45 => ?_) (fun h45 => ?_)
          · replace hb27 := knIq hb27 h45
            cases hb27
            refine kj_sub (L' := [(0, knO G 132), (1, knO G x1), (2, knV x2), (3, knV x3)]) [1, 2, 3, 4] rfl ?_
            exact j26 _ hx2 _ hf
          · replace hb27 := knIp hb27 h45
            refine kj_iload X 0 dX11_fewest_56 rfl ?_
            refine kj_istoren X (L' := [(2, knV q5), (4, knV q5), (0, knO G 132), (1, knO G x1), (3, knV x3)]) dX11_fewest_58 (by decide) rfl ?_
            refine kj_aloadn X 2 dX11_fewest_59 rfl ?_
            refine kj_iloadn X 4 dX11_fewest_60 rfl ?_
            refine kj_putf (k := 1) (ki := 1) (x := x3) (ty := .int) X K rfl (knKd_in kdc_132 (by decide)) (knEnt_8 kdc_132) rfl (by decide) knInX11 tyX11_ok nmX11 (knGm 310 (by decide +kernel) rfl) rfl rfl (by decide +kernel) rfl rfl (by simp) (by rw [knEnt_8 kdc_132, knUp_row]; rfl) (fun _ => hx3) (fun h => by rw [kdc_132] at h; cases h) (fun h => by rw [kdc_132] at h; cases h) dX11_fewest_61 ?_
            cases hb27
            refine kj_sub (L' := [(0, knO G 132), (1, knO G x1), (2, knV q5), (3, knV x3)]) [2, 3, 0, 4] rfl ?_
            exact j26 _ h7 _ hf

set_option maxHeartbeats 4000000 in
set_option maxRecDepth 100000 in
theorem kcX11_fewest {G : knGT} (l : Launch) {a1 : Int} (ha1 : knKd a1 = 3) {μ : knMem} {q : Int × knMem} (hf : kfX11_fewest a1 μ = some q) : knC0 G l yX11_fewest cX11_fewest 5 (some .int) 4 90 [knO G 132, knO G a1] μ (knC q.1) (some (knV q.1)) q.2 := by
  unfold kfX11_fewest at hf
  refine kn_ofJ (plainFor_of_name (by decide)) (Nat.le_of_ble_eq_true rfl) (L := [(0, knO G 132), (1, knO G a1)]) rfl ?_
  intro p e s m args below meth c X K hr hlk
  refine kj_iconst X dX11_fewest_0 ?_
  refine kj_istoren X (L' := [(2, knV (-1)), (0, knO G 132), (1, knO G a1)]) dX11_fewest_1 (by decide) rfl ?_
  refine kj_iconst X dX11_fewest_2 ?_
  refine kj_istoren X (L' := [(3, knV 0), (2, knV (-1)), (0, knO G 132), (1, knO G a1)]) dX11_fewest_3 (by decide) rfl ?_
  refine kj_sub (L' := [(0, knO G 132), (1, knO G a1), (2, knV (-1)), (3, knV 0)]) [2, 3, 1, 0] rfl ?_
  refine kfX11_fewest_l4_ok X K hr hlk a1 ha1  ?_ knF _ (show knC (-1) from ⟨by omega, by omega⟩) _ (show knC (0) from ⟨by omega, by omega⟩) _ hf
  intro w46_0 hw46_0 w46_m
  intro hf
  refine kj_iloadn X 0 dX11_fewest_70 rfl ?_
  cases hf
  exact kj_iret X hw46_0 hr dX11_fewest_71 hlk

def kfX12_requireSwitches (a0 : Int) (μ : knMem) : Option (Int × Int) :=
 if a0 = -1 then
  some (5, 0)
 else
  some (0, a0)

theorem knWkX12_requireSwitches : knWk yX12_requireSwitches cX12_requireSwitches 1 (some .int) 1 := ⟨(knGm 1167 (by decide +kernel) rfl), (knGm 114 (by decide +kernel) rfl), (knGm 1166 (by decide +kernel) rfl), by decide +kernel, by decide +kernel, by decide +kernel⟩
set_option maxHeartbeats 4000000 in
set_option maxRecDepth 100000 in
theorem kcX12_requireSwitches {G : knGT} (l : Launch) (hl : l.stackTraces = false) {a0 : Int} (ha0 : knC a0) {μ : knMem} {q : Int × Int} (hf : kfX12_requireSwitches a0 μ = some q) : knCx G l yX12_requireSwitches cX12_requireSwitches 1 (some .int) 6 100 1 6 [knV a0] μ (knC q.2) q.1 (some (knV q.2)) μ := by
  unfold kfX12_requireSwitches at hf
  refine kn_ofJx (by decide) (Nat.le_of_ble_eq_true rfl) (L := [(0, knV a0)]) rfl ?_
  intro p e s m args below meth c X K hr hlk hnx
  refine kj_iloadn X 0 dX12_requireSwitches_0 rfl ?_
  refine kj_iconst X dX12_requireSwitches_1 ?_
  refine kj_ic_ne X (tgt := 16) dX12_requireSwitches_2 (by decide) ha0 (show knC (-1) from ⟨by omega, by omega⟩) (fun h1 => ?_) (fun h1 => ?_)
  · replace hf := knIq hf h1
    refine kj_iloadn X 0 dX12_requireSwitches_16 rfl ?_
    cases hf
    exact kjx_iret X ha0 rfl (by decide) (by decide) hr dX12_requireSwitches_17 hlk
  · replace hf := knIp hf h1
    cases hf
    exact kjx_throw5W X K hl (i := 4) (by show (5 : Int) ≠ 0; decide) rfl (by decide +kernel) (by decide) rfl rfl knTh5.1 knTh5.2 dX12_requireSwitches_5 dX12_requireSwitches_8 dX12_requireSwitches_9 dX12_requireSwitches_12 dX12_requireSwitches_15 hnx (by decide) hlk (by decide) (by decide)

def kfX12_switches  (μ : knMem) : Option (Int × Int × knMem) :=
 Option.bind (kfX11_fewest 2 μ) (fun q1 =>
  Option.bind (kfX12_requireSwitches q1.1 q1.2) (fun q4 =>
   if q4.1 = 0 then
   some (0, q4.2, q1.2)
   else
   some (q4.1, 0, q1.2)))

theorem knWvX12_switches : knWv yX12_switches cX12_switches 1 (some .int) 0 := ⟨(knGm 1164 (by decide +kernel) rfl), (knGm 114 (by decide +kernel) rfl), (knGm 1162 (by decide +kernel) rfl), (knGm 1163 (by decide +kernel) rfl), by decide +kernel, by decide +kernel, by decide +kernel⟩
set_option maxHeartbeats 4000000 in
set_option maxRecDepth 100000 in
theorem kcX12_switches {G : knGT} (l : Launch) (hl : l.stackTraces = false)   {μ : knMem} {q : Int × Int × knMem} (hf : kfX12_switches  μ = some q) : knCx G l yX12_switches cX12_switches 1 (some .int) 7 120 1 6 [knO G 0] μ (knC q.2.1) q.1 (some (knV q.2.1)) q.2.2 := by
  unfold kfX12_switches at hf
  refine kn_ofJx (by decide) (Nat.le_of_ble_eq_true rfl) (L := [(0, knO G 0)]) rfl ?_
  intro p e s m args below meth c X K hr hlk hnx
  refine kj_aloadn X 0 dX12_switches_0 rfl ?_
  refine kj_geto (k := 8) (o2 := 132) X K kdc_0 (by decide) (knEnt_9 kdc_0) rfl (by decide) knInX12 (knGm 369 (by decide +kernel) rfl) rfl rfl dX12_switches_1 ?_
  refine kj_aloadn X 0 dX12_switches_4 rfl ?_
  refine kj_geto (k := 1) (o2 := 2) X K kdc_0 (by decide) (knEnt_9 kdc_0) rfl (by decide) knInX12 (knGm 362 (by decide +kernel) rfl) rfl rfl dX12_switches_5 ?_
  obtain ⟨q1, h2, hf⟩ := knBd_inv hf
  refine kj_callV (As := [knO G 2]) (rest := []) X K (kcX11_fewest l kdc_2 h2) knWvX11_fewest (knGm 844 (by decide +kernel) rfl) (by decide) (knKd_in kdc_132 (by decide)) (knEnt_8 kdc_132) rfl rfl rfl (Nat.le_of_ble_eq_true rfl) (by decide) dX12_switches_8 rfl (fun h3 => ?_)
  obtain ⟨q4, h5, hf⟩ := knBd_inv hf
  refine kjx_callS (As := [knV q1.1]) (rest := []) X K (kcX12_requireSwitches l hl h3 h5) knWkX12_requireSwitches (knGm 1165 (by decide +kernel) rfl) (by decide)  rfl (Nat.le_of_ble_eq_true rfl) (by decide) dX12_switches_11 rfl (fun h7 h6 => ?_) (fun E8 h7 h9 => ?_)
  · replace hf := knIp hf h7
    cases hf
    exact kjx_iret X h6 rfl (by decide) (by decide) hr dX12_switches_14 hlk
  · replace hf := knIq hf h7
    cases hf
    exact kjx_out h7 h9 (by decide) (by decide) hnx hlk

def kfX12_firstSwitch_l17   (μ : knMem) (kc : (Unit) → Option (Int × Int × knMem)) : Nat → Int → Option (Int × Int × knMem)
  | 0, _ => none
  | n + 1, x1 =>
    if 7 ≤ x1 then
     kc ()
    else
     Option.bind (kfX12_isInSet x1 (μ 132 1) μ) (fun q12 =>
      if q12 = 0 then
       kfX12_firstSwitch_l17   μ kc n (knW (x1 + 1))
      else
       some (0, x1, μ))

def kfX12_firstSwitch  (μ : knMem) : Option (Int × Int × knMem) :=
 Option.bind (kfX11_fewest 2 μ) (fun q1 =>
  Option.bind (kfX12_requireSwitches q1.1 q1.2) (fun q4 =>
   if q4.1 = 0 then
   kfX12_firstSwitch_l17  q1.2 (fun _ =>
    some (0, -1, q1.2)) knF 0
   else
   some (q4.1, 0, q1.2)))

theorem knWvX12_firstSwitch : knWv yX12_firstSwitch cX12_firstSwitch 2 (some .int) 0 := ⟨(knGm 1181 (by decide +kernel) rfl), (knGm 114 (by decide +kernel) rfl), (knGm 1179 (by decide +kernel) rfl), (knGm 1180 (by decide +kernel) rfl), by decide +kernel, by decide +kernel, by decide +kernel⟩
set_option maxHeartbeats 4000000 in
set_option maxRecDepth 100000 in
theorem kfX12_firstSwitch_l17_ok {q : Int × Int × knMem} {kc : (Unit) → Option (Int × Int × knMem)} {G : knGT} {p : Program} {l : Launch} {e : Env} {s : State} {m : MethodId} {args : Array Value} {below : List Frame} {meth : Method} {c : Code} (X : knX p m c cX12_firstSwitch 2 s args yX12_firstSwitch.cls) (K : knK G s s.heap) (hr : meth.sig.returnType = (some .int)) (hlk : meth.locks = false) (hl : l.stackTraces = false) (hnx : ∀ z ∈ c.exceptionTable.toList, False)   (μ : knMem) (hk : kc () = some q → knJ G p l e { frames := 7, cells := 1, slots := 6, locals := 120 } s m args below meth c 2 (0 + 1) (0 + 6) (vx_MQ below (knPx G (knC q.2.1) q.1 (some (knV q.2.1)) q.2.2) (knXC G q.1 q.2.2) args s 1 6 (knA G)) 45 [] [] μ) : ∀ (n : Nat) (x1 : Int) (hx1 : knC x1) , kfX12_firstSwitch_l17   μ kc n x1 = some q → knJ G p l e { frames := 7, cells := 1, slots := 6, locals := 120 } s m args below meth c 2 (0 + 1) (0 + 6) (vx_MQ below (knPx G (knC q.2.1) q.1 (some (knV q.2.1)) q.2.2) (knXC G q.1 q.2.2) args s 1 6 (knA G)) 17 [(0, knO G 0), (1, knV x1)] [] μ := by
  intro n
  induction n with
  | zero => intro x1 hx1 hf; cases hf
  | succ n ih =>
    intro x1 hx1 hf
    unfold kfX12_firstSwitch_l17 at hf
    refine kj_iloadn X 1 dX12_firstSwitch_17 rfl ?_
    refine kj_bipush X (n := 7) dX12_firstSwitch_18 rfl ?_
    refine kj_ic_ge X (tgt := 45) dX12_firstSwitch_20 (by decide) hx1 (show knC (7) from ⟨by omega, by omega⟩) (fun h10 => ?_) (fun h10 => ?_)
    · replace hf := knIp hf h10
      refine kj_sub (L' := []) [] rfl ?_
      exact hk  hf
    · replace hf := knIq hf h10
      refine kj_iloadn X 1 dX12_firstSwitch_23 rfl ?_
      refine kj_aloadn X 0 dX12_firstSwitch_24 rfl ?_
      refine kj_geto (k := 8) (o2 := 132) X K kdc_0 (by decide) (knEnt_9 kdc_0) rfl (by decide) knInX12 (knGm 369 (by decide +kernel) rfl) rfl rfl dX12_firstSwitch_25 ?_
      refine kj_geti (k := 1) (ki := 1) X K rfl kdc_132 (by decide) (knEnt_8 kdc_132) rfl (by decide) knInX11 (knGm 311 (by decide +kernel) rfl) rfl rfl dX12_firstSwitch_28 (fun h11 => ?_)
      obtain ⟨q12, h13, hf⟩ := knBd_inv hf
      refine kj_callS (As := [knV x1, knV (μ 132 1)]) (rest := []) X K (kcX12_isInSet l hx1 h11 h13) knWkX12_isInSet (knGm 1182 (by decide +kernel) rfl) (by decide)  rfl (Nat.le_of_ble_eq_true rfl) (by decide) dX12_firstSwitch_31 rfl (fun h14 => ?_)
      refine kj_if_eq X (tgt := 39) dX12_firstSwitch_34 (by decide) (knZ_c h14) (fun h15 => ?_) (fun h15 => ?_)
      · replace hf := knIp hf h15
        refine kj_iinc X 1 (L' := [(1, knV (knW (x1 + 1))), (0, knO G 0)]) dX12_firstSwitch_39 rfl (by decide) rfl ?_
        refine kj_goto X (tgt := 17) dX12_firstSwitch_42 (by decide) ?_
        refine kj_sub (L' := [(0, knO G 0), (1, knV (knW (x1 + 1)))]) [1, 0] rfl ?_
        exact ih _ (knCw _)  hf
      · replace hf := knIq hf h15
        refine kj_iloadn X 1 dX12_firstSwitch_37 rfl ?_
        cases hf
        exact kjx_iret X hx1 rfl (by decide) (by decide) hr dX12_firstSwitch_38 hlk

set_option maxHeartbeats 4000000 in
set_option maxRecDepth 100000 in
theorem kcX12_firstSwitch {G : knGT} (l : Launch) (hl : l.stackTraces = false)   {μ : knMem} {q : Int × Int × knMem} (hf : kfX12_firstSwitch  μ = some q) : knCx G l yX12_firstSwitch cX12_firstSwitch 2 (some .int) 7 120 1 6 [knO G 0] μ (knC q.2.1) q.1 (some (knV q.2.1)) q.2.2 := by
  unfold kfX12_firstSwitch at hf
  refine kn_ofJx (by decide) (Nat.le_of_ble_eq_true rfl) (L := [(0, knO G 0)]) rfl ?_
  intro p e s m args below meth c X K hr hlk hnx
  refine kj_aloadn X 0 dX12_firstSwitch_0 rfl ?_
  refine kj_geto (k := 8) (o2 := 132) X K kdc_0 (by decide) (knEnt_9 kdc_0) rfl (by decide) knInX12 (knGm 369 (by decide +kernel) rfl) rfl rfl dX12_firstSwitch_1 ?_
  refine kj_aloadn X 0 dX12_firstSwitch_4 rfl ?_
  refine kj_geto (k := 1) (o2 := 2) X K kdc_0 (by decide) (knEnt_9 kdc_0) rfl (by decide) knInX12 (knGm 362 (by decide +kernel) rfl) rfl rfl dX12_firstSwitch_5 ?_
  obtain ⟨q1, h2, hf⟩ := knBd_inv hf
  refine kj_callV (As := [knO G 2]) (rest := []) X K (kcX11_fewest l kdc_2 h2) knWvX11_fewest (knGm 844 (by decide +kernel) rfl) (by decide) (knKd_in kdc_132 (by decide)) (knEnt_8 kdc_132) rfl rfl rfl (Nat.le_of_ble_eq_true rfl) (by decide) dX12_firstSwitch_8 rfl (fun h3 => ?_)
  obtain ⟨q4, h5, hf⟩ := knBd_inv hf
  refine kjx_callS (As := [knV q1.1]) (rest := []) X K (kcX12_requireSwitches l hl h3 h5) knWkX12_requireSwitches (knGm 1165 (by decide +kernel) rfl) (by decide)  rfl (Nat.le_of_ble_eq_true rfl) (by decide) dX12_firstSwitch_11 rfl (fun h7 h6 => ?_) (fun E8 h7 h9 => ?_)
  · replace hf := knIp hf h7
    refine kj_pop X dX12_firstSwitch_14 rfl ?_
    refine kj_iconst X dX12_firstSwitch_15 ?_
    refine kj_istoren X (L' := [(1, knV 0), (0, knO G 0)]) dX12_firstSwitch_16 (by decide) rfl ?_
    refine kj_sub (L' := [(0, knO G 0), (1, knV 0)]) [1, 0] rfl ?_
    refine kfX12_firstSwitch_l17_ok X K hr hlk hl hnx   q1.2 ?_ knF _ (show knC (0) from ⟨by omega, by omega⟩)  hf
    intro hf
    refine kj_iconst X dX12_firstSwitch_45 ?_
    cases hf
    exact kjx_iret X (show knC (-1) from ⟨by omega, by omega⟩) rfl (by decide) (by decide) hr dX12_firstSwitch_46 hlk
  · replace hf := knIq hf h7
    cases hf
    exact kjx_out h7 h9 (by decide) (by decide) hnx hlk

def kfX1_enter (a0 : Int) (μ : knMem) : Option (Int × knMem) :=
 if (μ a0 3) < 4 then
  knGd (0 ≤ (μ a0 3) ∧ (μ a0 3) < 4)
   (knGd (0 ≤ ((knUp μ (a0 + 1) (μ a0 3) 100) a0 3) ∧ ((knUp μ (a0 + 1) (μ a0 3) 100) a0 3) < 4)
   (knGd (0 ≤ ((knUp (knUp μ (a0 + 1) (μ a0 3) 100) (a0 + 2) ((knUp μ (a0 + 1) (μ a0 3) 100) a0 3) 0) a0 3) ∧ ((knUp (knUp μ (a0 + 1) (μ a0 3) 100) (a0 + 2) ((knUp μ (a0 + 1) (μ a0 3) 100) a0 3) 0) a0 3) < 4)
   (some (0, (knUp (knUp (knUp (knUp μ (a0 + 1) (μ a0 3) 100) (a0 + 2) ((knUp μ (a0 + 1) (μ a0 3) 100) a0 3) 0) (a0 + 3) ((knUp (knUp μ (a0 + 1) (μ a0 3) 100) (a0 + 2) ((knUp μ (a0 + 1) (μ a0 3) 100) a0 3) 0) a0 3) 0) a0 3 (knW (((knUp (knUp (knUp μ (a0 + 1) (μ a0 3) 100) (a0 + 2) ((knUp μ (a0 + 1) (μ a0 3) 100) a0 3) 0) (a0 + 3) ((knUp (knUp μ (a0 + 1) (μ a0 3) 100) (a0 + 2) ((knUp μ (a0 + 1) (μ a0 3) 100) a0 3) 0) a0 3) 0) a0 3) + 1)))))))
 else
  some (3, μ)

theorem knWvX1_enter : knWv yX1_enter cX1_enter 1 (some (.object "KnotLaboratory$Refusal")) 0 := ⟨(knGm 1193 (by decide +kernel) rfl), (knGm 117 (by decide +kernel) rfl), (knGm 1191 (by decide +kernel) rfl), (knGm 1192 (by decide +kernel) rfl), by decide +kernel, by decide +kernel, by decide +kernel⟩
set_option maxHeartbeats 4000000 in
set_option maxRecDepth 100000 in
theorem kcX1_enter {G : knGT} (l : Launch) {a0 : Int} (ha0 : knKd a0 = 0) {μ : knMem} {q : Int × knMem} (hf : kfX1_enter a0 μ = some q) : knC0 G l yX1_enter cX1_enter 1 (some (.object "KnotLaboratory$Refusal")) 0 0 [knO G a0] μ (0 ≤ q.1 ∧ q.1 < 6) (some (knRf G q.1)) q.2 := by
  unfold kfX1_enter at hf
  refine kn_ofJ (plainFor_of_name (by decide)) (Nat.le_of_ble_eq_true rfl) (L := [(0, knO G a0)]) rfl ?_
  intro p e s m args below meth c X K hr hlk
  refine kj_aloadn X 0 dX1_enter_0 rfl ?_
  refine kj_geti (k := 3) (ki := 3) X K rfl ha0 (by decide) (knEnt_0 ha0) rfl (by decide) knInX1 (knGm 205 (by decide +kernel) rfl) rfl rfl dX1_enter_1 (fun h1 => ?_)
  refine kj_iconst X dX1_enter_4 ?_
  refine kj_ic_lt X (tgt := 12) dX1_enter_5 (by decide) h1 (show knC (4) from ⟨by omega, by omega⟩) (fun h2 => ?_) (fun h2 => ?_)
  · replace hf := knIp hf h2
    refine kj_aloadn X 0 dX1_enter_12 rfl ?_
    refine kj_geto (k := 0) (o2 := (a0 + 1)) X K ha0 (by decide) (knEnt_0 ha0) rfl (by decide) knInX1 (knGm 199 (by decide +kernel) rfl) rfl rfl dX1_enter_13 ?_
    refine kj_aloadn X 0 dX1_enter_16 rfl ?_
    refine kj_geti (k := 3) (ki := 3) X K rfl ha0 (by decide) (knEnt_0 ha0) rfl (by decide) knInX1 (knGm 205 (by decide +kernel) rfl) rfl rfl dX1_enter_17 (fun h3 => ?_)
    refine kj_bipush X (n := 100) dX1_enter_20 rfl ?_
    obtain ⟨h4, hf⟩ := knGd_inv hf
    refine kj_iast X K (knD0 ha0).1.1 h3 (show knC (100) from ⟨by omega, by omega⟩) (knD0 ha0).2.1 h4 dX1_enter_22 ?_
    refine kj_aloadn X 0 dX1_enter_23 rfl ?_
    refine kj_geto (k := 1) (o2 := (a0 + 2)) X K ha0 (by decide) (knEnt_0 ha0) rfl (by decide) knInX1 (knGm 201 (by decide +kernel) rfl) rfl rfl dX1_enter_24 ?_
    refine kj_aloadn X 0 dX1_enter_27 rfl ?_
    refine kj_geti (k := 3) (ki := 3) X K rfl ha0 (by decide) (knEnt_0 ha0) rfl (by decide) knInX1 (knGm 205 (by decide +kernel) rfl) rfl rfl dX1_enter_28 (fun h5 => ?_)
    refine kj_iconst X dX1_enter_31 ?_
    obtain ⟨h6, hf⟩ := knGd_inv hf
    refine kj_iast X K (knD0 ha0).1.2.1 h5 (show knC (0) from ⟨by omega, by omega⟩) (knD0 ha0).2.2.1 h6 dX1_enter_32 ?_
    refine kj_aloadn X 0 dX1_enter_33 rfl ?_
    refine kj_geto (k := 2) (o2 := (a0 + 3)) X K ha0 (by decide) (knEnt_0 ha0) rfl (by decide) knInX1 (knGm 203 (by decide +kernel) rfl) rfl rfl dX1_enter_34 ?_
    refine kj_aloadn X 0 dX1_enter_37 rfl ?_
    refine kj_geti (k := 3) (ki := 3) X K rfl ha0 (by decide) (knEnt_0 ha0) rfl (by decide) knInX1 (knGm 205 (by decide +kernel) rfl) rfl rfl dX1_enter_38 (fun h7 => ?_)
    refine kj_iconst X dX1_enter_41 ?_
    obtain ⟨h8, hf⟩ := knGd_inv hf
    refine kj_iast X K (knD0 ha0).1.2.2 h7 (show knC (0) from ⟨by omega, by omega⟩) (knD0 ha0).2.2.2 h8 dX1_enter_42 ?_
    refine kj_aloadn X 0 dX1_enter_43 rfl ?_
    refine kj_dup X dX1_enter_44 rfl ?_
    refine kj_geti (k := 3) (ki := 3) X K rfl ha0 (by decide) (knEnt_0 ha0) rfl (by decide) knInX1 (knGm 205 (by decide +kernel) rfl) rfl rfl dX1_enter_45 (fun h9 => ?_)
    refine kj_iconst X dX1_enter_48 ?_
    refine kj_iadd X dX1_enter_49 ?_
    refine kj_putf (k := 3) (ki := 3) (x := (knW (((knUp (knUp (knUp μ (a0 + 1) (μ a0 3) 100) (a0 + 2) ((knUp μ (a0 + 1) (μ a0 3) 100) a0 3) 0) (a0 + 3) ((knUp (knUp μ (a0 + 1) (μ a0 3) 100) (a0 + 2) ((knUp μ (a0 + 1) (μ a0 3) 100) a0 3) 0) a0 3) 0) a0 3) + 1))) (ty := .int) X K rfl (knKd_in ha0 (by decide)) (knEnt_0 ha0) rfl (by decide) knInX1 tyX1_ok nmX1 (knGm 205 (by decide +kernel) rfl) rfl rfl (by decide +kernel) rfl rfl (by simp) (by rw [knEnt_0 ha0, knUp_row]; rfl) (fun _ => (knCw _)) (fun h => by rw [ha0] at h; cases h) (fun h => by rw [ha0] at h; cases h) dX1_enter_50 ?_
    refine kj_refusal X K (i := 0) (by decide) (knGm 1195 (by decide +kernel) rfl) dX1_enter_53 ?_
    cases hf
    exact kj_aret X (show 0 ≤ (0 : Int) ∧ (0 : Int) < 6 from ⟨by omega, by omega⟩) hr (Or.inl ⟨_, rfl⟩) (Or.inr ⟨_, rfl⟩) dX1_enter_56 hlk
  · replace hf := knIq hf h2
    refine kj_refusal X K (i := 3) (by decide) (knGm 1194 (by decide +kernel) rfl) dX1_enter_8 ?_
    cases hf
    exact kj_aret X (show 0 ≤ (3 : Int) ∧ (3 : Int) < 6 from ⟨by omega, by omega⟩) hr (Or.inl ⟨_, rfl⟩) (Or.inr ⟨_, rfl⟩) dX1_enter_11 hlk

def kfX12_addPlayer  (μ : knMem) : Option (Int × Int × knMem) :=
 Option.bind (kfX6_stage 1 μ) (fun q1 =>
  Option.bind (kfX1_enter 6 q1) (fun q4 =>
   Option.bind (kfX12_finishChange q4.1 q4.2) (fun q7 =>
    if q7.1 = 0 then
    some (0, (knW ((q7.2 6 3) - 1)), q7.2)
    else
    some (q7.1, 0, q7.2))))

theorem knWvX12_addPlayer : knWv yX12_addPlayer cX12_addPlayer 1 (some .int) 0 := ⟨(knGm 1189 (by decide +kernel) rfl), (knGm 114 (by decide +kernel) rfl), (knGm 1187 (by decide +kernel) rfl), (knGm 1188 (by decide +kernel) rfl), by decide +kernel, by decide +kernel, by decide +kernel⟩
set_option maxHeartbeats 4000000 in
set_option maxRecDepth 100000 in
theorem kcX12_addPlayer {G : knGT} (l : Launch) (hl : l.stackTraces = false)   {μ : knMem} {q : Int × Int × knMem} (hf : kfX12_addPlayer  μ = some q) : knCx G l yX12_addPlayer cX12_addPlayer 1 (some .int) 8 141 1 6 [knO G 0] μ (knC q.2.1) q.1 (some (knV q.2.1)) q.2.2 := by
  unfold kfX12_addPlayer at hf
  refine kn_ofJx (by decide) (Nat.le_of_ble_eq_true rfl) (L := [(0, knO G 0)]) rfl ?_
  intro p e s m args below meth c X K hr hlk hnx
  refine kj_aloadn X 0 dX12_addPlayer_0 rfl ?_
  refine kj_geto (k := 5) (o2 := 23) X K kdc_0 (by decide) (knEnt_9 kdc_0) rfl (by decide) knInX12 (knGm 366 (by decide +kernel) rfl) rfl rfl dX12_addPlayer_1 ?_
  refine kj_aloadn X 0 dX12_addPlayer_4 rfl ?_
  refine kj_geto (k := 0) (o2 := 1) X K kdc_0 (by decide) (knEnt_9 kdc_0) rfl (by decide) knInX12 (knGm 361 (by decide +kernel) rfl) rfl rfl dX12_addPlayer_5 ?_
  obtain ⟨q1, h2, hf⟩ := knBd_inv hf
  refine kj_callV (As := [knO G 1]) (rest := []) X K (kcX6_stage l kdc_1 h2) knWvX6_stage (knGm 408 (by decide +kernel) rfl) (by decide) (knKd_in kdc_23 (by decide)) (knEnt_4 kdc_23) rfl rfl rfl (Nat.le_of_ble_eq_true rfl) (by decide) dX12_addPlayer_8 rfl (fun h3 => ?_)
  refine kj_aloadn X 0 dX12_addPlayer_11 rfl ?_
  refine kj_aloadn X 0 dX12_addPlayer_12 rfl ?_
  refine kj_geto (k := 2) (o2 := 6) X K kdc_0 (by decide) (knEnt_9 kdc_0) rfl (by decide) knInX12 (knGm 363 (by decide +kernel) rfl) rfl rfl dX12_addPlayer_13 ?_
  obtain ⟨q4, h5, hf⟩ := knBd_inv hf
  refine kj_callV (As := []) (rest := [knO G 0]) X K (kcX1_enter l kdc_6 h5) knWvX1_enter (knGm 1190 (by decide +kernel) rfl) (by decide) (knKd_in kdc_6 (by decide)) (knEnt_0 kdc_6) rfl rfl rfl (Nat.le_of_ble_eq_true rfl) (by decide) dX12_addPlayer_16 rfl (fun h6 => ?_)
  obtain ⟨q7, h8, hf⟩ := knBd_inv hf
  refine kjx_callV (As := [knRf G q4.1]) (rest := []) X K (kcX12_finishChange l hl h6 h8) knWvX12_finishChange (knGm 434 (by decide +kernel) rfl) (by decide) (knKd_in kdc_0 (by decide)) (knEnt_9 kdc_0) rfl rfl rfl (Nat.le_of_ble_eq_true rfl) (by decide) dX12_addPlayer_19 rfl (fun h10 h9 => ?_) (fun E11 h10 h12 => ?_)
  · replace hf := knIp hf h10
    refine kj_aloadn X 0 dX12_addPlayer_22 rfl ?_
    refine kj_geto (k := 2) (o2 := 6) X K kdc_0 (by decide) (knEnt_9 kdc_0) rfl (by decide) knInX12 (knGm 363 (by decide +kernel) rfl) rfl rfl dX12_addPlayer_23 ?_
    refine kj_geti (k := 3) (ki := 3) X K rfl kdc_6 (by decide) (knEnt_0 kdc_6) rfl (by decide) knInX1 (knGm 206 (by decide +kernel) rfl) rfl rfl dX12_addPlayer_26 (fun h13 => ?_)
    refine kj_iconst X dX12_addPlayer_29 ?_
    refine kj_isub X dX12_addPlayer_30 ?_
    cases hf
    exact kjx_iret X (knCw _) rfl (by decide) (by decide) hr dX12_addPlayer_31 hlk
  · replace hf := knIq hf h10
    cases hf
    exact kjx_out h10 h12 (by decide) (by decide) hnx hlk

def kfX1_hasPlayer (a0 : Int) (a1 : Int) (μ : knMem) : Option (Int) :=
 (fun (k4 : (Unit) → Option (Int)) =>
  if a1 < 0 then
   k4 ()
  else
   if (μ a0 3) ≤ a1 then
    k4 ()
   else
    some 1)
  (fun _ =>
  some 0)

theorem knWvX1_hasPlayer : knWv yX1_hasPlayer cX1_hasPlayer 2 (some .boolean) 1 := ⟨(knGm 1210 (by decide +kernel) rfl), (knGm 117 (by decide +kernel) rfl), (knGm 1208 (by decide +kernel) rfl), (knGm 1209 (by decide +kernel) rfl), by decide +kernel, by decide +kernel, by decide +kernel⟩
set_option maxHeartbeats 4000000 in
set_option maxRecDepth 100000 in
theorem kcX1_hasPlayer {G : knGT} (l : Launch) {a0 : Int} {a1 : Int} (ha0 : knKd a0 = 0) (ha1 : knC a1) {μ : knMem} {q : Int} (hf : kfX1_hasPlayer a0 a1 μ = some q) : knC0 G l yX1_hasPlayer cX1_hasPlayer 2 (some .boolean) 0 0 [knO G a0, knV a1] μ (knZ q) (some (knV q)) μ := by
  unfold kfX1_hasPlayer at hf
  refine kn_ofJ (plainFor_of_name (by decide)) (Nat.le_of_ble_eq_true rfl) (L := [(0, knO G a0), (1, knV a1)]) rfl ?_
  intro p e s m args below meth c X K hr hlk
  refine kj_iloadn X 1 dX1_hasPlayer_0 rfl ?_
  have j4 : (fun _ =>
   some 0) () = some q → knJ G p l e { frames := 0, cells := 0, slots := 0, locals := 0 } s m args below meth c 2 0 0 (MQ below (knPo G (knZ q) (some (knV q)) μ) args s 0 0 (knA G)) 16 [] [] μ := by
    intro hf
    refine kj_iconst X dX1_hasPlayer_16 ?_
    cases hf
    exact kj_zret X (Or.inl rfl) hr (kn_nb (Or.inl rfl)) dX1_hasPlayer_17 hlk
  refine kj_if_lt X (tgt := 16) dX1_hasPlayer_1 (by decide) ha1 (fun h6 => ?_) (fun h6 => ?_)
  · replace hf := knIp hf h6
    refine kj_sub (L' := []) [] rfl ?_
    exact j4  hf
  · replace hf := knIq hf h6
    refine kj_iloadn X 1 dX1_hasPlayer_4 rfl ?_
    refine kj_aloadn X 0 dX1_hasPlayer_5 rfl ?_
    refine kj_geti (k := 3) (ki := 3) X K rfl ha0 (by decide) (knEnt_0 ha0) rfl (by decide) knInX1 (knGm 205 (by decide +kernel) rfl) rfl rfl dX1_hasPlayer_6 (fun h7 => ?_)
    refine kj_ic_ge X (tgt := 16) dX1_hasPlayer_9 (by decide) ha1 h7 (fun h8 => ?_) (fun h8 => ?_)
    · replace hf := knIp hf h8
      refine kj_sub (L' := []) [] rfl ?_
      exact j4  hf
    · replace hf := knIq hf h8
      refine kj_iconst X dX1_hasPlayer_12 ?_
      refine kj_goto X (tgt := 17) dX1_hasPlayer_13 (by decide) ?_
      cases hf
      exact kj_zret X (Or.inr rfl) hr (kn_nb (Or.inr rfl)) dX1_hasPlayer_17 hlk

def kfX1_wager (a0 : Int) (a1 : Int) (a2 : Int) (a3 : Int) (μ : knMem) : Option (Int × knMem) :=
 Option.bind (kfX1_hasPlayer a0 a1 μ) (fun q1 =>
  if q1 = 0 then
   some (1, μ)
  else
   (fun (k15 : (Unit) → Option (Int × knMem)) =>
    if a2 < 0 then
     k15 ()
    else
     if 7 < a2 then
      k15 ()
     else
      if a3 < 1 then
       k15 ()
      else
       if a3 ≤ 99 then
        knGd (0 ≤ a1 ∧ a1 < 4)
         (if (μ (a0 + 3) a1) ≤ 0 then
         if a3 ≤ (μ (a0 + 1) a1) then
          some (0, (knUp (knUp (knUp μ (a0 + 1) a1 (knW ((μ (a0 + 1) a1) - a3))) (a0 + 2) a1 a2) (a0 + 3) a1 a3))
         else
          some (4, μ)
        else
         some (3, μ))
       else
        k15 ())
    (fun _ =>
    some (2, μ)))

theorem knWvX1_wager : knWv yX1_wager cX1_wager 4 (some (.object "KnotLaboratory$Refusal")) 3 := ⟨(knGm 1206 (by decide +kernel) rfl), (knGm 117 (by decide +kernel) rfl), (knGm 1204 (by decide +kernel) rfl), (knGm 1205 (by decide +kernel) rfl), by decide +kernel, by decide +kernel, by decide +kernel⟩
set_option maxHeartbeats 4000000 in
set_option maxRecDepth 100000 in
theorem kcX1_wager {G : knGT} (l : Launch) {a0 : Int} {a1 : Int} {a2 : Int} {a3 : Int} (ha0 : knKd a0 = 0) (ha1 : knC a1) (ha2 : knC a2) (ha3 : knC a3) {μ : knMem} {q : Int × knMem} (hf : kfX1_wager a0 a1 a2 a3 μ = some q) : knC0 G l yX1_wager cX1_wager 4 (some (.object "KnotLaboratory$Refusal")) 1 21 [knO G a0, knV a1, knV a2, knV a3] μ (0 ≤ q.1 ∧ q.1 < 6) (some (knRf G q.1)) q.2 := by
  unfold kfX1_wager at hf
  refine kn_ofJ (plainFor_of_name (by decide)) (Nat.le_of_ble_eq_true rfl) (L := [(0, knO G a0), (1, knV a1), (2, knV a2), (3, knV a3)]) rfl ?_
  intro p e s m args below meth c X K hr hlk
  refine kj_aloadn X 0 dX1_wager_0 rfl ?_
  refine kj_iloadn X 1 dX1_wager_1 rfl ?_
  obtain ⟨q1, h2, hf⟩ := knBd_inv hf
  refine kj_callV (As := [knV a1]) (rest := []) X K (kcX1_hasPlayer l ha0 ha1 h2) knWvX1_hasPlayer (knGm 1207 (by decide +kernel) rfl) (by decide) (knKd_in ha0 (by decide)) (knEnt_0 ha0) rfl rfl rfl (Nat.le_of_ble_eq_true rfl) (by decide) dX1_wager_2 rfl (fun h3 => ?_)
  refine kj_if_ne X (tgt := 12) dX1_wager_5 (by decide) (knZ_c h3) (fun h4 => ?_) (fun h4 => ?_)
  · replace hf := knIq hf h4
    refine kj_iloadn X 2 dX1_wager_12 rfl ?_
    have j15 : (fun _ =>
     some (2, μ)) () = some q → knJ G p l e { frames := 1, cells := 0, slots := 0, locals := 21 } s m args below meth c 4 0 0 (MQ below (knPo G (0 ≤ q.1 ∧ q.1 < 6) (some (knRf G q.1)) q.2) args s 0 0 (knA G)) 33 [] [] μ := by
      intro hf
      refine kj_refusal X K (i := 2) (by decide) (knGm 1212 (by decide +kernel) rfl) dX1_wager_33 ?_
      cases hf
      exact kj_aret X (show 0 ≤ (2 : Int) ∧ (2 : Int) < 6 from ⟨by omega, by omega⟩) hr (Or.inl ⟨_, rfl⟩) (Or.inr ⟨_, rfl⟩) dX1_wager_36 hlk
    refine kj_if_lt X (tgt := 33) dX1_wager_13 (by decide) ha2 (fun h17 => ?_) (fun h17 => ?_)
    · replace hf := knIp hf h17
      refine kj_sub (L' := []) [] rfl ?_
      exact j15  hf
    · replace hf := knIq hf h17
      refine kj_iloadn X 2 dX1_wager_16 rfl ?_
      refine kj_bipush X (n := 7) dX1_wager_17 rfl ?_
      refine kj_ic_gt X (tgt := 33) dX1_wager_19 (by decide) ha2 (show knC (7) from ⟨by omega, by omega⟩) (fun h18 => ?_) (fun h18 => ?_)
      · replace hf := knIp hf h18
        refine kj_sub (L' := []) [] rfl ?_
        exact j15  hf
      · replace hf := knIq hf h18
        refine kj_iloadn X 3 dX1_wager_22 rfl ?_
        refine kj_iconst X dX1_wager_23 ?_
        refine kj_ic_lt X (tgt := 33) dX1_wager_24 (by decide) ha3 (show knC (1) from ⟨by omega, by omega⟩) (fun h19 => ?_) (fun h19 => ?_)
        · replace hf := knIp hf h19
          refine kj_sub (L' := []) [] rfl ?_
          exact j15  hf
        · replace hf := knIq hf h19
          refine kj_iloadn X 3 dX1_wager_27 rfl ?_
          refine kj_bipush X (n := 99) dX1_wager_28 rfl ?_
          refine kj_ic_le X (tgt := 37) dX1_wager_30 (by decide) ha3 (show knC (99) from ⟨by omega, by omega⟩) (fun h20 => ?_) (fun h20 => ?_)
          · replace hf := knIp hf h20
            refine kj_aloadn X 0 dX1_wager_37 rfl ?_
            refine kj_geto (k := 2) (o2 := (a0 + 3)) X K ha0 (by decide) (knEnt_0 ha0) rfl (by decide) knInX1 (knGm 203 (by decide +kernel) rfl) rfl rfl dX1_wager_38 ?_
            refine kj_iloadn X 1 dX1_wager_41 rfl ?_
            obtain ⟨h21, hf⟩ := knGd_inv hf
            refine kj_iald X K (knD0 ha0).1.2.2 ha1 (knD0 ha0).2.2.2 h21 dX1_wager_42 (fun h22 => ?_)
            refine kj_if_le X (tgt := 50) dX1_wager_43 (by decide) h22 (fun h23 => ?_) (fun h23 => ?_)
            · replace hf := knIp hf h23
              refine kj_aloadn X 0 dX1_wager_50 rfl ?_
              refine kj_geto (k := 0) (o2 := (a0 + 1)) X K ha0 (by decide) (knEnt_0 ha0) rfl (by decide) knInX1 (knGm 199 (by decide +kernel) rfl) rfl rfl dX1_wager_51 ?_
              refine kj_iloadn X 1 dX1_wager_54 rfl ?_
              refine kj_iald X K (knD0 ha0).1.1 ha1 (knD0 ha0).2.1 h21 dX1_wager_55 (fun h24 => ?_)
              refine kj_iloadn X 3 dX1_wager_56 rfl ?_
              refine kj_ic_ge X (tgt := 64) dX1_wager_57 (by decide) h24 ha3 (fun h25 => ?_) (fun h25 => ?_)
              · replace hf := knIp hf h25
                refine kj_aloadn X 0 dX1_wager_64 rfl ?_
                refine kj_geto (k := 0) (o2 := (a0 + 1)) X K ha0 (by decide) (knEnt_0 ha0) rfl (by decide) knInX1 (knGm 199 (by decide +kernel) rfl) rfl rfl dX1_wager_65 ?_
                refine kj_iloadn X 1 dX1_wager_68 rfl ?_
                refine kj_dup2 X dX1_wager_69 rfl rfl ?_
                refine kj_iald X K (knD0 ha0).1.1 ha1 (knD0 ha0).2.1 h21 dX1_wager_70 (fun h26 => ?_)
                refine kj_iloadn X 3 dX1_wager_71 rfl ?_
                refine kj_isub X dX1_wager_72 ?_
                refine kj_iast X K (knD0 ha0).1.1 ha1 (knCw _) (knD0 ha0).2.1 h21 dX1_wager_73 ?_
                refine kj_aloadn X 0 dX1_wager_74 rfl ?_
                refine kj_geto (k := 1) (o2 := (a0 + 2)) X K ha0 (by decide) (knEnt_0 ha0) rfl (by decide) knInX1 (knGm 201 (by decide +kernel) rfl) rfl rfl dX1_wager_75 ?_
                refine kj_iloadn X 1 dX1_wager_78 rfl ?_
                refine kj_iloadn X 2 dX1_wager_79 rfl ?_
                refine kj_iast X K (knD0 ha0).1.2.1 ha1 ha2 (knD0 ha0).2.2.1 h21 dX1_wager_80 ?_
                refine kj_aloadn X 0 dX1_wager_81 rfl ?_
                refine kj_geto (k := 2) (o2 := (a0 + 3)) X K ha0 (by decide) (knEnt_0 ha0) rfl (by decide) knInX1 (knGm 203 (by decide +kernel) rfl) rfl rfl dX1_wager_82 ?_
                refine kj_iloadn X 1 dX1_wager_85 rfl ?_
                refine kj_iloadn X 3 dX1_wager_86 rfl ?_
                refine kj_iast X K (knD0 ha0).1.2.2 ha1 ha3 (knD0 ha0).2.2.2 h21 dX1_wager_87 ?_
                refine kj_refusal X K (i := 0) (by decide) (knGm 1195 (by decide +kernel) rfl) dX1_wager_88 ?_
                cases hf
                exact kj_aret X (show 0 ≤ (0 : Int) ∧ (0 : Int) < 6 from ⟨by omega, by omega⟩) hr (Or.inl ⟨_, rfl⟩) (Or.inr ⟨_, rfl⟩) dX1_wager_91 hlk
              · replace hf := knIq hf h25
                refine kj_refusal X K (i := 4) (by decide) (knGm 1213 (by decide +kernel) rfl) dX1_wager_60 ?_
                cases hf
                exact kj_aret X (show 0 ≤ (4 : Int) ∧ (4 : Int) < 6 from ⟨by omega, by omega⟩) hr (Or.inl ⟨_, rfl⟩) (Or.inr ⟨_, rfl⟩) dX1_wager_63 hlk
            · replace hf := knIq hf h23
              refine kj_refusal X K (i := 3) (by decide) (knGm 1194 (by decide +kernel) rfl) dX1_wager_46 ?_
              cases hf
              exact kj_aret X (show 0 ≤ (3 : Int) ∧ (3 : Int) < 6 from ⟨by omega, by omega⟩) hr (Or.inl ⟨_, rfl⟩) (Or.inr ⟨_, rfl⟩) dX1_wager_49 hlk
          · replace hf := knIq hf h20
            refine kj_sub (L' := []) [] rfl ?_
            exact j15  hf
  · replace hf := knIp hf h4
    refine kj_refusal X K (i := 1) (by decide) (knGm 1211 (by decide +kernel) rfl) dX1_wager_8 ?_
    cases hf
    exact kj_aret X (show 0 ≤ (1 : Int) ∧ (1 : Int) < 6 from ⟨by omega, by omega⟩) hr (Or.inl ⟨_, rfl⟩) (Or.inr ⟨_, rfl⟩) dX1_wager_11 hlk

def kfX12_bet (a1 : Int) (a2 : Int) (a3 : Int) (μ : knMem) : Option (Int × Int × knMem) :=
 Option.bind (kfX6_stage 1 μ) (fun q1 =>
  Option.bind (kfX1_wager 6 a1 a2 a3 q1) (fun q4 =>
   Option.bind (kfX12_finishChange q4.1 q4.2) (fun q7 =>
    if q7.1 = 0 then
    knGd (0 ≤ a1 ∧ a1 < 4)
     (some (0, (q7.2 7 a1), q7.2))
    else
    some (q7.1, 0, q7.2))))

theorem knWvX12_bet : knWv yX12_bet cX12_bet 4 (some .int) 3 := ⟨(knGm 1202 (by decide +kernel) rfl), (knGm 114 (by decide +kernel) rfl), (knGm 1200 (by decide +kernel) rfl), (knGm 1201 (by decide +kernel) rfl), by decide +kernel, by decide +kernel, by decide +kernel⟩
set_option maxHeartbeats 4000000 in
set_option maxRecDepth 100000 in
theorem kcX12_bet {G : knGT} (l : Launch) (hl : l.stackTraces = false) {a1 : Int} {a2 : Int} {a3 : Int} (ha1 : knC a1) (ha2 : knC a2) (ha3 : knC a3) {μ : knMem} {q : Int × Int × knMem} (hf : kfX12_bet a1 a2 a3 μ = some q) : knCx G l yX12_bet cX12_bet 4 (some .int) 8 141 1 6 [knO G 0, knV a1, knV a2, knV a3] μ (knC q.2.1) q.1 (some (knV q.2.1)) q.2.2 := by
  unfold kfX12_bet at hf
  refine kn_ofJx (by decide) (Nat.le_of_ble_eq_true rfl) (L := [(0, knO G 0), (1, knV a1), (2, knV a2), (3, knV a3)]) rfl ?_
  intro p e s m args below meth c X K hr hlk hnx
  refine kj_aloadn X 0 dX12_bet_0 rfl ?_
  refine kj_geto (k := 5) (o2 := 23) X K kdc_0 (by decide) (knEnt_9 kdc_0) rfl (by decide) knInX12 (knGm 366 (by decide +kernel) rfl) rfl rfl dX12_bet_1 ?_
  refine kj_aloadn X 0 dX12_bet_4 rfl ?_
  refine kj_geto (k := 0) (o2 := 1) X K kdc_0 (by decide) (knEnt_9 kdc_0) rfl (by decide) knInX12 (knGm 361 (by decide +kernel) rfl) rfl rfl dX12_bet_5 ?_
  obtain ⟨q1, h2, hf⟩ := knBd_inv hf
  refine kj_callV (As := [knO G 1]) (rest := []) X K (kcX6_stage l kdc_1 h2) knWvX6_stage (knGm 408 (by decide +kernel) rfl) (by decide) (knKd_in kdc_23 (by decide)) (knEnt_4 kdc_23) rfl rfl rfl (Nat.le_of_ble_eq_true rfl) (by decide) dX12_bet_8 rfl (fun h3 => ?_)
  refine kj_aloadn X 0 dX12_bet_11 rfl ?_
  refine kj_aloadn X 0 dX12_bet_12 rfl ?_
  refine kj_geto (k := 2) (o2 := 6) X K kdc_0 (by decide) (knEnt_9 kdc_0) rfl (by decide) knInX12 (knGm 363 (by decide +kernel) rfl) rfl rfl dX12_bet_13 ?_
  refine kj_iloadn X 1 dX12_bet_16 rfl ?_
  refine kj_iloadn X 2 dX12_bet_17 rfl ?_
  refine kj_iloadn X 3 dX12_bet_18 rfl ?_
  obtain ⟨q4, h5, hf⟩ := knBd_inv hf
  refine kj_callV (As := [knV a1, knV a2, knV a3]) (rest := [knO G 0]) X K (kcX1_wager l kdc_6 ha1 ha2 ha3 h5) knWvX1_wager (knGm 1203 (by decide +kernel) rfl) (by decide) (knKd_in kdc_6 (by decide)) (knEnt_0 kdc_6) rfl rfl rfl (Nat.le_of_ble_eq_true rfl) (by decide) dX12_bet_19 rfl (fun h6 => ?_)
  obtain ⟨q7, h8, hf⟩ := knBd_inv hf
  refine kjx_callV (As := [knRf G q4.1]) (rest := []) X K (kcX12_finishChange l hl h6 h8) knWvX12_finishChange (knGm 434 (by decide +kernel) rfl) (by decide) (knKd_in kdc_0 (by decide)) (knEnt_9 kdc_0) rfl rfl rfl (Nat.le_of_ble_eq_true rfl) (by decide) dX12_bet_22 rfl (fun h10 h9 => ?_) (fun E11 h10 h12 => ?_)
  · replace hf := knIp hf h10
    refine kj_aloadn X 0 dX12_bet_25 rfl ?_
    refine kj_geto (k := 2) (o2 := 6) X K kdc_0 (by decide) (knEnt_9 kdc_0) rfl (by decide) knInX12 (knGm 363 (by decide +kernel) rfl) rfl rfl dX12_bet_26 ?_
    refine kj_geto (k := 0) (o2 := 7) X K kdc_6 (by decide) (knEnt_0 kdc_6) rfl (by decide) knInX1 (knGm 200 (by decide +kernel) rfl) rfl rfl dX12_bet_29 ?_
    refine kj_iloadn X 1 dX12_bet_32 rfl ?_
    obtain ⟨h13, hf⟩ := knGd_inv hf
    refine kj_iald X K kdc_7 ha1 lnc_7 h13 dX12_bet_33 (fun h14 => ?_)
    cases hf
    exact kjx_iret X h14 rfl (by decide) (by decide) hr dX12_bet_34 hlk
  · replace hf := knIq hf h10
    cases hf
    exact kjx_out h10 h12 (by decide) (by decide) hnx hlk

def kfX1_wins (a0 : Int) (a1 : Int) (a2 : Int) (μ : knMem) : Option (Int) :=
 knGd (0 ≤ a1 ∧ a1 < 4)
  ((fun (k6 : (Unit) → Option (Int)) =>
  if (μ (a0 + 3) a1) ≤ 0 then
   k6 ()
  else
   if (μ (a0 + 2) a1) = a2 then
    some 1
   else
    k6 ())
  (fun _ =>
  some 0))

theorem knWvX1_wins : knWv yX1_wins cX1_wins 3 (some .boolean) 2 := ⟨(knGm 1228 (by decide +kernel) rfl), (knGm 117 (by decide +kernel) rfl), (knGm 1227 (by decide +kernel) rfl), (knGm 20 (by decide +kernel) rfl), by decide +kernel, by decide +kernel, by decide +kernel⟩
set_option maxHeartbeats 4000000 in
set_option maxRecDepth 100000 in
theorem kcX1_wins {G : knGT} (l : Launch) {a0 : Int} {a1 : Int} {a2 : Int} (ha0 : knKd a0 = 0) (ha1 : knC a1) (ha2 : knC a2) {μ : knMem} {q : Int} (hf : kfX1_wins a0 a1 a2 μ = some q) : knC0 G l yX1_wins cX1_wins 3 (some .boolean) 0 0 [knO G a0, knV a1, knV a2] μ (knZ q) (some (knV q)) μ := by
  unfold kfX1_wins at hf
  refine kn_ofJ (plainFor_of_name (by decide)) (Nat.le_of_ble_eq_true rfl) (L := [(0, knO G a0), (1, knV a1), (2, knV a2)]) rfl ?_
  intro p e s m args below meth c X K hr hlk
  refine kj_aloadn X 0 dX1_wins_0 rfl ?_
  refine kj_geto (k := 2) (o2 := (a0 + 3)) X K ha0 (by decide) (knEnt_0 ha0) rfl (by decide) knInX1 (knGm 203 (by decide +kernel) rfl) rfl rfl dX1_wins_1 ?_
  refine kj_iloadn X 1 dX1_wins_4 rfl ?_
  obtain ⟨h1, hf⟩ := knGd_inv hf
  refine kj_iald X K (knD0 ha0).1.2.2 ha1 (knD0 ha0).2.2.2 h1 dX1_wins_5 (fun h2 => ?_)
  have j6 : (fun _ =>
   some 0) () = some q → knJ G p l e { frames := 0, cells := 0, slots := 0, locals := 0 } s m args below meth c 3 0 0 (MQ below (knPo G (knZ q) (some (knV q)) μ) args s 0 0 (knA G)) 23 [] [] μ := by
    intro hf
    refine kj_iconst X dX1_wins_23 ?_
    cases hf
    exact kj_zret X (Or.inl rfl) hr (kn_nb (Or.inl rfl)) dX1_wins_24 hlk
  refine kj_if_le X (tgt := 23) dX1_wins_6 (by decide) h2 (fun h8 => ?_) (fun h8 => ?_)
  · replace hf := knIp hf h8
    refine kj_sub (L' := []) [] rfl ?_
    exact j6  hf
  · replace hf := knIq hf h8
    refine kj_aloadn X 0 dX1_wins_9 rfl ?_
    refine kj_geto (k := 1) (o2 := (a0 + 2)) X K ha0 (by decide) (knEnt_0 ha0) rfl (by decide) knInX1 (knGm 201 (by decide +kernel) rfl) rfl rfl dX1_wins_10 ?_
    refine kj_iloadn X 1 dX1_wins_13 rfl ?_
    refine kj_iald X K (knD0 ha0).1.2.1 ha1 (knD0 ha0).2.2.1 h1 dX1_wins_14 (fun h9 => ?_)
    refine kj_iloadn X 2 dX1_wins_15 rfl ?_
    refine kj_ic_ne X (tgt := 23) dX1_wins_16 (by decide) h9 ha2 (fun h10 => ?_) (fun h10 => ?_)
    · replace hf := knIq hf h10
      refine kj_sub (L' := []) [] rfl ?_
      exact j6  hf
    · replace hf := knIp hf h10
      refine kj_iconst X dX1_wins_19 ?_
      refine kj_goto X (tgt := 24) dX1_wins_20 (by decide) ?_
      cases hf
      exact kj_zret X (Or.inr rfl) hr (kn_nb (Or.inr rfl)) dX1_wins_24 hlk

def kfX1_winners_l4  (x0 : Int) (x1 : Int) (μ : knMem) (kc : (Int) → Option (Int)) : Nat → Int → Int → Option (Int)
  | 0, _, _ => none
  | n + 1, x2, x3 =>
    if (μ x0 3) ≤ x3 then
     kc x2
    else
     Option.bind (kfX1_wins x0 x3 x1 μ) (fun q3 =>
      kfX1_winners_l4  x0 x1 μ kc n (knW (x2 + (if q3 = 0 then 0 else 1 : Int))) (knW (x3 + 1)))

def kfX1_winners (a0 : Int) (a1 : Int) (μ : knMem) : Option (Int) :=
 kfX1_winners_l4 a0 a1 μ (fun w10 =>
  some w10) knF 0 0

theorem knWvX1_winners : knWv yX1_winners cX1_winners 4 (some .int) 1 := ⟨(knGm 1224 (by decide +kernel) rfl), (knGm 117 (by decide +kernel) rfl), (knGm 1222 (by decide +kernel) rfl), (knGm 1223 (by decide +kernel) rfl), by decide +kernel, by decide +kernel, by decide +kernel⟩
set_option maxHeartbeats 4000000 in
set_option maxRecDepth 100000 in
theorem kfX1_winners_l4_ok {q : Int} {kc : (Int) → Option (Int)} {G : knGT} {p : Program} {l : Launch} {e : Env} {s : State} {m : MethodId} {args : Array Value} {below : List Frame} {meth : Method} {c : Code} (X : knX p m c cX1_winners 4 s args yX1_winners.cls) (K : knK G s s.heap) (hr : meth.sig.returnType = (some .int)) (hlk : meth.locks = false) (x0 : Int) (x1 : Int) (hx0 : knKd x0 = 0) (hx1 : knC x1) (μ : knMem) (hk : ∀ (y2 : Int) (hy2 : knC y2), kc y2 = some q → knJ G p l e { frames := 1, cells := 0, slots := 0, locals := 22 } s m args below meth c 4 0 0 (MQ below (knPo G (knC q) (some (knV q)) μ) args s 0 0 (knA G)) 35 [(2, knV y2)] [] μ) : ∀ (n : Nat) (x2 : Int) (hx2 : knC x2) (x3 : Int) (hx3 : knC x3) , kfX1_winners_l4  x0 x1 μ kc n x2 x3 = some q → knJ G p l e { frames := 1, cells := 0, slots := 0, locals := 22 } s m args below meth c 4 0 0 (MQ below (knPo G (knC q) (some (knV q)) μ) args s 0 0 (knA G)) 4 [(0, knO G x0), (1, knV x1), (2, knV x2), (3, knV x3)] [] μ := by
  intro n
  induction n with
  | zero => intro x2 hx2 x3 hx3 hf; cases hf
  | succ n ih =>
    intro x2 hx2 x3 hx3 hf
    unfold kfX1_winners_l4 at hf
    refine kj_iloadn X 3 dX1_winners_4 rfl ?_
    refine kj_aloadn X 0 dX1_winners_5 rfl ?_
    refine kj_geti (k := 3) (ki := 3) X K rfl hx0 (by decide) (knEnt_0 hx0) rfl (by decide) knInX1 (knGm 205 (by decide +kernel) rfl) rfl rfl dX1_winners_6 (fun h1 => ?_)
    refine kj_ic_ge X (tgt := 35) dX1_winners_9 (by decide) hx3 h1 (fun h2 => ?_) (fun h2 => ?_)
    · replace hf := knIp hf h2
      refine kj_sub (L' := [(2, knV x2)]) [2] rfl ?_
      exact hk _ hx2 hf
    · replace hf := knIq hf h2
      refine kj_iloadn X 2 dX1_winners_12 rfl ?_
      refine kj_aloadn X 0 dX1_winners_13 rfl ?_
      refine kj_iloadn X 3 dX1_winners_14 rfl ?_
      refine kj_iloadn X 1 dX1_winners_15 rfl ?_
      obtain ⟨q3, h4, hf⟩ := knBd_inv hf
      refine kj_callV (As := [knV x3, knV x1]) (rest := [knV x2]) X K (kcX1_wins l hx0 hx3 hx1 h4) knWvX1_wins (knGm 1225 (by decide +kernel) rfl) (by decide) (knKd_in hx0 (by decide)) (knEnt_0 hx0) rfl rfl rfl (Nat.le_of_ble_eq_true rfl) (by decide) dX1_winners_16 rfl (fun h5 => ?_)
      have j7 : ∀ (t7_0 : Int) (et7_0 : t7_0 = (if q3 = 0 then 0 else 1 : Int)) (ht7_0 : knZ t7_0), knJ G p l e { frames := 1, cells := 0, slots := 0, locals := 22 } s m args below meth c 4 0 0 (MQ below (knPo G (knC q) (some (knV q)) μ) args s 0 0 (knA G)) 27 [(0, knO G x0), (1, knV x1), (3, knV x3)] [knV t7_0, knV x2] μ := by
        intro t7_0 et7_0 ht7_0
        subst et7_0
        refine kj_iadd X dX1_winners_27 ?_
        refine kj_istoren X (L' := [(2, knV (knW (x2 + (if q3 = 0 then 0 else 1 : Int)))), (0, knO G x0), (1, knV x1), (3, knV x3)]) dX1_winners_28 (by decide) rfl ?_
        refine kj_iinc X 3 (L' := [(3, knV (knW (x3 + 1))), (2, knV (knW (x2 + (if q3 = 0 then 0 else 1 : Int)))), (0, knO G x0), (1, knV x1)]) dX1_winners_29 rfl (by decide) rfl ?_
        refine kj_goto X (tgt := 4) dX1_winners_32 (by decide) ?_
        refine kj_sub (L' := [(0, knO G x0), (1, knV x1), (2, knV (knW (x2 + (if q3 = 0 then 0 else 1 : Int)))), (3, knV (knW (x3 + 1)))]) [2, 3, 1, 0] rfl ?_
        exact ih _ (knCw _) _ (knCw _)  hf
      refine kj_if_eq X (tgt := 26) dX1_winners_19 (by decide) (knZ_c h5) (fun h9 => ?_) (fun h9 => ?_)
      · refine kj_iconst X dX1_winners_26 ?_
        refine kj_sub (L' := [(0, knO G x0), (1, knV x1), (3, knV x3)]) [0, 1, 3] rfl ?_
        exact j7 0 (by rw [if_pos h9]) (Or.inl rfl)
      · refine kj_iconst X dX1_winners_22 ?_
        refine kj_goto X (tgt := 27) dX1_winners_23 (by decide) ?_
        refine kj_sub (L' := [(0, knO G x0), (1, knV x1), (3, knV x3)]) [0, 1, 3] rfl ?_
        exact j7 1 (by rw [if_neg h9]) (Or.inr rfl)

set_option maxHeartbeats 4000000 in
set_option maxRecDepth 100000 in
theorem kcX1_winners {G : knGT} (l : Launch) {a0 : Int} {a1 : Int} (ha0 : knKd a0 = 0) (ha1 : knC a1) {μ : knMem} {q : Int} (hf : kfX1_winners a0 a1 μ = some q) : knC0 G l yX1_winners cX1_winners 4 (some .int) 1 22 [knO G a0, knV a1] μ (knC q) (some (knV q)) μ := by
  unfold kfX1_winners at hf
  refine kn_ofJ (plainFor_of_name (by decide)) (Nat.le_of_ble_eq_true rfl) (L := [(0, knO G a0), (1, knV a1)]) rfl ?_
  intro p e s m args below meth c X K hr hlk
  refine kj_iconst X dX1_winners_0 ?_
  refine kj_istoren X (L' := [(2, knV 0), (0, knO G a0), (1, knV a1)]) dX1_winners_1 (by decide) rfl ?_
  refine kj_iconst X dX1_winners_2 ?_
  refine kj_istoren X (L' := [(3, knV 0), (2, knV 0), (0, knO G a0), (1, knV a1)]) dX1_winners_3 (by decide) rfl ?_
  refine kj_sub (L' := [(0, knO G a0), (1, knV a1), (2, knV 0), (3, knV 0)]) [2, 3, 1, 0] rfl ?_
  refine kfX1_winners_l4_ok X K hr hlk a0 a1 ha0 ha1 μ ?_ knF _ (show knC (0) from ⟨by omega, by omega⟩) _ (show knC (0) from ⟨by omega, by omega⟩)  hf
  intro w10_0 hw10_0
  intro hf
  refine kj_iloadn X 0 dX1_winners_35 rfl ?_
  cases hf
  exact kj_iret X hw10_0 hr dX1_winners_36 hlk

def kfX1_allStakes_l4  (x0 : Int) (μ : knMem) (kc : (Int) → Option (Int)) : Nat → Int → Int → Option (Int)
  | 0, _, _ => none
  | n + 1, x1, x2 =>
    if (μ x0 3) ≤ x2 then
     kc x1
    else
     knGd (0 ≤ x2 ∧ x2 < 4)
      (kfX1_allStakes_l4  x0 μ kc n (knW (x1 + (μ (x0 + 3) x2))) (knW (x2 + 1)))

def kfX1_allStakes (a0 : Int) (μ : knMem) : Option (Int) :=
 kfX1_allStakes_l4 a0 μ (fun w5 =>
  some w5) knF 0 0

theorem knWvX1_allStakes : knWv yX1_allStakes cX1_allStakes 3 (some .int) 0 := ⟨(knGm 791 (by decide +kernel) rfl), (knGm 117 (by decide +kernel) rfl), (knGm 789 (by decide +kernel) rfl), (knGm 790 (by decide +kernel) rfl), by decide +kernel, by decide +kernel, by decide +kernel⟩
set_option maxHeartbeats 4000000 in
set_option maxRecDepth 100000 in
theorem kfX1_allStakes_l4_ok {q : Int} {kc : (Int) → Option (Int)} {G : knGT} {p : Program} {l : Launch} {e : Env} {s : State} {m : MethodId} {args : Array Value} {below : List Frame} {meth : Method} {c : Code} (X : knX p m c cX1_allStakes 3 s args yX1_allStakes.cls) (K : knK G s s.heap) (hr : meth.sig.returnType = (some .int)) (hlk : meth.locks = false) (x0 : Int) (hx0 : knKd x0 = 0) (μ : knMem) (hk : ∀ (y1 : Int) (hy1 : knC y1), kc y1 = some q → knJ G p l e { frames := 0, cells := 0, slots := 0, locals := 0 } s m args below meth c 3 0 0 (MQ below (knPo G (knC q) (some (knV q)) μ) args s 0 0 (knA G)) 27 [(1, knV y1)] [] μ) : ∀ (n : Nat) (x1 : Int) (hx1 : knC x1) (x2 : Int) (hx2 : knC x2) , kfX1_allStakes_l4  x0 μ kc n x1 x2 = some q → knJ G p l e { frames := 0, cells := 0, slots := 0, locals := 0 } s m args below meth c 3 0 0 (MQ below (knPo G (knC q) (some (knV q)) μ) args s 0 0 (knA G)) 4 [(0, knO G x0), (1, knV x1), (2, knV x2)] [] μ := by
  intro n
  induction n with
  | zero => intro x1 hx1 x2 hx2 hf; cases hf
  | succ n ih =>
    intro x1 hx1 x2 hx2 hf
    unfold kfX1_allStakes_l4 at hf
    refine kj_iloadn X 2 dX1_allStakes_4 rfl ?_
    refine kj_aloadn X 0 dX1_allStakes_5 rfl ?_
    refine kj_geti (k := 3) (ki := 3) X K rfl hx0 (by decide) (knEnt_0 hx0) rfl (by decide) knInX1 (knGm 205 (by decide +kernel) rfl) rfl rfl dX1_allStakes_6 (fun h1 => ?_)
    refine kj_ic_ge X (tgt := 27) dX1_allStakes_9 (by decide) hx2 h1 (fun h2 => ?_) (fun h2 => ?_)
    · replace hf := knIp hf h2
      refine kj_sub (L' := [(1, knV x1)]) [1] rfl ?_
      exact hk _ hx1 hf
    · replace hf := knIq hf h2
      refine kj_iloadn X 1 dX1_allStakes_12 rfl ?_
      refine kj_aloadn X 0 dX1_allStakes_13 rfl ?_
      refine kj_geto (k := 2) (o2 := (x0 + 3)) X K hx0 (by decide) (knEnt_0 hx0) rfl (by decide) knInX1 (knGm 203 (by decide +kernel) rfl) rfl rfl dX1_allStakes_14 ?_
      refine kj_iloadn X 2 dX1_allStakes_17 rfl ?_
      obtain ⟨h3, hf⟩ := knGd_inv hf
      refine kj_iald X K (knD0 hx0).1.2.2 hx2 (knD0 hx0).2.2.2 h3 dX1_allStakes_18 (fun h4 => ?_)
      refine kj_iadd X dX1_allStakes_19 ?_
      refine kj_istoren X (L' := [(1, knV (knW (x1 + (μ (x0 + 3) x2)))), (0, knO G x0), (2, knV x2)]) dX1_allStakes_20 (by decide) rfl ?_
      refine kj_iinc X 2 (L' := [(2, knV (knW (x2 + 1))), (1, knV (knW (x1 + (μ (x0 + 3) x2)))), (0, knO G x0)]) dX1_allStakes_21 rfl (by decide) rfl ?_
      refine kj_goto X (tgt := 4) dX1_allStakes_24 (by decide) ?_
      refine kj_sub (L' := [(0, knO G x0), (1, knV (knW (x1 + (μ (x0 + 3) x2)))), (2, knV (knW (x2 + 1)))]) [2, 1, 0] rfl ?_
      exact ih _ (knCw _) _ (knCw _)  hf

set_option maxHeartbeats 4000000 in
set_option maxRecDepth 100000 in
theorem kcX1_allStakes {G : knGT} (l : Launch) {a0 : Int} (ha0 : knKd a0 = 0) {μ : knMem} {q : Int} (hf : kfX1_allStakes a0 μ = some q) : knC0 G l yX1_allStakes cX1_allStakes 3 (some .int) 0 0 [knO G a0] μ (knC q) (some (knV q)) μ := by
  unfold kfX1_allStakes at hf
  refine kn_ofJ (plainFor_of_name (by decide)) (Nat.le_of_ble_eq_true rfl) (L := [(0, knO G a0)]) rfl ?_
  intro p e s m args below meth c X K hr hlk
  refine kj_iconst X dX1_allStakes_0 ?_
  refine kj_istoren X (L' := [(1, knV 0), (0, knO G a0)]) dX1_allStakes_1 (by decide) rfl ?_
  refine kj_iconst X dX1_allStakes_2 ?_
  refine kj_istoren X (L' := [(2, knV 0), (1, knV 0), (0, knO G a0)]) dX1_allStakes_3 (by decide) rfl ?_
  refine kj_sub (L' := [(0, knO G a0), (1, knV 0), (2, knV 0)]) [2, 1, 0] rfl ?_
  refine kfX1_allStakes_l4_ok X K hr hlk a0 ha0 μ ?_ knF _ (show knC (0) from ⟨by omega, by omega⟩) _ (show knC (0) from ⟨by omega, by omega⟩)  hf
  intro w5_0 hw5_0
  intro hf
  refine kj_iloadn X 0 dX1_allStakes_27 rfl ?_
  cases hf
  exact kj_iret X hw5_0 hr dX1_allStakes_28 hlk

def kfX1_pay_l44  (x0 : Int) (x1 : Int) (x4 : Int)  (kc : (Int × knMem) → Option (Int × knMem)) : Nat → Int → Int → knMem → Option (Int × knMem)
  | 0, _, _, _ => none
  | n + 1, x2, x5, μ =>
    if (μ x0 3) ≤ x5 then
     kc (x2, μ)
    else
     Option.bind (kfX1_wins x0 x5 x1 μ) (fun q14 =>
      Option.bind (α := Int × knMem)
       (if q14 = 0 then
        some (x2, μ)
       else
        knGd (0 ≤ x5 ∧ x5 < 4)
         (some ((knW (x2 - x4)), (knUp μ (x0 + 1) x5 (knW ((μ (x0 + 1) x5) + x4))))))
       (fun q20 =>
       knGd (0 ≤ x5 ∧ x5 < 4)
        (kfX1_pay_l44  x0 x1 x4 kc n q20.1 (knW (x5 + 1)) (knUp q20.2 (x0 + 3) x5 0))))

def kfX1_pay (a0 : Int) (a1 : Int) (μ : knMem) : Option (Int × knMem) :=
 Option.bind (kfX1_allStakes a0 μ) (fun q1 =>
  if q1 = 0 then
   some (3, μ)
  else
   if a1 = -1 then
    some (5, μ)
   else
    Option.bind (kfX1_winners a0 a1 μ) (fun q6 =>
     Option.bind (α := Int)
      (if q6 = 0 then
       some 0
      else
       knGd (q6 ≠ 0)
        (some (knDiv q1 q6)))
      (fun q11 =>
      kfX1_pay_l44 a0 a1 q11  (fun w27 =>
       some (0, (knUp w27.2 a0 4 (knW ((w27.2 a0 4) + w27.1))))) knF q1 0 μ)))

theorem knWvX1_pay : knWv yX1_pay cX1_pay 6 (some (.object "KnotLaboratory$Refusal")) 1 := ⟨(knGm 1232 (by decide +kernel) rfl), (knGm 117 (by decide +kernel) rfl), (knGm 1230 (by decide +kernel) rfl), (knGm 1231 (by decide +kernel) rfl), by decide +kernel, by decide +kernel, by decide +kernel⟩
set_option maxHeartbeats 4000000 in
set_option maxRecDepth 100000 in
theorem kfX1_pay_l44_ok {q : Int × knMem} {kc : (Int × knMem) → Option (Int × knMem)} {G : knGT} {p : Program} {l : Launch} {e : Env} {s : State} {m : MethodId} {args : Array Value} {below : List Frame} {meth : Method} {c : Code} (X : knX p m c cX1_pay 6 s args yX1_pay.cls) (K : knK G s s.heap) (hr : meth.sig.returnType = (some (.object "KnotLaboratory$Refusal"))) (hlk : meth.locks = false) (x0 : Int) (x1 : Int) (x4 : Int) (hx0 : knKd x0 = 0) (hx1 : knC x1) (hx4 : knC x4)  (hk : ∀ (y2 : Int) (hy2 : knC y2) (μ1 : knMem), kc (y2, μ1) = some q → knJ G p l e { frames := 2, cells := 0, slots := 0, locals := 45 } s m args below meth c 6 0 0 (MQ below (knPo G (0 ≤ q.1 ∧ q.1 < 6) (some (knRf G q.1)) q.2) args s 0 0 (knA G)) 94 [(0, knO G x0), (2, knV y2)] [] μ1) : ∀ (n : Nat) (x2 : Int) (hx2 : knC x2) (x5 : Int) (hx5 : knC x5) (μ : knMem), kfX1_pay_l44  x0 x1 x4 kc n x2 x5 μ = some q → knJ G p l e { frames := 2, cells := 0, slots := 0, locals := 45 } s m args below meth c 6 0 0 (MQ below (knPo G (0 ≤ q.1 ∧ q.1 < 6) (some (knRf G q.1)) q.2) args s 0 0 (knA G)) 44 [(0, knO G x0), (1, knV x1), (2, knV x2), (4, knV x4), (5, knV x5)] [] μ := by
  intro n
  induction n with
  | zero => intro x2 hx2 x5 hx5 μ hf; cases hf
  | succ n ih =>
    intro x2 hx2 x5 hx5 μ hf
    unfold kfX1_pay_l44 at hf
    refine kj_iload X 4 dX1_pay_44 rfl ?_
    refine kj_aloadn X 0 dX1_pay_46 rfl ?_
    refine kj_geti (k := 3) (ki := 3) X K rfl hx0 (by decide) (knEnt_0 hx0) rfl (by decide) knInX1 (knGm 205 (by decide +kernel) rfl) rfl rfl dX1_pay_47 (fun h12 => ?_)
    refine kj_ic_ge X (tgt := 94) dX1_pay_50 (by decide) hx5 h12 (fun h13 => ?_) (fun h13 => ?_)
    · replace hf := knIp hf h13
      refine kj_sub (L' := [(0, knO G x0), (2, knV x2)]) [0, 2] rfl ?_
      exact hk _ hx2 _ hf
    · replace hf := knIq hf h13
      refine kj_aloadn X 0 dX1_pay_53 rfl ?_
      refine kj_iload X 4 dX1_pay_54 rfl ?_
      refine kj_iloadn X 1 dX1_pay_56 rfl ?_
      obtain ⟨q14, h15, hf⟩ := knBd_inv hf
      refine kj_callV (As := [knV x5, knV x1]) (rest := []) X K (kcX1_wins l hx0 hx5 hx1 h15) knWvX1_wins (knGm 1225 (by decide +kernel) rfl) (by decide) (knKd_in hx0 (by decide)) (knEnt_0 hx0) rfl rfl rfl (Nat.le_of_ble_eq_true rfl) (by decide) dX1_pay_57 rfl (fun h16 => ?_)
      have j20 : ∀ (t20_0 : Int) (ht20_0 : knC t20_0) (m20 : knMem), (fun q20 =>
       knGd (0 ≤ x5 ∧ x5 < 4)
        (kfX1_pay_l44  x0 x1 x4 kc n q20.1 (knW (x5 + 1)) (knUp q20.2 (x0 + 3) x5 0))) (t20_0, m20) = some q → knJ G p l e { frames := 2, cells := 0, slots := 0, locals := 45 } s m args below meth c 6 0 0 (MQ below (knPo G (0 ≤ q.1 ∧ q.1 < 6) (some (knRf G q.1)) q.2) args s 0 0 (knA G)) 80 [(0, knO G x0), (1, knV x1), (2, knV t20_0), (4, knV x4), (5, knV x5)] [] m20 := by
        intro t20_0 ht20_0 m20
        intro hf
        refine kj_aloadn X 0 dX1_pay_80 rfl ?_
        refine kj_geto (k := 2) (o2 := (x0 + 3)) X K hx0 (by decide) (knEnt_0 hx0) rfl (by decide) knInX1 (knGm 203 (by decide +kernel) rfl) rfl rfl dX1_pay_81 ?_
        refine kj_iload X 4 dX1_pay_84 rfl ?_
        refine kj_iconst X dX1_pay_86 ?_
        obtain ⟨h22, hf⟩ := knGd_inv hf
        refine kj_iast X K (knD0 hx0).1.2.2 hx5 (show knC (0) from ⟨by omega, by omega⟩) (knD0 hx0).2.2.2 h22 dX1_pay_87 ?_
        refine kj_iinc X 4 (L' := [(5, knV (knW (x5 + 1))), (0, knO G x0), (1, knV x1), (2, knV t20_0), (4, knV x4)]) dX1_pay_88 rfl (by decide) rfl ?_
        refine kj_goto X (tgt := 44) dX1_pay_91 (by decide) ?_
        refine kj_sub (L' := [(0, knO G x0), (1, knV x1), (2, knV t20_0), (4, knV x4), (5, knV (knW (x5 + 1)))]) [1, 2, 3, 4, 0] rfl ?_
        exact ih _ ht20_0 _ (knCw _) _ hf
      obtain ⟨b23, hb23, hf⟩ := knBd_inv hf
      refine kj_if_eq X (tgt := 80) dX1_pay_60 (by decide) (knZ_c h16) (fun h24 => ?_) (fun h24 => ?_)
      · replace hb23 := knIp hb23 h24
        cases hb23
        refine kj_sub (L' := [(0, knO G x0), (1, knV x1), (2, knV x2), (4, knV x4), (5, knV x5)]) [0, 1, 2, 3, 4] rfl ?_
        exact j20 _ hx2 _ hf
      · replace hb23 := knIq hb23 h24
        refine kj_aloadn X 0 dX1_pay_63 rfl ?_
        refine kj_geto (k := 0) (o2 := (x0 + 1)) X K hx0 (by decide) (knEnt_0 hx0) rfl (by decide) knInX1 (knGm 199 (by decide +kernel) rfl) rfl rfl dX1_pay_64 ?_
        refine kj_iload X 4 dX1_pay_67 rfl ?_
        refine kj_dup2 X dX1_pay_69 rfl rfl ?_
        obtain ⟨h25, hb23⟩ := knGd_inv hb23
        refine kj_iald X K (knD0 hx0).1.1 hx5 (knD0 hx0).2.1 h25 dX1_pay_70 (fun h26 => ?_)
        refine kj_iload X 3 dX1_pay_71 rfl ?_
        refine kj_iadd X dX1_pay_73 ?_
        refine kj_iast X K (knD0 hx0).1.1 hx5 (knCw _) (knD0 hx0).2.1 h25 dX1_pay_74 ?_
        refine kj_iloadn X 2 dX1_pay_75 rfl ?_
        refine kj_iload X 3 dX1_pay_76 rfl ?_
        refine kj_isub X dX1_pay_78 ?_
        refine kj_istoren X (L' := [(2, knV (knW (x2 - x4))), (0, knO G x0), (1, knV x1), (4, knV x4), (5, knV x5)]) dX1_pay_79 (by decide) rfl ?_
        cases hb23
        refine kj_sub (L' := [(0, knO G x0), (1, knV x1), (2, knV (knW (x2 - x4))), (4, knV x4), (5, knV x5)]) [1, 2, 0, 3, 4] rfl ?_
        exact j20 _ (knCw _) _ hf

set_option maxHeartbeats 4000000 in
set_option maxRecDepth 100000 in
theorem kcX1_pay {G : knGT} (l : Launch) {a0 : Int} {a1 : Int} (ha0 : knKd a0 = 0) (ha1 : knC a1) {μ : knMem} {q : Int × knMem} (hf : kfX1_pay a0 a1 μ = some q) : knC0 G l yX1_pay cX1_pay 6 (some (.object "KnotLaboratory$Refusal")) 2 45 [knO G a0, knV a1] μ (0 ≤ q.1 ∧ q.1 < 6) (some (knRf G q.1)) q.2 := by
  unfold kfX1_pay at hf
  refine kn_ofJ (plainFor_of_name (by decide)) (Nat.le_of_ble_eq_true rfl) (L := [(0, knO G a0), (1, knV a1)]) rfl ?_
  intro p e s m args below meth c X K hr hlk
  refine kj_aloadn X 0 dX1_pay_0 rfl ?_
  obtain ⟨q1, h2, hf⟩ := knBd_inv hf
  refine kj_callV (As := []) (rest := []) X K (kcX1_allStakes l ha0 h2) knWvX1_allStakes (knGm 873 (by decide +kernel) rfl) (by decide) (knKd_in ha0 (by decide)) (knEnt_0 ha0) rfl rfl rfl (Nat.le_of_ble_eq_true rfl) (by decide) dX1_pay_1 rfl (fun h3 => ?_)
  refine kj_istoren X (L' := [(2, knV q1), (0, knO G a0), (1, knV a1)]) dX1_pay_4 (by decide) rfl ?_
  refine kj_iloadn X 0 dX1_pay_5 rfl ?_
  refine kj_if_ne X (tgt := 13) dX1_pay_6 (by decide) h3 (fun h4 => ?_) (fun h4 => ?_)
  · replace hf := knIq hf h4
    refine kj_iloadn X 2 dX1_pay_13 rfl ?_
    refine kj_iconst X dX1_pay_14 ?_
    refine kj_ic_ne X (tgt := 22) dX1_pay_15 (by decide) ha1 (show knC (-1) from ⟨by omega, by omega⟩) (fun h5 => ?_) (fun h5 => ?_)
    · replace hf := knIq hf h5
      refine kj_aloadn X 1 dX1_pay_22 rfl ?_
      refine kj_iloadn X 2 dX1_pay_23 rfl ?_
      obtain ⟨q6, h7, hf⟩ := knBd_inv hf
      refine kj_callV (As := [knV a1]) (rest := []) X K (kcX1_winners l ha0 ha1 h7) knWvX1_winners (knGm 1234 (by decide +kernel) rfl) (by decide) (knKd_in ha0 (by decide)) (knEnt_0 ha0) rfl rfl rfl (Nat.le_of_ble_eq_true rfl) (by decide) dX1_pay_24 rfl (fun h8 => ?_)
      refine kj_istoren X (L' := [(3, knV q6), (2, knV q1), (0, knO G a0), (1, knV a1)]) dX1_pay_27 (by decide) rfl ?_
      refine kj_iloadn X 0 dX1_pay_28 rfl ?_
      have j11 : ∀ (t11_0 : Int) (ht11_0 : knC t11_0), (fun q11 =>
       kfX1_pay_l44 a0 a1 q11  (fun w27 =>
        some (0, (knUp w27.2 a0 4 (knW ((w27.2 a0 4) + w27.1))))) knF q1 0 μ) t11_0 = some q → knJ G p l e { frames := 2, cells := 0, slots := 0, locals := 45 } s m args below meth c 6 0 0 (MQ below (knPo G (0 ≤ q.1 ∧ q.1 < 6) (some (knRf G q.1)) q.2) args s 0 0 (knA G)) 39 [(0, knO G a0), (1, knV a1), (2, knV q1)] [knV t11_0] μ := by
        intro t11_0 ht11_0
        intro hf
        refine kj_istore X (L' := [(4, knV t11_0), (0, knO G a0), (1, knV a1), (2, knV q1)]) dX1_pay_39 (by decide) rfl ?_
        refine kj_iconst X dX1_pay_41 ?_
        refine kj_istore X (L' := [(5, knV 0), (4, knV t11_0), (0, knO G a0), (1, knV a1), (2, knV q1)]) dX1_pay_42 (by decide) rfl ?_
        refine kj_sub (L' := [(0, knO G a0), (1, knV a1), (2, knV q1), (4, knV t11_0), (5, knV 0)]) [2, 3, 4, 1, 0] rfl ?_
        refine kfX1_pay_l44_ok X K hr hlk a0 a1 t11_0 ha0 ha1 ht11_0  ?_ knF _ h3 _ (show knC (0) from ⟨by omega, by omega⟩) _ hf
        intro w30_0 hw30_0 w30_m
        intro hf
        refine kj_aloadn X 0 dX1_pay_94 rfl ?_
        refine kj_dup X dX1_pay_95 rfl ?_
        refine kj_geti (k := 4) (ki := 4) X K rfl ha0 (by decide) (knEnt_0 ha0) rfl (by decide) knInX1 (knGm 207 (by decide +kernel) rfl) rfl rfl dX1_pay_96 (fun h32 => ?_)
        refine kj_iloadn X 1 dX1_pay_99 rfl ?_
        refine kj_iadd X dX1_pay_100 ?_
        refine kj_putf (k := 4) (ki := 4) (x := (knW ((w30_m a0 4) + w30_0))) (ty := .int) X K rfl (knKd_in ha0 (by decide)) (knEnt_0 ha0) rfl (by decide) knInX1 tyX1_ok nmX1 (knGm 207 (by decide +kernel) rfl) rfl rfl (by decide +kernel) rfl rfl (by simp) (by rw [knEnt_0 ha0, knUp_row]; rfl) (fun _ => (knCw _)) (fun h => by rw [ha0] at h; cases h) (fun h => by rw [ha0] at h; cases h) dX1_pay_101 ?_
        refine kj_refusal X K (i := 0) (by decide) (knGm 1195 (by decide +kernel) rfl) dX1_pay_104 ?_
        cases hf
        exact kj_aret X (show 0 ≤ (0 : Int) ∧ (0 : Int) < 6 from ⟨by omega, by omega⟩) hr (Or.inl ⟨_, rfl⟩) (Or.inr ⟨_, rfl⟩) dX1_pay_107 hlk
      obtain ⟨b33, hb33, hf⟩ := knBd_inv hf
      refine kj_if_ne X (tgt := 36) dX1_pay_29 (by decide) h8 (fun h34 => ?_) (fun h34 => ?_)
      · replace hb33 := knIq hb33 h34
        refine kj_iloadn X 1 dX1_pay_36 rfl ?_
        refine kj_iloadn X 0 dX1_pay_37 rfl ?_
        obtain ⟨h35, hb33⟩ := knGd_inv hb33
        refine kj_idiv X dX1_pay_38 h8 h35 ?_
        cases hb33
        refine kj_sub (L' := [(0, knO G a0), (1, knV a1), (2, knV q1)]) [2, 3, 1] rfl ?_
        exact j11 _ (knC_div _ _) hf
      · replace hb33 := knIp hb33 h34
        refine kj_iconst X dX1_pay_32 ?_
        refine kj_goto X (tgt := 39) dX1_pay_33 (by decide) ?_
        cases hb33
        refine kj_sub (L' := [(0, knO G a0), (1, knV a1), (2, knV q1)]) [2, 3, 1] rfl ?_
        exact j11 _ (show knC (0) from ⟨by omega, by omega⟩) hf
    · replace hf := knIp hf h5
      refine kj_refusal X K (i := 5) (by decide) (knGm 1233 (by decide +kernel) rfl) dX1_pay_18 ?_
      cases hf
      exact kj_aret X (show 0 ≤ (5 : Int) ∧ (5 : Int) < 6 from ⟨by omega, by omega⟩) hr (Or.inl ⟨_, rfl⟩) (Or.inr ⟨_, rfl⟩) dX1_pay_21 hlk
  · replace hf := knIp hf h4
    refine kj_refusal X K (i := 3) (by decide) (knGm 1194 (by decide +kernel) rfl) dX1_pay_9 ?_
    cases hf
    exact kj_aret X (show 0 ≤ (3 : Int) ∧ (3 : Int) < 6 from ⟨by omega, by omega⟩) hr (Or.inl ⟨_, rfl⟩) (Or.inr ⟨_, rfl⟩) dX1_pay_12 hlk

def kfX12_settle  (μ : knMem) : Option (Int × Int × knMem) :=
 Option.bind (kfX11_fewest 2 μ) (fun q1 =>
  Option.bind (kfX1_winners 6 q1.1 q1.2) (fun q4 =>
   Option.bind (kfX6_stage 1 q1.2) (fun q7 =>
    Option.bind (kfX1_pay 6 q1.1 q7) (fun q10 =>
     Option.bind (kfX12_finishChange q10.1 q10.2) (fun q13 =>
      if q13.1 = 0 then
      some (0, q4, q13.2)
      else
      some (q13.1, 0, q13.2))))))

theorem knWvX12_settle : knWv yX12_settle cX12_settle 3 (some .int) 0 := ⟨(knGm 1220 (by decide +kernel) rfl), (knGm 114 (by decide +kernel) rfl), (knGm 1218 (by decide +kernel) rfl), (knGm 1219 (by decide +kernel) rfl), by decide +kernel, by decide +kernel, by decide +kernel⟩
set_option maxHeartbeats 4000000 in
set_option maxRecDepth 100000 in
theorem kcX12_settle {G : knGT} (l : Launch) (hl : l.stackTraces = false)   {μ : knMem} {q : Int × Int × knMem} (hf : kfX12_settle  μ = some q) : knCx G l yX12_settle cX12_settle 3 (some .int) 8 141 1 6 [knO G 0] μ (knC q.2.1) q.1 (some (knV q.2.1)) q.2.2 := by
  unfold kfX12_settle at hf
  refine kn_ofJx (by decide) (Nat.le_of_ble_eq_true rfl) (L := [(0, knO G 0)]) rfl ?_
  intro p e s m args below meth c X K hr hlk hnx
  refine kj_aloadn X 0 dX12_settle_0 rfl ?_
  refine kj_geto (k := 8) (o2 := 132) X K kdc_0 (by decide) (knEnt_9 kdc_0) rfl (by decide) knInX12 (knGm 369 (by decide +kernel) rfl) rfl rfl dX12_settle_1 ?_
  refine kj_aloadn X 0 dX12_settle_4 rfl ?_
  refine kj_geto (k := 1) (o2 := 2) X K kdc_0 (by decide) (knEnt_9 kdc_0) rfl (by decide) knInX12 (knGm 362 (by decide +kernel) rfl) rfl rfl dX12_settle_5 ?_
  obtain ⟨q1, h2, hf⟩ := knBd_inv hf
  refine kj_callV (As := [knO G 2]) (rest := []) X K (kcX11_fewest l kdc_2 h2) knWvX11_fewest (knGm 844 (by decide +kernel) rfl) (by decide) (knKd_in kdc_132 (by decide)) (knEnt_8 kdc_132) rfl rfl rfl (Nat.le_of_ble_eq_true rfl) (by decide) dX12_settle_8 rfl (fun h3 => ?_)
  refine kj_istoren X (L' := [(1, knV q1.1), (0, knO G 0)]) dX12_settle_11 (by decide) rfl ?_
  refine kj_aloadn X 1 dX12_settle_12 rfl ?_
  refine kj_geto (k := 2) (o2 := 6) X K kdc_0 (by decide) (knEnt_9 kdc_0) rfl (by decide) knInX12 (knGm 363 (by decide +kernel) rfl) rfl rfl dX12_settle_13 ?_
  refine kj_iloadn X 0 dX12_settle_16 rfl ?_
  obtain ⟨q4, h5, hf⟩ := knBd_inv hf
  refine kj_callV (As := [knV q1.1]) (rest := []) X K (kcX1_winners l kdc_6 h3 h5) knWvX1_winners (knGm 1221 (by decide +kernel) rfl) (by decide) (knKd_in kdc_6 (by decide)) (knEnt_0 kdc_6) rfl rfl rfl (Nat.le_of_ble_eq_true rfl) (by decide) dX12_settle_17 rfl (fun h6 => ?_)
  refine kj_istoren X (L' := [(2, knV q4), (1, knV q1.1), (0, knO G 0)]) dX12_settle_20 (by decide) rfl ?_
  refine kj_aloadn X 2 dX12_settle_21 rfl ?_
  refine kj_geto (k := 5) (o2 := 23) X K kdc_0 (by decide) (knEnt_9 kdc_0) rfl (by decide) knInX12 (knGm 366 (by decide +kernel) rfl) rfl rfl dX12_settle_22 ?_
  refine kj_aloadn X 2 dX12_settle_25 rfl ?_
  refine kj_geto (k := 0) (o2 := 1) X K kdc_0 (by decide) (knEnt_9 kdc_0) rfl (by decide) knInX12 (knGm 361 (by decide +kernel) rfl) rfl rfl dX12_settle_26 ?_
  obtain ⟨q7, h8, hf⟩ := knBd_inv hf
  refine kj_callV (As := [knO G 1]) (rest := []) X K (kcX6_stage l kdc_1 h8) knWvX6_stage (knGm 408 (by decide +kernel) rfl) (by decide) (knKd_in kdc_23 (by decide)) (knEnt_4 kdc_23) rfl rfl rfl (Nat.le_of_ble_eq_true rfl) (by decide) dX12_settle_29 rfl (fun h9 => ?_)
  refine kj_aloadn X 2 dX12_settle_32 rfl ?_
  refine kj_aloadn X 2 dX12_settle_33 rfl ?_
  refine kj_geto (k := 2) (o2 := 6) X K kdc_0 (by decide) (knEnt_9 kdc_0) rfl (by decide) knInX12 (knGm 363 (by decide +kernel) rfl) rfl rfl dX12_settle_34 ?_
  refine kj_iloadn X 1 dX12_settle_37 rfl ?_
  obtain ⟨q10, h11, hf⟩ := knBd_inv hf
  refine kj_callV (As := [knV q1.1]) (rest := [knO G 0]) X K (kcX1_pay l kdc_6 h3 h11) knWvX1_pay (knGm 1229 (by decide +kernel) rfl) (by decide) (knKd_in kdc_6 (by decide)) (knEnt_0 kdc_6) rfl rfl rfl (Nat.le_of_ble_eq_true rfl) (by decide) dX12_settle_38 rfl (fun h12 => ?_)
  obtain ⟨q13, h14, hf⟩ := knBd_inv hf
  refine kjx_callV (As := [knRf G q10.1]) (rest := []) X K (kcX12_finishChange l hl h12 h14) knWvX12_finishChange (knGm 434 (by decide +kernel) rfl) (by decide) (knKd_in kdc_0 (by decide)) (knEnt_9 kdc_0) rfl rfl rfl (Nat.le_of_ble_eq_true rfl) (by decide) dX12_settle_41 rfl (fun h16 h15 => ?_) (fun E17 h16 h18 => ?_)
  · replace hf := knIp hf h16
    refine kj_iloadn X 0 dX12_settle_44 rfl ?_
    cases hf
    exact kjx_iret X h6 rfl (by decide) (by decide) hr dX12_settle_45 hlk
  · replace hf := knIq hf h16
    cases hf
    exact kjx_out h16 h18 (by decide) (by decide) hnx hlk

def kfX12_playerCount  (μ : knMem) : Option (Int) :=
 some (μ 6 3)

theorem knWvX12_playerCount : knWv yX12_playerCount cX12_playerCount 1 (some .int) 0 := ⟨(knGm 783 (by decide +kernel) rfl), (knGm 114 (by decide +kernel) rfl), (knGm 781 (by decide +kernel) rfl), (knGm 782 (by decide +kernel) rfl), by decide +kernel, by decide +kernel, by decide +kernel⟩
set_option maxHeartbeats 4000000 in
set_option maxRecDepth 100000 in
theorem kcX12_playerCount {G : knGT} (l : Launch)   {μ : knMem} {q : Int} (hf : kfX12_playerCount  μ = some q) : knC0 G l yX12_playerCount cX12_playerCount 1 (some .int) 0 0 [knO G 0] μ (knC q) (some (knV q)) μ := by
  unfold kfX12_playerCount at hf
  refine kn_ofJ (plainFor_of_name (by decide)) (Nat.le_of_ble_eq_true rfl) (L := [(0, knO G 0)]) rfl ?_
  intro p e s m args below meth c X K hr hlk
  refine kj_aloadn X 0 dX12_playerCount_0 rfl ?_
  refine kj_geto (k := 2) (o2 := 6) X K kdc_0 (by decide) (knEnt_9 kdc_0) rfl (by decide) knInX12 (knGm 363 (by decide +kernel) rfl) rfl rfl dX12_playerCount_1 ?_
  refine kj_geti (k := 3) (ki := 3) X K rfl kdc_6 (by decide) (knEnt_0 kdc_6) rfl (by decide) knInX1 (knGm 206 (by decide +kernel) rfl) rfl rfl dX12_playerCount_4 (fun h1 => ?_)
  cases hf
  exact kj_iret X h1 hr dX12_playerCount_7 hlk

def kfX12_requirePlayer (a1 : Int) (μ : knMem) : Option (Int) :=
 Option.bind (kfX1_hasPlayer 6 a1 μ) (fun q1 =>
  if q1 = 0 then
   some 1
  else
   some 0)

theorem knWvX12_requirePlayer : knWv yX12_requirePlayer cX12_requirePlayer 2 none 1 := ⟨(knGm 1245 (by decide +kernel) rfl), (knGm 114 (by decide +kernel) rfl), (knGm 1244 (by decide +kernel) rfl), (knGm 21 (by decide +kernel) rfl), by decide +kernel, by decide +kernel, by decide +kernel⟩
set_option maxHeartbeats 4000000 in
set_option maxRecDepth 100000 in
theorem kcX12_requirePlayer {G : knGT} (l : Launch) (hl : l.stackTraces = false) {a1 : Int} (ha1 : knC a1) {μ : knMem} {q : Int} (hf : kfX12_requirePlayer a1 μ = some q) : knCx G l yX12_requirePlayer cX12_requirePlayer 2 none 6 100 1 6 [knO G 0, knV a1] μ True q none μ := by
  unfold kfX12_requirePlayer at hf
  refine kn_ofJx (by decide) (Nat.le_of_ble_eq_true rfl) (L := [(0, knO G 0), (1, knV a1)]) rfl ?_
  intro p e s m args below meth c X K hr hlk hnx
  refine kj_aloadn X 0 dX12_requirePlayer_0 rfl ?_
  refine kj_geto (k := 2) (o2 := 6) X K kdc_0 (by decide) (knEnt_9 kdc_0) rfl (by decide) knInX12 (knGm 363 (by decide +kernel) rfl) rfl rfl dX12_requirePlayer_1 ?_
  refine kj_iloadn X 1 dX12_requirePlayer_4 rfl ?_
  obtain ⟨q1, h2, hf⟩ := knBd_inv hf
  refine kj_callV (As := [knV a1]) (rest := []) X K (kcX1_hasPlayer l kdc_6 ha1 h2) knWvX1_hasPlayer (knGm 1246 (by decide +kernel) rfl) (by decide) (knKd_in kdc_6 (by decide)) (knEnt_0 kdc_6) rfl rfl rfl (Nat.le_of_ble_eq_true rfl) (by decide) dX12_requirePlayer_5 rfl (fun h3 => ?_)
  refine kj_if_ne X (tgt := 22) dX12_requirePlayer_8 (by decide) (knZ_c h3) (fun h4 => ?_) (fun h4 => ?_)
  · replace hf := knIq hf h4
    cases hf
    exact kjx_vret X trivial rfl (by decide) (by decide) hr dX12_requirePlayer_22 hlk
  · replace hf := knIp hf h4
    cases hf
    exact kjx_throwW X K hl (i := 11) (by show (1 : Int) ≠ 0; decide) rfl (by decide +kernel) (by decide) rfl rfl knTh1.1 knTh1.2 dX12_requirePlayer_11 dX12_requirePlayer_14 dX12_requirePlayer_15 dX12_requirePlayer_18 dX12_requirePlayer_21 hnx (by decide) hlk (by decide) (by decide)

def kfX12_coins (a1 : Int) (μ : knMem) : Option (Int × Int) :=
 Option.bind (kfX12_requirePlayer a1 μ) (fun q1 =>
  if q1 = 0 then
  knGd (0 ≤ a1 ∧ a1 < 4)
   (some (0, (μ 7 a1)))
  else
  some (q1, 0))

theorem knWvX12_coins : knWv yX12_coins cX12_coins 2 (some .int) 1 := ⟨(knGm 1241 (by decide +kernel) rfl), (knGm 114 (by decide +kernel) rfl), (knGm 1239 (by decide +kernel) rfl), (knGm 1240 (by decide +kernel) rfl), by decide +kernel, by decide +kernel, by decide +kernel⟩
set_option maxHeartbeats 4000000 in
set_option maxRecDepth 100000 in
theorem kcX12_coins {G : knGT} (l : Launch) (hl : l.stackTraces = false) {a1 : Int} (ha1 : knC a1) {μ : knMem} {q : Int × Int} (hf : kfX12_coins a1 μ = some q) : knCx G l yX12_coins cX12_coins 2 (some .int) 7 121 1 6 [knO G 0, knV a1] μ (knC q.2) q.1 (some (knV q.2)) μ := by
  unfold kfX12_coins at hf
  refine kn_ofJx (by decide) (Nat.le_of_ble_eq_true rfl) (L := [(0, knO G 0), (1, knV a1)]) rfl ?_
  intro p e s m args below meth c X K hr hlk hnx
  refine kj_aloadn X 0 dX12_coins_0 rfl ?_
  refine kj_iloadn X 1 dX12_coins_1 rfl ?_
  obtain ⟨q1, h2, hf⟩ := knBd_inv hf
  refine kjx_callV (As := [knV a1]) (rest := []) X K (kcX12_requirePlayer l hl ha1 h2) knWvX12_requirePlayer (knGm 1242 (by decide +kernel) rfl) (by decide) (knKd_in kdc_0 (by decide)) (knEnt_9 kdc_0) rfl rfl rfl (Nat.le_of_ble_eq_true rfl) (by decide) dX12_coins_2 rfl (fun h4 h3 => ?_) (fun E5 h4 h6 => ?_)
  · replace hf := knIp hf h4
    refine kj_aloadn X 0 dX12_coins_5 rfl ?_
    refine kj_geto (k := 2) (o2 := 6) X K kdc_0 (by decide) (knEnt_9 kdc_0) rfl (by decide) knInX12 (knGm 363 (by decide +kernel) rfl) rfl rfl dX12_coins_6 ?_
    refine kj_geto (k := 0) (o2 := 7) X K kdc_6 (by decide) (knEnt_0 kdc_6) rfl (by decide) knInX1 (knGm 200 (by decide +kernel) rfl) rfl rfl dX12_coins_9 ?_
    refine kj_iloadn X 1 dX12_coins_12 rfl ?_
    obtain ⟨h7, hf⟩ := knGd_inv hf
    refine kj_iald X K kdc_7 ha1 lnc_7 h7 dX12_coins_13 (fun h8 => ?_)
    cases hf
    exact kjx_iret X h8 rfl (by decide) (by decide) hr dX12_coins_14 hlk
  · replace hf := knIq hf h4
    cases hf
    exact kjx_out h4 h6 (by decide) (by decide) hnx hlk

def kfX12_guess (a1 : Int) (μ : knMem) : Option (Int × Int) :=
 Option.bind (kfX12_requirePlayer a1 μ) (fun q1 =>
  if q1 = 0 then
  knGd (0 ≤ a1 ∧ a1 < 4)
   (if (μ 9 a1) = 0 then
   some (5, 0)
  else
   some (0, (μ 8 a1)))
  else
  some (q1, 0))

theorem knWvX12_guess : knWv yX12_guess cX12_guess 2 (some .int) 1 := ⟨(knGm 1254 (by decide +kernel) rfl), (knGm 114 (by decide +kernel) rfl), (knGm 1252 (by decide +kernel) rfl), (knGm 1253 (by decide +kernel) rfl), by decide +kernel, by decide +kernel, by decide +kernel⟩
set_option maxHeartbeats 4000000 in
set_option maxRecDepth 100000 in
theorem kcX12_guess {G : knGT} (l : Launch) (hl : l.stackTraces = false) {a1 : Int} (ha1 : knC a1) {μ : knMem} {q : Int × Int} (hf : kfX12_guess a1 μ = some q) : knCx G l yX12_guess cX12_guess 2 (some .int) 7 121 2 12 [knO G 0, knV a1] μ (knC q.2) q.1 (some (knV q.2)) μ := by
  unfold kfX12_guess at hf
  refine kn_ofJx (by decide) (Nat.le_of_ble_eq_true rfl) (L := [(0, knO G 0), (1, knV a1)]) rfl ?_
  intro p e s m args below meth c X K hr hlk hnx
  refine kj_aloadn X 0 dX12_guess_0 rfl ?_
  refine kj_iloadn X 1 dX12_guess_1 rfl ?_
  obtain ⟨q1, h2, hf⟩ := knBd_inv hf
  refine kjx_callV (As := [knV a1]) (rest := []) X K (kcX12_requirePlayer l hl ha1 h2) knWvX12_requirePlayer (knGm 1242 (by decide +kernel) rfl) (by decide) (knKd_in kdc_0 (by decide)) (knEnt_9 kdc_0) rfl rfl rfl (Nat.le_of_ble_eq_true rfl) (by decide) dX12_guess_2 rfl (fun h4 h3 => ?_) (fun E5 h4 h6 => ?_)
  · replace hf := knIp hf h4
    refine kj_aloadn X 0 dX12_guess_5 rfl ?_
    refine kj_geto (k := 2) (o2 := 6) X K kdc_0 (by decide) (knEnt_9 kdc_0) rfl (by decide) knInX12 (knGm 363 (by decide +kernel) rfl) rfl rfl dX12_guess_6 ?_
    refine kj_geto (k := 2) (o2 := 9) X K kdc_6 (by decide) (knEnt_0 kdc_6) rfl (by decide) knInX1 (knGm 204 (by decide +kernel) rfl) rfl rfl dX12_guess_9 ?_
    refine kj_iloadn X 1 dX12_guess_12 rfl ?_
    obtain ⟨h7, hf⟩ := knGd_inv hf
    refine kj_iald X K kdc_9 ha1 lnc_9 h7 dX12_guess_13 (fun h8 => ?_)
    refine kj_if_ne X (tgt := 28) dX12_guess_14 (by decide) h8 (fun h9 => ?_) (fun h9 => ?_)
    · replace hf := knIq hf h9
      refine kj_aloadn X 0 dX12_guess_28 rfl ?_
      refine kj_geto (k := 2) (o2 := 6) X K kdc_0 (by decide) (knEnt_9 kdc_0) rfl (by decide) knInX12 (knGm 363 (by decide +kernel) rfl) rfl rfl dX12_guess_29 ?_
      refine kj_geto (k := 1) (o2 := 8) X K kdc_6 (by decide) (knEnt_0 kdc_6) rfl (by decide) knInX1 (knGm 202 (by decide +kernel) rfl) rfl rfl dX12_guess_32 ?_
      refine kj_iloadn X 1 dX12_guess_35 rfl ?_
      refine kj_iald X K kdc_8 ha1 lnc_8 h7 dX12_guess_36 (fun h10 => ?_)
      cases hf
      exact kjx_iret X h10 rfl (by decide) (by decide) hr dX12_guess_37 hlk
    · replace hf := knIp hf h9
      cases hf
      exact kjx_throw5W X K hl (i := 12) (by show (5 : Int) ≠ 0; decide) rfl (by decide +kernel) (by decide) rfl rfl knTh5.1 knTh5.2 dX12_guess_17 dX12_guess_20 dX12_guess_21 dX12_guess_24 dX12_guess_27 hnx (by decide) hlk (by decide) (by decide)
  · replace hf := knIq hf h4
    cases hf
    exact kjx_out h4 h6 (by decide) (by decide) hnx hlk

def kfX12_pot  (μ : knMem) : Option (Int) :=
 Option.bind (kfX1_allStakes 6 μ) (fun q1 =>
  some q1)

theorem knWvX12_pot : knWv yX12_pot cX12_pot 1 (some .int) 0 := ⟨(knGm 787 (by decide +kernel) rfl), (knGm 114 (by decide +kernel) rfl), (knGm 785 (by decide +kernel) rfl), (knGm 786 (by decide +kernel) rfl), by decide +kernel, by decide +kernel, by decide +kernel⟩
set_option maxHeartbeats 4000000 in
set_option maxRecDepth 100000 in
theorem kcX12_pot {G : knGT} (l : Launch)   {μ : knMem} {q : Int} (hf : kfX12_pot  μ = some q) : knC0 G l yX12_pot cX12_pot 1 (some .int) 1 22 [knO G 0] μ (knC q) (some (knV q)) μ := by
  unfold kfX12_pot at hf
  refine kn_ofJ (plainFor_of_name (by decide)) (Nat.le_of_ble_eq_true rfl) (L := [(0, knO G 0)]) rfl ?_
  intro p e s m args below meth c X K hr hlk
  refine kj_aloadn X 0 dX12_pot_0 rfl ?_
  refine kj_geto (k := 2) (o2 := 6) X K kdc_0 (by decide) (knEnt_9 kdc_0) rfl (by decide) knInX12 (knGm 363 (by decide +kernel) rfl) rfl rfl dX12_pot_1 ?_
  obtain ⟨q1, h2, hf⟩ := knBd_inv hf
  refine kj_callV (As := []) (rest := []) X K (kcX1_allStakes l kdc_6 h2) knWvX1_allStakes (knGm 788 (by decide +kernel) rfl) (by decide) (knKd_in kdc_6 (by decide)) (knEnt_0 kdc_6) rfl rfl rfl (Nat.le_of_ble_eq_true rfl) (by decide) dX12_pot_4 rfl (fun h3 => ?_)
  cases hf
  exact kj_iret X h3 hr dX12_pot_7 hlk

def kfX12_house  (μ : knMem) : Option (Int) :=
 some (μ 6 4)

theorem knWvX12_house : knWv yX12_house cX12_house 1 (some .int) 0 := ⟨(knGm 795 (by decide +kernel) rfl), (knGm 114 (by decide +kernel) rfl), (knGm 793 (by decide +kernel) rfl), (knGm 794 (by decide +kernel) rfl), by decide +kernel, by decide +kernel, by decide +kernel⟩
set_option maxHeartbeats 4000000 in
set_option maxRecDepth 100000 in
theorem kcX12_house {G : knGT} (l : Launch)   {μ : knMem} {q : Int} (hf : kfX12_house  μ = some q) : knC0 G l yX12_house cX12_house 1 (some .int) 0 0 [knO G 0] μ (knC q) (some (knV q)) μ := by
  unfold kfX12_house at hf
  refine kn_ofJ (plainFor_of_name (by decide)) (Nat.le_of_ble_eq_true rfl) (L := [(0, knO G 0)]) rfl ?_
  intro p e s m args below meth c X K hr hlk
  refine kj_aloadn X 0 dX12_house_0 rfl ?_
  refine kj_geto (k := 2) (o2 := 6) X K kdc_0 (by decide) (knEnt_9 kdc_0) rfl (by decide) knInX12 (knGm 363 (by decide +kernel) rfl) rfl rfl dX12_house_1 ?_
  refine kj_geti (k := 4) (ki := 4) X K rfl kdc_6 (by decide) (knEnt_0 kdc_6) rfl (by decide) knInX1 (knGm 208 (by decide +kernel) rfl) rfl rfl dX12_house_4 (fun h1 => ?_)
  cases hf
  exact kj_iret X h1 hr dX12_house_7 hlk

def kfX1_rankOf_l4  (x0 : Int) (x1 : Int) (μ : knMem) (kc : (Int) → Option (Int)) : Nat → Int → Int → Option (Int)
  | 0, _, _ => none
  | n + 1, x2, x3 =>
    if (μ x0 3) ≤ x3 then
     kc x2
    else
     knGd (0 ≤ x3 ∧ x3 < 4)
      (knGd (0 ≤ x1 ∧ x1 < 4)
      (kfX1_rankOf_l4  x0 x1 μ kc n (if (μ (x0 + 1) x1) < (μ (x0 + 1) x3) then (knW (x2 + 1)) else if (μ (x0 + 1) x3) = (μ (x0 + 1) x1) then if x1 ≤ x3 then x2 else (knW (x2 + 1)) else x2 : Int) (knW (x3 + 1))))

def kfX1_rankOf (a0 : Int) (a1 : Int) (μ : knMem) : Option (Int) :=
 kfX1_rankOf_l4 a0 a1 μ (fun w23 =>
  some w23) knF 0 0

theorem knWvX1_rankOf : knWv yX1_rankOf cX1_rankOf 4 (some .int) 1 := ⟨(knGm 1270 (by decide +kernel) rfl), (knGm 117 (by decide +kernel) rfl), (knGm 1269 (by decide +kernel) rfl), (knGm 22 (by decide +kernel) rfl), by decide +kernel, by decide +kernel, by decide +kernel⟩
set_option maxHeartbeats 4000000 in
set_option maxRecDepth 100000 in
theorem kfX1_rankOf_l4_ok {q : Int} {kc : (Int) → Option (Int)} {G : knGT} {p : Program} {l : Launch} {e : Env} {s : State} {m : MethodId} {args : Array Value} {below : List Frame} {meth : Method} {c : Code} (X : knX p m c cX1_rankOf 4 s args yX1_rankOf.cls) (K : knK G s s.heap) (hr : meth.sig.returnType = (some .int)) (hlk : meth.locks = false) (x0 : Int) (x1 : Int) (hx0 : knKd x0 = 0) (hx1 : knC x1) (μ : knMem) (hk : ∀ (y2 : Int) (hy2 : knC y2), kc y2 = some q → knJ G p l e { frames := 0, cells := 0, slots := 0, locals := 0 } s m args below meth c 4 0 0 (MQ below (knPo G (knC q) (some (knV q)) μ) args s 0 0 (knA G)) 56 [(2, knV y2)] [] μ) : ∀ (n : Nat) (x2 : Int) (hx2 : knC x2) (x3 : Int) (hx3 : knC x3) , kfX1_rankOf_l4  x0 x1 μ kc n x2 x3 = some q → knJ G p l e { frames := 0, cells := 0, slots := 0, locals := 0 } s m args below meth c 4 0 0 (MQ below (knPo G (knC q) (some (knV q)) μ) args s 0 0 (knA G)) 4 [(0, knO G x0), (1, knV x1), (2, knV x2), (3, knV x3)] [] μ := by
  intro n
  induction n with
  | zero => intro x2 hx2 x3 hx3 hf; cases hf
  | succ n ih =>
    intro x2 hx2 x3 hx3 hf
    unfold kfX1_rankOf_l4 at hf
    refine kj_iloadn X 3 dX1_rankOf_4 rfl ?_
    refine kj_aloadn X 0 dX1_rankOf_5 rfl ?_
    refine kj_geti (k := 3) (ki := 3) X K rfl hx0 (by decide) (knEnt_0 hx0) rfl (by decide) knInX1 (knGm 205 (by decide +kernel) rfl) rfl rfl dX1_rankOf_6 (fun h1 => ?_)
    refine kj_ic_ge X (tgt := 56) dX1_rankOf_9 (by decide) hx3 h1 (fun h2 => ?_) (fun h2 => ?_)
    · replace hf := knIp hf h2
      refine kj_sub (L' := [(2, knV x2)]) [2] rfl ?_
      exact hk _ hx2 hf
    · replace hf := knIq hf h2
      refine kj_aloadn X 0 dX1_rankOf_12 rfl ?_
      refine kj_geto (k := 0) (o2 := (x0 + 1)) X K hx0 (by decide) (knEnt_0 hx0) rfl (by decide) knInX1 (knGm 199 (by decide +kernel) rfl) rfl rfl dX1_rankOf_13 ?_
      refine kj_iloadn X 3 dX1_rankOf_16 rfl ?_
      obtain ⟨h3, hf⟩ := knGd_inv hf
      refine kj_iald X K (knD0 hx0).1.1 hx3 (knD0 hx0).2.1 h3 dX1_rankOf_17 (fun h4 => ?_)
      refine kj_aloadn X 0 dX1_rankOf_18 rfl ?_
      refine kj_geto (k := 0) (o2 := (x0 + 1)) X K hx0 (by decide) (knEnt_0 hx0) rfl (by decide) knInX1 (knGm 199 (by decide +kernel) rfl) rfl rfl dX1_rankOf_19 ?_
      refine kj_iloadn X 1 dX1_rankOf_22 rfl ?_
      obtain ⟨h5, hf⟩ := knGd_inv hf
      refine kj_iald X K (knD0 hx0).1.1 hx1 (knD0 hx0).2.1 h5 dX1_rankOf_23 (fun h6 => ?_)
      have j12 : ∀ (t12_0 : Int) (et12_0 : t12_0 = (if (μ (x0 + 1) x1) < (μ (x0 + 1) x3) then (knW (x2 + 1)) else if (μ (x0 + 1) x3) = (μ (x0 + 1) x1) then if x1 ≤ x3 then x2 else (knW (x2 + 1)) else x2 : Int)) (ht12_0 : knC t12_0), knJ G p l e { frames := 0, cells := 0, slots := 0, locals := 0 } s m args below meth c 4 0 0 (MQ below (knPo G (knC q) (some (knV q)) μ) args s 0 0 (knA G)) 50 [(0, knO G x0), (1, knV x1), (2, knV t12_0), (3, knV x3)] [] μ := by
        intro t12_0 et12_0 ht12_0
        subst et12_0
        refine kj_iinc X 3 (L' := [(3, knV (knW (x3 + 1))), (0, knO G x0), (1, knV x1), (2, knV (if (μ (x0 + 1) x1) < (μ (x0 + 1) x3) then (knW (x2 + 1)) else if (μ (x0 + 1) x3) = (μ (x0 + 1) x1) then if x1 ≤ x3 then x2 else (knW (x2 + 1)) else x2 : Int))]) dX1_rankOf_50 rfl (by decide) rfl ?_
        refine kj_goto X (tgt := 4) dX1_rankOf_53 (by decide) ?_
        refine kj_sub (L' := [(0, knO G x0), (1, knV x1), (2, knV (if (μ (x0 + 1) x1) < (μ (x0 + 1) x3) then (knW (x2 + 1)) else if (μ (x0 + 1) x3) = (μ (x0 + 1) x1) then if x1 ≤ x3 then x2 else (knW (x2 + 1)) else x2 : Int)), (3, knV (knW (x3 + 1)))]) [1, 2, 3, 0] rfl ?_
        exact ih _ ht12_0 _ (knCw _)  hf
      refine kj_ic_gt X (tgt := 47) dX1_rankOf_24 (by decide) h4 h6 (fun h18 => ?_) (fun h18 => ?_)
      · refine kj_iinc X 2 (L' := [(2, knV (knW (x2 + 1))), (0, knO G x0), (1, knV x1), (3, knV x3)]) dX1_rankOf_47 rfl (by decide) rfl ?_
        refine kj_sub (L' := [(0, knO G x0), (1, knV x1), (2, knV (knW (x2 + 1))), (3, knV x3)]) [1, 2, 0, 3] rfl ?_
        exact j12 (knW (x2 + 1)) (by rw [if_pos h18]) (knCw _)
      · refine kj_aloadn X 0 dX1_rankOf_27 rfl ?_
        refine kj_geto (k := 0) (o2 := (x0 + 1)) X K hx0 (by decide) (knEnt_0 hx0) rfl (by decide) knInX1 (knGm 199 (by decide +kernel) rfl) rfl rfl dX1_rankOf_28 ?_
        refine kj_iloadn X 3 dX1_rankOf_31 rfl ?_
        refine kj_iald X K (knD0 hx0).1.1 hx3 (knD0 hx0).2.1 h3 dX1_rankOf_32 (fun h19 => ?_)
        refine kj_aloadn X 0 dX1_rankOf_33 rfl ?_
        refine kj_geto (k := 0) (o2 := (x0 + 1)) X K hx0 (by decide) (knEnt_0 hx0) rfl (by decide) knInX1 (knGm 199 (by decide +kernel) rfl) rfl rfl dX1_rankOf_34 ?_
        refine kj_iloadn X 1 dX1_rankOf_37 rfl ?_
        refine kj_iald X K (knD0 hx0).1.1 hx1 (knD0 hx0).2.1 h5 dX1_rankOf_38 (fun h20 => ?_)
        refine kj_ic_ne X (tgt := 50) dX1_rankOf_39 (by decide) h19 h20 (fun h21 => ?_) (fun h21 => ?_)
        · refine kj_sub (L' := [(0, knO G x0), (1, knV x1), (2, knV x2), (3, knV x3)]) [0, 1, 2, 3] rfl ?_
          exact j12 x2 (by rw [if_neg h18, if_neg h21]) hx2
        · refine kj_iloadn X 3 dX1_rankOf_42 rfl ?_
          refine kj_iloadn X 1 dX1_rankOf_43 rfl ?_
          refine kj_ic_ge X (tgt := 50) dX1_rankOf_44 (by decide) hx3 hx1 (fun h22 => ?_) (fun h22 => ?_)
          · refine kj_sub (L' := [(0, knO G x0), (1, knV x1), (2, knV x2), (3, knV x3)]) [0, 1, 2, 3] rfl ?_
            exact j12 x2 (by rw [if_neg h18, if_pos h21, if_pos h22]) hx2
          · refine kj_iinc X 2 (L' := [(2, knV (knW (x2 + 1))), (0, knO G x0), (1, knV x1), (3, knV x3)]) dX1_rankOf_47 rfl (by decide) rfl ?_
            refine kj_sub (L' := [(0, knO G x0), (1, knV x1), (2, knV (knW (x2 + 1))), (3, knV x3)]) [1, 2, 0, 3] rfl ?_
            exact j12 (knW (x2 + 1)) (by rw [if_neg h18, if_pos h21, if_neg h22]) (knCw _)

set_option maxHeartbeats 4000000 in
set_option maxRecDepth 100000 in
theorem kcX1_rankOf {G : knGT} (l : Launch) {a0 : Int} {a1 : Int} (ha0 : knKd a0 = 0) (ha1 : knC a1) {μ : knMem} {q : Int} (hf : kfX1_rankOf a0 a1 μ = some q) : knC0 G l yX1_rankOf cX1_rankOf 4 (some .int) 0 0 [knO G a0, knV a1] μ (knC q) (some (knV q)) μ := by
  unfold kfX1_rankOf at hf
  refine kn_ofJ (plainFor_of_name (by decide)) (Nat.le_of_ble_eq_true rfl) (L := [(0, knO G a0), (1, knV a1)]) rfl ?_
  intro p e s m args below meth c X K hr hlk
  refine kj_iconst X dX1_rankOf_0 ?_
  refine kj_istoren X (L' := [(2, knV 0), (0, knO G a0), (1, knV a1)]) dX1_rankOf_1 (by decide) rfl ?_
  refine kj_iconst X dX1_rankOf_2 ?_
  refine kj_istoren X (L' := [(3, knV 0), (2, knV 0), (0, knO G a0), (1, knV a1)]) dX1_rankOf_3 (by decide) rfl ?_
  refine kj_sub (L' := [(0, knO G a0), (1, knV a1), (2, knV 0), (3, knV 0)]) [2, 3, 1, 0] rfl ?_
  refine kfX1_rankOf_l4_ok X K hr hlk a0 a1 ha0 ha1 μ ?_ knF _ (show knC (0) from ⟨by omega, by omega⟩) _ (show knC (0) from ⟨by omega, by omega⟩)  hf
  intro w23_0 hw23_0
  intro hf
  refine kj_iloadn X 0 dX1_rankOf_56 rfl ?_
  cases hf
  exact kj_iret X hw23_0 hr dX1_rankOf_57 hlk

def kfX1_playerOfRank_l2  (x0 : Int) (x1 : Int) (μ : knMem) (kc : (Unit) → Option (Int)) : Nat → Int → Option (Int)
  | 0, _ => none
  | n + 1, x2 =>
    if (μ x0 3) ≤ x2 then
     kc ()
    else
     Option.bind (kfX1_rankOf x0 x2 μ) (fun q3 =>
      if q3 = x1 then
       some x2
      else
       kfX1_playerOfRank_l2  x0 x1 μ kc n (knW (x2 + 1)))

def kfX1_playerOfRank (a0 : Int) (a1 : Int) (μ : knMem) : Option (Int) :=
 kfX1_playerOfRank_l2 a0 a1 μ (fun _ =>
  some (-1)) knF 0

theorem knWvX1_playerOfRank : knWv yX1_playerOfRank cX1_playerOfRank 3 (some .int) 1 := ⟨(knGm 1266 (by decide +kernel) rfl), (knGm 117 (by decide +kernel) rfl), (knGm 1264 (by decide +kernel) rfl), (knGm 1265 (by decide +kernel) rfl), by decide +kernel, by decide +kernel, by decide +kernel⟩
set_option maxHeartbeats 4000000 in
set_option maxRecDepth 100000 in
theorem kfX1_playerOfRank_l2_ok {q : Int} {kc : (Unit) → Option (Int)} {G : knGT} {p : Program} {l : Launch} {e : Env} {s : State} {m : MethodId} {args : Array Value} {below : List Frame} {meth : Method} {c : Code} (X : knX p m c cX1_playerOfRank 3 s args yX1_playerOfRank.cls) (K : knK G s s.heap) (hr : meth.sig.returnType = (some .int)) (hlk : meth.locks = false) (x0 : Int) (x1 : Int) (hx0 : knKd x0 = 0) (hx1 : knC x1) (μ : knMem) (hk : kc () = some q → knJ G p l e { frames := 1, cells := 0, slots := 0, locals := 23 } s m args below meth c 3 0 0 (MQ below (knPo G (knC q) (some (knV q)) μ) args s 0 0 (knA G)) 27 [] [] μ) : ∀ (n : Nat) (x2 : Int) (hx2 : knC x2) , kfX1_playerOfRank_l2  x0 x1 μ kc n x2 = some q → knJ G p l e { frames := 1, cells := 0, slots := 0, locals := 23 } s m args below meth c 3 0 0 (MQ below (knPo G (knC q) (some (knV q)) μ) args s 0 0 (knA G)) 2 [(0, knO G x0), (1, knV x1), (2, knV x2)] [] μ := by
  intro n
  induction n with
  | zero => intro x2 hx2 hf; cases hf
  | succ n ih =>
    intro x2 hx2 hf
    unfold kfX1_playerOfRank_l2 at hf
    refine kj_iloadn X 2 dX1_playerOfRank_2 rfl ?_
    refine kj_aloadn X 0 dX1_playerOfRank_3 rfl ?_
    refine kj_geti (k := 3) (ki := 3) X K rfl hx0 (by decide) (knEnt_0 hx0) rfl (by decide) knInX1 (knGm 205 (by decide +kernel) rfl) rfl rfl dX1_playerOfRank_4 (fun h1 => ?_)
    refine kj_ic_ge X (tgt := 27) dX1_playerOfRank_7 (by decide) hx2 h1 (fun h2 => ?_) (fun h2 => ?_)
    · replace hf := knIp hf h2
      refine kj_sub (L' := []) [] rfl ?_
      exact hk  hf
    · replace hf := knIq hf h2
      refine kj_aloadn X 0 dX1_playerOfRank_10 rfl ?_
      refine kj_iloadn X 2 dX1_playerOfRank_11 rfl ?_
      obtain ⟨q3, h4, hf⟩ := knBd_inv hf
      refine kj_callV (As := [knV x2]) (rest := []) X K (kcX1_rankOf l hx0 hx2 h4) knWvX1_rankOf (knGm 1267 (by decide +kernel) rfl) (by decide) (knKd_in hx0 (by decide)) (knEnt_0 hx0) rfl rfl rfl (Nat.le_of_ble_eq_true rfl) (by decide) dX1_playerOfRank_12 rfl (fun h5 => ?_)
      refine kj_iloadn X 1 dX1_playerOfRank_15 rfl ?_
      refine kj_ic_ne X (tgt := 21) dX1_playerOfRank_16 (by decide) h5 hx1 (fun h6 => ?_) (fun h6 => ?_)
      · replace hf := knIq hf h6
        refine kj_iinc X 2 (L' := [(2, knV (knW (x2 + 1))), (0, knO G x0), (1, knV x1)]) dX1_playerOfRank_21 rfl (by decide) rfl ?_
        refine kj_goto X (tgt := 2) dX1_playerOfRank_24 (by decide) ?_
        refine kj_sub (L' := [(0, knO G x0), (1, knV x1), (2, knV (knW (x2 + 1)))]) [1, 2, 0] rfl ?_
        exact ih _ (knCw _)  hf
      · replace hf := knIp hf h6
        refine kj_iloadn X 2 dX1_playerOfRank_19 rfl ?_
        cases hf
        exact kj_iret X hx2 hr dX1_playerOfRank_20 hlk

set_option maxHeartbeats 4000000 in
set_option maxRecDepth 100000 in
theorem kcX1_playerOfRank {G : knGT} (l : Launch) {a0 : Int} {a1 : Int} (ha0 : knKd a0 = 0) (ha1 : knC a1) {μ : knMem} {q : Int} (hf : kfX1_playerOfRank a0 a1 μ = some q) : knC0 G l yX1_playerOfRank cX1_playerOfRank 3 (some .int) 1 23 [knO G a0, knV a1] μ (knC q) (some (knV q)) μ := by
  unfold kfX1_playerOfRank at hf
  refine kn_ofJ (plainFor_of_name (by decide)) (Nat.le_of_ble_eq_true rfl) (L := [(0, knO G a0), (1, knV a1)]) rfl ?_
  intro p e s m args below meth c X K hr hlk
  refine kj_iconst X dX1_playerOfRank_0 ?_
  refine kj_istoren X (L' := [(2, knV 0), (0, knO G a0), (1, knV a1)]) dX1_playerOfRank_1 (by decide) rfl ?_
  refine kj_sub (L' := [(0, knO G a0), (1, knV a1), (2, knV 0)]) [1, 2, 0] rfl ?_
  refine kfX1_playerOfRank_l2_ok X K hr hlk a0 a1 ha0 ha1 μ ?_ knF _ (show knC (0) from ⟨by omega, by omega⟩)  hf
  intro hf
  refine kj_iconst X dX1_playerOfRank_27 ?_
  cases hf
  exact kj_iret X (show knC (-1) from ⟨by omega, by omega⟩) hr dX1_playerOfRank_28 hlk

