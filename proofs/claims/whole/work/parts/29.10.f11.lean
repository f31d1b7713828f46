def kfX12_value_l31  (x2 : Int) (μ : knMem) (kc : (Int) → Option (Int × knMem)) : Nat → Int → Int → Option (Int × knMem)
  | 0, _, _ => none
  | n + 1, x4, x6 =>
    if 50 ≤ x6 then
     kc x4
    else
     knGd (knN64 (knDdiv x4 x2))
      (kfX12_value_l31  x2 μ kc n (knDdiv x4 x2) (knW (x6 + 1)))

def kfX12_value_l57  (x2 : Int) (μ : knMem) (kc : (Int) → Option (Int × knMem)) : Nat → Int → Int → Int → Option (Int × knMem)
  | 0, _, _, _ => none
  | n + 1, x4, x6, x8 =>
    if 50 < x8 then
     kc x6
    else
     Option.bind (kfX12_valueAt 122 x8 μ) (fun q11 =>
      knGd (knN64 (knDmul (knI2d q11) x4))
       (knGd (knN64 (knDadd x6 (knDmul (knI2d q11) x4)))
       (knGd (knN64 (knDmul x4 x2))
       (kfX12_value_l57  x2 μ kc n (knDmul x4 x2) (knDadd x6 (knDmul (knI2d q11) x4)) (knW (x8 + 1))))))

def kfX12_value (a1 : Int) (μ : knMem) : Option (Int × knMem) :=
 Option.bind (kfX2_normalize 2 μ) (fun q1 =>
  kfX12_value_l31 (if a1 = 0 then 4602678819172646912 else 4611686018427387904 : Int) q1 (fun w9 =>
   kfX12_value_l57 (if a1 = 0 then 4602678819172646912 else 4611686018427387904 : Int) q1 (fun w17 =>
    some (w17, q1)) knF w9 0 (-50)) knF 4607182418800017408 0)

theorem knWvX12_value : knWv yX12_value cX12_value 9 (some .double) 1 := ⟨(knGm 772 (by decide +kernel) rfl), (knGm 114 (by decide +kernel) rfl), (knGm 770 (by decide +kernel) rfl), (knGm 771 (by decide +kernel) rfl), by decide +kernel, by decide +kernel, by decide +kernel⟩
set_option maxHeartbeats 4000000 in
set_option maxRecDepth 100000 in
theorem kfX12_value_l31_ok {q : Int × knMem} {kc : (Int) → Option (Int × knMem)} {G : knGT} {p : Program} {l : Launch} {e : Env} {s : State} {m : MethodId} {args : Array Value} {below : List Frame} {meth : Method} {c : Code} (X : knX p m c cX12_value 9 s args yX12_value.cls) (K : knK G s s.heap) (hr : meth.sig.returnType = (some .double)) (hlk : meth.locks = false) (x2 : Int)  (μ : knMem) (hk : ∀ (y4 : Int) , kc y4 = some q → knJ G p l e { frames := 5, cells := 0, slots := 0, locals := 125 } s m args below meth c 9 0 0 (MQ below (knPo G True (some (knVd q.1)) q.2) args s 0 0 (knA G)) 50 [(0, knO G 0), (2, knVd x2), (4, knVd y4)] [] μ) : ∀ (n : Nat) (x4 : Int)  (x6 : Int) (hx6 : knC x6) , kfX12_value_l31  x2 μ kc n x4 x6 = some q → knJ G p l e { frames := 5, cells := 0, slots := 0, locals := 125 } s m args below meth c 9 0 0 (MQ below (knPo G True (some (knVd q.1)) q.2) args s 0 0 (knA G)) 31 [(0, knO G 0), (2, knVd x2), (4, knVd x4), (6, knV x6)] [] μ := by
  intro n
  induction n with
  | zero => intro x4  x6 hx6 hf; cases hf
  | succ n ih =>
    intro x4  x6 hx6 hf
    unfold kfX12_value_l31 at hf
    refine kj_iload X 3 dX12_value_31 rfl ?_
    refine kj_bipush X (n := 50) dX12_value_33 rfl ?_
    refine kj_ic_ge X (tgt := 50) dX12_value_35 (by decide) hx6 (show knC (50) from ⟨by omega, by omega⟩) (fun h7 => ?_) (fun h7 => ?_)
    · replace hf := knIp hf h7
      refine kj_sub (L' := [(0, knO G 0), (2, knVd x2), (4, knVd x4)]) [0, 1, 2] rfl ?_
      exact hk _  hf
    · replace hf := knIq hf h7
      refine kj_dload X 2 dX12_value_38 rfl ?_
      refine kj_dloadn X 1 dX12_value_40 rfl ?_
      obtain ⟨h8, hf⟩ := knGd_inv hf
      refine kj_ddiv X dX12_value_41 h8 ?_
      refine kj_dstore X (L' := [(4, knVd (knDdiv x4 x2)), (0, knO G 0), (2, knVd x2), (6, knV x6)]) dX12_value_42 (by decide) rfl ?_
      refine kj_iinc X 3 (L' := [(6, knV (knW (x6 + 1))), (4, knVd (knDdiv x4 x2)), (0, knO G 0), (2, knVd x2)]) dX12_value_44 rfl (by decide) rfl ?_
      refine kj_goto X (tgt := 31) dX12_value_47 (by decide) ?_
      refine kj_sub (L' := [(0, knO G 0), (2, knVd x2), (4, knVd (knDdiv x4 x2)), (6, knV (knW (x6 + 1)))]) [2, 3, 1, 0] rfl ?_
      exact ih _  _ (knCw _)  hf

set_option maxHeartbeats 4000000 in
set_option maxRecDepth 100000 in
theorem kfX12_value_l57_ok {q : Int × knMem} {kc : (Int) → Option (Int × knMem)} {G : knGT} {p : Program} {l : Launch} {e : Env} {s : State} {m : MethodId} {args : Array Value} {below : List Frame} {meth : Method} {c : Code} (X : knX p m c cX12_value 9 s args yX12_value.cls) (K : knK G s s.heap) (hr : meth.sig.returnType = (some .double)) (hlk : meth.locks = false) (x2 : Int)  (μ : knMem) (hk : ∀ (y6 : Int) , kc y6 = some q → knJ G p l e { frames := 5, cells := 0, slots := 0, locals := 125 } s m args below meth c 9 0 0 (MQ below (knPo G True (some (knVd q.1)) q.2) args s 0 0 (knA G)) 97 [(6, knVd y6)] [] μ) : ∀ (n : Nat) (x4 : Int)  (x6 : Int)  (x8 : Int) (hx8 : knC x8) , kfX12_value_l57  x2 μ kc n x4 x6 x8 = some q → knJ G p l e { frames := 5, cells := 0, slots := 0, locals := 125 } s m args below meth c 9 0 0 (MQ below (knPo G True (some (knVd q.1)) q.2) args s 0 0 (knA G)) 57 [(0, knO G 0), (2, knVd x2), (4, knVd x4), (6, knVd x6), (8, knV x8)] [] μ := by
  intro n
  induction n with
  | zero => intro x4  x6  x8 hx8 hf; cases hf
  | succ n ih =>
    intro x4  x6  x8 hx8 hf
    unfold kfX12_value_l57 at hf
    refine kj_iload X 4 dX12_value_57 rfl ?_
    refine kj_bipush X (n := 50) dX12_value_59 rfl ?_
    refine kj_ic_gt X (tgt := 97) dX12_value_61 (by decide) hx8 (show knC (50) from ⟨by omega, by omega⟩) (fun h10 => ?_) (fun h10 => ?_)
    · replace hf := knIp hf h10
      refine kj_sub (L' := [(6, knVd x6)]) [3] rfl ?_
      exact hk _  hf
    · replace hf := knIq hf h10
      refine kj_dload X 3 dX12_value_64 rfl ?_
      refine kj_aloadn X 0 dX12_value_66 rfl ?_
      refine kj_geto (k := 7) (o2 := 119) X K kdc_0 (by decide) (knEnt_9 kdc_0) rfl (by decide) knInX12 (knGm 368 (by decide +kernel) rfl) rfl rfl dX12_value_67 ?_
      refine kj_geto (k := 2) (o2 := 122) X K kdc_119 (by decide) (knEnt_1 kdc_119) rfl (by decide) knInX2 (knGm 290 (by decide +kernel) rfl) rfl rfl dX12_value_70 ?_
      refine kj_iload X 4 dX12_value_73 rfl ?_
      obtain ⟨q11, h12, hf⟩ := knBd_inv hf
      refine kj_callS (As := [knO G 122, knV x8]) (rest := [knVd x6]) X K (kcX12_valueAt l kdc_122 hx8 h12) knWkX12_valueAt (knGm 760 (by decide +kernel) rfl) (by decide)  rfl (Nat.le_of_ble_eq_true rfl) (by decide) dX12_value_75 rfl (fun h13 => ?_)
      refine kj_i2d X dX12_value_78 ?_
      refine kj_dload X 2 dX12_value_79 rfl ?_
      obtain ⟨h14, hf⟩ := knGd_inv hf
      refine kj_dmul X dX12_value_81 h14 ?_
      obtain ⟨h15, hf⟩ := knGd_inv hf
      refine kj_dadd X dX12_value_82 h15 ?_
      refine kj_dstore X (L' := [(6, knVd (knDadd x6 (knDmul (knI2d q11) x4))), (0, knO G 0), (2, knVd x2), (4, knVd x4), (8, knV x8)]) dX12_value_83 (by decide) rfl ?_
      refine kj_dload X 3 dX12_value_85 rfl ?_
      refine kj_dloadn X 2 dX12_value_87 rfl ?_
      obtain ⟨h16, hf⟩ := knGd_inv hf
      refine kj_dmul X dX12_value_88 h16 ?_
      refine kj_dstore X (L' := [(4, knVd (knDmul x4 x2)), (6, knVd (knDadd x6 (knDmul (knI2d q11) x4))), (0, knO G 0), (2, knVd x2), (8, knV x8)]) dX12_value_89 (by decide) rfl ?_
      refine kj_iinc X 4 (L' := [(8, knV (knW (x8 + 1))), (4, knVd (knDmul x4 x2)), (6, knVd (knDadd x6 (knDmul (knI2d q11) x4))), (0, knO G 0), (2, knVd x2)]) dX12_value_91 rfl (by decide) rfl ?_
      refine kj_goto X (tgt := 57) dX12_value_94 (by decide) ?_
      refine kj_sub (L' := [(0, knO G 0), (2, knVd x2), (4, knVd (knDmul x4 x2)), (6, knVd (knDadd x6 (knDmul (knI2d q11) x4))), (8, knV (knW (x8 + 1)))]) [3, 4, 1, 2, 0] rfl ?_
      exact ih _  _  _ (knCw _)  hf

set_option maxHeartbeats 4000000 in
set_option maxRecDepth 100000 in
theorem kcX12_value {G : knGT} (l : Launch) {a1 : Int} (ha1 : knZ a1) {μ : knMem} {q : Int × knMem} (hf : kfX12_value a1 μ = some q) : knC0 G l yX12_value cX12_value 9 (some .double) 5 125 [knO G 0, knV a1] μ True (some (knVd q.1)) q.2 := by
  unfold kfX12_value at hf
  refine kn_ofJ (plainFor_of_name (by decide)) (Nat.le_of_ble_eq_true rfl) (L := [(0, knO G 0), (1, knV a1)]) rfl ?_
  intro p e s m args below meth c X K hr hlk
  refine kj_aloadn X 0 dX12_value_0 rfl ?_
  refine kj_geto (k := 7) (o2 := 119) X K kdc_0 (by decide) (knEnt_9 kdc_0) rfl (by decide) knInX12 (knGm 368 (by decide +kernel) rfl) rfl rfl dX12_value_1 ?_
  refine kj_aloadn X 0 dX12_value_4 rfl ?_
  refine kj_geto (k := 1) (o2 := 2) X K kdc_0 (by decide) (knEnt_9 kdc_0) rfl (by decide) knInX12 (knGm 362 (by decide +kernel) rfl) rfl rfl dX12_value_5 ?_
  obtain ⟨q1, h2, hf⟩ := knBd_inv hf
  refine kj_callV (As := [knO G 2]) (rest := []) X K (kcX2_normalize l kdc_2 h2) knWvX2_normalize (knGm 716 (by decide +kernel) rfl) (by decide) (knKd_in kdc_119 (by decide)) (knEnt_1 kdc_119) rfl rfl rfl (Nat.le_of_ble_eq_true rfl) (by decide) dX12_value_8 rfl (fun h3 => ?_)
  refine kj_iloadn X 1 dX12_value_11 rfl ?_
  have j5 : ∀ (t5_0 : Int) (et5_0 : t5_0 = (if a1 = 0 then 4602678819172646912 else 4611686018427387904 : Int)), knJ G p l e { frames := 5, cells := 0, slots := 0, locals := 125 } s m args below meth c 9 0 0 (MQ below (knPo G True (some (knVd q.1)) q.2) args s 0 0 (knA G)) 24 [(0, knO G 0)] [knVd t5_0] q1 := by
    intro t5_0 et5_0
    subst et5_0
    refine kj_dstoren X (L' := [(2, knVd (if a1 = 0 then 4602678819172646912 else 4611686018427387904 : Int)), (0, knO G 0)]) dX12_value_24 (by decide) rfl ?_
    refine kj_dconst1 X dX12_value_25 ?_
    refine kj_dstore X (L' := [(4, knVd 4607182418800017408), (2, knVd (if a1 = 0 then 4602678819172646912 else 4611686018427387904 : Int)), (0, knO G 0)]) dX12_value_26 (by decide) rfl ?_
    refine kj_iconst X dX12_value_28 ?_
    refine kj_istore X (L' := [(6, knV 0), (4, knVd 4607182418800017408), (2, knVd (if a1 = 0 then 4602678819172646912 else 4611686018427387904 : Int)), (0, knO G 0)]) dX12_value_29 (by decide) rfl ?_
    refine kj_sub (L' := [(0, knO G 0), (2, knVd (if a1 = 0 then 4602678819172646912 else 4611686018427387904 : Int)), (4, knVd 4607182418800017408), (6, knV 0)]) [3, 2, 1, 0] rfl ?_
    refine kfX12_value_l31_ok X K hr hlk (if a1 = 0 then 4602678819172646912 else 4611686018427387904 : Int)  q1 ?_ knF _  _ (show knC (0) from ⟨by omega, by omega⟩)  hf
    intro w9_0
    intro hf
    refine kj_dconst0 X dX12_value_50 ?_
    refine kj_dstore X (L' := [(6, knVd 0), (0, knO G 0), (2, knVd (if a1 = 0 then 4602678819172646912 else 4611686018427387904 : Int)), (4, knVd w9_0)]) dX12_value_51 (by decide) rfl ?_
    refine kj_bipush X (n := (-50)) dX12_value_53 rfl ?_
    refine kj_istore X (L' := [(8, knV (-50)), (6, knVd 0), (0, knO G 0), (2, knVd (if a1 = 0 then 4602678819172646912 else 4611686018427387904 : Int)), (4, knVd w9_0)]) dX12_value_55 (by decide) rfl ?_
    refine kj_sub (L' := [(0, knO G 0), (2, knVd (if a1 = 0 then 4602678819172646912 else 4611686018427387904 : Int)), (4, knVd w9_0), (6, knVd 0), (8, knV (-50))]) [2, 3, 4, 1, 0] rfl ?_
    refine kfX12_value_l57_ok X K hr hlk (if a1 = 0 then 4602678819172646912 else 4611686018427387904 : Int)  q1 ?_ knF _  _  _ (show knC (-50) from ⟨by omega, by omega⟩)  hf
    intro w18_0
    intro hf
    refine kj_dload X 0 dX12_value_97 rfl ?_
    cases hf
    exact kj_dret X trivial hr dX12_value_99 hlk
  refine kj_if_eq X (tgt := 21) dX12_value_12 (by decide) (knZ_c ha1) (fun h19 => ?_) (fun h19 => ?_)
  · refine kj_ldc2d (x := 4602678819172646912) X (knGm 774 (by decide +kernel) rfl) dX12_value_21 ?_
    refine kj_sub (L' := [(0, knO G 0)]) [0] rfl ?_
    exact j5 4602678819172646912 (by rw [if_pos h19])
  · refine kj_ldc2d (x := 4611686018427387904) X (knGm 773 (by decide +kernel) rfl) dX12_value_15 ?_
    refine kj_goto X (tgt := 24) dX12_value_18 (by decide) ?_
    refine kj_sub (L' := [(0, knO G 0)]) [0] rfl ?_
    exact j5 4611686018427387904 (by rw [if_neg h19])

def kfX13_value_l14  (x1 : Int) (μ : knMem) (kc : (Int) → Option (Int × knMem)) : Nat → Int → Int → Option (Int × knMem)
  | 0, _, _ => none
  | n + 1, x2, x4 =>
    if 101 ≤ x4 then
     kc x2
    else
     knGd (0 ≤ x4 ∧ x4 < 101)
      (Option.bind (α := Int)
      (if (μ 153 x4) = 0 then
       some x2
      else
       Option.bind (kfX13_power (if x1 = 0 then (knW (50 - x4)) else (knW (x4 - 50)) : Int) μ) (fun q25 =>
        knGd (knN64 (knDmul (knI2d (μ 153 x4)) q25))
         (knGd (knN64 (knDadd x2 (knDmul (knI2d (μ 153 x4)) q25)))
         (some (knDadd x2 (knDmul (knI2d (μ 153 x4)) q25))))))
      (fun q18 =>
      kfX13_value_l14  x1 μ kc n q18 (knW (x4 + 1))))

def kfX13_value (a1 : Int) (μ : knMem) : Option (Int × knMem) :=
 Option.bind (kfX13_findsNormal  (knUp μ 142 0 0)) (fun q1 =>
  kfX13_value_l14 a1 q1 (fun w31 =>
   some (w31, q1)) knF 0 0)

theorem knWvX13_value : knWv yX13_value cX13_value 5 (some .double) 1 := ⟨(knGm 1935 (by decide +kernel) rfl), (knGm 124 (by decide +kernel) rfl), (knGm 1933 (by decide +kernel) rfl), (knGm 1934 (by decide +kernel) rfl), by decide +kernel, by decide +kernel, by decide +kernel⟩
set_option maxHeartbeats 4000000 in
set_option maxRecDepth 100000 in
theorem kfX13_value_l14_ok {q : Int × knMem} {kc : (Int) → Option (Int × knMem)} {G : knGT} {p : Program} {l : Launch} {e : Env} {s : State} {m : MethodId} {args : Array Value} {below : List Frame} {meth : Method} {c : Code} (X : knX p m c cX13_value 5 s args yX13_value.cls) (K : knK G s s.heap) (hr : meth.sig.returnType = (some .double)) (hlk : meth.locks = false) (x1 : Int) (hx1 : knZ x1) (μ : knMem) (hk : ∀ (y2 : Int) , kc y2 = some q → knJ G p l e { frames := 5, cells := 0, slots := 0, locals := 120 } s m args below meth c 5 0 0 (MQ below (knPo G True (some (knVd q.1)) q.2) args s 0 0 (knA G)) 69 [(2, knVd y2)] [] μ) : ∀ (n : Nat) (x2 : Int)  (x4 : Int) (hx4 : knC x4) , kfX13_value_l14  x1 μ kc n x2 x4 = some q → knJ G p l e { frames := 5, cells := 0, slots := 0, locals := 120 } s m args below meth c 5 0 0 (MQ below (knPo G True (some (knVd q.1)) q.2) args s 0 0 (knA G)) 14 [(0, knO G 142), (1, knV x1), (2, knVd x2), (4, knV x4)] [] μ := by
  intro n
  induction n with
  | zero => intro x2  x4 hx4 hf; cases hf
  | succ n ih =>
    intro x2  x4 hx4 hf
    unfold kfX13_value_l14 at hf
    refine kj_iload X 3 dX13_value_14 rfl ?_
    refine kj_bipush X (n := 101) dX13_value_16 rfl ?_
    refine kj_ic_ge X (tgt := 69) dX13_value_18 (by decide) hx4 (show knC (101) from ⟨by omega, by omega⟩) (fun h4 => ?_) (fun h4 => ?_)
    · replace hf := knIp hf h4
      refine kj_sub (L' := [(2, knVd x2)]) [2] rfl ?_
      exact hk _  hf
    · replace hf := knIq hf h4
      refine kj_aloadn X 0 dX13_value_21 rfl ?_
      refine kj_geto (k := 15) (o2 := 153) X K kdc_142 (by decide) (knEnt_10 kdc_142) rfl (by decide) knInX13 (knGm 1519 (by decide +kernel) rfl) rfl rfl dX13_value_22 ?_
      refine kj_iload X 3 dX13_value_25 rfl ?_
      obtain ⟨h5, hf⟩ := knGd_inv hf
      refine kj_iald X K kdc_153 hx4 lnc_153 h5 dX13_value_27 (fun h6 => ?_)
      have j18 : ∀ (t18_0 : Int), (fun q18 =>
       kfX13_value_l14  x1 μ kc n q18 (knW (x4 + 1))) t18_0 = some q → knJ G p l e { frames := 5, cells := 0, slots := 0, locals := 120 } s m args below meth c 5 0 0 (MQ below (knPo G True (some (knVd q.1)) q.2) args s 0 0 (knA G)) 63 [(0, knO G 142), (1, knV x1), (2, knVd t18_0), (4, knV x4)] [] μ := by
        intro t18_0
        intro hf
        refine kj_iinc X 3 (L' := [(4, knV (knW (x4 + 1))), (0, knO G 142), (1, knV x1), (2, knVd t18_0)]) dX13_value_63 rfl (by decide) rfl ?_
        refine kj_goto X (tgt := 14) dX13_value_66 (by decide) ?_
        refine kj_sub (L' := [(0, knO G 142), (1, knV x1), (2, knVd t18_0), (4, knV (knW (x4 + 1)))]) [1, 2, 3, 0] rfl ?_
        exact ih _  _ (knCw _)  hf
      obtain ⟨b19, hb19, hf⟩ := knBd_inv hf
      refine kj_if_eq X (tgt := 63) dX13_value_28 (by decide) h6 (fun h20 => ?_) (fun h20 => ?_)
      · replace hb19 := knIp hb19 h20
        cases hb19
        refine kj_sub (L' := [(0, knO G 142), (1, knV x1), (2, knVd x2), (4, knV x4)]) [0, 1, 2, 3] rfl ?_
        exact j18 _ hf
      · replace hb19 := knIq hb19 h20
        refine kj_dloadn X 2 dX13_value_31 rfl ?_
        refine kj_aloadn X 0 dX13_value_32 rfl ?_
        refine kj_geto (k := 15) (o2 := 153) X K kdc_142 (by decide) (knEnt_10 kdc_142) rfl (by decide) knInX13 (knGm 1519 (by decide +kernel) rfl) rfl rfl dX13_value_33 ?_
        refine kj_iload X 3 dX13_value_36 rfl ?_
        refine kj_iald X K kdc_153 hx4 lnc_153 h5 dX13_value_38 (fun h21 => ?_)
        refine kj_i2d X dX13_value_39 ?_
        refine kj_iloadn X 1 dX13_value_40 rfl ?_
        have j23 : ∀ (t23_0 : Int) (et23_0 : t23_0 = (if x1 = 0 then (knW (50 - x4)) else (knW (x4 - 50)) : Int)) (ht23_0 : knC t23_0), knJ G p l e { frames := 5, cells := 0, slots := 0, locals := 120 } s m args below meth c 5 0 0 (MQ below (knPo G True (some (knVd q.1)) q.2) args s 0 0 (knA G)) 57 [(0, knO G 142), (1, knV x1), (4, knV x4)] [knV t23_0, knVd (knI2d (μ 153 x4)), knVd x2] μ := by
          intro t23_0 et23_0 ht23_0
          subst et23_0
          obtain ⟨q25, h26, hb19⟩ := knBd_inv hb19
          refine kj_callS (As := [knV (if x1 = 0 then (knW (50 - x4)) else (knW (x4 - 50)) : Int)]) (rest := [knVd (knI2d (μ 153 x4)), knVd x2]) X K (kcX13_power l ht23_0 h26) knWkX13_power (knGm 1936 (by decide +kernel) rfl) (by decide)  rfl (Nat.le_of_ble_eq_true rfl) (by decide) dX13_value_57 rfl (fun h27 => ?_)
          obtain ⟨h28, hb19⟩ := knGd_inv hb19
          refine kj_dmul X dX13_value_60 h28 ?_
          obtain ⟨h29, hb19⟩ := knGd_inv hb19
          refine kj_dadd X dX13_value_61 h29 ?_
          refine kj_dstoren X (L' := [(2, knVd (knDadd x2 (knDmul (knI2d (μ 153 x4)) q25))), (0, knO G 142), (1, knV x1), (4, knV x4)]) dX13_value_62 (by decide) rfl ?_
          cases hb19
          refine kj_sub (L' := [(0, knO G 142), (1, knV x1), (2, knVd (knDadd x2 (knDmul (knI2d (μ 153 x4)) q25))), (4, knV x4)]) [1, 2, 0, 3] rfl ?_
          exact j18 _ hf
        refine kj_if_eq X (tgt := 52) dX13_value_41 (by decide) (knZ_c hx1) (fun h30 => ?_) (fun h30 => ?_)
        · refine kj_bipush X (n := 50) dX13_value_52 rfl ?_
          refine kj_iload X 3 dX13_value_54 rfl ?_
          refine kj_isub X dX13_value_56 ?_
          refine kj_sub (L' := [(0, knO G 142), (1, knV x1), (4, knV x4)]) [0, 1, 3] rfl ?_
          exact j23 (knW (50 - x4)) (by rw [if_pos h30]) (knCw _)
        · refine kj_iload X 3 dX13_value_44 rfl ?_
          refine kj_bipush X (n := 50) dX13_value_46 rfl ?_
          refine kj_isub X dX13_value_48 ?_
          refine kj_goto X (tgt := 57) dX13_value_49 (by decide) ?_
          refine kj_sub (L' := [(0, knO G 142), (1, knV x1), (4, knV x4)]) [0, 1, 3] rfl ?_
          exact j23 (knW (x4 - 50)) (by rw [if_neg h30]) (knCw _)

set_option maxHeartbeats 4000000 in
set_option maxRecDepth 100000 in
theorem kcX13_value {G : knGT} (l : Launch) {a1 : Int} (ha1 : knZ a1) {μ : knMem} {q : Int × knMem} (hf : kfX13_value a1 μ = some q) : knC0 G l yX13_value cX13_value 5 (some .double) 5 120 [knO G 142, knV a1] μ True (some (knVd q.1)) q.2 := by
  unfold kfX13_value at hf
  refine kn_ofJ (plainFor_of_name (by decide)) (Nat.le_of_ble_eq_true rfl) (L := [(0, knO G 142), (1, knV a1)]) rfl ?_
  intro p e s m args below meth c X K hr hlk
  refine kj_aloadn X 0 dX13_value_0 rfl ?_
  refine kj_iconst X dX13_value_1 ?_
  refine kj_putf (k := 0) (ki := 0) (x := 0) (ty := .int) X K rfl (knKd_in kdc_142 (by decide)) (knEnt_10 kdc_142) rfl (by decide) knInX13 tyX13_ok nmX13 (knGm 1504 (by decide +kernel) rfl) rfl rfl (by decide +kernel) rfl rfl (by simp) (by rw [knEnt_10 kdc_142, knUp_row]; rfl) (fun _ => (show knC (0) from ⟨by omega, by omega⟩)) (fun h => by rw [kdc_142] at h; cases h) (fun h => by rw [kdc_142] at h; cases h) dX13_value_2 ?_
  refine kj_aloadn X 0 dX13_value_5 rfl ?_
  obtain ⟨q1, h2, hf⟩ := knBd_inv hf
  refine kj_callV (As := []) (rest := []) X K (kcX13_findsNormal l  h2) knWvX13_findsNormal (knGm 1916 (by decide +kernel) rfl) (by decide) (knKd_in kdc_142 (by decide)) (knEnt_10 kdc_142) rfl rfl rfl (Nat.le_of_ble_eq_true rfl) (by decide) dX13_value_6 rfl (fun h3 => ?_)
  refine kj_dconst0 X dX13_value_9 ?_
  refine kj_dstoren X (L' := [(2, knVd 0), (0, knO G 142), (1, knV a1)]) dX13_value_10 (by decide) rfl ?_
  refine kj_iconst X dX13_value_11 ?_
  refine kj_istore X (L' := [(4, knV 0), (2, knVd 0), (0, knO G 142), (1, knV a1)]) dX13_value_12 (by decide) rfl ?_
  refine kj_sub (L' := [(0, knO G 142), (1, knV a1), (2, knVd 0), (4, knV 0)]) [2, 3, 1, 0] rfl ?_
  refine kfX13_value_l14_ok X K hr hlk a1 ha1 q1 ?_ knF _  _ (show knC (0) from ⟨by omega, by omega⟩)  hf
  intro w31_0
  intro hf
  refine kj_dloadn X 0 dX13_value_69 rfl ?_
  cases hf
  exact kj_dret X trivial hr dX13_value_70 hlk

def kfX13_stakeShare (a1 : Int) (μ : knMem) : Option (Int × knMem) :=
 Option.bind (kfX13_isPlayer a1 (knUp μ 142 0 0)) (fun q1 =>
  if q1 = 0 then
   Option.bind (kfX13_fails 1 (knUp μ 142 0 0)) (fun q30 =>
    some ((knI2f q30.1), q30.2))
  else
   Option.bind (kfX13_stakes  (knUp μ 142 0 0)) (fun q5 =>
    Option.bind (α := Int × knMem)
     (if q5 = 0 then
      Option.bind (kfX13_fails 2 (knUp μ 142 0 0)) (fun q27 =>
       some ((knI2f q27.1), q27.2))
     else
      knGd (0 ≤ (knW (11 + a1)) ∧ (knW (11 + a1)) < 50)
       (Option.bind (kfX13_stakes  (knUp μ 142 0 0)) (fun q23 =>
       knGd (knN32 (knFdiv (knI2f ((knUp μ 142 0 0) 143 (knW (11 + a1)))) (knI2f q23)))
        (some ((knFdiv (knI2f ((knUp μ 142 0 0) 143 (knW (11 + a1)))) (knI2f q23)), (knUp μ 142 0 0))))))
     (fun q18 =>
     some (q18.1, q18.2))))

theorem knWvX13_stakeShare : knWv yX13_stakeShare cX13_stakeShare 2 (some .float) 1 := ⟨(knGm 2040 (by decide +kernel) rfl), (knGm 124 (by decide +kernel) rfl), (knGm 2038 (by decide +kernel) rfl), (knGm 2039 (by decide +kernel) rfl), by decide +kernel, by decide +kernel, by decide +kernel⟩
set_option maxHeartbeats 4000000 in
set_option maxRecDepth 100000 in
theorem kcX13_stakeShare {G : knGT} (l : Launch) {a1 : Int} (ha1 : knC a1) {μ : knMem} {q : Int × knMem} (hf : kfX13_stakeShare a1 μ = some q) : knC0 G l yX13_stakeShare cX13_stakeShare 2 (some .float) 2 43 [knO G 142, knV a1] μ True (some (knVf q.1)) q.2 := by
  unfold kfX13_stakeShare at hf
  refine kn_ofJ (plainFor_of_name (by decide)) (Nat.le_of_ble_eq_true rfl) (L := [(0, knO G 142), (1, knV a1)]) rfl ?_
  intro p e s m args below meth c X K hr hlk
  refine kj_aloadn X 0 dX13_stakeShare_0 rfl ?_
  refine kj_iconst X dX13_stakeShare_1 ?_
  refine kj_putf (k := 0) (ki := 0) (x := 0) (ty := .int) X K rfl (knKd_in kdc_142 (by decide)) (knEnt_10 kdc_142) rfl (by decide) knInX13 tyX13_ok nmX13 (knGm 1504 (by decide +kernel) rfl) rfl rfl (by decide +kernel) rfl rfl (by simp) (by rw [knEnt_10 kdc_142, knUp_row]; rfl) (fun _ => (show knC (0) from ⟨by omega, by omega⟩)) (fun h => by rw [kdc_142] at h; cases h) (fun h => by rw [kdc_142] at h; cases h) dX13_stakeShare_2 ?_
  refine kj_aloadn X 0 dX13_stakeShare_5 rfl ?_
  refine kj_iloadn X 1 dX13_stakeShare_6 rfl ?_
  obtain ⟨q1, h2, hf⟩ := knBd_inv hf
  refine kj_callV (As := [knV a1]) (rest := []) X K (kcX13_isPlayer l ha1 h2) knWvX13_isPlayer (knGm 1989 (by decide +kernel) rfl) (by decide) (knKd_in kdc_142 (by decide)) (knEnt_10 kdc_142) rfl rfl rfl (Nat.le_of_ble_eq_true rfl) (by decide) dX13_stakeShare_7 rfl (fun h3 => ?_)
  refine kj_if_ne X (tgt := 20) dX13_stakeShare_10 (by decide) (knZ_c h3) (fun h4 => ?_) (fun h4 => ?_)
  · replace hf := knIq hf h4
    refine kj_aloadn X 0 dX13_stakeShare_20 rfl ?_
    obtain ⟨q5, h6, hf⟩ := knBd_inv hf
    refine kj_callV (As := []) (rest := []) X K (kcX13_stakes l  h6) knWvX13_stakes (knGm 2005 (by decide +kernel) rfl) (by decide) (knKd_in kdc_142 (by decide)) (knEnt_10 kdc_142) rfl rfl rfl (Nat.le_of_ble_eq_true rfl) (by decide) dX13_stakeShare_21 rfl (fun h7 => ?_)
    have j18 : ∀ (t18_0 : Int) (m18 : knMem), (fun q18 =>
     some (q18.1, q18.2)) (t18_0, m18) = some q → knJ G p l e { frames := 2, cells := 0, slots := 0, locals := 43 } s m args below meth c 2 0 0 (MQ below (knPo G True (some (knVf q.1)) q.2) args s 0 0 (knA G)) 52 [] [knVf t18_0] m18 := by
      intro t18_0 m18
      intro hf
      cases hf
      exact kj_fret X trivial hr dX13_stakeShare_52 hlk
    obtain ⟨b19, hb19, hf⟩ := knBd_inv hf
    refine kj_if_ne X (tgt := 36) dX13_stakeShare_24 (by decide) h7 (fun h20 => ?_) (fun h20 => ?_)
    · replace hb19 := knIq hb19 h20
      refine kj_aloadn X 0 dX13_stakeShare_36 rfl ?_
      refine kj_geto (k := 1) (o2 := 143) X K kdc_142 (by decide) (knEnt_10 kdc_142) rfl (by decide) knInX13 (knGm 1505 (by decide +kernel) rfl) rfl rfl dX13_stakeShare_37 ?_
      refine kj_bipush X (n := 11) dX13_stakeShare_40 rfl ?_
      refine kj_iloadn X 1 dX13_stakeShare_42 rfl ?_
      refine kj_iadd X dX13_stakeShare_43 ?_
      obtain ⟨h21, hb19⟩ := knGd_inv hb19
      refine kj_iald X K kdc_143 (knCw _) lnc_143 h21 dX13_stakeShare_44 (fun h22 => ?_)
      refine kj_i2f X dX13_stakeShare_45 ?_
      refine kj_aloadn X 0 dX13_stakeShare_46 rfl ?_
      obtain ⟨q23, h24, hb19⟩ := knBd_inv hb19
      refine kj_callV (As := []) (rest := [knVf (knI2f ((knUp μ 142 0 0) 143 (knW (11 + a1))))]) X K (kcX13_stakes l  h24) knWvX13_stakes (knGm 2005 (by decide +kernel) rfl) (by decide) (knKd_in kdc_142 (by decide)) (knEnt_10 kdc_142) rfl rfl rfl (Nat.le_of_ble_eq_true rfl) (by decide) dX13_stakeShare_47 rfl (fun h25 => ?_)
      refine kj_i2f X dX13_stakeShare_50 ?_
      obtain ⟨h26, hb19⟩ := knGd_inv hb19
      refine kj_fdiv X dX13_stakeShare_51 h26 ?_
      cases hb19
      refine kj_sub (L' := []) [] rfl ?_
      exact j18 _ _ hf
    · replace hb19 := knIp hb19 h20
      refine kj_aloadn X 0 dX13_stakeShare_27 rfl ?_
      refine kj_iconst X dX13_stakeShare_28 ?_
      obtain ⟨q27, h28, hb19⟩ := knBd_inv hb19
      refine kj_callV (As := [knV 2]) (rest := []) X K (kcX13_fails l (show knC (2) from ⟨by omega, by omega⟩) h28) knWvX13_fails (knGm 1604 (by decide +kernel) rfl) (by decide) (knKd_in kdc_142 (by decide)) (knEnt_10 kdc_142) rfl rfl rfl (Nat.le_of_ble_eq_true rfl) (by decide) dX13_stakeShare_29 rfl (fun h29 => ?_)
      refine kj_i2f X dX13_stakeShare_32 ?_
      refine kj_goto X (tgt := 52) dX13_stakeShare_33 (by decide) ?_
      cases hb19
      refine kj_sub (L' := []) [] rfl ?_
      exact j18 _ _ hf
  · replace hf := knIp hf h4
    refine kj_aloadn X 0 dX13_stakeShare_13 rfl ?_
    refine kj_iconst X dX13_stakeShare_14 ?_
    obtain ⟨q30, h31, hf⟩ := knBd_inv hf
    refine kj_callV (As := [knV 1]) (rest := []) X K (kcX13_fails l (show knC (1) from ⟨by omega, by omega⟩) h31) knWvX13_fails (knGm 1604 (by decide +kernel) rfl) (by decide) (knKd_in kdc_142 (by decide)) (knEnt_10 kdc_142) rfl rfl rfl (Nat.le_of_ble_eq_true rfl) (by decide) dX13_stakeShare_15 rfl (fun h32 => ?_)
    refine kj_i2f X dX13_stakeShare_18 ?_
    cases hf
    exact kj_fret X trivial hr dX13_stakeShare_19 hlk

