def kfX12_playerByCoins (a1 : Int) (μ : knMem) : Option (Int × Int) :=
 Option.bind (kfX1_hasPlayer 6 a1 μ) (fun q1 =>
  if q1 = 0 then
   some (5, 0)
  else
   Option.bind (kfX1_playerOfRank 6 a1 μ) (fun q5 =>
    some (0, q5)))

theorem knWvX12_playerByCoins : knWv yX12_playerByCoins cX12_playerByCoins 2 (some .int) 1 := ⟨(knGm 1262 (by decide +kernel) rfl), (knGm 114 (by decide +kernel) rfl), (knGm 1260 (by decide +kernel) rfl), (knGm 1261 (by decide +kernel) rfl), by decide +kernel, by decide +kernel, by decide +kernel⟩
set_option maxHeartbeats 4000000 in
set_option maxRecDepth 100000 in
theorem kcX12_playerByCoins {G : knGT} (l : Launch) (hl : l.stackTraces = false) {a1 : Int} (ha1 : knC a1) {μ : knMem} {q : Int × Int} (hf : kfX12_playerByCoins a1 μ = some q) : knCx G l yX12_playerByCoins cX12_playerByCoins 2 (some .int) 6 100 1 6 [knO G 0, knV a1] μ (knC q.2) q.1 (some (knV q.2)) μ := by
  unfold kfX12_playerByCoins at hf
  refine kn_ofJx (by decide) (Nat.le_of_ble_eq_true rfl) (L := [(0, knO G 0), (1, knV a1)]) rfl ?_
  intro p e s m args below meth c X K hr hlk hnx
  refine kj_aloadn X 0 dX12_playerByCoins_0 rfl ?_
  refine kj_geto (k := 2) (o2 := 6) X K kdc_0 (by decide) (knEnt_9 kdc_0) rfl (by decide) knInX12 (knGm 363 (by decide +kernel) rfl) rfl rfl dX12_playerByCoins_1 ?_
  refine kj_iloadn X 1 dX12_playerByCoins_4 rfl ?_
  obtain ⟨q1, h2, hf⟩ := knBd_inv hf
  refine kj_callV (As := [knV a1]) (rest := []) X K (kcX1_hasPlayer l kdc_6 ha1 h2) knWvX1_hasPlayer (knGm 1246 (by decide +kernel) rfl) (by decide) (knKd_in kdc_6 (by decide)) (knEnt_0 kdc_6) rfl rfl rfl (Nat.le_of_ble_eq_true rfl) (by decide) dX12_playerByCoins_5 rfl (fun h3 => ?_)
  refine kj_if_ne X (tgt := 21) dX12_playerByCoins_8 (by decide) (knZ_c h3) (fun h4 => ?_) (fun h4 => ?_)
  · replace hf := knIq hf h4
    refine kj_aloadn X 0 dX12_playerByCoins_21 rfl ?_
    refine kj_geto (k := 2) (o2 := 6) X K kdc_0 (by decide) (knEnt_9 kdc_0) rfl (by decide) knInX12 (knGm 363 (by decide +kernel) rfl) rfl rfl dX12_playerByCoins_22 ?_
    refine kj_iloadn X 1 dX12_playerByCoins_25 rfl ?_
    obtain ⟨q5, h6, hf⟩ := knBd_inv hf
    refine kj_callV (As := [knV a1]) (rest := []) X K (kcX1_playerOfRank l kdc_6 ha1 h6) knWvX1_playerOfRank (knGm 1263 (by decide +kernel) rfl) (by decide) (knKd_in kdc_6 (by decide)) (knEnt_0 kdc_6) rfl rfl rfl (Nat.le_of_ble_eq_true rfl) (by decide) dX12_playerByCoins_26 rfl (fun h7 => ?_)
    cases hf
    exact kjx_iret X h7 rfl (by decide) (by decide) hr dX12_playerByCoins_29 hlk
  · replace hf := knIp hf h4
    cases hf
    exact kjx_throw5 X K hl (i := 7) (by show (5 : Int) ≠ 0; decide) rfl (by decide +kernel) (by decide) rfl rfl knTh5.1 knTh5.2 dX12_playerByCoins_11 dX12_playerByCoins_14 dX12_playerByCoins_15 dX12_playerByCoins_17 dX12_playerByCoins_20 hnx (by decide) hlk (by decide) (by decide)

def kfX2_waysAgree_l2   (μ : knMem) (kc : (Unit) → Option (Int)) : Nat → Int → Option (Int)
  | 0, _ => none
  | n + 1, x1 =>
    if 101 ≤ x1 then
     kc ()
    else
     knGd (0 ≤ x1 ∧ x1 < 101)
      (if (μ 120 x1) = (μ 121 x1) then
      kfX2_waysAgree_l2   μ kc n (knW (x1 + 1))
     else
      some 0)

def kfX2_waysAgree  (μ : knMem) : Option (Int) :=
 kfX2_waysAgree_l2  μ (fun _ =>
  some 1) knF 0

theorem knWvX2_waysAgree : knWv yX2_waysAgree cX2_waysAgree 2 (some .boolean) 0 := ⟨(knGm 843 (by decide +kernel) rfl), (knGm 120 (by decide +kernel) rfl), (knGm 841 (by decide +kernel) rfl), (knGm 842 (by decide +kernel) rfl), by decide +kernel, by decide +kernel, by decide +kernel⟩
set_option maxHeartbeats 4000000 in
set_option maxRecDepth 100000 in
theorem kfX2_waysAgree_l2_ok {q : Int} {kc : (Unit) → Option (Int)} {G : knGT} {p : Program} {l : Launch} {e : Env} {s : State} {m : MethodId} {args : Array Value} {below : List Frame} {meth : Method} {c : Code} (X : knX p m c cX2_waysAgree 2 s args yX2_waysAgree.cls) (K : knK G s s.heap) (hr : meth.sig.returnType = (some .boolean)) (hlk : meth.locks = false)   (μ : knMem) (hk : kc () = some q → knJ G p l e { frames := 0, cells := 0, slots := 0, locals := 0 } s m args below meth c 2 0 0 (MQ below (knPo G (knZ q) (some (knV q)) μ) args s 0 0 (knA G)) 31 [] [] μ) : ∀ (n : Nat) (x1 : Int) (hx1 : knC x1) , kfX2_waysAgree_l2   μ kc n x1 = some q → knJ G p l e { frames := 0, cells := 0, slots := 0, locals := 0 } s m args below meth c 2 0 0 (MQ below (knPo G (knZ q) (some (knV q)) μ) args s 0 0 (knA G)) 2 [(0, knO G 119), (1, knV x1)] [] μ := by
  intro n
  induction n with
  | zero => intro x1 hx1 hf; cases hf
  | succ n ih =>
    intro x1 hx1 hf
    unfold kfX2_waysAgree_l2 at hf
    refine kj_iloadn X 1 dX2_waysAgree_2 rfl ?_
    refine kj_bipush X (n := 101) dX2_waysAgree_3 rfl ?_
    refine kj_ic_ge X (tgt := 31) dX2_waysAgree_5 (by decide) hx1 (show knC (101) from ⟨by omega, by omega⟩) (fun h1 => ?_) (fun h1 => ?_)
    · replace hf := knIp hf h1
      refine kj_sub (L' := []) [] rfl ?_
      exact hk  hf
    · replace hf := knIq hf h1
      refine kj_aloadn X 0 dX2_waysAgree_8 rfl ?_
      refine kj_geto (k := 0) (o2 := 120) X K kdc_119 (by decide) (knEnt_1 kdc_119) rfl (by decide) knInX2 (knGm 285 (by decide +kernel) rfl) rfl rfl dX2_waysAgree_9 ?_
      refine kj_iloadn X 1 dX2_waysAgree_12 rfl ?_
      obtain ⟨h2, hf⟩ := knGd_inv hf
      refine kj_iald X K kdc_120 hx1 lnc_120 h2 dX2_waysAgree_13 (fun h3 => ?_)
      refine kj_aloadn X 0 dX2_waysAgree_14 rfl ?_
      refine kj_geto (k := 1) (o2 := 121) X K kdc_119 (by decide) (knEnt_1 kdc_119) rfl (by decide) knInX2 (knGm 287 (by decide +kernel) rfl) rfl rfl dX2_waysAgree_15 ?_
      refine kj_iloadn X 1 dX2_waysAgree_18 rfl ?_
      refine kj_iald X K kdc_121 hx1 lnc_121 h2 dX2_waysAgree_19 (fun h4 => ?_)
      refine kj_ic_eq X (tgt := 25) dX2_waysAgree_20 (by decide) h3 h4 (fun h5 => ?_) (fun h5 => ?_)
      · replace hf := knIp hf h5
        refine kj_iinc X 1 (L' := [(1, knV (knW (x1 + 1))), (0, knO G 119)]) dX2_waysAgree_25 rfl (by decide) rfl ?_
        refine kj_goto X (tgt := 2) dX2_waysAgree_28 (by decide) ?_
        refine kj_sub (L' := [(0, knO G 119), (1, knV (knW (x1 + 1)))]) [1, 0] rfl ?_
        exact ih _ (knCw _)  hf
      · replace hf := knIq hf h5
        refine kj_iconst X dX2_waysAgree_23 ?_
        cases hf
        exact kj_zret X (Or.inl rfl) hr (kn_nb (Or.inl rfl)) dX2_waysAgree_24 hlk

set_option maxHeartbeats 4000000 in
set_option maxRecDepth 100000 in
theorem kcX2_waysAgree {G : knGT} (l : Launch)   {μ : knMem} {q : Int} (hf : kfX2_waysAgree  μ = some q) : knC0 G l yX2_waysAgree cX2_waysAgree 2 (some .boolean) 0 0 [knO G 119] μ (knZ q) (some (knV q)) μ := by
  unfold kfX2_waysAgree at hf
  refine kn_ofJ (plainFor_of_name (by decide)) (Nat.le_of_ble_eq_true rfl) (L := [(0, knO G 119)]) rfl ?_
  intro p e s m args below meth c X K hr hlk
  refine kj_iconst X dX2_waysAgree_0 ?_
  refine kj_istoren X (L' := [(1, knV 0), (0, knO G 119)]) dX2_waysAgree_1 (by decide) rfl ?_
  refine kj_sub (L' := [(0, knO G 119), (1, knV 0)]) [1, 0] rfl ?_
  refine kfX2_waysAgree_l2_ok X K hr hlk   μ ?_ knF _ (show knC (0) from ⟨by omega, by omega⟩)  hf
  intro hf
  refine kj_iconst X dX2_waysAgree_31 ?_
  cases hf
  exact kj_zret X (Or.inr rfl) hr (kn_nb (Or.inr rfl)) dX2_waysAgree_32 hlk

def kfX1_allCoins_l12  (x0 : Int) (μ : knMem) (kc : (Int) → Option (Int)) : Nat → Int → Int → Option (Int)
  | 0, _, _ => none
  | n + 1, x1, x2 =>
    if (μ x0 3) ≤ x2 then
     kc x1
    else
     knGd (0 ≤ x2 ∧ x2 < 4)
      (kfX1_allCoins_l12  x0 μ kc n (knW (x1 + (μ (x0 + 1) x2))) (knW (x2 + 1)))

def kfX1_allCoins (a0 : Int) (μ : knMem) : Option (Int) :=
 Option.bind (kfX1_allStakes a0 μ) (fun q1 =>
  kfX1_allCoins_l12 a0 μ (fun w9 =>
   some w9) knF (knW (q1 + (μ a0 4))) 0)

theorem knWvX1_allCoins : knWv yX1_allCoins cX1_allCoins 3 (some .int) 0 := ⟨(knGm 872 (by decide +kernel) rfl), (knGm 117 (by decide +kernel) rfl), (knGm 870 (by decide +kernel) rfl), (knGm 871 (by decide +kernel) rfl), by decide +kernel, by decide +kernel, by decide +kernel⟩
set_option maxHeartbeats 4000000 in
set_option maxRecDepth 100000 in
theorem kfX1_allCoins_l12_ok {q : Int} {kc : (Int) → Option (Int)} {G : knGT} {p : Program} {l : Launch} {e : Env} {s : State} {m : MethodId} {args : Array Value} {below : List Frame} {meth : Method} {c : Code} (X : knX p m c cX1_allCoins 3 s args yX1_allCoins.cls) (K : knK G s s.heap) (hr : meth.sig.returnType = (some .int)) (hlk : meth.locks = false) (x0 : Int) (hx0 : knKd x0 = 0) (μ : knMem) (hk : ∀ (y1 : Int) (hy1 : knC y1), kc y1 = some q → knJ G p l e { frames := 1, cells := 0, slots := 0, locals := 22 } s m args below meth c 3 0 0 (MQ below (knPo G (knC q) (some (knV q)) μ) args s 0 0 (knA G)) 35 [(1, knV y1)] [] μ) : ∀ (n : Nat) (x1 : Int) (hx1 : knC x1) (x2 : Int) (hx2 : knC x2) , kfX1_allCoins_l12  x0 μ kc n x1 x2 = some q → knJ G p l e { frames := 1, cells := 0, slots := 0, locals := 22 } s m args below meth c 3 0 0 (MQ below (knPo G (knC q) (some (knV q)) μ) args s 0 0 (knA G)) 12 [(0, knO G x0), (1, knV x1), (2, knV x2)] [] μ := by
  intro n
  induction n with
  | zero => intro x1 hx1 x2 hx2 hf; cases hf
  | succ n ih =>
    intro x1 hx1 x2 hx2 hf
    unfold kfX1_allCoins_l12 at hf
    refine kj_iloadn X 2 dX1_allCoins_12 rfl ?_
    refine kj_aloadn X 0 dX1_allCoins_13 rfl ?_
    refine kj_geti (k := 3) (ki := 3) X K rfl hx0 (by decide) (knEnt_0 hx0) rfl (by decide) knInX1 (knGm 205 (by decide +kernel) rfl) rfl rfl dX1_allCoins_14 (fun h5 => ?_)
    refine kj_ic_ge X (tgt := 35) dX1_allCoins_17 (by decide) hx2 h5 (fun h6 => ?_) (fun h6 => ?_)
    · replace hf := knIp hf h6
      refine kj_sub (L' := [(1, knV x1)]) [1] rfl ?_
      exact hk _ hx1 hf
    · replace hf := knIq hf h6
      refine kj_iloadn X 1 dX1_allCoins_20 rfl ?_
      refine kj_aloadn X 0 dX1_allCoins_21 rfl ?_
      refine kj_geto (k := 0) (o2 := (x0 + 1)) X K hx0 (by decide) (knEnt_0 hx0) rfl (by decide) knInX1 (knGm 199 (by decide +kernel) rfl) rfl rfl dX1_allCoins_22 ?_
      refine kj_iloadn X 2 dX1_allCoins_25 rfl ?_
      obtain ⟨h7, hf⟩ := knGd_inv hf
      refine kj_iald X K (knD0 hx0).1.1 hx2 (knD0 hx0).2.1 h7 dX1_allCoins_26 (fun h8 => ?_)
      refine kj_iadd X dX1_allCoins_27 ?_
      refine kj_istoren X (L' := [(1, knV (knW (x1 + (μ (x0 + 1) x2)))), (0, knO G x0), (2, knV x2)]) dX1_allCoins_28 (by decide) rfl ?_
      refine kj_iinc X 2 (L' := [(2, knV (knW (x2 + 1))), (1, knV (knW (x1 + (μ (x0 + 1) x2)))), (0, knO G x0)]) dX1_allCoins_29 rfl (by decide) rfl ?_
      refine kj_goto X (tgt := 12) dX1_allCoins_32 (by decide) ?_
      refine kj_sub (L' := [(0, knO G x0), (1, knV (knW (x1 + (μ (x0 + 1) x2)))), (2, knV (knW (x2 + 1)))]) [2, 1, 0] rfl ?_
      exact ih _ (knCw _) _ (knCw _)  hf

set_option maxHeartbeats 4000000 in
set_option maxRecDepth 100000 in
theorem kcX1_allCoins {G : knGT} (l : Launch) {a0 : Int} (ha0 : knKd a0 = 0) {μ : knMem} {q : Int} (hf : kfX1_allCoins a0 μ = some q) : knC0 G l yX1_allCoins cX1_allCoins 3 (some .int) 1 22 [knO G a0] μ (knC q) (some (knV q)) μ := by
  unfold kfX1_allCoins at hf
  refine kn_ofJ (plainFor_of_name (by decide)) (Nat.le_of_ble_eq_true rfl) (L := [(0, knO G a0)]) rfl ?_
  intro p e s m args below meth c X K hr hlk
  refine kj_aloadn X 0 dX1_allCoins_0 rfl ?_
  obtain ⟨q1, h2, hf⟩ := knBd_inv hf
  refine kj_callV (As := []) (rest := []) X K (kcX1_allStakes l ha0 h2) knWvX1_allStakes (knGm 873 (by decide +kernel) rfl) (by decide) (knKd_in ha0 (by decide)) (knEnt_0 ha0) rfl rfl rfl (Nat.le_of_ble_eq_true rfl) (by decide) dX1_allCoins_1 rfl (fun h3 => ?_)
  refine kj_aloadn X 0 dX1_allCoins_4 rfl ?_
  refine kj_geti (k := 4) (ki := 4) X K rfl ha0 (by decide) (knEnt_0 ha0) rfl (by decide) knInX1 (knGm 207 (by decide +kernel) rfl) rfl rfl dX1_allCoins_5 (fun h4 => ?_)
  refine kj_iadd X dX1_allCoins_8 ?_
  refine kj_istoren X (L' := [(1, knV (knW (q1 + (μ a0 4)))), (0, knO G a0)]) dX1_allCoins_9 (by decide) rfl ?_
  refine kj_iconst X dX1_allCoins_10 ?_
  refine kj_istoren X (L' := [(2, knV 0), (1, knV (knW (q1 + (μ a0 4)))), (0, knO G a0)]) dX1_allCoins_11 (by decide) rfl ?_
  refine kj_sub (L' := [(0, knO G a0), (1, knV (knW (q1 + (μ a0 4)))), (2, knV 0)]) [2, 1, 0] rfl ?_
  refine kfX1_allCoins_l12_ok X K hr hlk a0 ha0 μ ?_ knF _ (knCw _) _ (show knC (0) from ⟨by omega, by omega⟩)  hf
  intro w9_0 hw9_0
  intro hf
  refine kj_iloadn X 0 dX1_allCoins_35 rfl ?_
  cases hf
  exact kj_iret X hw9_0 hr dX1_allCoins_36 hlk

def kfX7_clear  (μ : knMem) : Option (knMem) :=
 some (knUp μ 140 1 0)

theorem knWvX7_clear : knWv yX7_clear cX7_clear 1 none 0 := ⟨(knGm 881 (by decide +kernel) rfl), (knGm 123 (by decide +kernel) rfl), (knGm 879 (by decide +kernel) rfl), (knGm 880 (by decide +kernel) rfl), by decide +kernel, by decide +kernel, by decide +kernel⟩
set_option maxHeartbeats 4000000 in
set_option maxRecDepth 100000 in
theorem kcX7_clear {G : knGT} (l : Launch)   {μ : knMem} {q : knMem} (hf : kfX7_clear  μ = some q) : knC0 G l yX7_clear cX7_clear 1 none 0 0 [knO G 140] μ True none q := by
  unfold kfX7_clear at hf
  refine kn_ofJ (plainFor_of_name (by decide)) (Nat.le_of_ble_eq_true rfl) (L := [(0, knO G 140)]) rfl ?_
  intro p e s m args below meth c X K hr hlk
  refine kj_aloadn X 0 dX7_clear_0 rfl ?_
  refine kj_iconst X dX7_clear_1 ?_
  refine kj_putf (k := 1) (ki := 1) (x := 0) (ty := .int) X K rfl (knKd_in kdc_140 (by decide)) (knEnt_5 kdc_140) rfl (by decide) knInX7 tyX7_ok nmX7 (knGm 354 (by decide +kernel) rfl) rfl rfl (by decide +kernel) rfl rfl (by simp) (by rw [knEnt_5 kdc_140, knUp_row]; rfl) (fun _ => (show knC (0) from ⟨by omega, by omega⟩)) (fun h => by rw [kdc_140] at h; cases h) (fun h => by rw [kdc_140] at h; cases h) dX7_clear_2 ?_
  cases hf
  exact kj_vret X trivial hr dX7_clear_5 hlk

def kfX7_put (a1 : Int) (μ : knMem) : Option (knMem) :=
 Option.bind (α := knMem)
  (if 256 ≤ (μ 140 1) then
   some μ
  else
   knGd (0 ≤ (μ 140 1) ∧ (μ 140 1) < 256)
    (some (knUp (knUp μ 141 (μ 140 1) (knNc a1)) 140 1 (knW (((knUp μ 141 (μ 140 1) (knNc a1)) 140 1) + 1)))))
  (fun q6 =>
  some q6)

theorem knWvX7_put : knWv yX7_put cX7_put 2 none 1 := ⟨(knGm 886 (by decide +kernel) rfl), (knGm 123 (by decide +kernel) rfl), (knGm 884 (by decide +kernel) rfl), (knGm 885 (by decide +kernel) rfl), by decide +kernel, by decide +kernel, by decide +kernel⟩
set_option maxHeartbeats 4000000 in
set_option maxRecDepth 100000 in
theorem kcX7_put {G : knGT} (l : Launch) {a1 : Int} (ha1 : knH a1) {μ : knMem} {q : knMem} (hf : kfX7_put a1 μ = some q) : knC0 G l yX7_put cX7_put 2 none 0 0 [knO G 140, knV a1] μ True none q := by
  unfold kfX7_put at hf
  refine kn_ofJ (plainFor_of_name (by decide)) (Nat.le_of_ble_eq_true rfl) (L := [(0, knO G 140), (1, knV a1)]) rfl ?_
  intro p e s m args below meth c X K hr hlk
  refine kj_aloadn X 0 dX7_put_0 rfl ?_
  refine kj_geti (k := 1) (ki := 1) X K rfl kdc_140 (by decide) (knEnt_5 kdc_140) rfl (by decide) knInX7 (knGm 354 (by decide +kernel) rfl) rfl rfl dX7_put_1 (fun h1 => ?_)
  refine kj_aloadn X 0 dX7_put_4 rfl ?_
  refine kj_geto (k := 0) (o2 := 141) X K kdc_140 (by decide) (knEnt_5 kdc_140) rfl (by decide) knInX7 (knGm 352 (by decide +kernel) rfl) rfl rfl dX7_put_5 ?_
  refine kj_alen22 X K kdc_141 dX7_put_8 ?_
  rw [lnc_141]
  have j6 : ∀ (m6 : knMem), (fun q6 =>
   some q6) m6 = some q → knJ G p l e { frames := 0, cells := 0, slots := 0, locals := 0 } s m args below meth c 2 0 0 (MQ below (knPo G True none q) args s 0 0 (knA G)) 32 [] [] m6 := by
    intro m6
    intro hf
    cases hf
    exact kj_vret X trivial hr dX7_put_32 hlk
  obtain ⟨b7, hb7, hf⟩ := knBd_inv hf
  refine kj_ic_ge X (tgt := 32) dX7_put_9 (by decide) h1 (show knC (256) from ⟨by omega, by omega⟩) (fun h8 => ?_) (fun h8 => ?_)
  · replace hb7 := knIp hb7 h8
    cases hb7
    refine kj_sub (L' := []) [] rfl ?_
    exact j6 _ hf
  · replace hb7 := knIq hb7 h8
    refine kj_aloadn X 0 dX7_put_12 rfl ?_
    refine kj_geto (k := 0) (o2 := 141) X K kdc_140 (by decide) (knEnt_5 kdc_140) rfl (by decide) knInX7 (knGm 352 (by decide +kernel) rfl) rfl rfl dX7_put_13 ?_
    refine kj_aloadn X 0 dX7_put_16 rfl ?_
    refine kj_geti (k := 1) (ki := 1) X K rfl kdc_140 (by decide) (knEnt_5 kdc_140) rfl (by decide) knInX7 (knGm 354 (by decide +kernel) rfl) rfl rfl dX7_put_17 (fun h9 => ?_)
    refine kj_iloadn X 1 dX7_put_20 rfl ?_
    obtain ⟨h10, hb7⟩ := knGd_inv hb7
    refine kj_cast X K kdc_141 h9 lnc_141 h10 dX7_put_21 ?_
    refine kj_aloadn X 0 dX7_put_22 rfl ?_
    refine kj_dup X dX7_put_23 rfl ?_
    refine kj_geti (k := 1) (ki := 1) X K rfl kdc_140 (by decide) (knEnt_5 kdc_140) rfl (by decide) knInX7 (knGm 354 (by decide +kernel) rfl) rfl rfl dX7_put_24 (fun h11 => ?_)
    refine kj_iconst X dX7_put_27 ?_
    refine kj_iadd X dX7_put_28 ?_
    refine kj_putf (k := 1) (ki := 1) (x := (knW (((knUp μ 141 (μ 140 1) (knNc a1)) 140 1) + 1))) (ty := .int) X K rfl (knKd_in kdc_140 (by decide)) (knEnt_5 kdc_140) rfl (by decide) knInX7 tyX7_ok nmX7 (knGm 354 (by decide +kernel) rfl) rfl rfl (by decide +kernel) rfl rfl (by simp) (by rw [knEnt_5 kdc_140, knUp_row]; rfl) (fun _ => (knCw _)) (fun h => by rw [kdc_140] at h; cases h) (fun h => by rw [kdc_140] at h; cases h) dX7_put_29 ?_
    cases hb7
    refine kj_sub (L' := []) [] rfl ?_
    exact j6 _ hf

def kfJ9_abs_0f7a4 (a0 : Int) (μ : knMem) : Option (Int) :=
 some (if 0 ≤ a0 then a0 else (knW (-a0)) : Int)

theorem knWkJ9_abs_0f7a4 : knWk yJ9_abs_0f7a4 cJ9_abs_0f7a4 1 (some .int) 1 := ⟨(knGm 894 (by decide +kernel) rfl), (knGm 137 (by decide +kernel) rfl), (knGm 893 (by decide +kernel) rfl), by decide +kernel, by decide +kernel, by decide +kernel⟩
set_option maxHeartbeats 4000000 in
set_option maxRecDepth 100000 in
theorem kcJ9_abs_0f7a4 {G : knGT} (l : Launch) {a0 : Int} (ha0 : knC a0) {μ : knMem} {q : Int} (hf : kfJ9_abs_0f7a4 a0 μ = some q) : knC0 G l yJ9_abs_0f7a4 cJ9_abs_0f7a4 1 (some .int) 0 0 [knV a0] μ (knC q) (some (knV q)) μ := by
  unfold kfJ9_abs_0f7a4 at hf
  refine kn_ofJ kn_pf4 (Nat.le_of_ble_eq_true rfl) (L := [(0, knV a0)]) rfl ?_
  intro p e s m args below meth c X K hr hlk
  refine kj_iloadn X 0 dJ9_abs_0f7a4_0 rfl ?_
  have j2 : ∀ (t2_0 : Int) (et2_0 : t2_0 = (if 0 ≤ a0 then a0 else (knW (-a0)) : Int)) (ht2_0 : knC t2_0), knJ G p l e { frames := 0, cells := 0, slots := 0, locals := 0 } s m args below meth c 1 0 0 (MQ below (knPo G (knC q) (some (knV q)) μ) args s 0 0 (knA G)) 10 [] [knV t2_0] μ := by
    intro t2_0 et2_0 ht2_0
    subst et2_0
    cases hf
    exact kj_iret X ht2_0 hr dJ9_abs_0f7a4_10 hlk
  refine kj_if_ge X (tgt := 9) dJ9_abs_0f7a4_1 (by decide) ha0 (fun h4 => ?_) (fun h4 => ?_)
  · refine kj_iloadn X 0 dJ9_abs_0f7a4_9 rfl ?_
    refine kj_sub (L' := []) [] rfl ?_
    exact j2 a0 (by rw [if_pos h4]) ha0
  · refine kj_iloadn X 0 dJ9_abs_0f7a4_4 rfl ?_
    refine kj_ineg X dJ9_abs_0f7a4_5 ?_
    refine kj_goto X (tgt := 10) dJ9_abs_0f7a4_6 (by decide) ?_
    refine kj_sub (L' := []) [] rfl ?_
    exact j2 (knW (-a0)) (by rw [if_neg h4]) (knCw _)

def kfX7_putNumber_l18  (x2 : Int)  (kc : (knMem) → Option (knMem)) : Nat → Int → knMem → Option (knMem)
  | 0, _, _ => none
  | n + 1, x3, μ =>
    if x3 ≤ 0 then
     kc μ
    else
     Option.bind (α := knMem)
      (if x3 ≤ x2 then
       knGd (x3 ≠ 0)
        (Option.bind (kfX7_put (knI2c (knW (48 + (knRem (knDiv x2 x3) 10)))) μ) (fun q24 =>
        some q24))
      else
       if x3 = 1 then
        knGd (x3 ≠ 0)
         (Option.bind (kfX7_put (knI2c (knW (48 + (knRem (knDiv x2 x3) 10)))) μ) (fun q29 =>
         some q29))
       else
        some μ)
      (fun q20 =>
      kfX7_putNumber_l18  x2 kc n (knDiv x3 10) q20)

def kfX7_putNumber (a1 : Int) (μ : knMem) : Option (knMem) :=
 Option.bind (kfJ9_abs_0f7a4 a1 μ) (fun q1 =>
  Option.bind (α := knMem)
   (if 0 ≤ a1 then
    some μ
   else
    Option.bind (kfX7_put 45 μ) (fun q36 =>
     some q36))
   (fun q8 =>
   kfX7_putNumber_l18 q1  (fun w32 =>
    some w32) knF 1000000000 q8))

theorem knWvX7_putNumber : knWv yX7_putNumber cX7_putNumber 4 none 1 := ⟨(knGm 891 (by decide +kernel) rfl), (knGm 123 (by decide +kernel) rfl), (knGm 889 (by decide +kernel) rfl), (knGm 890 (by decide +kernel) rfl), by decide +kernel, by decide +kernel, by decide +kernel⟩
set_option maxHeartbeats 4000000 in
set_option maxRecDepth 100000 in
theorem kfX7_putNumber_l18_ok {q : knMem} {kc : (knMem) → Option (knMem)} {G : knGT} {p : Program} {l : Launch} {e : Env} {s : State} {m : MethodId} {args : Array Value} {below : List Frame} {meth : Method} {c : Code} (X : knX p m c cX7_putNumber 4 s args yX7_putNumber.cls) (K : knK G s s.heap) (hr : meth.sig.returnType = none) (hlk : meth.locks = false) (x2 : Int) (hx2 : knC x2)  (hk : ∀ (μ1 : knMem), kc μ1 = some q → knJ G p l e { frames := 1, cells := 0, slots := 0, locals := 21 } s m args below meth c 4 0 0 (MQ below (knPo G True none q) args s 0 0 (knA G)) 54 [] [] μ1) : ∀ (n : Nat) (x3 : Int) (hx3 : knC x3) (μ : knMem), kfX7_putNumber_l18  x2 kc n x3 μ = some q → knJ G p l e { frames := 1, cells := 0, slots := 0, locals := 21 } s m args below meth c 4 0 0 (MQ below (knPo G True none q) args s 0 0 (knA G)) 18 [(0, knO G 140), (2, knV x2), (3, knV x3)] [] μ := by
  intro n
  induction n with
  | zero => intro x3 hx3 μ hf; cases hf
  | succ n ih =>
    intro x3 hx3 μ hf
    unfold kfX7_putNumber_l18 at hf
    refine kj_iloadn X 2 dX7_putNumber_18 rfl ?_
    refine kj_if_le X (tgt := 54) dX7_putNumber_19 (by decide) hx3 (fun h9 => ?_) (fun h9 => ?_)
    · replace hf := knIp hf h9
      refine kj_sub (L' := []) [] rfl ?_
      exact hk _ hf
    · replace hf := knIq hf h9
      refine kj_iloadn X 1 dX7_putNumber_22 rfl ?_
      refine kj_iloadn X 2 dX7_putNumber_23 rfl ?_
      have j20 : ∀ (m20 : knMem), (fun q20 =>
       kfX7_putNumber_l18  x2 kc n (knDiv x3 10) q20) m20 = some q → knJ G p l e { frames := 1, cells := 0, slots := 0, locals := 21 } s m args below meth c 4 0 0 (MQ below (knPo G True none q) args s 0 0 (knA G)) 46 [(0, knO G 140), (2, knV x2), (3, knV x3)] [] m20 := by
        intro m20
        intro hf
        refine kj_iloadn X 2 dX7_putNumber_46 rfl ?_
        refine kj_bipush X (n := 10) dX7_putNumber_47 rfl ?_
        refine kj_idiv X dX7_putNumber_49 (show knC (10) from ⟨by omega, by omega⟩) (by decide) ?_
        refine kj_istoren X (L' := [(3, knV (knDiv x3 10)), (0, knO G 140), (2, knV x2)]) dX7_putNumber_50 (by decide) rfl ?_
        refine kj_goto X (tgt := 18) dX7_putNumber_51 (by decide) ?_
        refine kj_sub (L' := [(0, knO G 140), (2, knV x2), (3, knV (knDiv x3 10))]) [1, 2, 0] rfl ?_
        exact ih _ (knC_div _ _) _ hf
      obtain ⟨b21, hb21, hf⟩ := knBd_inv hf
      refine kj_ic_ge X (tgt := 32) dX7_putNumber_24 (by decide) hx2 hx3 (fun h22 => ?_) (fun h22 => ?_)
      · replace hb21 := knIp hb21 h22
        refine kj_aloadn X 0 dX7_putNumber_32 rfl ?_
        refine kj_bipush X (n := 48) dX7_putNumber_33 rfl ?_
        refine kj_iloadn X 1 dX7_putNumber_35 rfl ?_
        refine kj_iloadn X 2 dX7_putNumber_36 rfl ?_
        obtain ⟨h23, hb21⟩ := knGd_inv hb21
        refine kj_idiv X dX7_putNumber_37 hx3 h23 ?_
        refine kj_bipush X (n := 10) dX7_putNumber_38 rfl ?_
        refine kj_irem X dX7_putNumber_40 (show knC (10) from ⟨by omega, by omega⟩) (by decide) ?_
        refine kj_iadd X dX7_putNumber_41 ?_
        refine kj_i2c X dX7_putNumber_42 ?_
        obtain ⟨q24, h25, hb21⟩ := knBd_inv hb21
        refine kj_callV (As := [knV (knI2c (knW (48 + (knRem (knDiv x2 x3) 10))))]) (rest := []) X K (kcX7_put l (knH_i2c _) h25) knWvX7_put (knGm 895 (by decide +kernel) rfl) (by decide) (knKd_in kdc_140 (by decide)) (knEnt_5 kdc_140) rfl rfl rfl (Nat.le_of_ble_eq_true rfl) (by decide) dX7_putNumber_43 rfl (fun h26 => ?_)
        cases hb21
        refine kj_sub (L' := [(0, knO G 140), (2, knV x2), (3, knV x3)]) [0, 1, 2] rfl ?_
        exact j20 _ hf
      · replace hb21 := knIq hb21 h22
        refine kj_iloadn X 2 dX7_putNumber_27 rfl ?_
        refine kj_iconst X dX7_putNumber_28 ?_
        refine kj_ic_ne X (tgt := 46) dX7_putNumber_29 (by decide) hx3 (show knC (1) from ⟨by omega, by omega⟩) (fun h27 => ?_) (fun h27 => ?_)
        · replace hb21 := knIq hb21 h27
          cases hb21
          refine kj_sub (L' := [(0, knO G 140), (2, knV x2), (3, knV x3)]) [0, 1, 2] rfl ?_
          exact j20 _ hf
        · replace hb21 := knIp hb21 h27
          refine kj_aloadn X 0 dX7_putNumber_32 rfl ?_
          refine kj_bipush X (n := 48) dX7_putNumber_33 rfl ?_
          refine kj_iloadn X 1 dX7_putNumber_35 rfl ?_
          refine kj_iloadn X 2 dX7_putNumber_36 rfl ?_
          obtain ⟨h28, hb21⟩ := knGd_inv hb21
          refine kj_idiv X dX7_putNumber_37 hx3 h28 ?_
          refine kj_bipush X (n := 10) dX7_putNumber_38 rfl ?_
          refine kj_irem X dX7_putNumber_40 (show knC (10) from ⟨by omega, by omega⟩) (by decide) ?_
          refine kj_iadd X dX7_putNumber_41 ?_
          refine kj_i2c X dX7_putNumber_42 ?_
          obtain ⟨q29, h30, hb21⟩ := knBd_inv hb21
          refine kj_callV (As := [knV (knI2c (knW (48 + (knRem (knDiv x2 x3) 10))))]) (rest := []) X K (kcX7_put l (knH_i2c _) h30) knWvX7_put (knGm 895 (by decide +kernel) rfl) (by decide) (knKd_in kdc_140 (by decide)) (knEnt_5 kdc_140) rfl rfl rfl (Nat.le_of_ble_eq_true rfl) (by decide) dX7_putNumber_43 rfl (fun h31 => ?_)
          cases hb21
          refine kj_sub (L' := [(0, knO G 140), (2, knV x2), (3, knV x3)]) [0, 1, 2] rfl ?_
          exact j20 _ hf

set_option maxHeartbeats 4000000 in
set_option maxRecDepth 100000 in
theorem kcX7_putNumber {G : knGT} (l : Launch) {a1 : Int} (ha1 : knC a1) {μ : knMem} {q : knMem} (hf : kfX7_putNumber a1 μ = some q) : knC0 G l yX7_putNumber cX7_putNumber 4 none 1 21 [knO G 140, knV a1] μ True none q := by
  unfold kfX7_putNumber at hf
  refine kn_ofJ (plainFor_of_name (by decide)) (Nat.le_of_ble_eq_true rfl) (L := [(0, knO G 140), (1, knV a1)]) rfl ?_
  intro p e s m args below meth c X K hr hlk
  refine kj_iloadn X 1 dX7_putNumber_0 rfl ?_
  obtain ⟨q1, h2, hf⟩ := knBd_inv hf
  refine kj_callS (As := [knV a1]) (rest := []) X K (kcJ9_abs_0f7a4 l ha1 h2) knWkJ9_abs_0f7a4 (knGm 892 (by decide +kernel) rfl) (by decide)  rfl (Nat.le_of_ble_eq_true rfl) (by decide) dX7_putNumber_1 rfl (fun h3 => ?_)
  refine kj_istoren X (L' := [(2, knV q1), (0, knO G 140), (1, knV a1)]) dX7_putNumber_4 (by decide) rfl ?_
  refine kj_iloadn X 2 dX7_putNumber_5 rfl ?_
  have j8 : ∀ (m8 : knMem), (fun q8 =>
   kfX7_putNumber_l18 q1  (fun w32 =>
    some w32) knF 1000000000 q8) m8 = some q → knJ G p l e { frames := 1, cells := 0, slots := 0, locals := 21 } s m args below meth c 4 0 0 (MQ below (knPo G True none q) args s 0 0 (knA G)) 15 [(0, knO G 140), (2, knV q1)] [] m8 := by
    intro m8
    intro hf
    refine kj_ldc X (n := 1000000000) (knGm 896 (by decide +kernel) rfl) dX7_putNumber_15 ?_
    refine kj_istoren X (L' := [(3, knV 1000000000), (0, knO G 140), (2, knV q1)]) dX7_putNumber_17 (by decide) rfl ?_
    refine kj_sub (L' := [(0, knO G 140), (2, knV q1), (3, knV 1000000000)]) [1, 2, 0] rfl ?_
    refine kfX7_putNumber_l18_ok X K hr hlk q1 h3  ?_ knF _ (show knC (1000000000) from ⟨by omega, by omega⟩) _ hf
    intro w33_m
    intro hf
    cases hf
    exact kj_vret X trivial hr dX7_putNumber_54 hlk
  obtain ⟨b34, hb34, hf⟩ := knBd_inv hf
  refine kj_if_ge X (tgt := 15) dX7_putNumber_6 (by decide) ha1 (fun h35 => ?_) (fun h35 => ?_)
  · replace hb34 := knIp hb34 h35
    cases hb34
    refine kj_sub (L' := [(0, knO G 140), (2, knV q1)]) [1, 0] rfl ?_
    exact j8 _ hf
  · replace hb34 := knIq hb34 h35
    refine kj_aloadn X 1 dX7_putNumber_9 rfl ?_
    refine kj_bipush X (n := 45) dX7_putNumber_10 rfl ?_
    obtain ⟨q36, h37, hb34⟩ := knBd_inv hb34
    refine kj_callV (As := [knV 45]) (rest := []) X K (kcX7_put l (show knH (45) from ⟨by omega, by omega⟩) h37) knWvX7_put (knGm 895 (by decide +kernel) rfl) (by decide) (knKd_in kdc_140 (by decide)) (knEnt_5 kdc_140) rfl rfl rfl (Nat.le_of_ble_eq_true rfl) (by decide) dX7_putNumber_12 rfl (fun h38 => ?_)
    cases hb34
    refine kj_sub (L' := [(0, knO G 140), (2, knV q1)]) [1, 0] rfl ?_
    exact j8 _ hf

def kfX5_positiveAt (a0 : Int) (a1 : Int) (μ : knMem) : Option (Int) :=
 Option.bind (kfX5_crossingOf a0 a1 μ) (fun q1 =>
  Option.bind (kfX5_hasCrossing a0 q1 μ) (fun q4 =>
   (fun (k11 : (Unit) → Option (Int)) =>
    if q4 = 0 then
     k11 ()
    else
     knGd (0 ≤ q1 ∧ q1 < 7)
      (if (μ (a0 + 3) q1) = 0 then
      k11 ()
     else
      some 1))
    (fun _ =>
    some 0)))

theorem knWvX5_positiveAt : knWv yX5_positiveAt cX5_positiveAt 3 (some .boolean) 1 := ⟨(knGm 900 (by decide +kernel) rfl), (knGm 116 (by decide +kernel) rfl), (knGm 898 (by decide +kernel) rfl), (knGm 899 (by decide +kernel) rfl), by decide +kernel, by decide +kernel, by decide +kernel⟩
set_option maxHeartbeats 4000000 in
set_option maxRecDepth 100000 in
theorem kcX5_positiveAt {G : knGT} (l : Launch) {a0 : Int} {a1 : Int} (ha0 : knKd a0 = 3) (ha1 : knC a1) {μ : knMem} {q : Int} (hf : kfX5_positiveAt a0 a1 μ = some q) : knC0 G l yX5_positiveAt cX5_positiveAt 3 (some .boolean) 1 22 [knO G a0, knV a1] μ (knZ q) (some (knV q)) μ := by
  unfold kfX5_positiveAt at hf
  refine kn_ofJ (plainFor_of_name (by decide)) (Nat.le_of_ble_eq_true rfl) (L := [(0, knO G a0), (1, knV a1)]) rfl ?_
  intro p e s m args below meth c X K hr hlk
  refine kj_aloadn X 0 dX5_positiveAt_0 rfl ?_
  refine kj_iloadn X 1 dX5_positiveAt_1 rfl ?_
  obtain ⟨q1, h2, hf⟩ := knBd_inv hf
  refine kj_callV (As := [knV a1]) (rest := []) X K (kcX5_crossingOf l ha0 ha1 h2) knWvX5_crossingOf (knGm 901 (by decide +kernel) rfl) (by decide) (knKd_in ha0 (by decide)) (knEnt_3 ha0) rfl rfl rfl (Nat.le_of_ble_eq_true rfl) (by decide) dX5_positiveAt_2 rfl (fun h3 => ?_)
  refine kj_istoren X (L' := [(2, knV q1), (0, knO G a0), (1, knV a1)]) dX5_positiveAt_5 (by decide) rfl ?_
  refine kj_aloadn X 1 dX5_positiveAt_6 rfl ?_
  refine kj_iloadn X 0 dX5_positiveAt_7 rfl ?_
  obtain ⟨q4, h5, hf⟩ := knBd_inv hf
  refine kj_callV (As := [knV q1]) (rest := []) X K (kcX5_hasCrossing l ha0 h3 h5) knWvX5_hasCrossing (knGm 902 (by decide +kernel) rfl) (by decide) (knKd_in ha0 (by decide)) (knEnt_3 ha0) rfl rfl rfl (Nat.le_of_ble_eq_true rfl) (by decide) dX5_positiveAt_8 rfl (fun h6 => ?_)
  have j11 : (fun _ =>
   some 0) () = some q → knJ G p l e { frames := 1, cells := 0, slots := 0, locals := 22 } s m args below meth c 3 0 0 (MQ below (knPo G (knZ q) (some (knV q)) μ) args s 0 0 (knA G)) 27 [] [] μ := by
    intro hf
    refine kj_iconst X dX5_positiveAt_27 ?_
    cases hf
    exact kj_zret X (Or.inl rfl) hr (kn_nb (Or.inl rfl)) dX5_positiveAt_28 hlk
  refine kj_if_eq X (tgt := 27) dX5_positiveAt_11 (by decide) (knZ_c h6) (fun h13 => ?_) (fun h13 => ?_)
  · replace hf := knIp hf h13
    refine kj_sub (L' := []) [] rfl ?_
    exact j11  hf
  · replace hf := knIq hf h13
    refine kj_aloadn X 1 dX5_positiveAt_14 rfl ?_
    refine kj_geto (k := 2) (o2 := (a0 + 3)) X K ha0 (by decide) (knEnt_3 ha0) rfl (by decide) knInX5 (knGm 174 (by decide +kernel) rfl) rfl rfl dX5_positiveAt_15 ?_
    refine kj_iloadn X 0 dX5_positiveAt_18 rfl ?_
    obtain ⟨h14, hf⟩ := knGd_inv hf
    refine kj_zald X K (knD3 ha0).1.2.2 h3 (knD3 ha0).2.2.2 h14 dX5_positiveAt_19 (fun h15 => ?_)
    refine kj_if_eq X (tgt := 27) dX5_positiveAt_20 (by decide) (knZ_c h15) (fun h16 => ?_) (fun h16 => ?_)
    · replace hf := knIp hf h16
      refine kj_sub (L' := []) [] rfl ?_
      exact j11  hf
    · replace hf := knIq hf h16
      refine kj_iconst X dX5_positiveAt_23 ?_
      refine kj_goto X (tgt := 28) dX5_positiveAt_24 (by decide) ?_
      cases hf
      exact kj_zret X (Or.inr rfl) hr (kn_nb (Or.inr rfl)) dX5_positiveAt_28 hlk

def kfX12_renderDiagram_l9    (kc : (knMem) → Option (Int × knMem)) : Nat → Int → knMem → Option (Int × knMem)
  | 0, _, _ => none
  | n + 1, x1, μ =>
    Option.bind (kfX5_passes 2 μ) (fun q4 =>
     if q4 ≤ x1 then
      kc μ
     else
      Option.bind (α := knMem)
       (if x1 ≤ 0 then
        some μ
       else
        Option.bind (kfX7_put 32 μ) (fun q67 =>
         some q67))
       (fun q12 =>
       Option.bind (kfX5_passesOver 2 x1 q12) (fun q13 =>
        Option.bind (kfX7_put (if q13 = 0 then 117 else 111 : Int) q12) (fun q19 =>
         Option.bind (kfX5_crossingOf 2 x1 q19) (fun q22 =>
          Option.bind (kfX7_putNumber q22 q19) (fun q25 =>
           Option.bind (kfX5_positiveAt 2 x1 q25) (fun q28 =>
            Option.bind (kfX7_put (if q28 = 0 then 45 else 43 : Int) q25) (fun q34 =>
             kfX12_renderDiagram_l9   kc n (knW (x1 + 1)) q34))))))))

def kfX12_renderDiagram  (μ : knMem) : Option (Int × knMem) :=
 Option.bind (kfX7_clear  μ) (fun q1 =>
  kfX12_renderDiagram_l9   (fun w70 =>
   some ((w70 140 1), w70)) knF 0 q1)

theorem knWvX12_renderDiagram : knWv yX12_renderDiagram cX12_renderDiagram 2 (some .int) 0 := ⟨(knGm 877 (by decide +kernel) rfl), (knGm 114 (by decide +kernel) rfl), (knGm 875 (by decide +kernel) rfl), (knGm 876 (by decide +kernel) rfl), by decide +kernel, by decide +kernel, by decide +kernel⟩
set_option maxHeartbeats 4000000 in
set_option maxRecDepth 100000 in
theorem kfX12_renderDiagram_l9_ok {q : Int × knMem} {kc : (knMem) → Option (Int × knMem)} {G : knGT} {p : Program} {l : Launch} {e : Env} {s : State} {m : MethodId} {args : Array Value} {below : List Frame} {meth : Method} {c : Code} (X : knX p m c cX12_renderDiagram 2 s args yX12_renderDiagram.cls) (K : knK G s s.heap) (hr : meth.sig.returnType = (some .int)) (hlk : meth.locks = false)    (hk : ∀ (μ1 : knMem), kc μ1 = some q → knJ G p l e { frames := 2, cells := 0, slots := 0, locals := 44 } s m args below meth c 2 0 0 (MQ below (knPo G (knC q.1) (some (knV q.1)) q.2) args s 0 0 (knA G)) 104 [(0, knO G 0)] [] μ1) : ∀ (n : Nat) (x1 : Int) (hx1 : knC x1) (μ : knMem), kfX12_renderDiagram_l9   kc n x1 μ = some q → knJ G p l e { frames := 2, cells := 0, slots := 0, locals := 44 } s m args below meth c 2 0 0 (MQ below (knPo G (knC q.1) (some (knV q.1)) q.2) args s 0 0 (knA G)) 9 [(0, knO G 0), (1, knV x1)] [] μ := by
  intro n
  induction n with
  | zero => intro x1 hx1 μ hf; cases hf
  | succ n ih =>
    intro x1 hx1 μ hf
    unfold kfX12_renderDiagram_l9 at hf
    refine kj_iloadn X 1 dX12_renderDiagram_9 rfl ?_
    refine kj_aloadn X 0 dX12_renderDiagram_10 rfl ?_
    refine kj_geto (k := 1) (o2 := 2) X K kdc_0 (by decide) (knEnt_9 kdc_0) rfl (by decide) knInX12 (knGm 362 (by decide +kernel) rfl) rfl rfl dX12_renderDiagram_11 ?_
    obtain ⟨q4, h5, hf⟩ := knBd_inv hf
    refine kj_callV (As := []) (rest := [knV x1]) X K (kcX5_passes l kdc_2 h5) knWvX5_passes (knGm 882 (by decide +kernel) rfl) (by decide) (knKd_in kdc_2 (by decide)) (knEnt_3 kdc_2) rfl rfl rfl (Nat.le_of_ble_eq_true rfl) (by decide) dX12_renderDiagram_14 rfl (fun h6 => ?_)
    refine kj_ic_ge X (tgt := 104) dX12_renderDiagram_17 (by decide) hx1 h6 (fun h7 => ?_) (fun h7 => ?_)
    · replace hf := knIp hf h7
      refine kj_sub (L' := [(0, knO G 0)]) [0] rfl ?_
      exact hk _ hf
    · replace hf := knIq hf h7
      refine kj_iloadn X 1 dX12_renderDiagram_20 rfl ?_
      have j12 : ∀ (m12 : knMem), (fun q12 =>
       Option.bind (kfX5_passesOver 2 x1 q12) (fun q13 =>
        Option.bind (kfX7_put (if q13 = 0 then 117 else 111 : Int) q12) (fun q19 =>
         Option.bind (kfX5_crossingOf 2 x1 q19) (fun q22 =>
          Option.bind (kfX7_putNumber q22 q19) (fun q25 =>
           Option.bind (kfX5_positiveAt 2 x1 q25) (fun q28 =>
            Option.bind (kfX7_put (if q28 = 0 then 45 else 43 : Int) q25) (fun q34 =>
             kfX12_renderDiagram_l9   kc n (knW (x1 + 1)) q34))))))) m12 = some q → knJ G p l e { frames := 2, cells := 0, slots := 0, locals := 44 } s m args below meth c 2 0 0 (MQ below (knPo G (knC q.1) (some (knV q.1)) q.2) args s 0 0 (knA G)) 33 [(0, knO G 0), (1, knV x1)] [] m12 := by
        intro m12
        intro hf
        refine kj_aloadn X 0 dX12_renderDiagram_33 rfl ?_
        refine kj_geto (k := 10) (o2 := 140) X K kdc_0 (by decide) (knEnt_9 kdc_0) rfl (by decide) knInX12 (knGm 371 (by decide +kernel) rfl) rfl rfl dX12_renderDiagram_34 ?_
        refine kj_aloadn X 0 dX12_renderDiagram_37 rfl ?_
        refine kj_geto (k := 1) (o2 := 2) X K kdc_0 (by decide) (knEnt_9 kdc_0) rfl (by decide) knInX12 (knGm 362 (by decide +kernel) rfl) rfl rfl dX12_renderDiagram_38 ?_
        refine kj_iloadn X 1 dX12_renderDiagram_41 rfl ?_
        obtain ⟨q39, h40, hf⟩ := knBd_inv hf
        refine kj_callV (As := [knV x1]) (rest := [knO G 140]) X K (kcX5_passesOver l kdc_2 hx1 h40) knWvX5_passesOver (knGm 887 (by decide +kernel) rfl) (by decide) (knKd_in kdc_2 (by decide)) (knEnt_3 kdc_2) rfl rfl rfl (Nat.le_of_ble_eq_true rfl) (by decide) dX12_renderDiagram_42 rfl (fun h41 => ?_)
        have j43 : ∀ (t43_0 : Int) (et43_0 : t43_0 = (if q39 = 0 then 117 else 111 : Int)) (ht43_0 : knH t43_0), knJ G p l e { frames := 2, cells := 0, slots := 0, locals := 44 } s m args below meth c 2 0 0 (MQ below (knPo G (knC q.1) (some (knV q.1)) q.2) args s 0 0 (knA G)) 55 [(0, knO G 0), (1, knV x1)] [knV t43_0, knO G 140] m12 := by
          intro t43_0 et43_0 ht43_0
          subst et43_0
          obtain ⟨q45, h46, hf⟩ := knBd_inv hf
          refine kj_callV (As := [knV (if q39 = 0 then 117 else 111 : Int)]) (rest := []) X K (kcX7_put l ht43_0 h46) knWvX7_put (knGm 883 (by decide +kernel) rfl) (by decide) (knKd_in kdc_140 (by decide)) (knEnt_5 kdc_140) rfl rfl rfl (Nat.le_of_ble_eq_true rfl) (by decide) dX12_renderDiagram_55 rfl (fun h47 => ?_)
          refine kj_aloadn X 0 dX12_renderDiagram_58 rfl ?_
          refine kj_geto (k := 10) (o2 := 140) X K kdc_0 (by decide) (knEnt_9 kdc_0) rfl (by decide) knInX12 (knGm 371 (by decide +kernel) rfl) rfl rfl dX12_renderDiagram_59 ?_
          refine kj_aloadn X 0 dX12_renderDiagram_62 rfl ?_
          refine kj_geto (k := 1) (o2 := 2) X K kdc_0 (by decide) (knEnt_9 kdc_0) rfl (by decide) knInX12 (knGm 362 (by decide +kernel) rfl) rfl rfl dX12_renderDiagram_63 ?_
          refine kj_iloadn X 1 dX12_renderDiagram_66 rfl ?_
          obtain ⟨q48, h49, hf⟩ := knBd_inv hf
          refine kj_callV (As := [knV x1]) (rest := [knO G 140]) X K (kcX5_crossingOf l kdc_2 hx1 h49) knWvX5_crossingOf (knGm 606 (by decide +kernel) rfl) (by decide) (knKd_in kdc_2 (by decide)) (knEnt_3 kdc_2) rfl rfl rfl (Nat.le_of_ble_eq_true rfl) (by decide) dX12_renderDiagram_67 rfl (fun h50 => ?_)
          obtain ⟨q51, h52, hf⟩ := knBd_inv hf
          refine kj_callV (As := [knV q48]) (rest := []) X K (kcX7_putNumber l h50 h52) knWvX7_putNumber (knGm 888 (by decide +kernel) rfl) (by decide) (knKd_in kdc_140 (by decide)) (knEnt_5 kdc_140) rfl rfl rfl (Nat.le_of_ble_eq_true rfl) (by decide) dX12_renderDiagram_70 rfl (fun h53 => ?_)
          refine kj_aloadn X 0 dX12_renderDiagram_73 rfl ?_
          refine kj_geto (k := 10) (o2 := 140) X K kdc_0 (by decide) (knEnt_9 kdc_0) rfl (by decide) knInX12 (knGm 371 (by decide +kernel) rfl) rfl rfl dX12_renderDiagram_74 ?_
          refine kj_aloadn X 0 dX12_renderDiagram_77 rfl ?_
          refine kj_geto (k := 1) (o2 := 2) X K kdc_0 (by decide) (knEnt_9 kdc_0) rfl (by decide) knInX12 (knGm 362 (by decide +kernel) rfl) rfl rfl dX12_renderDiagram_78 ?_
          refine kj_iloadn X 1 dX12_renderDiagram_81 rfl ?_
          obtain ⟨q54, h55, hf⟩ := knBd_inv hf
          refine kj_callV (As := [knV x1]) (rest := [knO G 140]) X K (kcX5_positiveAt l kdc_2 hx1 h55) knWvX5_positiveAt (knGm 897 (by decide +kernel) rfl) (by decide) (knKd_in kdc_2 (by decide)) (knEnt_3 kdc_2) rfl rfl rfl (Nat.le_of_ble_eq_true rfl) (by decide) dX12_renderDiagram_82 rfl (fun h56 => ?_)
          have j58 : ∀ (t58_0 : Int) (et58_0 : t58_0 = (if q54 = 0 then 45 else 43 : Int)) (ht58_0 : knH t58_0), knJ G p l e { frames := 2, cells := 0, slots := 0, locals := 44 } s m args below meth c 2 0 0 (MQ below (knPo G (knC q.1) (some (knV q.1)) q.2) args s 0 0 (knA G)) 95 [(0, knO G 0), (1, knV x1)] [knV t58_0, knO G 140] q51 := by
            intro t58_0 et58_0 ht58_0
            subst et58_0
            obtain ⟨q60, h61, hf⟩ := knBd_inv hf
            refine kj_callV (As := [knV (if q54 = 0 then 45 else 43 : Int)]) (rest := []) X K (kcX7_put l ht58_0 h61) knWvX7_put (knGm 883 (by decide +kernel) rfl) (by decide) (knKd_in kdc_140 (by decide)) (knEnt_5 kdc_140) rfl rfl rfl (Nat.le_of_ble_eq_true rfl) (by decide) dX12_renderDiagram_95 rfl (fun h62 => ?_)
            refine kj_iinc X 1 (L' := [(1, knV (knW (x1 + 1))), (0, knO G 0)]) dX12_renderDiagram_98 rfl (by decide) rfl ?_
            refine kj_goto X (tgt := 9) dX12_renderDiagram_101 (by decide) ?_
            refine kj_sub (L' := [(0, knO G 0), (1, knV (knW (x1 + 1)))]) [1, 0] rfl ?_
            exact ih _ (knCw _) _ hf
          refine kj_if_eq X (tgt := 93) dX12_renderDiagram_85 (by decide) (knZ_c h56) (fun h63 => ?_) (fun h63 => ?_)
          · refine kj_bipush X (n := 45) dX12_renderDiagram_93 rfl ?_
            refine kj_sub (L' := [(0, knO G 0), (1, knV x1)]) [0, 1] rfl ?_
            exact j58 45 (by rw [if_pos h63]) (show knH (45) from ⟨by omega, by omega⟩)
          · refine kj_bipush X (n := 43) dX12_renderDiagram_88 rfl ?_
            refine kj_goto X (tgt := 95) dX12_renderDiagram_90 (by decide) ?_
            refine kj_sub (L' := [(0, knO G 0), (1, knV x1)]) [0, 1] rfl ?_
            exact j58 43 (by rw [if_neg h63]) (show knH (43) from ⟨by omega, by omega⟩)
        refine kj_if_eq X (tgt := 53) dX12_renderDiagram_45 (by decide) (knZ_c h41) (fun h64 => ?_) (fun h64 => ?_)
        · refine kj_bipush X (n := 117) dX12_renderDiagram_53 rfl ?_
          refine kj_sub (L' := [(0, knO G 0), (1, knV x1)]) [0, 1] rfl ?_
          exact j43 117 (by rw [if_pos h64]) (show knH (117) from ⟨by omega, by omega⟩)
        · refine kj_bipush X (n := 111) dX12_renderDiagram_48 rfl ?_
          refine kj_goto X (tgt := 55) dX12_renderDiagram_50 (by decide) ?_
          refine kj_sub (L' := [(0, knO G 0), (1, knV x1)]) [0, 1] rfl ?_
          exact j43 111 (by rw [if_neg h64]) (show knH (111) from ⟨by omega, by omega⟩)
      obtain ⟨b65, hb65, hf⟩ := knBd_inv hf
      refine kj_if_le X (tgt := 33) dX12_renderDiagram_21 (by decide) hx1 (fun h66 => ?_) (fun h66 => ?_)
      · replace hb65 := knIp hb65 h66
        cases hb65
        refine kj_sub (L' := [(0, knO G 0), (1, knV x1)]) [0, 1] rfl ?_
        exact j12 _ hf
      · replace hb65 := knIq hb65 h66
        refine kj_aloadn X 0 dX12_renderDiagram_24 rfl ?_
        refine kj_geto (k := 10) (o2 := 140) X K kdc_0 (by decide) (knEnt_9 kdc_0) rfl (by decide) knInX12 (knGm 371 (by decide +kernel) rfl) rfl rfl dX12_renderDiagram_25 ?_
        refine kj_bipush X (n := 32) dX12_renderDiagram_28 rfl ?_
        obtain ⟨q67, h68, hb65⟩ := knBd_inv hb65
        refine kj_callV (As := [knV 32]) (rest := []) X K (kcX7_put l (show knH (32) from ⟨by omega, by omega⟩) h68) knWvX7_put (knGm 883 (by decide +kernel) rfl) (by decide) (knKd_in kdc_140 (by decide)) (knEnt_5 kdc_140) rfl rfl rfl (Nat.le_of_ble_eq_true rfl) (by decide) dX12_renderDiagram_30 rfl (fun h69 => ?_)
        cases hb65
        refine kj_sub (L' := [(0, knO G 0), (1, knV x1)]) [0, 1] rfl ?_
        exact j12 _ hf

set_option maxHeartbeats 4000000 in
set_option maxRecDepth 100000 in
theorem kcX12_renderDiagram {G : knGT} (l : Launch)   {μ : knMem} {q : Int × knMem} (hf : kfX12_renderDiagram  μ = some q) : knC0 G l yX12_renderDiagram cX12_renderDiagram 2 (some .int) 2 44 [knO G 0] μ (knC q.1) (some (knV q.1)) q.2 := by
  unfold kfX12_renderDiagram at hf
  refine kn_ofJ (plainFor_of_name (by decide)) (Nat.le_of_ble_eq_true rfl) (L := [(0, knO G 0)]) rfl ?_
  intro p e s m args below meth c X K hr hlk
  refine kj_aloadn X 0 dX12_renderDiagram_0 rfl ?_
  refine kj_geto (k := 10) (o2 := 140) X K kdc_0 (by decide) (knEnt_9 kdc_0) rfl (by decide) knInX12 (knGm 371 (by decide +kernel) rfl) rfl rfl dX12_renderDiagram_1 ?_
  obtain ⟨q1, h2, hf⟩ := knBd_inv hf
  refine kj_callV (As := []) (rest := []) X K (kcX7_clear l  h2) knWvX7_clear (knGm 878 (by decide +kernel) rfl) (by decide) (knKd_in kdc_140 (by decide)) (knEnt_5 kdc_140) rfl rfl rfl (Nat.le_of_ble_eq_true rfl) (by decide) dX12_renderDiagram_4 rfl (fun h3 => ?_)
  refine kj_iconst X dX12_renderDiagram_7 ?_
  refine kj_istoren X (L' := [(1, knV 0), (0, knO G 0)]) dX12_renderDiagram_8 (by decide) rfl ?_
  refine kj_sub (L' := [(0, knO G 0), (1, knV 0)]) [1, 0] rfl ?_
  refine kfX12_renderDiagram_l9_ok X K hr hlk    ?_ knF _ (show knC (0) from ⟨by omega, by omega⟩) _ hf
  intro w70_m
  intro hf
  refine kj_aloadn X 0 dX12_renderDiagram_104 rfl ?_
  refine kj_geto (k := 10) (o2 := 140) X K kdc_0 (by decide) (knEnt_9 kdc_0) rfl (by decide) knInX12 (knGm 371 (by decide +kernel) rfl) rfl rfl dX12_renderDiagram_105 ?_
  refine kj_geti (k := 1) (ki := 1) X K rfl kdc_140 (by decide) (knEnt_5 kdc_140) rfl (by decide) knInX7 (knGm 355 (by decide +kernel) rfl) rfl rfl dX12_renderDiagram_108 (fun h72 => ?_)
  cases hf
  exact kj_iret X h72 hr dX12_renderDiagram_111 hlk

def kfX12_renderPolynomial_l21    (kc : (knMem) → Option (Int × knMem)) : Nat → Int → knMem → Option (Int × knMem)
  | 0, _, _ => none
  | n + 1, x1, μ =>
    if 50 < x1 then
     kc μ
    else
     Option.bind (kfX12_valueAt 122 x1 μ) (fun q8 =>
      (fun (k41 : (knMem) → Option (Int × knMem)) =>
       if q8 = 0 then
        k41 μ
       else
        Option.bind (α := knMem)
         (if (μ 140 1) ≤ 0 then
          some μ
         else
          Option.bind (kfX7_put 32 μ) (fun q70 =>
           some q70))
         (fun q49 =>
         Option.bind (kfX7_putNumber q8 q49) (fun q50 =>
          Option.bind (kfX7_put 97 q50) (fun q53 =>
           Option.bind (kfX7_putNumber x1 q53) (fun q56 =>
            k41 q56)))))
       (fun q41 =>
       kfX12_renderPolynomial_l21   kc n (knW (x1 + 1)) q41))

def kfX12_renderPolynomial  (μ : knMem) : Option (Int × knMem) :=
 Option.bind (kfX2_normalize 2 μ) (fun q1 =>
  Option.bind (kfX7_clear  q1) (fun q4 =>
   kfX12_renderPolynomial_l21   (fun w73 =>
    some ((w73 140 1), w73)) knF (-50) q4))

theorem knWvX12_renderPolynomial : knWv yX12_renderPolynomial cX12_renderPolynomial 3 (some .int) 0 := ⟨(knGm 909 (by decide +kernel) rfl), (knGm 114 (by decide +kernel) rfl), (knGm 907 (by decide +kernel) rfl), (knGm 908 (by decide +kernel) rfl), by decide +kernel, by decide +kernel, by decide +kernel⟩
set_option maxHeartbeats 4000000 in
set_option maxRecDepth 100000 in
theorem kfX12_renderPolynomial_l21_ok {q : Int × knMem} {kc : (knMem) → Option (Int × knMem)} {G : knGT} {p : Program} {l : Launch} {e : Env} {s : State} {m : MethodId} {args : Array Value} {below : List Frame} {meth : Method} {c : Code} (X : knX p m c cX12_renderPolynomial 3 s args yX12_renderPolynomial.cls) (K : knK G s s.heap) (hr : meth.sig.returnType = (some .int)) (hlk : meth.locks = false)    (hk : ∀ (μ1 : knMem), kc μ1 = some q → knJ G p l e { frames := 5, cells := 0, slots := 0, locals := 125 } s m args below meth c 3 0 0 (MQ below (knPo G (knC q.1) (some (knV q.1)) q.2) args s 0 0 (knA G)) 93 [(0, knO G 0)] [] μ1) : ∀ (n : Nat) (x1 : Int) (hx1 : knC x1) (μ : knMem), kfX12_renderPolynomial_l21   kc n x1 μ = some q → knJ G p l e { frames := 5, cells := 0, slots := 0, locals := 125 } s m args below meth c 3 0 0 (MQ below (knPo G (knC q.1) (some (knV q.1)) q.2) args s 0 0 (knA G)) 21 [(0, knO G 0), (1, knV x1)] [] μ := by
  intro n
  induction n with
  | zero => intro x1 hx1 μ hf; cases hf
  | succ n ih =>
    intro x1 hx1 μ hf
    unfold kfX12_renderPolynomial_l21 at hf
    refine kj_iloadn X 1 dX12_renderPolynomial_21 rfl ?_
    refine kj_bipush X (n := 50) dX12_renderPolynomial_22 rfl ?_
    refine kj_ic_gt X (tgt := 93) dX12_renderPolynomial_24 (by decide) hx1 (show knC (50) from ⟨by omega, by omega⟩) (fun h7 => ?_) (fun h7 => ?_)
    · replace hf := knIp hf h7
      refine kj_sub (L' := [(0, knO G 0)]) [0] rfl ?_
      exact hk _ hf
    · replace hf := knIq hf h7
      refine kj_aloadn X 0 dX12_renderPolynomial_27 rfl ?_
      refine kj_geto (k := 7) (o2 := 119) X K kdc_0 (by decide) (knEnt_9 kdc_0) rfl (by decide) knInX12 (knGm 368 (by decide +kernel) rfl) rfl rfl dX12_renderPolynomial_28 ?_
      refine kj_geto (k := 2) (o2 := 122) X K kdc_119 (by decide) (knEnt_1 kdc_119) rfl (by decide) knInX2 (knGm 290 (by decide +kernel) rfl) rfl rfl dX12_renderPolynomial_31 ?_
      refine kj_iloadn X 1 dX12_renderPolynomial_34 rfl ?_
      obtain ⟨q8, h9, hf⟩ := knBd_inv hf
      refine kj_callS (As := [knO G 122, knV x1]) (rest := []) X K (kcX12_valueAt l kdc_122 hx1 h9) knWkX12_valueAt (knGm 760 (by decide +kernel) rfl) (by decide)  rfl (Nat.le_of_ble_eq_true rfl) (by decide) dX12_renderPolynomial_35 rfl (fun h10 => ?_)
      refine kj_istoren X (L' := [(2, knV q8), (0, knO G 0), (1, knV x1)]) dX12_renderPolynomial_38 (by decide) rfl ?_
      refine kj_iloadn X 0 dX12_renderPolynomial_39 rfl ?_
      have j41 : ∀ (m41 : knMem), (fun q41 =>
       kfX12_renderPolynomial_l21   kc n (knW (x1 + 1)) q41) m41 = some q → knJ G p l e { frames := 5, cells := 0, slots := 0, locals := 125 } s m args below meth c 3 0 0 (MQ below (knPo G (knC q.1) (some (knV q.1)) q.2) args s 0 0 (knA G)) 87 [(0, knO G 0), (1, knV x1)] [] m41 := by
        intro m41
        intro hf
        refine kj_iinc X 1 (L' := [(1, knV (knW (x1 + 1))), (0, knO G 0)]) dX12_renderPolynomial_87 rfl (by decide) rfl ?_
        refine kj_goto X (tgt := 21) dX12_renderPolynomial_90 (by decide) ?_
        refine kj_sub (L' := [(0, knO G 0), (1, knV (knW (x1 + 1)))]) [1, 0] rfl ?_
        exact ih _ (knCw _) _ hf
      obtain ⟨k41, ek41⟩ : ∃ z : (knMem) → Option (Int × knMem), z = (fun q41 =>
       kfX12_renderPolynomial_l21   kc n (knW (x1 + 1)) q41) := ⟨_, rfl⟩
      replace hf : (if q8 = 0 then
       k41 μ
      else
       Option.bind (α := knMem)
        (if (μ 140 1) ≤ 0 then
         some μ
        else
         Option.bind (kfX7_put 32 μ) (fun q70 =>
          some q70))
        (fun q49 =>
        Option.bind (kfX7_putNumber q8 q49) (fun q50 =>
         Option.bind (kfX7_put 97 q50) (fun q53 =>
          Option.bind (kfX7_putNumber x1 q53) (fun q56 =>
           k41 q56))))) = some q := by rw [ek41]; exact hf
      rw [← ek41] at j41
      refine kj_if_eq X (tgt := 87) dX12_renderPolynomial_40 (by decide) h10 (fun h43 => ?_) (fun h43 => ?_)
      · replace hf := knIp hf h43
        refine kj_sub (L' := [(0, knO G 0), (1, knV x1)]) [1, 2] rfl ?_
        exact j41 _ hf
      · replace hf := knIq hf h43
        refine kj_aloadn X 1 dX12_renderPolynomial_43 rfl ?_
        refine kj_geto (k := 10) (o2 := 140) X K kdc_0 (by decide) (knEnt_9 kdc_0) rfl (by decide) knInX12 (knGm 371 (by decide +kernel) rfl) rfl rfl dX12_renderPolynomial_44 ?_
        refine kj_geti (k := 1) (ki := 1) X K rfl kdc_140 (by decide) (knEnt_5 kdc_140) rfl (by decide) knInX7 (knGm 355 (by decide +kernel) rfl) rfl rfl dX12_renderPolynomial_47 (fun h44 => ?_)
        have j49 : ∀ (m49 : knMem), (fun q49 =>
         Option.bind (kfX7_putNumber q8 q49) (fun q50 =>
          Option.bind (kfX7_put 97 q50) (fun q53 =>
           Option.bind (kfX7_putNumber x1 q53) (fun q56 =>
            k41 q56)))) m49 = some q → knJ G p l e { frames := 5, cells := 0, slots := 0, locals := 125 } s m args below meth c 3 0 0 (MQ below (knPo G (knC q.1) (some (knV q.1)) q.2) args s 0 0 (knA G)) 62 [(0, knO G 0), (1, knV x1), (2, knV q8)] [] m49 := by
          intro m49
          intro hf
          refine kj_aloadn X 0 dX12_renderPolynomial_62 rfl ?_
          refine kj_geto (k := 10) (o2 := 140) X K kdc_0 (by decide) (knEnt_9 kdc_0) rfl (by decide) knInX12 (knGm 371 (by decide +kernel) rfl) rfl rfl dX12_renderPolynomial_63 ?_
          refine kj_iloadn X 2 dX12_renderPolynomial_66 rfl ?_
          obtain ⟨q59, h60, hf⟩ := knBd_inv hf
          refine kj_callV (As := [knV q8]) (rest := []) X K (kcX7_putNumber l h10 h60) knWvX7_putNumber (knGm 888 (by decide +kernel) rfl) (by decide) (knKd_in kdc_140 (by decide)) (knEnt_5 kdc_140) rfl rfl rfl (Nat.le_of_ble_eq_true rfl) (by decide) dX12_renderPolynomial_67 rfl (fun h61 => ?_)
          refine kj_aloadn X 0 dX12_renderPolynomial_70 rfl ?_
          refine kj_geto (k := 10) (o2 := 140) X K kdc_0 (by decide) (knEnt_9 kdc_0) rfl (by decide) knInX12 (knGm 371 (by decide +kernel) rfl) rfl rfl dX12_renderPolynomial_71 ?_
          refine kj_bipush X (n := 97) dX12_renderPolynomial_74 rfl ?_
          obtain ⟨q62, h63, hf⟩ := knBd_inv hf
          refine kj_callV (As := [knV 97]) (rest := []) X K (kcX7_put l (show knH (97) from ⟨by omega, by omega⟩) h63) knWvX7_put (knGm 883 (by decide +kernel) rfl) (by decide) (knKd_in kdc_140 (by decide)) (knEnt_5 kdc_140) rfl rfl rfl (Nat.le_of_ble_eq_true rfl) (by decide) dX12_renderPolynomial_76 rfl (fun h64 => ?_)
          refine kj_aloadn X 0 dX12_renderPolynomial_79 rfl ?_
          refine kj_geto (k := 10) (o2 := 140) X K kdc_0 (by decide) (knEnt_9 kdc_0) rfl (by decide) knInX12 (knGm 371 (by decide +kernel) rfl) rfl rfl dX12_renderPolynomial_80 ?_
          refine kj_iloadn X 1 dX12_renderPolynomial_83 rfl ?_
          obtain ⟨q65, h66, hf⟩ := knBd_inv hf
          refine kj_callV (As := [knV x1]) (rest := []) X K (kcX7_putNumber l hx1 h66) knWvX7_putNumber (knGm 888 (by decide +kernel) rfl) (by decide) (knKd_in kdc_140 (by decide)) (knEnt_5 kdc_140) rfl rfl rfl (Nat.le_of_ble_eq_true rfl) (by decide) dX12_renderPolynomial_84 rfl (fun h67 => ?_)
          refine kj_sub (L' := [(0, knO G 0), (1, knV x1)]) [0, 1] rfl ?_
          exact j41 _ hf
        obtain ⟨b68, hb68, hf⟩ := knBd_inv hf
        refine kj_if_le X (tgt := 62) dX12_renderPolynomial_50 (by decide) h44 (fun h69 => ?_) (fun h69 => ?_)
        · replace hb68 := knIp hb68 h69
          cases hb68
          refine kj_sub (L' := [(0, knO G 0), (1, knV x1), (2, knV q8)]) [1, 2, 0] rfl ?_
          exact j49 _ hf
        · replace hb68 := knIq hb68 h69
          refine kj_aloadn X 1 dX12_renderPolynomial_53 rfl ?_
          refine kj_geto (k := 10) (o2 := 140) X K kdc_0 (by decide) (knEnt_9 kdc_0) rfl (by decide) knInX12 (knGm 371 (by decide +kernel) rfl) rfl rfl dX12_renderPolynomial_54 ?_
          refine kj_bipush X (n := 32) dX12_renderPolynomial_57 rfl ?_
          obtain ⟨q70, h71, hb68⟩ := knBd_inv hb68
          refine kj_callV (As := [knV 32]) (rest := []) X K (kcX7_put l (show knH (32) from ⟨by omega, by omega⟩) h71) knWvX7_put (knGm 883 (by decide +kernel) rfl) (by decide) (knKd_in kdc_140 (by decide)) (knEnt_5 kdc_140) rfl rfl rfl (Nat.le_of_ble_eq_true rfl) (by decide) dX12_renderPolynomial_59 rfl (fun h72 => ?_)
          cases hb68
          refine kj_sub (L' := [(0, knO G 0), (1, knV x1), (2, knV q8)]) [1, 2, 0] rfl ?_
          exact j49 _ hf

set_option maxHeartbeats 4000000 in
set_option maxRecDepth 100000 in
theorem kcX12_renderPolynomial {G : knGT} (l : Launch)   {μ : knMem} {q : Int × knMem} (hf : kfX12_renderPolynomial  μ = some q) : knC0 G l yX12_renderPolynomial cX12_renderPolynomial 3 (some .int) 5 125 [knO G 0] μ (knC q.1) (some (knV q.1)) q.2 := by
  unfold kfX12_renderPolynomial at hf
  refine kn_ofJ (plainFor_of_name (by decide)) (Nat.le_of_ble_eq_true rfl) (L := [(0, knO G 0)]) rfl ?_
  intro p e s m args below meth c X K hr hlk
  refine kj_aloadn X 0 dX12_renderPolynomial_0 rfl ?_
  refine kj_geto (k := 7) (o2 := 119) X K kdc_0 (by decide) (knEnt_9 kdc_0) rfl (by decide) knInX12 (knGm 368 (by decide +kernel) rfl) rfl rfl dX12_renderPolynomial_1 ?_
  refine kj_aloadn X 0 dX12_renderPolynomial_4 rfl ?_
  refine kj_geto (k := 1) (o2 := 2) X K kdc_0 (by decide) (knEnt_9 kdc_0) rfl (by decide) knInX12 (knGm 362 (by decide +kernel) rfl) rfl rfl dX12_renderPolynomial_5 ?_
  obtain ⟨q1, h2, hf⟩ := knBd_inv hf
  refine kj_callV (As := [knO G 2]) (rest := []) X K (kcX2_normalize l kdc_2 h2) knWvX2_normalize (knGm 716 (by decide +kernel) rfl) (by decide) (knKd_in kdc_119 (by decide)) (knEnt_1 kdc_119) rfl rfl rfl (Nat.le_of_ble_eq_true rfl) (by decide) dX12_renderPolynomial_8 rfl (fun h3 => ?_)
  refine kj_aloadn X 0 dX12_renderPolynomial_11 rfl ?_
  refine kj_geto (k := 10) (o2 := 140) X K kdc_0 (by decide) (knEnt_9 kdc_0) rfl (by decide) knInX12 (knGm 371 (by decide +kernel) rfl) rfl rfl dX12_renderPolynomial_12 ?_
  obtain ⟨q4, h5, hf⟩ := knBd_inv hf
  refine kj_callV (As := []) (rest := []) X K (kcX7_clear l  h5) knWvX7_clear (knGm 878 (by decide +kernel) rfl) (by decide) (knKd_in kdc_140 (by decide)) (knEnt_5 kdc_140) rfl rfl rfl (Nat.le_of_ble_eq_true rfl) (by decide) dX12_renderPolynomial_15 rfl (fun h6 => ?_)
  refine kj_bipush X (n := (-50)) dX12_renderPolynomial_18 rfl ?_
  refine kj_istoren X (L' := [(1, knV (-50)), (0, knO G 0)]) dX12_renderPolynomial_20 (by decide) rfl ?_
  refine kj_sub (L' := [(0, knO G 0), (1, knV (-50))]) [1, 0] rfl ?_
  refine kfX12_renderPolynomial_l21_ok X K hr hlk    ?_ knF _ (show knC (-50) from ⟨by omega, by omega⟩) _ hf
  intro w73_m
  intro hf
  refine kj_aloadn X 0 dX12_renderPolynomial_93 rfl ?_
  refine kj_geto (k := 10) (o2 := 140) X K kdc_0 (by decide) (knEnt_9 kdc_0) rfl (by decide) knInX12 (knGm 371 (by decide +kernel) rfl) rfl rfl dX12_renderPolynomial_94 ?_
  refine kj_geti (k := 1) (ki := 1) X K rfl kdc_140 (by decide) (knEnt_5 kdc_140) rfl (by decide) knInX7 (knGm 355 (by decide +kernel) rfl) rfl rfl dX12_renderPolynomial_97 (fun h75 => ?_)
  cases hf
  exact kj_iret X h75 hr dX12_renderPolynomial_100 hlk

def kfX12_outputAt (a1 : Int) (μ : knMem) : Option (Int × Int) :=
 (fun (k6 : (Unit) → Option (Int × Int)) =>
  if a1 < 0 then
   k6 ()
  else
   if a1 < (μ 140 1) then
    knGd (0 ≤ a1 ∧ a1 < 256)
     (some (0, (μ 141 a1)))
   else
    k6 ())
  (fun _ =>
  some (1, 0))

theorem knWvX12_outputAt : knWv yX12_outputAt cX12_outputAt 2 (some .char) 1 := ⟨(knGm 1301 (by decide +kernel) rfl), (knGm 114 (by decide +kernel) rfl), (knGm 1299 (by decide +kernel) rfl), (knGm 1300 (by decide +kernel) rfl), by decide +kernel, by decide +kernel, by decide +kernel⟩
set_option maxHeartbeats 4000000 in
set_option maxRecDepth 100000 in
theorem kcX12_outputAt {G : knGT} (l : Launch) (hl : l.stackTraces = false) {a1 : Int} (ha1 : knC a1) {μ : knMem} {q : Int × Int} (hf : kfX12_outputAt a1 μ = some q) : knCx G l yX12_outputAt cX12_outputAt 2 (some .char) 6 100 1 6 [knO G 0, knV a1] μ (knH q.2) q.1 (some (knV q.2)) μ := by
  unfold kfX12_outputAt at hf
  refine kn_ofJx (by decide) (Nat.le_of_ble_eq_true rfl) (L := [(0, knO G 0), (1, knV a1)]) rfl ?_
  intro p e s m args below meth c X K hr hlk hnx
  refine kj_iloadn X 1 dX12_outputAt_0 rfl ?_
  have j6 : (fun _ =>
   some (1, 0)) () = some q → knJ G p l e { frames := 6, cells := 1, slots := 6, locals := 100 } s m args below meth c 2 0 0 (vx_MQ below (knPx G (knH q.2) q.1 (some (knV q.2)) μ) (knXC G q.1 μ) args s 1 6 (knA G)) 15 [] [] μ := by
    intro hf
    cases hf
    exact kjx_throwW X K hl (i := 14) (by show (1 : Int) ≠ 0; decide) rfl (by decide +kernel) (by decide) rfl rfl knTh1.1 knTh1.2 dX12_outputAt_15 dX12_outputAt_18 dX12_outputAt_19 dX12_outputAt_22 dX12_outputAt_25 hnx (by decide) hlk (by decide) (by decide)
  refine kj_if_lt X (tgt := 15) dX12_outputAt_1 (by decide) ha1 (fun h8 => ?_) (fun h8 => ?_)
  · replace hf := knIp hf h8
    refine kj_sub (L' := []) [] rfl ?_
    exact j6  hf
  · replace hf := knIq hf h8
    refine kj_iloadn X 1 dX12_outputAt_4 rfl ?_
    refine kj_aloadn X 0 dX12_outputAt_5 rfl ?_
    refine kj_geto (k := 10) (o2 := 140) X K kdc_0 (by decide) (knEnt_9 kdc_0) rfl (by decide) knInX12 (knGm 371 (by decide +kernel) rfl) rfl rfl dX12_outputAt_6 ?_
    refine kj_geti (k := 1) (ki := 1) X K rfl kdc_140 (by decide) (knEnt_5 kdc_140) rfl (by decide) knInX7 (knGm 355 (by decide +kernel) rfl) rfl rfl dX12_outputAt_9 (fun h9 => ?_)
    refine kj_ic_lt X (tgt := 26) dX12_outputAt_12 (by decide) ha1 h9 (fun h10 => ?_) (fun h10 => ?_)
    · replace hf := knIp hf h10
      refine kj_aloadn X 0 dX12_outputAt_26 rfl ?_
      refine kj_geto (k := 10) (o2 := 140) X K kdc_0 (by decide) (knEnt_9 kdc_0) rfl (by decide) knInX12 (knGm 371 (by decide +kernel) rfl) rfl rfl dX12_outputAt_27 ?_
      refine kj_geto (k := 0) (o2 := 141) X K kdc_140 (by decide) (knEnt_5 kdc_140) rfl (by decide) knInX7 (knGm 353 (by decide +kernel) rfl) rfl rfl dX12_outputAt_30 ?_
      refine kj_iloadn X 1 dX12_outputAt_33 rfl ?_
      obtain ⟨h11, hf⟩ := knGd_inv hf
      refine kj_cald X K kdc_141 ha1 lnc_141 h11 dX12_outputAt_34 (fun h12 => ?_)
      cases hf
      exact kjx_zret X h12 rfl (by decide) (by decide) hr (kn_nc h12) dX12_outputAt_35 hlk
    · replace hf := knIq hf h10
      refine kj_sub (L' := []) [] rfl ?_
      exact j6  hf

def kfX9_append (a1 : Int) (μ : knMem) : Option (knMem) :=
 Option.bind (α := knMem)
  (if 60 ≤ (μ 137 2) then
   some μ
  else
   knGd (0 ≤ (μ 137 2) ∧ (μ 137 2) < 60)
    (some (knUp (knUp μ 138 (μ 137 2) (knNc a1)) 137 2 (knW (((knUp μ 138 (μ 137 2) (knNc a1)) 137 2) + 1)))))
  (fun q6 =>
  some q6)

theorem knWvX9_append : knWv yX9_append cX9_append 2 none 1 := ⟨(knGm 1315 (by decide +kernel) rfl), (knGm 122 (by decide +kernel) rfl), (knGm 1313 (by decide +kernel) rfl), (knGm 1314 (by decide +kernel) rfl), by decide +kernel, by decide +kernel, by decide +kernel⟩
set_option maxHeartbeats 4000000 in
set_option maxRecDepth 100000 in
theorem kcX9_append {G : knGT} (l : Launch) {a1 : Int} (ha1 : knH a1) {μ : knMem} {q : knMem} (hf : kfX9_append a1 μ = some q) : knC0 G l yX9_append cX9_append 2 none 0 0 [knO G 137, knV a1] μ True none q := by
  unfold kfX9_append at hf
  refine kn_ofJ (plainFor_of_name (by decide)) (Nat.le_of_ble_eq_true rfl) (L := [(0, knO G 137), (1, knV a1)]) rfl ?_
  intro p e s m args below meth c X K hr hlk
  refine kj_aloadn X 0 dX9_append_0 rfl ?_
  refine kj_geti (k := 2) (ki := 2) X K rfl kdc_137 (by decide) (knEnt_6 kdc_137) rfl (by decide) knInX9 (knGm 326 (by decide +kernel) rfl) rfl rfl dX9_append_1 (fun h1 => ?_)
  refine kj_aloadn X 0 dX9_append_4 rfl ?_
  refine kj_geto (k := 0) (o2 := 138) X K kdc_137 (by decide) (knEnt_6 kdc_137) rfl (by decide) knInX9 (knGm 323 (by decide +kernel) rfl) rfl rfl dX9_append_5 ?_
  refine kj_alen22 X K kdc_138 dX9_append_8 ?_
  rw [lnc_138]
  have j6 : ∀ (m6 : knMem), (fun q6 =>
   some q6) m6 = some q → knJ G p l e { frames := 0, cells := 0, slots := 0, locals := 0 } s m args below meth c 2 0 0 (MQ below (knPo G True none q) args s 0 0 (knA G)) 32 [] [] m6 := by
    intro m6
    intro hf
    cases hf
    exact kj_vret X trivial hr dX9_append_32 hlk
  obtain ⟨b7, hb7, hf⟩ := knBd_inv hf
  refine kj_ic_ge X (tgt := 32) dX9_append_9 (by decide) h1 (show knC (60) from ⟨by omega, by omega⟩) (fun h8 => ?_) (fun h8 => ?_)
  · replace hb7 := knIp hb7 h8
    cases hb7
    refine kj_sub (L' := []) [] rfl ?_
    exact j6 _ hf
  · replace hb7 := knIq hb7 h8
    refine kj_aloadn X 0 dX9_append_12 rfl ?_
    refine kj_geto (k := 0) (o2 := 138) X K kdc_137 (by decide) (knEnt_6 kdc_137) rfl (by decide) knInX9 (knGm 323 (by decide +kernel) rfl) rfl rfl dX9_append_13 ?_
    refine kj_aloadn X 0 dX9_append_16 rfl ?_
    refine kj_geti (k := 2) (ki := 2) X K rfl kdc_137 (by decide) (knEnt_6 kdc_137) rfl (by decide) knInX9 (knGm 326 (by decide +kernel) rfl) rfl rfl dX9_append_17 (fun h9 => ?_)
    refine kj_iloadn X 1 dX9_append_20 rfl ?_
    obtain ⟨h10, hb7⟩ := knGd_inv hb7
    refine kj_cast X K kdc_138 h9 lnc_138 h10 dX9_append_21 ?_
    refine kj_aloadn X 0 dX9_append_22 rfl ?_
    refine kj_dup X dX9_append_23 rfl ?_
    refine kj_geti (k := 2) (ki := 2) X K rfl kdc_137 (by decide) (knEnt_6 kdc_137) rfl (by decide) knInX9 (knGm 326 (by decide +kernel) rfl) rfl rfl dX9_append_24 (fun h11 => ?_)
    refine kj_iconst X dX9_append_27 ?_
    refine kj_iadd X dX9_append_28 ?_
    refine kj_putf (k := 2) (ki := 2) (x := (knW (((knUp μ 138 (μ 137 2) (knNc a1)) 137 2) + 1))) (ty := .int) X K rfl (knKd_in kdc_137 (by decide)) (knEnt_6 kdc_137) rfl (by decide) knInX9 tyX9_ok nmX9 (knGm 326 (by decide +kernel) rfl) rfl rfl (by decide +kernel) rfl rfl (by simp) (by rw [knEnt_6 kdc_137, knUp_row]; rfl) (fun _ => (knCw _)) (fun h => by rw [kdc_137] at h; cases h) (fun h => by rw [kdc_137] at h; cases h) dX9_append_29 ?_
    cases hb7
    refine kj_sub (L' := []) [] rfl ?_
    exact j6 _ hf

def kfX12_type (a1 : Int) (μ : knMem) : Option (Int × Int × knMem) :=
 (fun (k9 : (Unit) → Option (Int × Int × knMem)) =>
  if a1 < 32 then
   k9 ()
  else
   if a1 ≤ 126 then
    if (μ 137 2) < 60 then
     Option.bind (kfX9_append a1 μ) (fun q15 =>
      some (0, (q15 137 2), q15))
    else
     some (3, 0, μ)
   else
    k9 ())
  (fun _ =>
  some (2, 0, μ))

theorem knWvX12_type : knWv yX12_type cX12_type 2 (some .int) 1 := ⟨(knGm 1309 (by decide +kernel) rfl), (knGm 114 (by decide +kernel) rfl), (knGm 1307 (by decide +kernel) rfl), (knGm 1308 (by decide +kernel) rfl), by decide +kernel, by decide +kernel, by decide +kernel⟩
set_option maxHeartbeats 4000000 in
set_option maxRecDepth 100000 in
theorem kcX12_type {G : knGT} (l : Launch) (hl : l.stackTraces = false) {a1 : Int} (ha1 : knH a1) {μ : knMem} {q : Int × Int × knMem} (hf : kfX12_type a1 μ = some q) : knCx G l yX12_type cX12_type 2 (some .int) 6 100 1 6 [knO G 0, knV a1] μ (knC q.2.1) q.1 (some (knV q.2.1)) q.2.2 := by
  unfold kfX12_type at hf
  refine kn_ofJx (by decide) (Nat.le_of_ble_eq_true rfl) (L := [(0, knO G 0), (1, knV a1)]) rfl ?_
  intro p e s m args below meth c X K hr hlk hnx
  refine kj_iloadn X 1 dX12_type_0 rfl ?_
  refine kj_bipush X (n := 32) dX12_type_1 rfl ?_
  have j9 : (fun _ =>
   some (2, 0, μ)) () = some q → knJ G p l e { frames := 6, cells := 1, slots := 6, locals := 100 } s m args below meth c 2 0 0 (vx_MQ below (knPx G (knC q.2.1) q.1 (some (knV q.2.1)) q.2.2) (knXC G q.1 q.2.2) args s 1 6 (knA G)) 12 [] [] μ := by
    intro hf
    cases hf
    exact kjx_throwW X K hl (i := 15) (by show (2 : Int) ≠ 0; decide) rfl (by decide +kernel) (by decide) rfl rfl knTh2.1 knTh2.2 dX12_type_12 dX12_type_15 dX12_type_16 dX12_type_19 dX12_type_22 hnx (by decide) hlk (by decide) (by decide)
  refine kj_ic_lt X (tgt := 12) dX12_type_3 (by decide) (knH_c ha1) (show knC (32) from ⟨by omega, by omega⟩) (fun h11 => ?_) (fun h11 => ?_)
  · replace hf := knIp hf h11
    refine kj_sub (L' := []) [] rfl ?_
    exact j9  hf
  · replace hf := knIq hf h11
    refine kj_iloadn X 1 dX12_type_6 rfl ?_
    refine kj_bipush X (n := 126) dX12_type_7 rfl ?_
    refine kj_ic_le X (tgt := 23) dX12_type_9 (by decide) (knH_c ha1) (show knC (126) from ⟨by omega, by omega⟩) (fun h12 => ?_) (fun h12 => ?_)
    · replace hf := knIp hf h12
      refine kj_aloadn X 0 dX12_type_23 rfl ?_
      refine kj_geto (k := 9) (o2 := 137) X K kdc_0 (by decide) (knEnt_9 kdc_0) rfl (by decide) knInX12 (knGm 370 (by decide +kernel) rfl) rfl rfl dX12_type_24 ?_
      refine kj_geti (k := 2) (ki := 2) X K rfl kdc_137 (by decide) (knEnt_6 kdc_137) rfl (by decide) knInX9 (knGm 327 (by decide +kernel) rfl) rfl rfl dX12_type_27 (fun h13 => ?_)
      refine kj_bipush X (n := 60) dX12_type_30 rfl ?_
      refine kj_ic_lt X (tgt := 46) dX12_type_32 (by decide) h13 (show knC (60) from ⟨by omega, by omega⟩) (fun h14 => ?_) (fun h14 => ?_)
      · replace hf := knIp hf h14
        refine kj_aloadn X 0 dX12_type_46 rfl ?_
        refine kj_geto (k := 9) (o2 := 137) X K kdc_0 (by decide) (knEnt_9 kdc_0) rfl (by decide) knInX12 (knGm 370 (by decide +kernel) rfl) rfl rfl dX12_type_47 ?_
        refine kj_iloadn X 1 dX12_type_50 rfl ?_
        obtain ⟨q15, h16, hf⟩ := knBd_inv hf
        refine kj_callV (As := [knV a1]) (rest := []) X K (kcX9_append l ha1 h16) knWvX9_append (knGm 1312 (by decide +kernel) rfl) (by decide) (knKd_in kdc_137 (by decide)) (knEnt_6 kdc_137) rfl rfl rfl (Nat.le_of_ble_eq_true rfl) (by decide) dX12_type_51 rfl (fun h17 => ?_)
        refine kj_aloadn X 0 dX12_type_54 rfl ?_
        refine kj_geto (k := 9) (o2 := 137) X K kdc_0 (by decide) (knEnt_9 kdc_0) rfl (by decide) knInX12 (knGm 370 (by decide +kernel) rfl) rfl rfl dX12_type_55 ?_
        refine kj_geti (k := 2) (ki := 2) X K rfl kdc_137 (by decide) (knEnt_6 kdc_137) rfl (by decide) knInX9 (knGm 327 (by decide +kernel) rfl) rfl rfl dX12_type_58 (fun h18 => ?_)
        cases hf
        exact kjx_iret X h18 rfl (by decide) (by decide) hr dX12_type_61 hlk
      · replace hf := knIq hf h14
        cases hf
        exact kjx_throwW X K hl (i := 16) (by show (3 : Int) ≠ 0; decide) rfl (by decide +kernel) (by decide) rfl rfl knTh3.1 knTh3.2 dX12_type_35 dX12_type_38 dX12_type_39 dX12_type_42 dX12_type_45 hnx (by decide) hlk (by decide) (by decide)
    · replace hf := knIq hf h12
      refine kj_sub (L' := []) [] rfl ?_
      exact j9  hf

def kfX9_isSignAt (a1 : Int) (a2 : Int) (μ : knMem) : Option (Int) :=
 (fun (k7 : (Unit) → Option (Int)) =>
  if a1 < 0 then
   k7 ()
  else
   if (μ 137 2) ≤ a1 then
    k7 ()
   else
    knGd (0 ≤ a1 ∧ a1 < 60)
     (if (μ 138 a1) = a2 then
     some 1
    else
     k7 ()))
  (fun _ =>
  some 0)

theorem knWvX9_isSignAt : knWv yX9_isSignAt cX9_isSignAt 3 (some .boolean) 2 := ⟨(knGm 1392 (by decide +kernel) rfl), (knGm 122 (by decide +kernel) rfl), (knGm 1391 (by decide +kernel) rfl), (knGm 26 (by decide +kernel) rfl), by decide +kernel, by decide +kernel, by decide +kernel⟩
set_option maxHeartbeats 4000000 in
set_option maxRecDepth 100000 in
theorem kcX9_isSignAt {G : knGT} (l : Launch) {a1 : Int} {a2 : Int} (ha1 : knC a1) (ha2 : knH a2) {μ : knMem} {q : Int} (hf : kfX9_isSignAt a1 a2 μ = some q) : knC0 G l yX9_isSignAt cX9_isSignAt 3 (some .boolean) 0 0 [knO G 137, knV a1, knV a2] μ (knZ q) (some (knV q)) μ := by
  unfold kfX9_isSignAt at hf
  refine kn_ofJ (plainFor_of_name (by decide)) (Nat.le_of_ble_eq_true rfl) (L := [(0, knO G 137), (1, knV a1), (2, knV a2)]) rfl ?_
  intro p e s m args below meth c X K hr hlk
  refine kj_iloadn X 1 dX9_isSignAt_0 rfl ?_
  have j7 : (fun _ =>
   some 0) () = some q → knJ G p l e { frames := 0, cells := 0, slots := 0, locals := 0 } s m args below meth c 3 0 0 (MQ below (knPo G (knZ q) (some (knV q)) μ) args s 0 0 (knA G)) 26 [] [] μ := by
    intro hf
    refine kj_iconst X dX9_isSignAt_26 ?_
    cases hf
    exact kj_zret X (Or.inl rfl) hr (kn_nb (Or.inl rfl)) dX9_isSignAt_27 hlk
  refine kj_if_lt X (tgt := 26) dX9_isSignAt_1 (by decide) ha1 (fun h9 => ?_) (fun h9 => ?_)
  · replace hf := knIp hf h9
    refine kj_sub (L' := []) [] rfl ?_
    exact j7  hf
  · replace hf := knIq hf h9
    refine kj_iloadn X 1 dX9_isSignAt_4 rfl ?_
    refine kj_aloadn X 0 dX9_isSignAt_5 rfl ?_
    refine kj_geti (k := 2) (ki := 2) X K rfl kdc_137 (by decide) (knEnt_6 kdc_137) rfl (by decide) knInX9 (knGm 326 (by decide +kernel) rfl) rfl rfl dX9_isSignAt_6 (fun h10 => ?_)
    refine kj_ic_ge X (tgt := 26) dX9_isSignAt_9 (by decide) ha1 h10 (fun h11 => ?_) (fun h11 => ?_)
    · replace hf := knIp hf h11
      refine kj_sub (L' := []) [] rfl ?_
      exact j7  hf
    · replace hf := knIq hf h11
      refine kj_aloadn X 0 dX9_isSignAt_12 rfl ?_
      refine kj_geto (k := 0) (o2 := 138) X K kdc_137 (by decide) (knEnt_6 kdc_137) rfl (by decide) knInX9 (knGm 323 (by decide +kernel) rfl) rfl rfl dX9_isSignAt_13 ?_
      refine kj_iloadn X 1 dX9_isSignAt_16 rfl ?_
      obtain ⟨h12, hf⟩ := knGd_inv hf
      refine kj_cald X K kdc_138 ha1 lnc_138 h12 dX9_isSignAt_17 (fun h13 => ?_)
      refine kj_iloadn X 2 dX9_isSignAt_18 rfl ?_
      refine kj_ic_ne X (tgt := 26) dX9_isSignAt_19 (by decide) (knH_c h13) (knH_c ha2) (fun h14 => ?_) (fun h14 => ?_)
      · replace hf := knIq hf h14
        refine kj_sub (L' := []) [] rfl ?_
        exact j7  hf
      · replace hf := knIp hf h14
        refine kj_iconst X dX9_isSignAt_22 ?_
        refine kj_goto X (tgt := 27) dX9_isSignAt_23 (by decide) ?_
        cases hf
        exact kj_zret X (Or.inr rfl) hr (kn_nb (Or.inr rfl)) dX9_isSignAt_27 hlk

def kfX9_matchedLength_l2  (x1 : Int) (μ : knMem) (kc : (Int) → Option (Int)) : Nat → Int → Option (Int)
  | 0, _ => none
  | n + 1, x2 =>
    if (knSln x1) ≤ x2 then
     kc x2
    else
     knGd (0 ≤ x2 ∧ x2 < knSln x1)
      (Option.bind (kfX9_isSignAt (knW ((μ 137 4) + x2)) (knSch x1 x2) μ) (fun q4 =>
      if q4 = 0 then
       kc x2
      else
       kfX9_matchedLength_l2  x1 μ kc n (knW (x2 + 1))))

def kfX9_matchedLength (a1 : Int) (μ : knMem) : Option (Int) :=
 kfX9_matchedLength_l2 a1 μ (fun w8 =>
  some w8) knF 0

theorem knWvX9_matchedLength : knWv yX9_matchedLength cX9_matchedLength 3 (some .int) 1 := ⟨(knGm 1340 (by decide +kernel) rfl), (knGm 122 (by decide +kernel) rfl), (knGm 1339 (by decide +kernel) rfl), (knGm 25 (by decide +kernel) rfl), by decide +kernel, by decide +kernel, by decide +kernel⟩
set_option maxHeartbeats 4000000 in
set_option maxRecDepth 100000 in
theorem kfX9_matchedLength_l2_ok {q : Int} {kc : (Int) → Option (Int)} {G : knGT} {p : Program} {l : Launch} {e : Env} {s : State} {m : MethodId} {args : Array Value} {below : List Frame} {meth : Method} {c : Code} (X : knX p m c cX9_matchedLength 3 s args yX9_matchedLength.cls) (K : knK G s s.heap) (hr : meth.sig.returnType = (some .int)) (hlk : meth.locks = false) (x1 : Int) (hx1 : 0 ≤ x1 ∧ x1 < 19) (μ : knMem) (hk : ∀ (y2 : Int) (hy2 : knC y2), kc y2 = some q → knJ G p l e { frames := 6, cells := 0, slots := 0, locals := 120 } s m args below meth c 3 0 0 (MQ below (knPo G (knC q) (some (knV q)) μ) args s 0 0 (knA G)) 34 [(2, knV y2)] [] μ) : ∀ (n : Nat) (x2 : Int) (hx2 : knC x2) , kfX9_matchedLength_l2  x1 μ kc n x2 = some q → knJ G p l e { frames := 6, cells := 0, slots := 0, locals := 120 } s m args below meth c 3 0 0 (MQ below (knPo G (knC q) (some (knV q)) μ) args s 0 0 (knA G)) 2 [(0, knO G 137), (1, knTv G x1), (2, knV x2)] [] μ := by
  intro n
  induction n with
  | zero => intro x2 hx2 hf; cases hf
  | succ n ih =>
    intro x2 hx2 hf
    unfold kfX9_matchedLength_l2 at hf
    refine kj_iloadn X 2 dX9_matchedLength_2 rfl ?_
    refine kj_aloadn X 1 dX9_matchedLength_3 rfl ?_
    refine kj_slen (rest := [knV x2]) X K hx1 (knGm 1341 (by decide +kernel) rfl) (Nat.le_of_ble_eq_true rfl) (by decide) dX9_matchedLength_4 ?_
    refine kj_ic_ge X (tgt := 34) dX9_matchedLength_7 (by decide) hx2 (knC_sln _) (fun h1 => ?_) (fun h1 => ?_)
    · replace hf := knIp hf h1
      refine kj_sub (L' := [(2, knV x2)]) [2] rfl ?_
      exact hk _ hx2 hf
    · replace hf := knIq hf h1
      refine kj_aloadn X 0 dX9_matchedLength_10 rfl ?_
      refine kj_aloadn X 0 dX9_matchedLength_11 rfl ?_
      refine kj_geti (k := 4) (ki := 4) X K rfl kdc_137 (by decide) (knEnt_6 kdc_137) rfl (by decide) knInX9 (knGm 330 (by decide +kernel) rfl) rfl rfl dX9_matchedLength_12 (fun h2 => ?_)
      refine kj_iloadn X 2 dX9_matchedLength_15 rfl ?_
      refine kj_iadd X dX9_matchedLength_16 ?_
      refine kj_aloadn X 1 dX9_matchedLength_17 rfl ?_
      refine kj_iloadn X 2 dX9_matchedLength_18 rfl ?_
      obtain ⟨h3, hf⟩ := knGd_inv hf
      refine kj_schar (rest := [knV (knW ((μ 137 4) + x2)), knO G 137]) X K hx1 hx2 h3 (knGm 1351 (by decide +kernel) rfl) (Nat.le_of_ble_eq_true rfl) (by decide) dX9_matchedLength_19 ?_
      obtain ⟨q4, h5, hf⟩ := knBd_inv hf
      refine kj_callV (As := [knV (knW ((μ 137 4) + x2)), knV (knSch x1 x2)]) (rest := []) X K (kcX9_isSignAt l (knCw _) (knH_sch _ _) h5) knWvX9_isSignAt (knGm 1389 (by decide +kernel) rfl) (by decide) (knKd_in kdc_137 (by decide)) (knEnt_6 kdc_137) rfl rfl rfl (Nat.le_of_ble_eq_true rfl) (by decide) dX9_matchedLength_22 rfl (fun h6 => ?_)
      refine kj_if_eq X (tgt := 34) dX9_matchedLength_25 (by decide) (knZ_c h6) (fun h7 => ?_) (fun h7 => ?_)
      · replace hf := knIp hf h7
        refine kj_sub (L' := [(2, knV x2)]) [2] rfl ?_
        exact hk _ hx2 hf
      · replace hf := knIq hf h7
        refine kj_iinc X 2 (L' := [(2, knV (knW (x2 + 1))), (0, knO G 137), (1, knTv G x1)]) dX9_matchedLength_28 rfl (by decide) rfl ?_
        refine kj_goto X (tgt := 2) dX9_matchedLength_31 (by decide) ?_
        refine kj_sub (L' := [(0, knO G 137), (1, knTv G x1), (2, knV (knW (x2 + 1)))]) [1, 2, 0] rfl ?_
        exact ih _ (knCw _)  hf

set_option maxHeartbeats 4000000 in
set_option maxRecDepth 100000 in
theorem kcX9_matchedLength {G : knGT} (l : Launch) {a1 : Int} (ha1 : 0 ≤ a1 ∧ a1 < 19) {μ : knMem} {q : Int} (hf : kfX9_matchedLength a1 μ = some q) : knC0 G l yX9_matchedLength cX9_matchedLength 3 (some .int) 6 120 [knO G 137, knTv G a1] μ (knC q) (some (knV q)) μ := by
  unfold kfX9_matchedLength at hf
  refine kn_ofJ (plainFor_of_name (by decide)) (Nat.le_of_ble_eq_true rfl) (L := [(0, knO G 137), (1, knTv G a1)]) rfl ?_
  intro p e s m args below meth c X K hr hlk
  refine kj_iconst X dX9_matchedLength_0 ?_
  refine kj_istoren X (L' := [(2, knV 0), (0, knO G 137), (1, knTv G a1)]) dX9_matchedLength_1 (by decide) rfl ?_
  refine kj_sub (L' := [(0, knO G 137), (1, knTv G a1), (2, knV 0)]) [1, 2, 0] rfl ?_
  refine kfX9_matchedLength_l2_ok X K hr hlk a1 ha1 μ ?_ knF _ (show knC (0) from ⟨by omega, by omega⟩)  hf
  intro w8_0 hw8_0
  intro hf
  refine kj_iloadn X 0 dX9_matchedLength_34 rfl ?_
  cases hf
  exact kj_iret X hw8_0 hr dX9_matchedLength_35 hlk

def kfX9_readWord_l7   (μ : knMem) (kc : (Int) → Option (Int × knMem)) : Nat → Int → Int → Option (Int × knMem)
  | 0, _, _ => none
  | n + 1, x1, x2 =>
    if 12 ≤ x2 then
     kc x1
    else
     knGd (0 ≤ x2 ∧ x2 < 12)
      (Option.bind (kfX9_matchedLength (knWd x2) μ) (fun q4 =>
      if q4 = (knSln (knWd x2)) then
       some (x2, (knUp μ 137 4 (knW ((μ 137 4) + q4))))
      else
       Option.bind (kfJ9_max_7cf53 x1 (knW ((μ 137 4) + q4)) μ) (fun q9 =>
        kfX9_readWord_l7   μ kc n q9 (knW (x2 + 1)))))

def kfX9_readWord  (μ : knMem) : Option (Int × knMem) :=
 kfX9_readWord_l7  μ (fun w13 =>
  some (-1, (knUp μ 137 4 w13))) knF (μ 137 4) 0

theorem knWvX9_readWord : knWv yX9_readWord cX9_readWord 5 (some (.object "KnotLaboratory$Command")) 0 := ⟨(knGm 1334 (by decide +kernel) rfl), (knGm 122 (by decide +kernel) rfl), (knGm 1333 (by decide +kernel) rfl), (knGm 24 (by decide +kernel) rfl), by decide +kernel, by decide +kernel, by decide +kernel⟩
set_option maxHeartbeats 4000000 in
set_option maxRecDepth 100000 in
theorem kfX9_readWord_l7_ok {q : Int × knMem} {kc : (Int) → Option (Int × knMem)} {G : knGT} {p : Program} {l : Launch} {e : Env} {s : State} {m : MethodId} {args : Array Value} {below : List Frame} {meth : Method} {c : Code} (X : knX p m c cX9_readWord 5 s args yX9_readWord.cls) (K : knK G s s.heap) (hr : meth.sig.returnType = (some (.object "KnotLaboratory$Command"))) (hlk : meth.locks = false)   (μ : knMem) (hk : ∀ (y1 : Int) (hy1 : knC y1), kc y1 = some q → knJ G p l e { frames := 7, cells := 0, slots := 0, locals := 142 } s m args below meth c 5 0 0 (MQ below (knPo G (-1 ≤ q.1 ∧ q.1 < 12) (some (knCo G q.1)) q.2) args s 0 0 (knA G)) 75 [(0, knO G 137), (1, knV y1)] [] μ) : ∀ (n : Nat) (x1 : Int) (hx1 : knC x1) (x2 : Int) (hx2 : knC x2) , kfX9_readWord_l7   μ kc n x1 x2 = some q → knJ G p l e { frames := 7, cells := 0, slots := 0, locals := 142 } s m args below meth c 5 0 0 (MQ below (knPo G (-1 ≤ q.1 ∧ q.1 < 12) (some (knCo G q.1)) q.2) args s 0 0 (knA G)) 7 [(0, knO G 137), (1, knV x1), (2, knV x2)] [] μ := by
  intro n
  induction n with
  | zero => intro x1 hx1 x2 hx2 hf; cases hf
  | succ n ih =>
    intro x1 hx1 x2 hx2 hf
    unfold kfX9_readWord_l7 at hf
    refine kj_iloadn X 2 dX9_readWord_7 rfl ?_
    refine kj_cmds X K (knGm 1335 (by decide +kernel) rfl) dX9_readWord_8 ?_
    refine kj_cmds_len X K dX9_readWord_11 ?_
    refine kj_ic_ge X (tgt := 75) dX9_readWord_12 (by decide) hx2 (show knC (12) from ⟨by omega, by omega⟩) (fun h2 => ?_) (fun h2 => ?_)
    · replace hf := knIp hf h2
      refine kj_sub (L' := [(0, knO G 137), (1, knV x1)]) [0, 1] rfl ?_
      exact hk _ hx1 hf
    · replace hf := knIq hf h2
      refine kj_cmds X K (knGm 1335 (by decide +kernel) rfl) dX9_readWord_15 ?_
      refine kj_iloadn X 2 dX9_readWord_18 rfl ?_
      obtain ⟨h3, hf⟩ := knGd_inv hf
      refine kj_cmds_ald X K hx2 h3 dX9_readWord_19 ?_
      refine kj_cmd_word X K h3 rfl dX9_readWord_20 ?_
      refine kj_astoren X (L' := [(3, knTv G (knWd x2)), (0, knO G 137), (1, knV x1), (2, knV x2)]) dX9_readWord_23 (by decide) rfl ?_
      refine kj_aloadn X 1 dX9_readWord_24 rfl ?_
      refine kj_aloadn X 0 dX9_readWord_25 rfl ?_
      obtain ⟨q4, h5, hf⟩ := knBd_inv hf
      refine kj_callV (As := [knTv G (knWd x2)]) (rest := []) X K (kcX9_matchedLength l (knWd_in _) h5) knWvX9_matchedLength (knGm 1337 (by decide +kernel) rfl) (by decide) (knKd_in kdc_137 (by decide)) (knEnt_6 kdc_137) rfl rfl rfl (Nat.le_of_ble_eq_true rfl) (by decide) dX9_readWord_26 rfl (fun h6 => ?_)
      refine kj_istore X (L' := [(4, knV q4), (3, knTv G (knWd x2)), (0, knO G 137), (1, knV x1), (2, knV x2)]) dX9_readWord_29 (by decide) rfl ?_
      refine kj_iload X 0 dX9_readWord_31 rfl ?_
      refine kj_aloadn X 1 dX9_readWord_33 rfl ?_
      refine kj_slen (rest := [knV q4]) X K (knWd_in _) (knGm 1341 (by decide +kernel) rfl) (Nat.le_of_ble_eq_true rfl) (by decide) dX9_readWord_34 ?_
      refine kj_ic_ne X (tgt := 57) dX9_readWord_37 (by decide) h6 (knC_sln _) (fun h7 => ?_) (fun h7 => ?_)
      · replace hf := knIq hf h7
        refine kj_iloadn X 3 dX9_readWord_57 rfl ?_
        refine kj_aloadn X 2 dX9_readWord_58 rfl ?_
        refine kj_geti (k := 4) (ki := 4) X K rfl kdc_137 (by decide) (knEnt_6 kdc_137) rfl (by decide) knInX9 (knGm 330 (by decide +kernel) rfl) rfl rfl dX9_readWord_59 (fun h8 => ?_)
        refine kj_iload X 0 dX9_readWord_62 rfl ?_
        refine kj_iadd X dX9_readWord_64 ?_
        obtain ⟨q9, h10, hf⟩ := knBd_inv hf
        refine kj_callS (As := [knV x1, knV (knW ((μ 137 4) + q4))]) (rest := []) X K (kcJ9_max_7cf53 l hx1 (knCw _) h10) knWkJ9_max_7cf53 (knGm 1393 (by decide +kernel) rfl) (by decide)  rfl (Nat.le_of_ble_eq_true rfl) (by decide) dX9_readWord_65 rfl (fun h11 => ?_)
        refine kj_istoren X (L' := [(1, knV q9), (4, knV q4), (3, knTv G (knWd x2)), (0, knO G 137), (2, knV x2)]) dX9_readWord_68 (by decide) rfl ?_
        refine kj_iinc X 4 (L' := [(2, knV (knW (x2 + 1))), (1, knV q9), (4, knV q4), (3, knTv G (knWd x2)), (0, knO G 137)]) dX9_readWord_69 rfl (by decide) rfl ?_
        refine kj_goto X (tgt := 7) dX9_readWord_72 (by decide) ?_
        refine kj_sub (L' := [(0, knO G 137), (1, knV q9), (2, knV (knW (x2 + 1)))]) [4, 1, 0] rfl ?_
        exact ih _ h11 _ (knCw _)  hf
      · replace hf := knIp hf h7
        refine kj_aloadn X 2 dX9_readWord_40 rfl ?_
        refine kj_dup X dX9_readWord_41 rfl ?_
        refine kj_geti (k := 4) (ki := 4) X K rfl kdc_137 (by decide) (knEnt_6 kdc_137) rfl (by decide) knInX9 (knGm 330 (by decide +kernel) rfl) rfl rfl dX9_readWord_42 (fun h12 => ?_)
        refine kj_iload X 0 dX9_readWord_45 rfl ?_
        refine kj_iadd X dX9_readWord_47 ?_
        refine kj_putf (k := 4) (ki := 4) (x := (knW ((μ 137 4) + q4))) (ty := .int) X K rfl (knKd_in kdc_137 (by decide)) (knEnt_6 kdc_137) rfl (by decide) knInX9 tyX9_ok nmX9 (knGm 330 (by decide +kernel) rfl) rfl rfl (by decide +kernel) rfl rfl (by simp) (by rw [knEnt_6 kdc_137, knUp_row]; rfl) (fun _ => (knCw _)) (fun h => by rw [kdc_137] at h; cases h) (fun h => by rw [kdc_137] at h; cases h) dX9_readWord_48 ?_
        refine kj_cmds X K (knGm 1335 (by decide +kernel) rfl) dX9_readWord_51 ?_
        refine kj_iloadn X 4 dX9_readWord_54 rfl ?_
        refine kj_cmds_ald X K hx2 h3 dX9_readWord_55 ?_
        cases hf
        exact kj_aret X ⟨by omega, h3.2⟩ hr (Or.inl ⟨_, rfl⟩) (knCo_or _ _) dX9_readWord_56 hlk

set_option maxHeartbeats 4000000 in
set_option maxRecDepth 100000 in
theorem kcX9_readWord {G : knGT} (l : Launch)   {μ : knMem} {q : Int × knMem} (hf : kfX9_readWord  μ = some q) : knC0 G l yX9_readWord cX9_readWord 5 (some (.object "KnotLaboratory$Command")) 7 142 [knO G 137] μ (-1 ≤ q.1 ∧ q.1 < 12) (some (knCo G q.1)) q.2 := by
  unfold kfX9_readWord at hf
  refine kn_ofJ (plainFor_of_name (by decide)) (Nat.le_of_ble_eq_true rfl) (L := [(0, knO G 137)]) rfl ?_
  intro p e s m args below meth c X K hr hlk
  refine kj_aloadn X 0 dX9_readWord_0 rfl ?_
  refine kj_geti (k := 4) (ki := 4) X K rfl kdc_137 (by decide) (knEnt_6 kdc_137) rfl (by decide) knInX9 (knGm 330 (by decide +kernel) rfl) rfl rfl dX9_readWord_1 (fun h1 => ?_)
  refine kj_istoren X (L' := [(1, knV (μ 137 4)), (0, knO G 137)]) dX9_readWord_4 (by decide) rfl ?_
  refine kj_iconst X dX9_readWord_5 ?_
  refine kj_istoren X (L' := [(2, knV 0), (1, knV (μ 137 4)), (0, knO G 137)]) dX9_readWord_6 (by decide) rfl ?_
  refine kj_sub (L' := [(0, knO G 137), (1, knV (μ 137 4)), (2, knV 0)]) [2, 1, 0] rfl ?_
  refine kfX9_readWord_l7_ok X K hr hlk   μ ?_ knF _ h1 _ (show knC (0) from ⟨by omega, by omega⟩)  hf
  intro w13_0 hw13_0
  intro hf
  refine kj_aloadn X 0 dX9_readWord_75 rfl ?_
  refine kj_iloadn X 1 dX9_readWord_76 rfl ?_
  refine kj_putf (k := 4) (ki := 4) (x := w13_0) (ty := .int) X K rfl (knKd_in kdc_137 (by decide)) (knEnt_6 kdc_137) rfl (by decide) knInX9 tyX9_ok nmX9 (knGm 330 (by decide +kernel) rfl) rfl rfl (by decide +kernel) rfl rfl (by simp) (by rw [knEnt_6 kdc_137, knUp_row]; rfl) (fun _ => hw13_0) (fun h => by rw [kdc_137] at h; cases h) (fun h => by rw [kdc_137] at h; cases h) dX9_readWord_77 ?_
  refine kj_null X dX9_readWord_80 ?_
  cases hf
  exact kj_aret X (show -1 ≤ (-1 : Int) ∧ (-1 : Int) < 12 from ⟨by omega, by omega⟩) hr (Or.inl ⟨_, rfl⟩) (knCo_or _ _) dX9_readWord_81 hlk

def kfX9_isDigitAt (a1 : Int) (μ : knMem) : Option (Int) :=
 (fun (k9 : (Unit) → Option (Int)) =>
  if a1 < 0 then
   k9 ()
  else
   if (μ 137 2) ≤ a1 then
    k9 ()
   else
    knGd (0 ≤ a1 ∧ a1 < 60)
     (if (μ 138 a1) < 48 then
     k9 ()
    else
     if 57 < (μ 138 a1) then
      k9 ()
     else
      some 1))
  (fun _ =>
  some 0)

theorem knWvX9_isDigitAt : knWv yX9_isDigitAt cX9_isDigitAt 2 (some .boolean) 1 := ⟨(knGm 1405 (by decide +kernel) rfl), (knGm 122 (by decide +kernel) rfl), (knGm 1404 (by decide +kernel) rfl), (knGm 29 (by decide +kernel) rfl), by decide +kernel, by decide +kernel, by decide +kernel⟩
set_option maxHeartbeats 4000000 in
set_option maxRecDepth 100000 in
theorem kcX9_isDigitAt {G : knGT} (l : Launch) {a1 : Int} (ha1 : knC a1) {μ : knMem} {q : Int} (hf : kfX9_isDigitAt a1 μ = some q) : knC0 G l yX9_isDigitAt cX9_isDigitAt 2 (some .boolean) 0 0 [knO G 137, knV a1] μ (knZ q) (some (knV q)) μ := by
  unfold kfX9_isDigitAt at hf
  refine kn_ofJ (plainFor_of_name (by decide)) (Nat.le_of_ble_eq_true rfl) (L := [(0, knO G 137), (1, knV a1)]) rfl ?_
  intro p e s m args below meth c X K hr hlk
  refine kj_iloadn X 1 dX9_isDigitAt_0 rfl ?_
  have j9 : (fun _ =>
   some 0) () = some q → knJ G p l e { frames := 0, cells := 0, slots := 0, locals := 0 } s m args below meth c 2 0 0 (MQ below (knPo G (knZ q) (some (knV q)) μ) args s 0 0 (knA G)) 38 [] [] μ := by
    intro hf
    refine kj_iconst X dX9_isDigitAt_38 ?_
    cases hf
    exact kj_zret X (Or.inl rfl) hr (kn_nb (Or.inl rfl)) dX9_isDigitAt_39 hlk
  refine kj_if_lt X (tgt := 38) dX9_isDigitAt_1 (by decide) ha1 (fun h11 => ?_) (fun h11 => ?_)
  · replace hf := knIp hf h11
    refine kj_sub (L' := []) [] rfl ?_
    exact j9  hf
  · replace hf := knIq hf h11
    refine kj_iloadn X 1 dX9_isDigitAt_4 rfl ?_
    refine kj_aloadn X 0 dX9_isDigitAt_5 rfl ?_
    refine kj_geti (k := 2) (ki := 2) X K rfl kdc_137 (by decide) (knEnt_6 kdc_137) rfl (by decide) knInX9 (knGm 326 (by decide +kernel) rfl) rfl rfl dX9_isDigitAt_6 (fun h12 => ?_)
    refine kj_ic_ge X (tgt := 38) dX9_isDigitAt_9 (by decide) ha1 h12 (fun h13 => ?_) (fun h13 => ?_)
    · replace hf := knIp hf h13
      refine kj_sub (L' := []) [] rfl ?_
      exact j9  hf
    · replace hf := knIq hf h13
      refine kj_aloadn X 0 dX9_isDigitAt_12 rfl ?_
      refine kj_geto (k := 0) (o2 := 138) X K kdc_137 (by decide) (knEnt_6 kdc_137) rfl (by decide) knInX9 (knGm 323 (by decide +kernel) rfl) rfl rfl dX9_isDigitAt_13 ?_
      refine kj_iloadn X 1 dX9_isDigitAt_16 rfl ?_
      obtain ⟨h14, hf⟩ := knGd_inv hf
      refine kj_cald X K kdc_138 ha1 lnc_138 h14 dX9_isDigitAt_17 (fun h15 => ?_)
      refine kj_bipush X (n := 48) dX9_isDigitAt_18 rfl ?_
      refine kj_ic_lt X (tgt := 38) dX9_isDigitAt_20 (by decide) (knH_c h15) (show knC (48) from ⟨by omega, by omega⟩) (fun h16 => ?_) (fun h16 => ?_)
      · replace hf := knIp hf h16
        refine kj_sub (L' := []) [] rfl ?_
        exact j9  hf
      · replace hf := knIq hf h16
        refine kj_aloadn X 0 dX9_isDigitAt_23 rfl ?_
        refine kj_geto (k := 0) (o2 := 138) X K kdc_137 (by decide) (knEnt_6 kdc_137) rfl (by decide) knInX9 (knGm 323 (by decide +kernel) rfl) rfl rfl dX9_isDigitAt_24 ?_
        refine kj_iloadn X 1 dX9_isDigitAt_27 rfl ?_
        refine kj_cald X K kdc_138 ha1 lnc_138 h14 dX9_isDigitAt_28 (fun h17 => ?_)
        refine kj_bipush X (n := 57) dX9_isDigitAt_29 rfl ?_
        refine kj_ic_gt X (tgt := 38) dX9_isDigitAt_31 (by decide) (knH_c h17) (show knC (57) from ⟨by omega, by omega⟩) (fun h18 => ?_) (fun h18 => ?_)
        · replace hf := knIp hf h18
          refine kj_sub (L' := []) [] rfl ?_
          exact j9  hf
        · replace hf := knIq hf h18
          refine kj_iconst X dX9_isDigitAt_34 ?_
          refine kj_goto X (tgt := 39) dX9_isDigitAt_35 (by decide) ?_
          cases hf
          exact kj_zret X (Or.inr rfl) hr (kn_nb (Or.inr rfl)) dX9_isDigitAt_39 hlk

def kfX9_digitAt (a1 : Int) (μ : knMem) : Option (Int) :=
 Option.bind (kfX9_isDigitAt a1 μ) (fun q1 =>
  Option.bind (α := Int)
   (if q1 = 0 then
    some 0
   else
    knGd (0 ≤ a1 ∧ a1 < 60)
     (some (knW ((μ 138 a1) - 48))))
   (fun q7 =>
   some q7))

theorem knWvX9_digitAt : knWv yX9_digitAt cX9_digitAt 2 (some .int) 1 := ⟨(knGm 1409 (by decide +kernel) rfl), (knGm 122 (by decide +kernel) rfl), (knGm 1408 (by decide +kernel) rfl), (knGm 30 (by decide +kernel) rfl), by decide +kernel, by decide +kernel, by decide +kernel⟩
set_option maxHeartbeats 4000000 in
set_option maxRecDepth 100000 in
theorem kcX9_digitAt {G : knGT} (l : Launch) {a1 : Int} (ha1 : knC a1) {μ : knMem} {q : Int} (hf : kfX9_digitAt a1 μ = some q) : knC0 G l yX9_digitAt cX9_digitAt 2 (some .int) 1 21 [knO G 137, knV a1] μ (knC q) (some (knV q)) μ := by
  unfold kfX9_digitAt at hf
  refine kn_ofJ (plainFor_of_name (by decide)) (Nat.le_of_ble_eq_true rfl) (L := [(0, knO G 137), (1, knV a1)]) rfl ?_
  intro p e s m args below meth c X K hr hlk
  refine kj_aloadn X 0 dX9_digitAt_0 rfl ?_
  refine kj_iloadn X 1 dX9_digitAt_1 rfl ?_
  obtain ⟨q1, h2, hf⟩ := knBd_inv hf
  refine kj_callV (As := [knV a1]) (rest := []) X K (kcX9_isDigitAt l ha1 h2) knWvX9_isDigitAt (knGm 1402 (by decide +kernel) rfl) (by decide) (knKd_in kdc_137 (by decide)) (knEnt_6 kdc_137) rfl rfl rfl (Nat.le_of_ble_eq_true rfl) (by decide) dX9_digitAt_2 rfl (fun h3 => ?_)
  have j7 : ∀ (t7_0 : Int) (ht7_0 : knC t7_0), (fun q7 =>
   some q7) t7_0 = some q → knJ G p l e { frames := 1, cells := 0, slots := 0, locals := 21 } s m args below meth c 2 0 0 (MQ below (knPo G (knC q) (some (knV q)) μ) args s 0 0 (knA G)) 21 [] [knV t7_0] μ := by
    intro t7_0 ht7_0
    intro hf
    cases hf
    exact kj_iret X ht7_0 hr dX9_digitAt_21 hlk
  obtain ⟨b8, hb8, hf⟩ := knBd_inv hf
  refine kj_if_eq X (tgt := 20) dX9_digitAt_5 (by decide) (knZ_c h3) (fun h9 => ?_) (fun h9 => ?_)
  · replace hb8 := knIp hb8 h9
    refine kj_iconst X dX9_digitAt_20 ?_
    cases hb8
    refine kj_sub (L' := []) [] rfl ?_
    exact j7 _ (show knC (0) from ⟨by omega, by omega⟩) hf
  · replace hb8 := knIq hb8 h9
    refine kj_aloadn X 0 dX9_digitAt_8 rfl ?_
    refine kj_geto (k := 0) (o2 := 138) X K kdc_137 (by decide) (knEnt_6 kdc_137) rfl (by decide) knInX9 (knGm 323 (by decide +kernel) rfl) rfl rfl dX9_digitAt_9 ?_
    refine kj_iloadn X 1 dX9_digitAt_12 rfl ?_
    obtain ⟨h10, hb8⟩ := knGd_inv hb8
    refine kj_cald X K kdc_138 ha1 lnc_138 h10 dX9_digitAt_13 (fun h11 => ?_)
    refine kj_bipush X (n := 48) dX9_digitAt_14 rfl ?_
    refine kj_isub X dX9_digitAt_16 ?_
    refine kj_goto X (tgt := 21) dX9_digitAt_17 (by decide) ?_
    cases hb8
    refine kj_sub (L' := []) [] rfl ?_
    exact j7 _ (knCw _) hf

def kfX9_give (a1 : Int) (μ : knMem) : Option (knMem) :=
 Option.bind (α := knMem)
  (if 4 ≤ (μ 137 5) then
   some μ
  else
   knGd (0 ≤ (μ 137 5) ∧ (μ 137 5) < 4)
    (some (knUp (knUp μ 139 (μ 137 5) a1) 137 5 (knW (((knUp μ 139 (μ 137 5) a1) 137 5) + 1)))))
  (fun q6 =>
  some q6)

theorem knWvX9_give : knWv yX9_give cX9_give 2 none 1 := ⟨(knGm 1413 (by decide +kernel) rfl), (knGm 122 (by decide +kernel) rfl), (knGm 1412 (by decide +kernel) rfl), (knGm 31 (by decide +kernel) rfl), by decide +kernel, by decide +kernel, by decide +kernel⟩
set_option maxHeartbeats 4000000 in
set_option maxRecDepth 100000 in
theorem kcX9_give {G : knGT} (l : Launch) {a1 : Int} (ha1 : knC a1) {μ : knMem} {q : knMem} (hf : kfX9_give a1 μ = some q) : knC0 G l yX9_give cX9_give 2 none 0 0 [knO G 137, knV a1] μ True none q := by
  unfold kfX9_give at hf
  refine kn_ofJ (plainFor_of_name (by decide)) (Nat.le_of_ble_eq_true rfl) (L := [(0, knO G 137), (1, knV a1)]) rfl ?_
  intro p e s m args below meth c X K hr hlk
  refine kj_aloadn X 0 dX9_give_0 rfl ?_
  refine kj_geti (k := 5) (ki := 5) X K rfl kdc_137 (by decide) (knEnt_6 kdc_137) rfl (by decide) knInX9 (knGm 331 (by decide +kernel) rfl) rfl rfl dX9_give_1 (fun h1 => ?_)
  refine kj_aloadn X 0 dX9_give_4 rfl ?_
  refine kj_geto (k := 1) (o2 := 139) X K kdc_137 (by decide) (knEnt_6 kdc_137) rfl (by decide) knInX9 (knGm 324 (by decide +kernel) rfl) rfl rfl dX9_give_5 ?_
  refine kj_alen20 X K kdc_139 dX9_give_8 ?_
  rw [lnc_139]
  have j6 : ∀ (m6 : knMem), (fun q6 =>
   some q6) m6 = some q → knJ G p l e { frames := 0, cells := 0, slots := 0, locals := 0 } s m args below meth c 2 0 0 (MQ below (knPo G True none q) args s 0 0 (knA G)) 32 [] [] m6 := by
    intro m6
    intro hf
    cases hf
    exact kj_vret X trivial hr dX9_give_32 hlk
  obtain ⟨b7, hb7, hf⟩ := knBd_inv hf
  refine kj_ic_ge X (tgt := 32) dX9_give_9 (by decide) h1 (show knC (4) from ⟨by omega, by omega⟩) (fun h8 => ?_) (fun h8 => ?_)
  · replace hb7 := knIp hb7 h8
    cases hb7
    refine kj_sub (L' := []) [] rfl ?_
    exact j6 _ hf
  · replace hb7 := knIq hb7 h8
    refine kj_aloadn X 0 dX9_give_12 rfl ?_
    refine kj_geto (k := 1) (o2 := 139) X K kdc_137 (by decide) (knEnt_6 kdc_137) rfl (by decide) knInX9 (knGm 324 (by decide +kernel) rfl) rfl rfl dX9_give_13 ?_
    refine kj_aloadn X 0 dX9_give_16 rfl ?_
    refine kj_geti (k := 5) (ki := 5) X K rfl kdc_137 (by decide) (knEnt_6 kdc_137) rfl (by decide) knInX9 (knGm 331 (by decide +kernel) rfl) rfl rfl dX9_give_17 (fun h9 => ?_)
    refine kj_iloadn X 1 dX9_give_20 rfl ?_
    obtain ⟨h10, hb7⟩ := knGd_inv hb7
    refine kj_iast X K kdc_139 h9 ha1 lnc_139 h10 dX9_give_21 ?_
    refine kj_aloadn X 0 dX9_give_22 rfl ?_
    refine kj_dup X dX9_give_23 rfl ?_
    refine kj_geti (k := 5) (ki := 5) X K rfl kdc_137 (by decide) (knEnt_6 kdc_137) rfl (by decide) knInX9 (knGm 331 (by decide +kernel) rfl) rfl rfl dX9_give_24 (fun h11 => ?_)
    refine kj_iconst X dX9_give_27 ?_
    refine kj_iadd X dX9_give_28 ?_
    refine kj_putf (k := 5) (ki := 5) (x := (knW (((knUp μ 139 (μ 137 5) a1) 137 5) + 1))) (ty := .int) X K rfl (knKd_in kdc_137 (by decide)) (knEnt_6 kdc_137) rfl (by decide) knInX9 tyX9_ok nmX9 (knGm 331 (by decide +kernel) rfl) rfl rfl (by decide +kernel) rfl rfl (by simp) (by rw [knEnt_6 kdc_137, knUp_row]; rfl) (fun _ => (knCw _)) (fun h => by rw [kdc_137] at h; cases h) (fun h => by rw [kdc_137] at h; cases h) dX9_give_29 ?_
    cases hb7
    refine kj_sub (L' := []) [] rfl ?_
    exact j6 _ hf

def kfX9_readNumber  (μ : knMem) : Option (Int × knMem) :=
 Option.bind (kfX9_isDigitAt (μ 137 4) μ) (fun q2 =>
  if q2 = 0 then
   some (0, μ)
  else
   Option.bind (kfX9_digitAt (μ 137 4) μ) (fun q7 =>
    Option.bind (kfX9_isDigitAt ((knUp μ 137 4 (knW ((μ 137 4) + 1))) 137 4) (knUp μ 137 4 (knW ((μ 137 4) + 1)))) (fun q12 =>
     Option.bind (α := Int × knMem)
      (if q12 = 0 then
       some (q7, (knUp μ 137 4 (knW ((μ 137 4) + 1))))
      else
       Option.bind (kfX9_digitAt ((knUp μ 137 4 (knW ((μ 137 4) + 1))) 137 4) (knUp μ 137 4 (knW ((μ 137 4) + 1)))) (fun q31 =>
        some ((knW ((knW (10 * q7)) + q31)), (knUp (knUp μ 137 4 (knW ((μ 137 4) + 1))) 137 4 (knW (((knUp μ 137 4 (knW ((μ 137 4) + 1))) 137 4) + 1))))))
      (fun q21 =>
      Option.bind (kfX9_give q21.1 q21.2) (fun q22 =>
       some (1, q22))))))

theorem knWvX9_readNumber : knWv yX9_readNumber cX9_readNumber 2 (some .boolean) 0 := ⟨(knGm 1401 (by decide +kernel) rfl), (knGm 122 (by decide +kernel) rfl), (knGm 1400 (by decide +kernel) rfl), (knGm 28 (by decide +kernel) rfl), by decide +kernel, by decide +kernel, by decide +kernel⟩
set_option maxHeartbeats 4000000 in
set_option maxRecDepth 100000 in
theorem kcX9_readNumber {G : knGT} (l : Launch)   {μ : knMem} {q : Int × knMem} (hf : kfX9_readNumber  μ = some q) : knC0 G l yX9_readNumber cX9_readNumber 2 (some .boolean) 2 42 [knO G 137] μ (knZ q.1) (some (knV q.1)) q.2 := by
  unfold kfX9_readNumber at hf
  refine kn_ofJ (plainFor_of_name (by decide)) (Nat.le_of_ble_eq_true rfl) (L := [(0, knO G 137)]) rfl ?_
  intro p e s m args below meth c X K hr hlk
  refine kj_aloadn X 0 dX9_readNumber_0 rfl ?_
  refine kj_aloadn X 0 dX9_readNumber_1 rfl ?_
  refine kj_geti (k := 4) (ki := 4) X K rfl kdc_137 (by decide) (knEnt_6 kdc_137) rfl (by decide) knInX9 (knGm 330 (by decide +kernel) rfl) rfl rfl dX9_readNumber_2 (fun h1 => ?_)
  obtain ⟨q2, h3, hf⟩ := knBd_inv hf
  refine kj_callV (As := [knV (μ 137 4)]) (rest := []) X K (kcX9_isDigitAt l h1 h3) knWvX9_isDigitAt (knGm 1402 (by decide +kernel) rfl) (by decide) (knKd_in kdc_137 (by decide)) (knEnt_6 kdc_137) rfl rfl rfl (Nat.le_of_ble_eq_true rfl) (by decide) dX9_readNumber_5 rfl (fun h4 => ?_)
  refine kj_if_ne X (tgt := 13) dX9_readNumber_8 (by decide) (knZ_c h4) (fun h5 => ?_) (fun h5 => ?_)
  · replace hf := knIq hf h5
    refine kj_aloadn X 0 dX9_readNumber_13 rfl ?_
    refine kj_aloadn X 0 dX9_readNumber_14 rfl ?_
    refine kj_geti (k := 4) (ki := 4) X K rfl kdc_137 (by decide) (knEnt_6 kdc_137) rfl (by decide) knInX9 (knGm 330 (by decide +kernel) rfl) rfl rfl dX9_readNumber_15 (fun h6 => ?_)
    obtain ⟨q7, h8, hf⟩ := knBd_inv hf
    refine kj_callV (As := [knV (μ 137 4)]) (rest := []) X K (kcX9_digitAt l h6 h8) knWvX9_digitAt (knGm 1406 (by decide +kernel) rfl) (by decide) (knKd_in kdc_137 (by decide)) (knEnt_6 kdc_137) rfl rfl rfl (Nat.le_of_ble_eq_true rfl) (by decide) dX9_readNumber_18 rfl (fun h9 => ?_)
    refine kj_istoren X (L' := [(1, knV q7), (0, knO G 137)]) dX9_readNumber_21 (by decide) rfl ?_
    refine kj_aloadn X 1 dX9_readNumber_22 rfl ?_
    refine kj_dup X dX9_readNumber_23 rfl ?_
    refine kj_geti (k := 4) (ki := 4) X K rfl kdc_137 (by decide) (knEnt_6 kdc_137) rfl (by decide) knInX9 (knGm 330 (by decide +kernel) rfl) rfl rfl dX9_readNumber_24 (fun h10 => ?_)
    refine kj_iconst X dX9_readNumber_27 ?_
    refine kj_iadd X dX9_readNumber_28 ?_
    refine kj_putf (k := 4) (ki := 4) (x := (knW ((μ 137 4) + 1))) (ty := .int) X K rfl (knKd_in kdc_137 (by decide)) (knEnt_6 kdc_137) rfl (by decide) knInX9 tyX9_ok nmX9 (knGm 330 (by decide +kernel) rfl) rfl rfl (by decide +kernel) rfl rfl (by simp) (by rw [knEnt_6 kdc_137, knUp_row]; rfl) (fun _ => (knCw _)) (fun h => by rw [kdc_137] at h; cases h) (fun h => by rw [kdc_137] at h; cases h) dX9_readNumber_29 ?_
    refine kj_aloadn X 1 dX9_readNumber_32 rfl ?_
    refine kj_aloadn X 1 dX9_readNumber_33 rfl ?_
    refine kj_geti (k := 4) (ki := 4) X K rfl kdc_137 (by decide) (knEnt_6 kdc_137) rfl (by decide) knInX9 (knGm 330 (by decide +kernel) rfl) rfl rfl dX9_readNumber_34 (fun h11 => ?_)
    obtain ⟨q12, h13, hf⟩ := knBd_inv hf
    refine kj_callV (As := [knV ((knUp μ 137 4 (knW ((μ 137 4) + 1))) 137 4)]) (rest := []) X K (kcX9_isDigitAt l h11 h13) knWvX9_isDigitAt (knGm 1402 (by decide +kernel) rfl) (by decide) (knKd_in kdc_137 (by decide)) (knEnt_6 kdc_137) rfl rfl rfl (Nat.le_of_ble_eq_true rfl) (by decide) dX9_readNumber_37 rfl (fun h14 => ?_)
    have j21 : ∀ (t21_0 : Int) (ht21_0 : knC t21_0) (m21 : knMem), (fun q21 =>
     Option.bind (kfX9_give q21.1 q21.2) (fun q22 =>
      some (1, q22))) (t21_0, m21) = some q → knJ G p l e { frames := 2, cells := 0, slots := 0, locals := 42 } s m args below meth c 2 0 0 (MQ below (knPo G (knZ q.1) (some (knV q.1)) q.2) args s 0 0 (knA G)) 67 [(0, knO G 137), (1, knV t21_0)] [] m21 := by
      intro t21_0 ht21_0 m21
      intro hf
      refine kj_aloadn X 0 dX9_readNumber_67 rfl ?_
      refine kj_iloadn X 1 dX9_readNumber_68 rfl ?_
      obtain ⟨q25, h26, hf⟩ := knBd_inv hf
      refine kj_callV (As := [knV t21_0]) (rest := []) X K (kcX9_give l ht21_0 h26) knWvX9_give (knGm 1410 (by decide +kernel) rfl) (by decide) (knKd_in kdc_137 (by decide)) (knEnt_6 kdc_137) rfl rfl rfl (Nat.le_of_ble_eq_true rfl) (by decide) dX9_readNumber_69 rfl (fun h27 => ?_)
      refine kj_iconst X dX9_readNumber_72 ?_
      cases hf
      exact kj_zret X (Or.inr rfl) hr (kn_nb (Or.inr rfl)) dX9_readNumber_73 hlk
    obtain ⟨b28, hb28, hf⟩ := knBd_inv hf
    refine kj_if_eq X (tgt := 67) dX9_readNumber_40 (by decide) (knZ_c h14) (fun h29 => ?_) (fun h29 => ?_)
    · replace hb28 := knIp hb28 h29
      cases hb28
      refine kj_sub (L' := [(0, knO G 137), (1, knV q7)]) [1, 0] rfl ?_
      exact j21 _ h9 _ hf
    · replace hb28 := knIq hb28 h29
      refine kj_bipush X (n := 10) dX9_readNumber_43 rfl ?_
      refine kj_iloadn X 0 dX9_readNumber_45 rfl ?_
      refine kj_imul X dX9_readNumber_46 ?_
      refine kj_aloadn X 1 dX9_readNumber_47 rfl ?_
      refine kj_aloadn X 1 dX9_readNumber_48 rfl ?_
      refine kj_geti (k := 4) (ki := 4) X K rfl kdc_137 (by decide) (knEnt_6 kdc_137) rfl (by decide) knInX9 (knGm 330 (by decide +kernel) rfl) rfl rfl dX9_readNumber_49 (fun h30 => ?_)
      obtain ⟨q31, h32, hb28⟩ := knBd_inv hb28
      refine kj_callV (As := [knV ((knUp μ 137 4 (knW ((μ 137 4) + 1))) 137 4)]) (rest := [knV (knW (10 * q7))]) X K (kcX9_digitAt l h30 h32) knWvX9_digitAt (knGm 1406 (by decide +kernel) rfl) (by decide) (knKd_in kdc_137 (by decide)) (knEnt_6 kdc_137) rfl rfl rfl (Nat.le_of_ble_eq_true rfl) (by decide) dX9_readNumber_52 rfl (fun h33 => ?_)
      refine kj_iadd X dX9_readNumber_55 ?_
      refine kj_istoren X (L' := [(1, knV (knW ((knW (10 * q7)) + q31))), (0, knO G 137)]) dX9_readNumber_56 (by decide) rfl ?_
      refine kj_aloadn X 1 dX9_readNumber_57 rfl ?_
      refine kj_dup X dX9_readNumber_58 rfl ?_
      refine kj_geti (k := 4) (ki := 4) X K rfl kdc_137 (by decide) (knEnt_6 kdc_137) rfl (by decide) knInX9 (knGm 330 (by decide +kernel) rfl) rfl rfl dX9_readNumber_59 (fun h34 => ?_)
      refine kj_iconst X dX9_readNumber_62 ?_
      refine kj_iadd X dX9_readNumber_63 ?_
      refine kj_putf (k := 4) (ki := 4) (x := (knW (((knUp μ 137 4 (knW ((μ 137 4) + 1))) 137 4) + 1))) (ty := .int) X K rfl (knKd_in kdc_137 (by decide)) (knEnt_6 kdc_137) rfl (by decide) knInX9 tyX9_ok nmX9 (knGm 330 (by decide +kernel) rfl) rfl rfl (by decide +kernel) rfl rfl (by simp) (by rw [knEnt_6 kdc_137, knUp_row]; rfl) (fun _ => (knCw _)) (fun h => by rw [kdc_137] at h; cases h) (fun h => by rw [kdc_137] at h; cases h) dX9_readNumber_64 ?_
      cases hb28
      refine kj_sub (L' := [(0, knO G 137), (1, knV (knW ((knW (10 * q7)) + q31)))]) [1, 0] rfl ?_
      exact j21 _ (knCw _) _ hf
  · replace hf := knIp hf h5
    refine kj_iconst X dX9_readNumber_11 ?_
    cases hf
    exact kj_zret X (Or.inl rfl) hr (kn_nb (Or.inl rfl)) dX9_readNumber_12 hlk

def kfX9_readDigit  (μ : knMem) : Option (Int × knMem) :=
 Option.bind (kfX9_isDigitAt (μ 137 4) μ) (fun q2 =>
  if q2 = 0 then
   some (0, μ)
  else
   Option.bind (kfX9_digitAt (μ 137 4) μ) (fun q7 =>
    Option.bind (kfX9_give q7 μ) (fun q10 =>
     some (1, (knUp q10 137 4 (knW ((q10 137 4) + 1)))))))

theorem knWvX9_readDigit : knWv yX9_readDigit cX9_readDigit 1 (some .boolean) 0 := ⟨(knGm 1417 (by decide +kernel) rfl), (knGm 122 (by decide +kernel) rfl), (knGm 1416 (by decide +kernel) rfl), (knGm 32 (by decide +kernel) rfl), by decide +kernel, by decide +kernel, by decide +kernel⟩
set_option maxHeartbeats 4000000 in
set_option maxRecDepth 100000 in
theorem kcX9_readDigit {G : knGT} (l : Launch)   {μ : knMem} {q : Int × knMem} (hf : kfX9_readDigit  μ = some q) : knC0 G l yX9_readDigit cX9_readDigit 1 (some .boolean) 2 42 [knO G 137] μ (knZ q.1) (some (knV q.1)) q.2 := by
  unfold kfX9_readDigit at hf
  refine kn_ofJ (plainFor_of_name (by decide)) (Nat.le_of_ble_eq_true rfl) (L := [(0, knO G 137)]) rfl ?_
  intro p e s m args below meth c X K hr hlk
  refine kj_aloadn X 0 dX9_readDigit_0 rfl ?_
  refine kj_aloadn X 0 dX9_readDigit_1 rfl ?_
  refine kj_geti (k := 4) (ki := 4) X K rfl kdc_137 (by decide) (knEnt_6 kdc_137) rfl (by decide) knInX9 (knGm 330 (by decide +kernel) rfl) rfl rfl dX9_readDigit_2 (fun h1 => ?_)
  obtain ⟨q2, h3, hf⟩ := knBd_inv hf
  refine kj_callV (As := [knV (μ 137 4)]) (rest := []) X K (kcX9_isDigitAt l h1 h3) knWvX9_isDigitAt (knGm 1402 (by decide +kernel) rfl) (by decide) (knKd_in kdc_137 (by decide)) (knEnt_6 kdc_137) rfl rfl rfl (Nat.le_of_ble_eq_true rfl) (by decide) dX9_readDigit_5 rfl (fun h4 => ?_)
  refine kj_if_ne X (tgt := 13) dX9_readDigit_8 (by decide) (knZ_c h4) (fun h5 => ?_) (fun h5 => ?_)
  · replace hf := knIq hf h5
    refine kj_aloadn X 0 dX9_readDigit_13 rfl ?_
    refine kj_aloadn X 0 dX9_readDigit_14 rfl ?_
    refine kj_aloadn X 0 dX9_readDigit_15 rfl ?_
    refine kj_geti (k := 4) (ki := 4) X K rfl kdc_137 (by decide) (knEnt_6 kdc_137) rfl (by decide) knInX9 (knGm 330 (by decide +kernel) rfl) rfl rfl dX9_readDigit_16 (fun h6 => ?_)
    obtain ⟨q7, h8, hf⟩ := knBd_inv hf
    refine kj_callV (As := [knV (μ 137 4)]) (rest := [knO G 137]) X K (kcX9_digitAt l h6 h8) knWvX9_digitAt (knGm 1406 (by decide +kernel) rfl) (by decide) (knKd_in kdc_137 (by decide)) (knEnt_6 kdc_137) rfl rfl rfl (Nat.le_of_ble_eq_true rfl) (by decide) dX9_readDigit_19 rfl (fun h9 => ?_)
    obtain ⟨q10, h11, hf⟩ := knBd_inv hf
    refine kj_callV (As := [knV q7]) (rest := []) X K (kcX9_give l h9 h11) knWvX9_give (knGm 1410 (by decide +kernel) rfl) (by decide) (knKd_in kdc_137 (by decide)) (knEnt_6 kdc_137) rfl rfl rfl (Nat.le_of_ble_eq_true rfl) (by decide) dX9_readDigit_22 rfl (fun h12 => ?_)
    refine kj_aloadn X 0 dX9_readDigit_25 rfl ?_
    refine kj_dup X dX9_readDigit_26 rfl ?_
    refine kj_geti (k := 4) (ki := 4) X K rfl kdc_137 (by decide) (knEnt_6 kdc_137) rfl (by decide) knInX9 (knGm 330 (by decide +kernel) rfl) rfl rfl dX9_readDigit_27 (fun h13 => ?_)
    refine kj_iconst X dX9_readDigit_30 ?_
    refine kj_iadd X dX9_readDigit_31 ?_
    refine kj_putf (k := 4) (ki := 4) (x := (knW ((q10 137 4) + 1))) (ty := .int) X K rfl (knKd_in kdc_137 (by decide)) (knEnt_6 kdc_137) rfl (by decide) knInX9 tyX9_ok nmX9 (knGm 330 (by decide +kernel) rfl) rfl rfl (by decide +kernel) rfl rfl (by simp) (by rw [knEnt_6 kdc_137, knUp_row]; rfl) (fun _ => (knCw _)) (fun h => by rw [kdc_137] at h; cases h) (fun h => by rw [kdc_137] at h; cases h) dX9_readDigit_32 ?_
    refine kj_iconst X dX9_readDigit_35 ?_
    cases hf
    exact kj_zret X (Or.inr rfl) hr (kn_nb (Or.inr rfl)) dX9_readDigit_36 hlk
  · replace hf := knIp hf h5
    refine kj_iconst X dX9_readDigit_11 ?_
    cases hf
    exact kj_zret X (Or.inl rfl) hr (kn_nb (Or.inl rfl)) dX9_readDigit_12 hlk

def kfX9_readSign (a1 : Int) (μ : knMem) : Option (Int × knMem) :=
 Option.bind (kfX9_isSignAt (μ 137 4) a1 μ) (fun q2 =>
  if q2 = 0 then
   some (0, μ)
  else
   some (1, (knUp μ 137 4 (knW ((μ 137 4) + 1)))))

theorem knWvX9_readSign : knWv yX9_readSign cX9_readSign 2 (some .boolean) 1 := ⟨(knGm 1425 (by decide +kernel) rfl), (knGm 122 (by decide +kernel) rfl), (knGm 1424 (by decide +kernel) rfl), (knGm 34 (by decide +kernel) rfl), by decide +kernel, by decide +kernel, by decide +kernel⟩
set_option maxHeartbeats 4000000 in
set_option maxRecDepth 100000 in
theorem kcX9_readSign {G : knGT} (l : Launch) {a1 : Int} (ha1 : knH a1) {μ : knMem} {q : Int × knMem} (hf : kfX9_readSign a1 μ = some q) : knC0 G l yX9_readSign cX9_readSign 2 (some .boolean) 1 22 [knO G 137, knV a1] μ (knZ q.1) (some (knV q.1)) q.2 := by
  unfold kfX9_readSign at hf
  refine kn_ofJ (plainFor_of_name (by decide)) (Nat.le_of_ble_eq_true rfl) (L := [(0, knO G 137), (1, knV a1)]) rfl ?_
  intro p e s m args below meth c X K hr hlk
  refine kj_aloadn X 0 dX9_readSign_0 rfl ?_
  refine kj_aloadn X 0 dX9_readSign_1 rfl ?_
  refine kj_geti (k := 4) (ki := 4) X K rfl kdc_137 (by decide) (knEnt_6 kdc_137) rfl (by decide) knInX9 (knGm 330 (by decide +kernel) rfl) rfl rfl dX9_readSign_2 (fun h1 => ?_)
  refine kj_iloadn X 1 dX9_readSign_5 rfl ?_
  obtain ⟨q2, h3, hf⟩ := knBd_inv hf
  refine kj_callV (As := [knV (μ 137 4), knV a1]) (rest := []) X K (kcX9_isSignAt l h1 ha1 h3) knWvX9_isSignAt (knGm 1389 (by decide +kernel) rfl) (by decide) (knKd_in kdc_137 (by decide)) (knEnt_6 kdc_137) rfl rfl rfl (Nat.le_of_ble_eq_true rfl) (by decide) dX9_readSign_6 rfl (fun h4 => ?_)
  refine kj_if_ne X (tgt := 14) dX9_readSign_9 (by decide) (knZ_c h4) (fun h5 => ?_) (fun h5 => ?_)
  · replace hf := knIq hf h5
    refine kj_aloadn X 0 dX9_readSign_14 rfl ?_
    refine kj_dup X dX9_readSign_15 rfl ?_
    refine kj_geti (k := 4) (ki := 4) X K rfl kdc_137 (by decide) (knEnt_6 kdc_137) rfl (by decide) knInX9 (knGm 330 (by decide +kernel) rfl) rfl rfl dX9_readSign_16 (fun h6 => ?_)
    refine kj_iconst X dX9_readSign_19 ?_
    refine kj_iadd X dX9_readSign_20 ?_
    refine kj_putf (k := 4) (ki := 4) (x := (knW ((μ 137 4) + 1))) (ty := .int) X K rfl (knKd_in kdc_137 (by decide)) (knEnt_6 kdc_137) rfl (by decide) knInX9 tyX9_ok nmX9 (knGm 330 (by decide +kernel) rfl) rfl rfl (by decide +kernel) rfl rfl (by simp) (by rw [knEnt_6 kdc_137, knUp_row]; rfl) (fun _ => (knCw _)) (fun h => by rw [kdc_137] at h; cases h) (fun h => by rw [kdc_137] at h; cases h) dX9_readSign_21 ?_
    refine kj_iconst X dX9_readSign_24 ?_
    cases hf
    exact kj_zret X (Or.inr rfl) hr (kn_nb (Or.inr rfl)) dX9_readSign_25 hlk
  · replace hf := knIp hf h5
    refine kj_iconst X dX9_readSign_12 ?_
    cases hf
    exact kj_zret X (Or.inl rfl) hr (kn_nb (Or.inl rfl)) dX9_readSign_13 hlk

def kfX9_readChoice (a1 : Int) (a2 : Int) (μ : knMem) : Option (Int × knMem) :=
 Option.bind (kfX9_readSign a1 μ) (fun q1 =>
  if q1.1 = 0 then
   Option.bind (kfX9_readSign a2 q1.2) (fun q5 =>
    if q5.1 = 0 then
     some (0, q5.2)
    else
     Option.bind (kfX9_give 0 q5.2) (fun q9 =>
      some (1, q9)))
  else
   Option.bind (kfX9_give 1 q1.2) (fun q12 =>
    some (1, q12)))

theorem knWvX9_readChoice : knWv yX9_readChoice cX9_readChoice 3 (some .boolean) 2 := ⟨(knGm 1421 (by decide +kernel) rfl), (knGm 122 (by decide +kernel) rfl), (knGm 1420 (by decide +kernel) rfl), (knGm 33 (by decide +kernel) rfl), by decide +kernel, by decide +kernel, by decide +kernel⟩
set_option maxHeartbeats 4000000 in
set_option maxRecDepth 100000 in
theorem kcX9_readChoice {G : knGT} (l : Launch) {a1 : Int} {a2 : Int} (ha1 : knH a1) (ha2 : knH a2) {μ : knMem} {q : Int × knMem} (hf : kfX9_readChoice a1 a2 μ = some q) : knC0 G l yX9_readChoice cX9_readChoice 3 (some .boolean) 2 43 [knO G 137, knV a1, knV a2] μ (knZ q.1) (some (knV q.1)) q.2 := by
  unfold kfX9_readChoice at hf
  refine kn_ofJ (plainFor_of_name (by decide)) (Nat.le_of_ble_eq_true rfl) (L := [(0, knO G 137), (1, knV a1), (2, knV a2)]) rfl ?_
  intro p e s m args below meth c X K hr hlk
  refine kj_aloadn X 0 dX9_readChoice_0 rfl ?_
  refine kj_iloadn X 1 dX9_readChoice_1 rfl ?_
  obtain ⟨q1, h2, hf⟩ := knBd_inv hf
  refine kj_callV (As := [knV a1]) (rest := []) X K (kcX9_readSign l ha1 h2) knWvX9_readSign (knGm 1422 (by decide +kernel) rfl) (by decide) (knKd_in kdc_137 (by decide)) (knEnt_6 kdc_137) rfl rfl rfl (Nat.le_of_ble_eq_true rfl) (by decide) dX9_readChoice_2 rfl (fun h3 => ?_)
  refine kj_if_eq X (tgt := 15) dX9_readChoice_5 (by decide) (knZ_c h3) (fun h4 => ?_) (fun h4 => ?_)
  · replace hf := knIp hf h4
    refine kj_aloadn X 0 dX9_readChoice_15 rfl ?_
    refine kj_iloadn X 2 dX9_readChoice_16 rfl ?_
    obtain ⟨q5, h6, hf⟩ := knBd_inv hf
    refine kj_callV (As := [knV a2]) (rest := []) X K (kcX9_readSign l ha2 h6) knWvX9_readSign (knGm 1422 (by decide +kernel) rfl) (by decide) (knKd_in kdc_137 (by decide)) (knEnt_6 kdc_137) rfl rfl rfl (Nat.le_of_ble_eq_true rfl) (by decide) dX9_readChoice_17 rfl (fun h7 => ?_)
    refine kj_if_eq X (tgt := 30) dX9_readChoice_20 (by decide) (knZ_c h7) (fun h8 => ?_) (fun h8 => ?_)
    · replace hf := knIp hf h8
      refine kj_iconst X dX9_readChoice_30 ?_
      cases hf
      exact kj_zret X (Or.inl rfl) hr (kn_nb (Or.inl rfl)) dX9_readChoice_31 hlk
    · replace hf := knIq hf h8
      refine kj_aloadn X 0 dX9_readChoice_23 rfl ?_
      refine kj_iconst X dX9_readChoice_24 ?_
      obtain ⟨q9, h10, hf⟩ := knBd_inv hf
      refine kj_callV (As := [knV 0]) (rest := []) X K (kcX9_give l (show knC (0) from ⟨by omega, by omega⟩) h10) knWvX9_give (knGm 1410 (by decide +kernel) rfl) (by decide) (knKd_in kdc_137 (by decide)) (knEnt_6 kdc_137) rfl rfl rfl (Nat.le_of_ble_eq_true rfl) (by decide) dX9_readChoice_25 rfl (fun h11 => ?_)
      refine kj_iconst X dX9_readChoice_28 ?_
      cases hf
      exact kj_zret X (Or.inr rfl) hr (kn_nb (Or.inr rfl)) dX9_readChoice_29 hlk
  · replace hf := knIq hf h4
    refine kj_aloadn X 0 dX9_readChoice_8 rfl ?_
    refine kj_iconst X dX9_readChoice_9 ?_
    obtain ⟨q12, h13, hf⟩ := knBd_inv hf
    refine kj_callV (As := [knV 1]) (rest := []) X K (kcX9_give l (show knC (1) from ⟨by omega, by omega⟩) h13) knWvX9_give (knGm 1410 (by decide +kernel) rfl) (by decide) (knKd_in kdc_137 (by decide)) (knEnt_6 kdc_137) rfl rfl rfl (Nat.le_of_ble_eq_true rfl) (by decide) dX9_readChoice_10 rfl (fun h14 => ?_)
    refine kj_iconst X dX9_readChoice_13 ?_
    cases hf
    exact kj_zret X (Or.inr rfl) hr (kn_nb (Or.inr rfl)) dX9_readChoice_14 hlk

def kfX9_readPart (a1 : Int) (μ : knMem) : Option (Int × knMem) :=
 if a1 = 110 then
  Option.bind (kfX9_readNumber  μ) (fun q21 =>
   some (q21.1, q21.2))
 else
  if a1 = 100 then
   Option.bind (kfX9_readDigit  μ) (fun q18 =>
    some (q18.1, q18.2))
  else
   if a1 = 115 then
    Option.bind (kfX9_readChoice 43 45 μ) (fun q15 =>
     some (q15.1, q15.2))
   else
    if a1 = 112 then
     Option.bind (kfX9_readChoice 111 117 μ) (fun q12 =>
      some (q12.1, q12.2))
    else
     if a1 = 119 then
      Option.bind (kfX9_readChoice 61 120 μ) (fun q9 =>
       some (q9.1, q9.2))
     else
      Option.bind (kfX9_readSign a1 μ) (fun q6 =>
       some (q6.1, q6.2))

theorem knWvX9_readPart : knWv yX9_readPart cX9_readPart 2 (some .boolean) 1 := ⟨(knGm 1397 (by decide +kernel) rfl), (knGm 122 (by decide +kernel) rfl), (knGm 1396 (by decide +kernel) rfl), (knGm 27 (by decide +kernel) rfl), by decide +kernel, by decide +kernel, by decide +kernel⟩
set_option maxHeartbeats 4000000 in
set_option maxRecDepth 100000 in
theorem kcX9_readPart {G : knGT} (l : Launch) {a1 : Int} (ha1 : knH a1) {μ : knMem} {q : Int × knMem} (hf : kfX9_readPart a1 μ = some q) : knC0 G l yX9_readPart cX9_readPart 2 (some .boolean) 3 65 [knO G 137, knV a1] μ (knZ q.1) (some (knV q.1)) q.2 := by
  unfold kfX9_readPart at hf
  refine kn_ofJ (plainFor_of_name (by decide)) (Nat.le_of_ble_eq_true rfl) (L := [(0, knO G 137), (1, knV a1)]) rfl ?_
  intro p e s m args below meth c X K hr hlk
  refine kj_iloadn X 1 dX9_readPart_0 rfl ?_
  refine kj_bipush X (n := 110) dX9_readPart_1 rfl ?_
  refine kj_ic_ne X (tgt := 11) dX9_readPart_3 (by decide) (knH_c ha1) (show knC (110) from ⟨by omega, by omega⟩) (fun h1 => ?_) (fun h1 => ?_)
  · replace hf := knIq hf h1
    refine kj_iloadn X 1 dX9_readPart_11 rfl ?_
    refine kj_bipush X (n := 100) dX9_readPart_12 rfl ?_
    refine kj_ic_ne X (tgt := 22) dX9_readPart_14 (by decide) (knH_c ha1) (show knC (100) from ⟨by omega, by omega⟩) (fun h2 => ?_) (fun h2 => ?_)
    · replace hf := knIq hf h2
      refine kj_iloadn X 1 dX9_readPart_22 rfl ?_
      refine kj_bipush X (n := 115) dX9_readPart_23 rfl ?_
      refine kj_ic_ne X (tgt := 37) dX9_readPart_25 (by decide) (knH_c ha1) (show knC (115) from ⟨by omega, by omega⟩) (fun h3 => ?_) (fun h3 => ?_)
      · replace hf := knIq hf h3
        refine kj_iloadn X 1 dX9_readPart_37 rfl ?_
        refine kj_bipush X (n := 112) dX9_readPart_38 rfl ?_
        refine kj_ic_ne X (tgt := 52) dX9_readPart_40 (by decide) (knH_c ha1) (show knC (112) from ⟨by omega, by omega⟩) (fun h4 => ?_) (fun h4 => ?_)
        · replace hf := knIq hf h4
          refine kj_iloadn X 1 dX9_readPart_52 rfl ?_
          refine kj_bipush X (n := 119) dX9_readPart_53 rfl ?_
          refine kj_ic_ne X (tgt := 67) dX9_readPart_55 (by decide) (knH_c ha1) (show knC (119) from ⟨by omega, by omega⟩) (fun h5 => ?_) (fun h5 => ?_)
          · replace hf := knIq hf h5
            refine kj_aloadn X 0 dX9_readPart_67 rfl ?_
            refine kj_iloadn X 1 dX9_readPart_68 rfl ?_
            obtain ⟨q6, h7, hf⟩ := knBd_inv hf
            refine kj_callV (As := [knV a1]) (rest := []) X K (kcX9_readSign l ha1 h7) knWvX9_readSign (knGm 1422 (by decide +kernel) rfl) (by decide) (knKd_in kdc_137 (by decide)) (knEnt_6 kdc_137) rfl rfl rfl (Nat.le_of_ble_eq_true rfl) (by decide) dX9_readPart_69 rfl (fun h8 => ?_)
            cases hf
            exact kj_zret X h8 hr (kn_nb h8) dX9_readPart_72 hlk
          · replace hf := knIp hf h5
            refine kj_aloadn X 0 dX9_readPart_58 rfl ?_
            refine kj_bipush X (n := 61) dX9_readPart_59 rfl ?_
            refine kj_bipush X (n := 120) dX9_readPart_61 rfl ?_
            obtain ⟨q9, h10, hf⟩ := knBd_inv hf
            refine kj_callV (As := [knV 61, knV 120]) (rest := []) X K (kcX9_readChoice l (show knH (61) from ⟨by omega, by omega⟩) (show knH (120) from ⟨by omega, by omega⟩) h10) knWvX9_readChoice (knGm 1418 (by decide +kernel) rfl) (by decide) (knKd_in kdc_137 (by decide)) (knEnt_6 kdc_137) rfl rfl rfl (Nat.le_of_ble_eq_true rfl) (by decide) dX9_readPart_63 rfl (fun h11 => ?_)
            cases hf
            exact kj_zret X h11 hr (kn_nb h11) dX9_readPart_66 hlk
        · replace hf := knIp hf h4
          refine kj_aloadn X 0 dX9_readPart_43 rfl ?_
          refine kj_bipush X (n := 111) dX9_readPart_44 rfl ?_
          refine kj_bipush X (n := 117) dX9_readPart_46 rfl ?_
          obtain ⟨q12, h13, hf⟩ := knBd_inv hf
          refine kj_callV (As := [knV 111, knV 117]) (rest := []) X K (kcX9_readChoice l (show knH (111) from ⟨by omega, by omega⟩) (show knH (117) from ⟨by omega, by omega⟩) h13) knWvX9_readChoice (knGm 1418 (by decide +kernel) rfl) (by decide) (knKd_in kdc_137 (by decide)) (knEnt_6 kdc_137) rfl rfl rfl (Nat.le_of_ble_eq_true rfl) (by decide) dX9_readPart_48 rfl (fun h14 => ?_)
          cases hf
          exact kj_zret X h14 hr (kn_nb h14) dX9_readPart_51 hlk
      · replace hf := knIp hf h3
        refine kj_aloadn X 0 dX9_readPart_28 rfl ?_
        refine kj_bipush X (n := 43) dX9_readPart_29 rfl ?_
        refine kj_bipush X (n := 45) dX9_readPart_31 rfl ?_
        obtain ⟨q15, h16, hf⟩ := knBd_inv hf
        refine kj_callV (As := [knV 43, knV 45]) (rest := []) X K (kcX9_readChoice l (show knH (43) from ⟨by omega, by omega⟩) (show knH (45) from ⟨by omega, by omega⟩) h16) knWvX9_readChoice (knGm 1418 (by decide +kernel) rfl) (by decide) (knKd_in kdc_137 (by decide)) (knEnt_6 kdc_137) rfl rfl rfl (Nat.le_of_ble_eq_true rfl) (by decide) dX9_readPart_33 rfl (fun h17 => ?_)
        cases hf
        exact kj_zret X h17 hr (kn_nb h17) dX9_readPart_36 hlk
    · replace hf := knIp hf h2
      refine kj_aloadn X 0 dX9_readPart_17 rfl ?_
      obtain ⟨q18, h19, hf⟩ := knBd_inv hf
      refine kj_callV (As := []) (rest := []) X K (kcX9_readDigit l  h19) knWvX9_readDigit (knGm 1414 (by decide +kernel) rfl) (by decide) (knKd_in kdc_137 (by decide)) (knEnt_6 kdc_137) rfl rfl rfl (Nat.le_of_ble_eq_true rfl) (by decide) dX9_readPart_18 rfl (fun h20 => ?_)
      cases hf
      exact kj_zret X h20 hr (kn_nb h20) dX9_readPart_21 hlk
  · replace hf := knIp hf h1
    refine kj_aloadn X 0 dX9_readPart_6 rfl ?_
    obtain ⟨q21, h22, hf⟩ := knBd_inv hf
    refine kj_callV (As := []) (rest := []) X K (kcX9_readNumber l  h22) knWvX9_readNumber (knGm 1398 (by decide +kernel) rfl) (by decide) (knKd_in kdc_137 (by decide)) (knEnt_6 kdc_137) rfl rfl rfl (Nat.le_of_ble_eq_true rfl) (by decide) dX9_readPart_7 rfl (fun h23 => ?_)
    cases hf
    exact kj_zret X h23 hr (kn_nb h23) dX9_readPart_10 hlk

def kfX9_readCommand_l32  (x1 : Int)  (kc : (knMem) → Option (Int × knMem)) : Nat → Int → knMem → Option (Int × knMem)
  | 0, _, _ => none
  | n + 1, x2, μ =>
    if (knSln x1) ≤ x2 then
     kc μ
    else
     knGd (0 ≤ x2 ∧ x2 < knSln x1)
      (Option.bind (kfX9_readPart (knSch x1 x2) μ) (fun q9 =>
      if q9.1 = 0 then
       some (0, q9.2)
      else
       kfX9_readCommand_l32  x1 kc n (knW (x2 + 1)) q9.2))

def kfX9_readCommand  (μ : knMem) : Option (Int × knMem) :=
 Option.bind (kfX9_readWord  (knUp μ 137 5 0)) (fun q1 =>
  knGd (-1 ≤ ((knUp q1.2 137 3 q1.1) 137 3) ∧ ((knUp q1.2 137 3 q1.1) 137 3) < 12)
   (if ((knUp q1.2 137 3 q1.1) 137 3) < 0 then
   some (0, (knUp q1.2 137 3 q1.1))
  else
   knGd (0 ≤ ((knUp q1.2 137 3 q1.1) 137 3) ∧ ((knUp q1.2 137 3 q1.1) 137 3) < 12)
    (kfX9_readCommand_l32 (knFm ((knUp q1.2 137 3 q1.1) 137 3))  (fun w13 =>
    some (1, w13)) knF 0 (knUp q1.2 137 3 q1.1))))

theorem knWvX9_readCommand : knWv yX9_readCommand cX9_readCommand 3 (some .boolean) 0 := ⟨(knGm 1330 (by decide +kernel) rfl), (knGm 122 (by decide +kernel) rfl), (knGm 1329 (by decide +kernel) rfl), (knGm 23 (by decide +kernel) rfl), by decide +kernel, by decide +kernel, by decide +kernel⟩
set_option maxHeartbeats 4000000 in
set_option maxRecDepth 100000 in
theorem kfX9_readCommand_l32_ok {q : Int × knMem} {kc : (knMem) → Option (Int × knMem)} {G : knGT} {p : Program} {l : Launch} {e : Env} {s : State} {m : MethodId} {args : Array Value} {below : List Frame} {meth : Method} {c : Code} (X : knX p m c cX9_readCommand 3 s args yX9_readCommand.cls) (K : knK G s s.heap) (hr : meth.sig.returnType = (some .boolean)) (hlk : meth.locks = false) (x1 : Int) (hx1 : 0 ≤ x1 ∧ x1 < 19)  (hk : ∀ (μ1 : knMem), kc μ1 = some q → knJ G p l e { frames := 8, cells := 0, slots := 0, locals := 166 } s m args below meth c 3 0 0 (MQ below (knPo G (knZ q.1) (some (knV q.1)) q.2) args s 0 0 (knA G)) 60 [] [] μ1) : ∀ (n : Nat) (x2 : Int) (hx2 : knC x2) (μ : knMem), kfX9_readCommand_l32  x1 kc n x2 μ = some q → knJ G p l e { frames := 8, cells := 0, slots := 0, locals := 166 } s m args below meth c 3 0 0 (MQ below (knPo G (knZ q.1) (some (knV q.1)) q.2) args s 0 0 (knA G)) 32 [(0, knO G 137), (1, knTv G x1), (2, knV x2)] [] μ := by
  intro n
  induction n with
  | zero => intro x2 hx2 μ hf; cases hf
  | succ n ih =>
    intro x2 hx2 μ hf
    unfold kfX9_readCommand_l32 at hf
    refine kj_iloadn X 2 dX9_readCommand_32 rfl ?_
    refine kj_aloadn X 1 dX9_readCommand_33 rfl ?_
    refine kj_slen (rest := [knV x2]) X K hx1 (knGm 1341 (by decide +kernel) rfl) (Nat.le_of_ble_eq_true rfl) (by decide) dX9_readCommand_34 ?_
    refine kj_ic_ge X (tgt := 60) dX9_readCommand_37 (by decide) hx2 (knC_sln _) (fun h7 => ?_) (fun h7 => ?_)
    · replace hf := knIp hf h7
      refine kj_sub (L' := []) [] rfl ?_
      exact hk _ hf
    · replace hf := knIq hf h7
      refine kj_aloadn X 0 dX9_readCommand_40 rfl ?_
      refine kj_aloadn X 1 dX9_readCommand_41 rfl ?_
      refine kj_iloadn X 2 dX9_readCommand_42 rfl ?_
      obtain ⟨h8, hf⟩ := knGd_inv hf
      refine kj_schar (rest := [knO G 137]) X K hx1 hx2 h8 (knGm 1351 (by decide +kernel) rfl) (Nat.le_of_ble_eq_true rfl) (by decide) dX9_readCommand_43 ?_
      obtain ⟨q9, h10, hf⟩ := knBd_inv hf
      refine kj_callV (As := [knV (knSch x1 x2)]) (rest := []) X K (kcX9_readPart l (knH_sch _ _) h10) knWvX9_readPart (knGm 1394 (by decide +kernel) rfl) (by decide) (knKd_in kdc_137 (by decide)) (knEnt_6 kdc_137) rfl rfl rfl (Nat.le_of_ble_eq_true rfl) (by decide) dX9_readCommand_46 rfl (fun h11 => ?_)
      refine kj_if_ne X (tgt := 54) dX9_readCommand_49 (by decide) (knZ_c h11) (fun h12 => ?_) (fun h12 => ?_)
      · replace hf := knIq hf h12
        refine kj_iinc X 2 (L' := [(2, knV (knW (x2 + 1))), (0, knO G 137), (1, knTv G x1)]) dX9_readCommand_54 rfl (by decide) rfl ?_
        refine kj_goto X (tgt := 32) dX9_readCommand_57 (by decide) ?_
        refine kj_sub (L' := [(0, knO G 137), (1, knTv G x1), (2, knV (knW (x2 + 1)))]) [1, 2, 0] rfl ?_
        exact ih _ (knCw _) _ hf
      · replace hf := knIp hf h12
        refine kj_iconst X dX9_readCommand_52 ?_
        cases hf
        exact kj_zret X (Or.inl rfl) hr (kn_nb (Or.inl rfl)) dX9_readCommand_53 hlk

set_option maxHeartbeats 4000000 in
set_option maxRecDepth 100000 in
theorem kcX9_readCommand {G : knGT} (l : Launch)   {μ : knMem} {q : Int × knMem} (hf : kfX9_readCommand  μ = some q) : knC0 G l yX9_readCommand cX9_readCommand 3 (some .boolean) 8 166 [knO G 137] μ (knZ q.1) (some (knV q.1)) q.2 := by
  unfold kfX9_readCommand at hf
  refine kn_ofJ (plainFor_of_name (by decide)) (Nat.le_of_ble_eq_true rfl) (L := [(0, knO G 137)]) rfl ?_
  intro p e s m args below meth c X K hr hlk
  refine kj_aloadn X 0 dX9_readCommand_0 rfl ?_
  refine kj_iconst X dX9_readCommand_1 ?_
  refine kj_putf (k := 5) (ki := 5) (x := 0) (ty := .int) X K rfl (knKd_in kdc_137 (by decide)) (knEnt_6 kdc_137) rfl (by decide) knInX9 tyX9_ok nmX9 (knGm 331 (by decide +kernel) rfl) rfl rfl (by decide +kernel) rfl rfl (by simp) (by rw [knEnt_6 kdc_137, knUp_row]; rfl) (fun _ => (show knC (0) from ⟨by omega, by omega⟩)) (fun h => by rw [kdc_137] at h; cases h) (fun h => by rw [kdc_137] at h; cases h) dX9_readCommand_2 ?_
  refine kj_aloadn X 0 dX9_readCommand_5 rfl ?_
  refine kj_aloadn X 0 dX9_readCommand_6 rfl ?_
  obtain ⟨q1, h2, hf⟩ := knBd_inv hf
  refine kj_callV (As := []) (rest := [knO G 137]) X K (kcX9_readWord l  h2) knWvX9_readWord (knGm 1331 (by decide +kernel) rfl) (by decide) (knKd_in kdc_137 (by decide)) (knEnt_6 kdc_137) rfl rfl rfl (Nat.le_of_ble_eq_true rfl) (by decide) dX9_readCommand_7 rfl (fun h3 => ?_)
  refine kj_putcmd X K h3 (knGm 328 (by decide +kernel) rfl) dX9_readCommand_10 ?_
  refine kj_aloadn X 0 dX9_readCommand_13 rfl ?_
  obtain ⟨h4, hf⟩ := knGd_inv hf
  refine kj_getcmd X K (knGm 328 (by decide +kernel) rfl) h4 dX9_readCommand_14 ?_
  refine kj_ifnonnull X (tgt := 22) dX9_readCommand_17 (by decide) h4 (fun h5 => ?_) (fun h5 => ?_)
  · replace hf := knIq hf h5
    refine kj_aloadn X 0 dX9_readCommand_22 rfl ?_
    refine kj_getcmd X K (knGm 328 (by decide +kernel) rfl) h4 dX9_readCommand_23 ?_
    obtain ⟨h6, hf⟩ := knGd_inv hf
    refine kj_cmd_form X K h6 rfl dX9_readCommand_26 ?_
    refine kj_astoren X (L' := [(1, knTv G (knFm ((knUp q1.2 137 3 q1.1) 137 3))), (0, knO G 137)]) dX9_readCommand_29 (by decide) rfl ?_
    refine kj_iconst X dX9_readCommand_30 ?_
    refine kj_istoren X (L' := [(2, knV 0), (1, knTv G (knFm ((knUp q1.2 137 3 q1.1) 137 3))), (0, knO G 137)]) dX9_readCommand_31 (by decide) rfl ?_
    refine kj_sub (L' := [(0, knO G 137), (1, knTv G (knFm ((knUp q1.2 137 3 q1.1) 137 3))), (2, knV 0)]) [2, 1, 0] rfl ?_
    refine kfX9_readCommand_l32_ok X K hr hlk (knFm ((knUp q1.2 137 3 q1.1) 137 3)) (knFm_in _)  ?_ knF _ (show knC (0) from ⟨by omega, by omega⟩) _ hf
    intro w13_m
    intro hf
    refine kj_iconst X dX9_readCommand_60 ?_
    cases hf
    exact kj_zret X (Or.inr rfl) hr (kn_nb (Or.inr rfl)) dX9_readCommand_61 hlk
  · replace hf := knIp hf h5
    refine kj_iconst X dX9_readCommand_20 ?_
    cases hf
    exact kj_zret X (Or.inl rfl) hr (kn_nb (Or.inl rfl)) dX9_readCommand_21 hlk

def kfX9_firstError_l7    (kc : (knMem) → Option (Int × knMem)) : Nat → Int → knMem → Option (Int × knMem)
  | 0, _, _ => none
  | n + 1, x1, μ =>
    if 60 < x1 then
     kc μ
    else
     Option.bind (kfX9_readCommand  μ) (fun q2 =>
      if q2.1 = 0 then
       some ((q2.2 137 4), q2.2)
      else
       if (q2.2 137 4) = (q2.2 137 2) then
        some (-1, q2.2)
       else
        Option.bind (kfX9_readSign 59 q2.2) (fun q9 =>
         if q9.1 = 0 then
          some ((q9.2 137 4), q9.2)
         else
          kfX9_firstError_l7   kc n (knW (x1 + 1)) q9.2))

def kfX9_firstError  (μ : knMem) : Option (Int × knMem) :=
 kfX9_firstError_l7   (fun w15 =>
  some ((w15 137 4), w15)) knF 0 (knUp μ 137 4 0)

theorem knWvX9_firstError : knWv yX9_firstError cX9_firstError 2 (some .int) 0 := ⟨(knGm 1326 (by decide +kernel) rfl), (knGm 122 (by decide +kernel) rfl), (knGm 1324 (by decide +kernel) rfl), (knGm 1325 (by decide +kernel) rfl), by decide +kernel, by decide +kernel, by decide +kernel⟩
set_option maxHeartbeats 4000000 in
set_option maxRecDepth 100000 in
theorem kfX9_firstError_l7_ok {q : Int × knMem} {kc : (knMem) → Option (Int × knMem)} {G : knGT} {p : Program} {l : Launch} {e : Env} {s : State} {m : MethodId} {args : Array Value} {below : List Frame} {meth : Method} {c : Code} (X : knX p m c cX9_firstError 2 s args yX9_firstError.cls) (K : knK G s s.heap) (hr : meth.sig.returnType = (some .int)) (hlk : meth.locks = false)    (hk : ∀ (μ1 : knMem), kc μ1 = some q → knJ G p l e { frames := 9, cells := 0, slots := 0, locals := 188 } s m args below meth c 2 0 0 (MQ below (knPo G (knC q.1) (some (knV q.1)) q.2) args s 0 0 (knA G)) 58 [(0, knO G 137)] [] μ1) : ∀ (n : Nat) (x1 : Int) (hx1 : knC x1) (μ : knMem), kfX9_firstError_l7   kc n x1 μ = some q → knJ G p l e { frames := 9, cells := 0, slots := 0, locals := 188 } s m args below meth c 2 0 0 (MQ below (knPo G (knC q.1) (some (knV q.1)) q.2) args s 0 0 (knA G)) 7 [(0, knO G 137), (1, knV x1)] [] μ := by
  intro n
  induction n with
  | zero => intro x1 hx1 μ hf; cases hf
  | succ n ih =>
    intro x1 hx1 μ hf
    unfold kfX9_firstError_l7 at hf
    refine kj_iloadn X 1 dX9_firstError_7 rfl ?_
    refine kj_bipush X (n := 60) dX9_firstError_8 rfl ?_
    refine kj_ic_gt X (tgt := 58) dX9_firstError_10 (by decide) hx1 (show knC (60) from ⟨by omega, by omega⟩) (fun h1 => ?_) (fun h1 => ?_)
    · replace hf := knIp hf h1
      refine kj_sub (L' := [(0, knO G 137)]) [0] rfl ?_
      exact hk _ hf
    · replace hf := knIq hf h1
      refine kj_aloadn X 0 dX9_firstError_13 rfl ?_
      obtain ⟨q2, h3, hf⟩ := knBd_inv hf
      refine kj_callV (As := []) (rest := []) X K (kcX9_readCommand l  h3) knWvX9_readCommand (knGm 1327 (by decide +kernel) rfl) (by decide) (knKd_in kdc_137 (by decide)) (knEnt_6 kdc_137) rfl rfl rfl (Nat.le_of_ble_eq_true rfl) (by decide) dX9_firstError_14 rfl (fun h4 => ?_)
      refine kj_if_ne X (tgt := 25) dX9_firstError_17 (by decide) (knZ_c h4) (fun h5 => ?_) (fun h5 => ?_)
      · replace hf := knIq hf h5
        refine kj_aloadn X 0 dX9_firstError_25 rfl ?_
        refine kj_geti (k := 4) (ki := 4) X K rfl kdc_137 (by decide) (knEnt_6 kdc_137) rfl (by decide) knInX9 (knGm 330 (by decide +kernel) rfl) rfl rfl dX9_firstError_26 (fun h6 => ?_)
        refine kj_aloadn X 0 dX9_firstError_29 rfl ?_
        refine kj_geti (k := 2) (ki := 2) X K rfl kdc_137 (by decide) (knEnt_6 kdc_137) rfl (by decide) knInX9 (knGm 326 (by decide +kernel) rfl) rfl rfl dX9_firstError_30 (fun h7 => ?_)
        refine kj_ic_ne X (tgt := 38) dX9_firstError_33 (by decide) h6 h7 (fun h8 => ?_) (fun h8 => ?_)
        · replace hf := knIq hf h8
          refine kj_aloadn X 0 dX9_firstError_38 rfl ?_
          refine kj_bipush X (n := 59) dX9_firstError_39 rfl ?_
          obtain ⟨q9, h10, hf⟩ := knBd_inv hf
          refine kj_callV (As := [knV 59]) (rest := []) X K (kcX9_readSign l (show knH (59) from ⟨by omega, by omega⟩) h10) knWvX9_readSign (knGm 1422 (by decide +kernel) rfl) (by decide) (knKd_in kdc_137 (by decide)) (knEnt_6 kdc_137) rfl rfl rfl (Nat.le_of_ble_eq_true rfl) (by decide) dX9_firstError_41 rfl (fun h11 => ?_)
          refine kj_if_ne X (tgt := 52) dX9_firstError_44 (by decide) (knZ_c h11) (fun h12 => ?_) (fun h12 => ?_)
          · replace hf := knIq hf h12
            refine kj_iinc X 1 (L' := [(1, knV (knW (x1 + 1))), (0, knO G 137)]) dX9_firstError_52 rfl (by decide) rfl ?_
            refine kj_goto X (tgt := 7) dX9_firstError_55 (by decide) ?_
            refine kj_sub (L' := [(0, knO G 137), (1, knV (knW (x1 + 1)))]) [1, 0] rfl ?_
            exact ih _ (knCw _) _ hf
          · replace hf := knIp hf h12
            refine kj_aloadn X 0 dX9_firstError_47 rfl ?_
            refine kj_geti (k := 4) (ki := 4) X K rfl kdc_137 (by decide) (knEnt_6 kdc_137) rfl (by decide) knInX9 (knGm 330 (by decide +kernel) rfl) rfl rfl dX9_firstError_48 (fun h13 => ?_)
            cases hf
            exact kj_iret X h13 hr dX9_firstError_51 hlk
        · replace hf := knIp hf h8
          refine kj_iconst X dX9_firstError_36 ?_
          cases hf
          exact kj_iret X (show knC (-1) from ⟨by omega, by omega⟩) hr dX9_firstError_37 hlk
      · replace hf := knIp hf h5
        refine kj_aloadn X 0 dX9_firstError_20 rfl ?_
        refine kj_geti (k := 4) (ki := 4) X K rfl kdc_137 (by decide) (knEnt_6 kdc_137) rfl (by decide) knInX9 (knGm 330 (by decide +kernel) rfl) rfl rfl dX9_firstError_21 (fun h14 => ?_)
        cases hf
        exact kj_iret X h14 hr dX9_firstError_24 hlk

set_option maxHeartbeats 4000000 in
set_option maxRecDepth 100000 in
theorem kcX9_firstError {G : knGT} (l : Launch)   {μ : knMem} {q : Int × knMem} (hf : kfX9_firstError  μ = some q) : knC0 G l yX9_firstError cX9_firstError 2 (some .int) 9 188 [knO G 137] μ (knC q.1) (some (knV q.1)) q.2 := by
  unfold kfX9_firstError at hf
  refine kn_ofJ (plainFor_of_name (by decide)) (Nat.le_of_ble_eq_true rfl) (L := [(0, knO G 137)]) rfl ?_
  intro p e s m args below meth c X K hr hlk
  refine kj_aloadn X 0 dX9_firstError_0 rfl ?_
  refine kj_iconst X dX9_firstError_1 ?_
  refine kj_putf (k := 4) (ki := 4) (x := 0) (ty := .int) X K rfl (knKd_in kdc_137 (by decide)) (knEnt_6 kdc_137) rfl (by decide) knInX9 tyX9_ok nmX9 (knGm 330 (by decide +kernel) rfl) rfl rfl (by decide +kernel) rfl rfl (by simp) (by rw [knEnt_6 kdc_137, knUp_row]; rfl) (fun _ => (show knC (0) from ⟨by omega, by omega⟩)) (fun h => by rw [kdc_137] at h; cases h) (fun h => by rw [kdc_137] at h; cases h) dX9_firstError_2 ?_
  refine kj_iconst X dX9_firstError_5 ?_
  refine kj_istoren X (L' := [(1, knV 0), (0, knO G 137)]) dX9_firstError_6 (by decide) rfl ?_
  refine kj_sub (L' := [(0, knO G 137), (1, knV 0)]) [1, 0] rfl ?_
  refine kfX9_firstError_l7_ok X K hr hlk    ?_ knF _ (show knC (0) from ⟨by omega, by omega⟩) _ hf
  intro w15_m
  intro hf
  refine kj_aloadn X 0 dX9_firstError_58 rfl ?_
  refine kj_geti (k := 4) (ki := 4) X K rfl kdc_137 (by decide) (knEnt_6 kdc_137) rfl (by decide) knInX9 (knGm 330 (by decide +kernel) rfl) rfl rfl dX9_firstError_59 (fun h17 => ?_)
  cases hf
  exact kj_iret X h17 hr dX9_firstError_62 hlk

def kfX9_clear  (μ : knMem) : Option (knMem) :=
 some (knUp μ 137 2 0)

theorem knWvX9_clear : knWv yX9_clear cX9_clear 1 none 0 := ⟨(knGm 1429 (by decide +kernel) rfl), (knGm 122 (by decide +kernel) rfl), (knGm 1427 (by decide +kernel) rfl), (knGm 1428 (by decide +kernel) rfl), by decide +kernel, by decide +kernel, by decide +kernel⟩
set_option maxHeartbeats 4000000 in
set_option maxRecDepth 100000 in
theorem kcX9_clear {G : knGT} (l : Launch)   {μ : knMem} {q : knMem} (hf : kfX9_clear  μ = some q) : knC0 G l yX9_clear cX9_clear 1 none 0 0 [knO G 137] μ True none q := by
  unfold kfX9_clear at hf
  refine kn_ofJ (plainFor_of_name (by decide)) (Nat.le_of_ble_eq_true rfl) (L := [(0, knO G 137)]) rfl ?_
  intro p e s m args below meth c X K hr hlk
  refine kj_aloadn X 0 dX9_clear_0 rfl ?_
  refine kj_iconst X dX9_clear_1 ?_
  refine kj_putf (k := 2) (ki := 2) (x := 0) (ty := .int) X K rfl (knKd_in kdc_137 (by decide)) (knEnt_6 kdc_137) rfl (by decide) knInX9 tyX9_ok nmX9 (knGm 326 (by decide +kernel) rfl) rfl rfl (by decide +kernel) rfl rfl (by simp) (by rw [knEnt_6 kdc_137, knUp_row]; rfl) (fun _ => (show knC (0) from ⟨by omega, by omega⟩)) (fun h => by rw [kdc_137] at h; cases h) (fun h => by rw [kdc_137] at h; cases h) dX9_clear_2 ?_
  cases hf
  exact kj_vret X trivial hr dX9_clear_5 hlk

def kfX9_rewind  (μ : knMem) : Option (knMem) :=
 some (knUp μ 137 4 0)

theorem knWvX9_rewind : knWv yX9_rewind cX9_rewind 1 none 0 := ⟨(knGm 1434 (by decide +kernel) rfl), (knGm 122 (by decide +kernel) rfl), (knGm 1432 (by decide +kernel) rfl), (knGm 1433 (by decide +kernel) rfl), by decide +kernel, by decide +kernel, by decide +kernel⟩
set_option maxHeartbeats 4000000 in
set_option maxRecDepth 100000 in
theorem kcX9_rewind {G : knGT} (l : Launch)   {μ : knMem} {q : knMem} (hf : kfX9_rewind  μ = some q) : knC0 G l yX9_rewind cX9_rewind 1 none 0 0 [knO G 137] μ True none q := by
  unfold kfX9_rewind at hf
  refine kn_ofJ (plainFor_of_name (by decide)) (Nat.le_of_ble_eq_true rfl) (L := [(0, knO G 137)]) rfl ?_
  intro p e s m args below meth c X K hr hlk
  refine kj_aloadn X 0 dX9_rewind_0 rfl ?_
  refine kj_iconst X dX9_rewind_1 ?_
  refine kj_putf (k := 4) (ki := 4) (x := 0) (ty := .int) X K rfl (knKd_in kdc_137 (by decide)) (knEnt_6 kdc_137) rfl (by decide) knInX9 tyX9_ok nmX9 (knGm 330 (by decide +kernel) rfl) rfl rfl (by decide +kernel) rfl rfl (by simp) (by rw [knEnt_6 kdc_137, knUp_row]; rfl) (fun _ => (show knC (0) from ⟨by omega, by omega⟩)) (fun h => by rw [kdc_137] at h; cases h) (fun h => by rw [kdc_137] at h; cases h) dX9_rewind_2 ?_
  cases hf
  exact kj_vret X trivial hr dX9_rewind_5 hlk

def kfX9_advance  (μ : knMem) : Option (Int × knMem) :=
 (fun (k25 : (knMem) → Option (Int × knMem)) =>
  if (μ 137 2) ≤ (μ 137 4) then
   k25 μ
  else
   (fun (k34 : (knMem) → Option (Int × knMem)) =>
    if (μ 137 4) = 0 then
     k34 μ
    else
     Option.bind (kfX9_readSign 59 μ) (fun q45 =>
      if q45.1 = 0 then
       k25 q45.2
      else
       k34 q45.2))
    (fun q34 =>
    Option.bind (kfX9_readCommand  q34) (fun q35 =>
     if q35.1 = 0 then
      k25 q35.2
     else
      some (1, q35.2))))
  (fun q25 =>
  some (0, q25))

theorem knWvX9_advance : knWv yX9_advance cX9_advance 1 (some .boolean) 0 := ⟨(knGm 1438 (by decide +kernel) rfl), (knGm 122 (by decide +kernel) rfl), (knGm 1436 (by decide +kernel) rfl), (knGm 1437 (by decide +kernel) rfl), by decide +kernel, by decide +kernel, by decide +kernel⟩
set_option maxHeartbeats 4000000 in
set_option maxRecDepth 100000 in
theorem kcX9_advance {G : knGT} (l : Launch)   {μ : knMem} {q : Int × knMem} (hf : kfX9_advance  μ = some q) : knC0 G l yX9_advance cX9_advance 1 (some .boolean) 9 188 [knO G 137] μ (knZ q.1) (some (knV q.1)) q.2 := by
  unfold kfX9_advance at hf
  refine kn_ofJ (plainFor_of_name (by decide)) (Nat.le_of_ble_eq_true rfl) (L := [(0, knO G 137)]) rfl ?_
  intro p e s m args below meth c X K hr hlk
  refine kj_aloadn X 0 dX9_advance_0 rfl ?_
  refine kj_geti (k := 4) (ki := 4) X K rfl kdc_137 (by decide) (knEnt_6 kdc_137) rfl (by decide) knInX9 (knGm 330 (by decide +kernel) rfl) rfl rfl dX9_advance_1 (fun h1 => ?_)
  refine kj_aloadn X 0 dX9_advance_4 rfl ?_
  refine kj_geti (k := 2) (ki := 2) X K rfl kdc_137 (by decide) (knEnt_6 kdc_137) rfl (by decide) knInX9 (knGm 326 (by decide +kernel) rfl) rfl rfl dX9_advance_5 (fun h2 => ?_)
  have j25 : ∀ (m25 : knMem), (fun q25 =>
   some (0, q25)) m25 = some q → knJ G p l e { frames := 9, cells := 0, slots := 0, locals := 188 } s m args below meth c 1 0 0 (MQ below (knPo G (knZ q.1) (some (knV q.1)) q.2) args s 0 0 (knA G)) 38 [] [] m25 := by
    intro m25
    intro hf
    refine kj_iconst X dX9_advance_38 ?_
    cases hf
    exact kj_zret X (Or.inl rfl) hr (kn_nb (Or.inl rfl)) dX9_advance_39 hlk
  obtain ⟨k25, ek25⟩ : ∃ z : (knMem) → Option (Int × knMem), z = (fun q25 =>
   some (0, q25)) := ⟨_, rfl⟩
  replace hf : (if (μ 137 2) ≤ (μ 137 4) then
   k25 μ
  else
   (fun (k34 : (knMem) → Option (Int × knMem)) =>
    if (μ 137 4) = 0 then
     k34 μ
    else
     Option.bind (kfX9_readSign 59 μ) (fun q45 =>
      if q45.1 = 0 then
       k25 q45.2
      else
       k34 q45.2))
    (fun q34 =>
    Option.bind (kfX9_readCommand  q34) (fun q35 =>
     if q35.1 = 0 then
      k25 q35.2
     else
      some (1, q35.2)))) = some q := by rw [ek25]; exact hf
  rw [← ek25] at j25
  refine kj_ic_ge X (tgt := 38) dX9_advance_8 (by decide) h1 h2 (fun h27 => ?_) (fun h27 => ?_)
  · replace hf := knIp hf h27
    refine kj_sub (L' := []) [] rfl ?_
    exact j25 _ hf
  · replace hf := knIq hf h27
    refine kj_aloadn X 0 dX9_advance_11 rfl ?_
    refine kj_geti (k := 4) (ki := 4) X K rfl kdc_137 (by decide) (knEnt_6 kdc_137) rfl (by decide) knInX9 (knGm 330 (by decide +kernel) rfl) rfl rfl dX9_advance_12 (fun h28 => ?_)
    have j34 : ∀ (m34 : knMem), (fun q34 =>
     Option.bind (kfX9_readCommand  q34) (fun q35 =>
      if q35.1 = 0 then
       k25 q35.2
      else
       some (1, q35.2))) m34 = some q → knJ G p l e { frames := 9, cells := 0, slots := 0, locals := 188 } s m args below meth c 1 0 0 (MQ below (knPo G (knZ q.1) (some (knV q.1)) q.2) args s 0 0 (knA G)) 27 [(0, knO G 137)] [] m34 := by
      intro m34
      intro hf
      refine kj_aloadn X 0 dX9_advance_27 rfl ?_
      obtain ⟨q39, h40, hf⟩ := knBd_inv hf
      refine kj_callV (As := []) (rest := []) X K (kcX9_readCommand l  h40) knWvX9_readCommand (knGm 1327 (by decide +kernel) rfl) (by decide) (knKd_in kdc_137 (by decide)) (knEnt_6 kdc_137) rfl rfl rfl (Nat.le_of_ble_eq_true rfl) (by decide) dX9_advance_28 rfl (fun h41 => ?_)
      refine kj_if_eq X (tgt := 38) dX9_advance_31 (by decide) (knZ_c h41) (fun h42 => ?_) (fun h42 => ?_)
      · replace hf := knIp hf h42
        refine kj_sub (L' := []) [] rfl ?_
        exact j25 _ hf
      · replace hf := knIq hf h42
        refine kj_iconst X dX9_advance_34 ?_
        refine kj_goto X (tgt := 39) dX9_advance_35 (by decide) ?_
        cases hf
        exact kj_zret X (Or.inr rfl) hr (kn_nb (Or.inr rfl)) dX9_advance_39 hlk
    refine kj_if_eq X (tgt := 27) dX9_advance_15 (by decide) h28 (fun h44 => ?_) (fun h44 => ?_)
    · replace hf := knIp hf h44
      refine kj_sub (L' := [(0, knO G 137)]) [0] rfl ?_
      exact j34 _ hf
    · replace hf := knIq hf h44
      refine kj_aloadn X 0 dX9_advance_18 rfl ?_
      refine kj_bipush X (n := 59) dX9_advance_19 rfl ?_
      obtain ⟨q45, h46, hf⟩ := knBd_inv hf
      refine kj_callV (As := [knV 59]) (rest := []) X K (kcX9_readSign l (show knH (59) from ⟨by omega, by omega⟩) h46) knWvX9_readSign (knGm 1422 (by decide +kernel) rfl) (by decide) (knKd_in kdc_137 (by decide)) (knEnt_6 kdc_137) rfl rfl rfl (Nat.le_of_ble_eq_true rfl) (by decide) dX9_advance_21 rfl (fun h47 => ?_)
      refine kj_if_eq X (tgt := 38) dX9_advance_24 (by decide) (knZ_c h47) (fun h48 => ?_) (fun h48 => ?_)
      · replace hf := knIp hf h48
        refine kj_sub (L' := []) [] rfl ?_
        exact j25 _ hf
      · replace hf := knIq hf h48
        refine kj_sub (L' := [(0, knO G 137)]) [0] rfl ?_
        exact j34 _ hf

def kfX6_staged  (μ : knMem) : Option (Int) :=
 knGd (0 ≤ (μ 23 1) ∧ (μ 23 1) < 9)
  (some (25 + 9 * (μ 23 1)))

theorem knWvX6_staged : knWv yX6_staged cX6_staged 1 (some (.object "KnotLaboratory$State")) 0 := ⟨(knGm 1455 (by decide +kernel) rfl), (knGm 118 (by decide +kernel) rfl), (knGm 1453 (by decide +kernel) rfl), (knGm 1454 (by decide +kernel) rfl), by decide +kernel, by decide +kernel, by decide +kernel⟩
set_option maxHeartbeats 4000000 in
set_option maxRecDepth 100000 in
theorem kcX6_staged {G : knGT} (l : Launch)   {μ : knMem} {q : Int} (hf : kfX6_staged  μ = some q) : knC0 G l yX6_staged cX6_staged 1 (some (.object "KnotLaboratory$State")) 0 0 [knO G 23] μ (knKd q = 7) (some (knO G q)) μ := by
  unfold kfX6_staged at hf
  refine kn_ofJ (plainFor_of_name (by decide)) (Nat.le_of_ble_eq_true rfl) (L := [(0, knO G 23)]) rfl ?_
  intro p e s m args below meth c X K hr hlk
  refine kj_aloadn X 0 dX6_staged_0 rfl ?_
  refine kj_geto (k := 0) (o2 := 24) X K kdc_23 (by decide) (knEnt_4 kdc_23) rfl (by decide) knInX6 (knGm 240 (by decide +kernel) rfl) rfl rfl dX6_staged_1 ?_
  refine kj_aloadn X 0 dX6_staged_4 rfl ?_
  refine kj_geti (k := 1) (ki := 1) X K rfl kdc_23 (by decide) (knEnt_4 kdc_23) rfl (by decide) knInX6 (knGm 241 (by decide +kernel) rfl) rfl rfl dX6_staged_5 (fun h1 => ?_)
  obtain ⟨h2, hf⟩ := knGd_inv hf
  refine kj_ald23 X K h1 h2 dX6_staged_8 ?_
  cases hf
  exact kj_aret X (knSlots h2) hr (Or.inl ⟨_, rfl⟩) (Or.inr ⟨_, rfl⟩) dX6_staged_9 hlk

def kfX12_errorPosition  (μ : knMem) : Option (Int × Int) :=
 if (μ 0 12) = -1 then
  some (5, 0)
 else
  some (0, (μ 0 12))

theorem knWvX12_errorPosition : knWv yX12_errorPosition cX12_errorPosition 1 (some .int) 0 := ⟨(knGm 1463 (by decide +kernel) rfl), (knGm 114 (by decide +kernel) rfl), (knGm 1461 (by decide +kernel) rfl), (knGm 1462 (by decide +kernel) rfl), by decide +kernel, by decide +kernel, by decide +kernel⟩
set_option maxHeartbeats 4000000 in
set_option maxRecDepth 100000 in
theorem kcX12_errorPosition {G : knGT} (l : Launch) (hl : l.stackTraces = false)   {μ : knMem} {q : Int × Int} (hf : kfX12_errorPosition  μ = some q) : knCx G l yX12_errorPosition cX12_errorPosition 1 (some .int) 6 100 1 6 [knO G 0] μ (knC q.2) q.1 (some (knV q.2)) μ := by
  unfold kfX12_errorPosition at hf
  refine kn_ofJx (by decide) (Nat.le_of_ble_eq_true rfl) (L := [(0, knO G 0)]) rfl ?_
  intro p e s m args below meth c X K hr hlk hnx
  refine kj_aloadn X 0 dX12_errorPosition_0 rfl ?_
  refine kj_geti (k := 12) (ki := 12) X K rfl kdc_0 (by decide) (knEnt_9 kdc_0) rfl (by decide) knInX12 (knGm 373 (by decide +kernel) rfl) rfl rfl dX12_errorPosition_1 (fun h1 => ?_)
  refine kj_iconst X dX12_errorPosition_4 ?_
  refine kj_ic_ne X (tgt := 19) dX12_errorPosition_5 (by decide) h1 (show knC (-1) from ⟨by omega, by omega⟩) (fun h2 => ?_) (fun h2 => ?_)
  · replace hf := knIq hf h2
    refine kj_aloadn X 0 dX12_errorPosition_19 rfl ?_
    refine kj_geti (k := 12) (ki := 12) X K rfl kdc_0 (by decide) (knEnt_9 kdc_0) rfl (by decide) knInX12 (knGm 373 (by decide +kernel) rfl) rfl rfl dX12_errorPosition_20 (fun h3 => ?_)
    cases hf
    exact kjx_iret X h3 rfl (by decide) (by decide) hr dX12_errorPosition_23 hlk
  · replace hf := knIp hf h2
    cases hf
    exact kjx_throw5W X K hl (i := 19) (by show (5 : Int) ≠ 0; decide) rfl (by decide +kernel) (by decide) rfl rfl knTh5.1 knTh5.2 dX12_errorPosition_8 dX12_errorPosition_11 dX12_errorPosition_12 dX12_errorPosition_15 dX12_errorPosition_18 hnx (by decide) hlk (by decide) (by decide)

def kfX12_failedCommand  (μ : knMem) : Option (Int × Int) :=
 if (μ 0 13) = -1 then
  some (5, 0)
 else
  some (0, (μ 0 13))

theorem knWvX12_failedCommand : knWv yX12_failedCommand cX12_failedCommand 1 (some .int) 0 := ⟨(knGm 1471 (by decide +kernel) rfl), (knGm 114 (by decide +kernel) rfl), (knGm 1469 (by decide +kernel) rfl), (knGm 1470 (by decide +kernel) rfl), by decide +kernel, by decide +kernel, by decide +kernel⟩
set_option maxHeartbeats 4000000 in
set_option maxRecDepth 100000 in
theorem kcX12_failedCommand {G : knGT} (l : Launch) (hl : l.stackTraces = false)   {μ : knMem} {q : Int × Int} (hf : kfX12_failedCommand  μ = some q) : knCx G l yX12_failedCommand cX12_failedCommand 1 (some .int) 6 100 1 6 [knO G 0] μ (knC q.2) q.1 (some (knV q.2)) μ := by
  unfold kfX12_failedCommand at hf
  refine kn_ofJx (by decide) (Nat.le_of_ble_eq_true rfl) (L := [(0, knO G 0)]) rfl ?_
  intro p e s m args below meth c X K hr hlk hnx
  refine kj_aloadn X 0 dX12_failedCommand_0 rfl ?_
  refine kj_geti (k := 13) (ki := 13) X K rfl kdc_0 (by decide) (knEnt_9 kdc_0) rfl (by decide) knInX12 (knGm 374 (by decide +kernel) rfl) rfl rfl dX12_failedCommand_1 (fun h1 => ?_)
  refine kj_iconst X dX12_failedCommand_4 ?_
  refine kj_ic_ne X (tgt := 19) dX12_failedCommand_5 (by decide) h1 (show knC (-1) from ⟨by omega, by omega⟩) (fun h2 => ?_) (fun h2 => ?_)
  · replace hf := knIq hf h2
    refine kj_aloadn X 0 dX12_failedCommand_19 rfl ?_
    refine kj_geti (k := 13) (ki := 13) X K rfl kdc_0 (by decide) (knEnt_9 kdc_0) rfl (by decide) knInX12 (knGm 374 (by decide +kernel) rfl) rfl rfl dX12_failedCommand_20 (fun h3 => ?_)
    cases hf
    exact kjx_iret X h3 rfl (by decide) (by decide) hr dX12_failedCommand_23 hlk
  · replace hf := knIp hf h2
    cases hf
    exact kjx_throw5W X K hl (i := 20) (by show (5 : Int) ≠ 0; decide) rfl (by decide +kernel) (by decide) rfl rfl knTh5.1 knTh5.2 dX12_failedCommand_8 dX12_failedCommand_11 dX12_failedCommand_12 dX12_failedCommand_15 dX12_failedCommand_18 hnx (by decide) hlk (by decide) (by decide)

def kfX6_takeBack  (μ : knMem) : Option (Int × knMem) :=
 Option.bind (kfJ9_max_7cf53 (knW (((knUp μ 23 1 (if (μ 23 1) = 0 then 8 else (knW ((μ 23 1) - 1)) : Int)) 23 2) - 1)) 0 (knUp μ 23 1 (if (μ 23 1) = 0 then 8 else (knW ((μ 23 1) - 1)) : Int))) (fun q8 =>
  knGd (0 ≤ ((knUp (knUp μ 23 1 (if (μ 23 1) = 0 then 8 else (knW ((μ 23 1) - 1)) : Int)) 23 2 q8) 23 1) ∧ ((knUp (knUp μ 23 1 (if (μ 23 1) = 0 then 8 else (knW ((μ 23 1) - 1)) : Int)) 23 2 q8) 23 1) < 9)
   (some ((25 + 9 * ((knUp (knUp μ 23 1 (if (μ 23 1) = 0 then 8 else (knW ((μ 23 1) - 1)) : Int)) 23 2 q8) 23 1)), (knUp (knUp μ 23 1 (if (μ 23 1) = 0 then 8 else (knW ((μ 23 1) - 1)) : Int)) 23 2 q8))))

theorem knWvX6_takeBack : knWv yX6_takeBack cX6_takeBack 1 (some (.object "KnotLaboratory$State")) 0 := ⟨(knGm 1484 (by decide +kernel) rfl), (knGm 118 (by decide +kernel) rfl), (knGm 1482 (by decide +kernel) rfl), (knGm 1483 (by decide +kernel) rfl), by decide +kernel, by decide +kernel, by decide +kernel⟩
set_option maxHeartbeats 4000000 in
set_option maxRecDepth 100000 in
theorem kcX6_takeBack {G : knGT} (l : Launch)   {μ : knMem} {q : Int × knMem} (hf : kfX6_takeBack  μ = some q) : knC0 G l yX6_takeBack cX6_takeBack 1 (some (.object "KnotLaboratory$State")) 1 21 [knO G 23] μ (knKd q.1 = 7) (some (knO G q.1)) q.2 := by
  unfold kfX6_takeBack at hf
  refine kn_ofJ (plainFor_of_name (by decide)) (Nat.le_of_ble_eq_true rfl) (L := [(0, knO G 23)]) rfl ?_
  intro p e s m args below meth c X K hr hlk
  refine kj_aloadn X 0 dX6_takeBack_0 rfl ?_
  refine kj_aloadn X 0 dX6_takeBack_1 rfl ?_
  refine kj_geti (k := 1) (ki := 1) X K rfl kdc_23 (by decide) (knEnt_4 kdc_23) rfl (by decide) knInX6 (knGm 241 (by decide +kernel) rfl) rfl rfl dX6_takeBack_2 (fun h1 => ?_)
  have j4 : ∀ (t4_0 : Int) (et4_0 : t4_0 = (if (μ 23 1) = 0 then 8 else (knW ((μ 23 1) - 1)) : Int)) (ht4_0 : knC t4_0), knJ G p l e { frames := 1, cells := 0, slots := 0, locals := 21 } s m args below meth c 1 0 0 (MQ below (knPo G (knKd q.1 = 7) (some (knO G q.1)) q.2) args s 0 0 (knA G)) 19 [(0, knO G 23)] [knV t4_0, knO G 23] μ := by
    intro t4_0 et4_0 ht4_0
    subst et4_0
    refine kj_putf (k := 1) (ki := 1) (x := (if (μ 23 1) = 0 then 8 else (knW ((μ 23 1) - 1)) : Int)) (ty := .int) X K rfl (knKd_in kdc_23 (by decide)) (knEnt_4 kdc_23) rfl (by decide) knInX6 tyX6_ok nmX6 (knGm 241 (by decide +kernel) rfl) rfl rfl (by decide +kernel) rfl rfl (by simp) (by rw [knEnt_4 kdc_23, knUp_row]; rfl) (fun _ => ht4_0) (fun h => by rw [kdc_23] at h; cases h) (fun h => by rw [kdc_23] at h; cases h) dX6_takeBack_19 ?_
    refine kj_aloadn X 0 dX6_takeBack_22 rfl ?_
    refine kj_aloadn X 0 dX6_takeBack_23 rfl ?_
    refine kj_geti (k := 2) (ki := 2) X K rfl kdc_23 (by decide) (knEnt_4 kdc_23) rfl (by decide) knInX6 (knGm 242 (by decide +kernel) rfl) rfl rfl dX6_takeBack_24 (fun h7 => ?_)
    refine kj_iconst X dX6_takeBack_27 ?_
    refine kj_isub X dX6_takeBack_28 ?_
    refine kj_iconst X dX6_takeBack_29 ?_
    obtain ⟨q8, h9, hf⟩ := knBd_inv hf
    refine kj_callS (As := [knV (knW (((knUp μ 23 1 (if (μ 23 1) = 0 then 8 else (knW ((μ 23 1) - 1)) : Int)) 23 2) - 1)), knV 0]) (rest := [knO G 23]) X K (kcJ9_max_7cf53 l (knCw _) (show knC (0) from ⟨by omega, by omega⟩) h9) knWkJ9_max_7cf53 (knGm 1485 (by decide +kernel) rfl) (by decide)  rfl (Nat.le_of_ble_eq_true rfl) (by decide) dX6_takeBack_30 rfl (fun h10 => ?_)
    refine kj_putf (k := 2) (ki := 2) (x := q8) (ty := .int) X K rfl (knKd_in kdc_23 (by decide)) (knEnt_4 kdc_23) rfl (by decide) knInX6 tyX6_ok nmX6 (knGm 242 (by decide +kernel) rfl) rfl rfl (by decide +kernel) rfl rfl (by simp) (by rw [knEnt_4 kdc_23, knUp_row]; rfl) (fun _ => h10) (fun h => by rw [kdc_23] at h; cases h) (fun h => by rw [kdc_23] at h; cases h) dX6_takeBack_33 ?_
    refine kj_aloadn X 0 dX6_takeBack_36 rfl ?_
    refine kj_geto (k := 0) (o2 := 24) X K kdc_23 (by decide) (knEnt_4 kdc_23) rfl (by decide) knInX6 (knGm 240 (by decide +kernel) rfl) rfl rfl dX6_takeBack_37 ?_
    refine kj_aloadn X 0 dX6_takeBack_40 rfl ?_
    refine kj_geti (k := 1) (ki := 1) X K rfl kdc_23 (by decide) (knEnt_4 kdc_23) rfl (by decide) knInX6 (knGm 241 (by decide +kernel) rfl) rfl rfl dX6_takeBack_41 (fun h11 => ?_)
    obtain ⟨h12, hf⟩ := knGd_inv hf
    refine kj_ald23 X K h11 h12 dX6_takeBack_44 ?_
    cases hf
    exact kj_aret X (knSlots h12) hr (Or.inl ⟨_, rfl⟩) (Or.inr ⟨_, rfl⟩) dX6_takeBack_45 hlk
  refine kj_if_ne X (tgt := 13) dX6_takeBack_5 (by decide) h1 (fun h13 => ?_) (fun h13 => ?_)
  · refine kj_aloadn X 0 dX6_takeBack_13 rfl ?_
    refine kj_geti (k := 1) (ki := 1) X K rfl kdc_23 (by decide) (knEnt_4 kdc_23) rfl (by decide) knInX6 (knGm 241 (by decide +kernel) rfl) rfl rfl dX6_takeBack_14 (fun h14 => ?_)
    refine kj_iconst X dX6_takeBack_17 ?_
    refine kj_isub X dX6_takeBack_18 ?_
    refine kj_sub (L' := [(0, knO G 23)]) [0] rfl ?_
    exact j4 (knW ((μ 23 1) - 1)) (by rw [if_neg h13]) (knCw _)
  · refine kj_bipush X (n := 8) dX6_takeBack_8 rfl ?_
    refine kj_goto X (tgt := 19) dX6_takeBack_10 (by decide) ?_
    refine kj_sub (L' := [(0, knO G 23)]) [0] rfl ?_
    exact j4 8 (by rw [if_pos h13]) (show knC (8) from ⟨by omega, by omega⟩)

def kfX12_undo  (μ : knMem) : Option (Int × Int × knMem) :=
 if (μ 23 2) = 0 then
  some (5, 0, μ)
 else
  Option.bind (kfX6_takeBack  μ) (fun q3 =>
   Option.bind (kfX10_copyFrom 1 q3.1 q3.2) (fun q6 =>
    some (0, (q6 23 2), q6)))

theorem knWvX12_undo : knWv yX12_undo cX12_undo 1 (some .int) 0 := ⟨(knGm 1479 (by decide +kernel) rfl), (knGm 114 (by decide +kernel) rfl), (knGm 1477 (by decide +kernel) rfl), (knGm 1478 (by decide +kernel) rfl), by decide +kernel, by decide +kernel, by decide +kernel⟩
set_option maxHeartbeats 4000000 in
set_option maxRecDepth 100000 in
theorem kcX12_undo {G : knGT} (l : Launch) (hl : l.stackTraces = false)   {μ : knMem} {q : Int × Int × knMem} (hf : kfX12_undo  μ = some q) : knCx G l yX12_undo cX12_undo 1 (some .int) 6 100 1 6 [knO G 0] μ (knC q.2.1) q.1 (some (knV q.2.1)) q.2.2 := by
  unfold kfX12_undo at hf
  refine kn_ofJx (by decide) (Nat.le_of_ble_eq_true rfl) (L := [(0, knO G 0)]) rfl ?_
  intro p e s m args below meth c X K hr hlk hnx
  refine kj_aloadn X 0 dX12_undo_0 rfl ?_
  refine kj_geto (k := 5) (o2 := 23) X K kdc_0 (by decide) (knEnt_9 kdc_0) rfl (by decide) knInX12 (knGm 366 (by decide +kernel) rfl) rfl rfl dX12_undo_1 ?_
  refine kj_geti (k := 2) (ki := 2) X K rfl kdc_23 (by decide) (knEnt_4 kdc_23) rfl (by decide) knInX6 (knGm 243 (by decide +kernel) rfl) rfl rfl dX12_undo_4 (fun h1 => ?_)
  refine kj_if_ne X (tgt := 21) dX12_undo_7 (by decide) h1 (fun h2 => ?_) (fun h2 => ?_)
  · replace hf := knIq hf h2
    refine kj_aloadn X 0 dX12_undo_21 rfl ?_
    refine kj_geto (k := 0) (o2 := 1) X K kdc_0 (by decide) (knEnt_9 kdc_0) rfl (by decide) knInX12 (knGm 361 (by decide +kernel) rfl) rfl rfl dX12_undo_22 ?_
    refine kj_aloadn X 0 dX12_undo_25 rfl ?_
    refine kj_geto (k := 5) (o2 := 23) X K kdc_0 (by decide) (knEnt_9 kdc_0) rfl (by decide) knInX12 (knGm 366 (by decide +kernel) rfl) rfl rfl dX12_undo_26 ?_
    obtain ⟨q3, h4, hf⟩ := knBd_inv hf
    refine kj_callV (As := []) (rest := [knO G 1]) X K (kcX6_takeBack l  h4) knWvX6_takeBack (knGm 1481 (by decide +kernel) rfl) (by decide) (knKd_in kdc_23 (by decide)) (knEnt_4 kdc_23) rfl rfl rfl (Nat.le_of_ble_eq_true rfl) (by decide) dX12_undo_29 rfl (fun h5 => ?_)
    obtain ⟨q6, h7, hf⟩ := knBd_inv hf
    refine kj_callV (As := [knO G q3.1]) (rest := []) X K (kcX10_copyFrom l kdc_1 h5 h7) knWvX10_copyFrom (knGm 914 (by decide +kernel) rfl) (by decide) (knKd_in kdc_1 (by decide)) (knEnt_7 kdc_1) rfl rfl rfl (Nat.le_of_ble_eq_true rfl) (by decide) dX12_undo_32 rfl (fun h8 => ?_)
    refine kj_aloadn X 0 dX12_undo_35 rfl ?_
    refine kj_geto (k := 5) (o2 := 23) X K kdc_0 (by decide) (knEnt_9 kdc_0) rfl (by decide) knInX12 (knGm 366 (by decide +kernel) rfl) rfl rfl dX12_undo_36 ?_
    refine kj_geti (k := 2) (ki := 2) X K rfl kdc_23 (by decide) (knEnt_4 kdc_23) rfl (by decide) knInX6 (knGm 243 (by decide +kernel) rfl) rfl rfl dX12_undo_39 (fun h9 => ?_)
    cases hf
    exact kjx_iret X h9 rfl (by decide) (by decide) hr dX12_undo_42 hlk
  · replace hf := knIp hf h2
    cases hf
    exact kjx_throw5W X K hl (i := 21) (by show (5 : Int) ≠ 0; decide) rfl (by decide +kernel) (by decide) rfl rfl knTh5.1 knTh5.2 dX12_undo_10 dX12_undo_13 dX12_undo_14 dX12_undo_17 dX12_undo_20 hnx (by decide) hlk (by decide) (by decide)

def kfX12_save  (μ : knMem) : Option (Int × knMem) :=
 Option.bind (kfX10_copyFrom 10 1 μ) (fun q1 =>
  some (((knUp q1 0 11 1) 2 3), (knUp q1 0 11 1)))

theorem knWvX12_save : knWv yX12_save cX12_save 1 (some .int) 0 := ⟨(knGm 913 (by decide +kernel) rfl), (knGm 114 (by decide +kernel) rfl), (knGm 911 (by decide +kernel) rfl), (knGm 912 (by decide +kernel) rfl), by decide +kernel, by decide +kernel, by decide +kernel⟩
set_option maxHeartbeats 4000000 in
set_option maxRecDepth 100000 in
theorem kcX12_save {G : knGT} (l : Launch)   {μ : knMem} {q : Int × knMem} (hf : kfX12_save  μ = some q) : knC0 G l yX12_save cX12_save 1 (some .int) 2 43 [knO G 0] μ (knC q.1) (some (knV q.1)) q.2 := by
  unfold kfX12_save at hf
  refine kn_ofJ (plainFor_of_name (by decide)) (Nat.le_of_ble_eq_true rfl) (L := [(0, knO G 0)]) rfl ?_
  intro p e s m args below meth c X K hr hlk
  refine kj_aloadn X 0 dX12_save_0 rfl ?_
  refine kj_geto (k := 3) (o2 := 10) X K kdc_0 (by decide) (knEnt_9 kdc_0) rfl (by decide) knInX12 (knGm 364 (by decide +kernel) rfl) rfl rfl dX12_save_1 ?_
  refine kj_aloadn X 0 dX12_save_4 rfl ?_
  refine kj_geto (k := 0) (o2 := 1) X K kdc_0 (by decide) (knEnt_9 kdc_0) rfl (by decide) knInX12 (knGm 361 (by decide +kernel) rfl) rfl rfl dX12_save_5 ?_
  obtain ⟨q1, h2, hf⟩ := knBd_inv hf
  refine kj_callV (As := [knO G 1]) (rest := []) X K (kcX10_copyFrom l kdc_10 kdc_1 h2) knWvX10_copyFrom (knGm 914 (by decide +kernel) rfl) (by decide) (knKd_in kdc_10 (by decide)) (knEnt_7 kdc_10) rfl rfl rfl (Nat.le_of_ble_eq_true rfl) (by decide) dX12_save_8 rfl (fun h3 => ?_)
  refine kj_aloadn X 0 dX12_save_11 rfl ?_
  refine kj_iconst X dX12_save_12 ?_
  refine kj_putf (k := 11) (ki := 11) (x := 1) (ty := .boolean) X K rfl (knKd_in kdc_0 (by decide)) (knEnt_9 kdc_0) rfl (by decide) knInX12 tyX12_ok nmX12 (knGm 372 (by decide +kernel) rfl) rfl rfl (by decide +kernel) (kn_nb (Or.inr rfl)) (kn_fz (Or.inr rfl)) (by simp) (by rw [knEnt_9 kdc_0, knUp_row]; rfl) (fun _ => (show knC (1) from ⟨by omega, by omega⟩)) (fun h => by rw [kdc_0] at h; cases h) (fun h => by rw [kdc_0] at h; cases h) dX12_save_13 ?_
  refine kj_aloadn X 0 dX12_save_16 rfl ?_
  refine kj_geto (k := 1) (o2 := 2) X K kdc_0 (by decide) (knEnt_9 kdc_0) rfl (by decide) knInX12 (knGm 362 (by decide +kernel) rfl) rfl rfl dX12_save_17 ?_
  refine kj_geti (k := 3) (ki := 3) X K rfl kdc_2 (by decide) (knEnt_3 kdc_2) rfl (by decide) knInX5 (knGm 180 (by decide +kernel) rfl) rfl rfl dX12_save_20 (fun h4 => ?_)
  cases hf
  exact kj_iret X h4 hr dX12_save_23 hlk

def kfX6_forget  (μ : knMem) : Option (knMem) :=
 some (knUp μ 23 2 0)

theorem knWvX6_forget : knWv yX6_forget cX6_forget 1 none 0 := ⟨(knGm 1497 (by decide +kernel) rfl), (knGm 118 (by decide +kernel) rfl), (knGm 1495 (by decide +kernel) rfl), (knGm 1496 (by decide +kernel) rfl), by decide +kernel, by decide +kernel, by decide +kernel⟩
set_option maxHeartbeats 4000000 in
set_option maxRecDepth 100000 in
theorem kcX6_forget {G : knGT} (l : Launch)   {μ : knMem} {q : knMem} (hf : kfX6_forget  μ = some q) : knC0 G l yX6_forget cX6_forget 1 none 0 0 [knO G 23] μ True none q := by
  unfold kfX6_forget at hf
  refine kn_ofJ (plainFor_of_name (by decide)) (Nat.le_of_ble_eq_true rfl) (L := [(0, knO G 23)]) rfl ?_
  intro p e s m args below meth c X K hr hlk
  refine kj_aloadn X 0 dX6_forget_0 rfl ?_
  refine kj_iconst X dX6_forget_1 ?_
  refine kj_putf (k := 2) (ki := 2) (x := 0) (ty := .int) X K rfl (knKd_in kdc_23 (by decide)) (knEnt_4 kdc_23) rfl (by decide) knInX6 tyX6_ok nmX6 (knGm 242 (by decide +kernel) rfl) rfl rfl (by decide +kernel) rfl rfl (by simp) (by rw [knEnt_4 kdc_23, knUp_row]; rfl) (fun _ => (show knC (0) from ⟨by omega, by omega⟩)) (fun h => by rw [kdc_23] at h; cases h) (fun h => by rw [kdc_23] at h; cases h) dX6_forget_2 ?_
  cases hf
  exact kj_vret X trivial hr dX6_forget_5 hlk

def kfX12_restore  (μ : knMem) : Option (Int × Int × knMem) :=
 if (μ 0 11) = 0 then
  some (3, 0, μ)
 else
  Option.bind (kfX10_copyFrom 1 10 μ) (fun q3 =>
   Option.bind (kfX6_forget  q3) (fun q6 =>
    some (0, (q6 2 3), q6)))

theorem knWvX12_restore : knWv yX12_restore cX12_restore 1 (some .int) 0 := ⟨(knGm 1492 (by decide +kernel) rfl), (knGm 114 (by decide +kernel) rfl), (knGm 1490 (by decide +kernel) rfl), (knGm 1491 (by decide +kernel) rfl), by decide +kernel, by decide +kernel, by decide +kernel⟩
set_option maxHeartbeats 4000000 in
set_option maxRecDepth 100000 in
theorem kcX12_restore {G : knGT} (l : Launch) (hl : l.stackTraces = false)   {μ : knMem} {q : Int × Int × knMem} (hf : kfX12_restore  μ = some q) : knCx G l yX12_restore cX12_restore 1 (some .int) 6 100 1 6 [knO G 0] μ (knC q.2.1) q.1 (some (knV q.2.1)) q.2.2 := by
  unfold kfX12_restore at hf
  refine kn_ofJx (by decide) (Nat.le_of_ble_eq_true rfl) (L := [(0, knO G 0)]) rfl ?_
  intro p e s m args below meth c X K hr hlk hnx
  refine kj_aloadn X 0 dX12_restore_0 rfl ?_
  refine kj_geti (k := 11) (ki := 11) X K rfl kdc_0 (by decide) (knEnt_9 kdc_0) rfl (by decide) knInX12 (knGm 372 (by decide +kernel) rfl) rfl rfl dX12_restore_1 (fun h1 => ?_)
  refine kj_if_ne X (tgt := 18) dX12_restore_4 (by decide) h1 (fun h2 => ?_) (fun h2 => ?_)
  · replace hf := knIq hf h2
    refine kj_aloadn X 0 dX12_restore_18 rfl ?_
    refine kj_geto (k := 0) (o2 := 1) X K kdc_0 (by decide) (knEnt_9 kdc_0) rfl (by decide) knInX12 (knGm 361 (by decide +kernel) rfl) rfl rfl dX12_restore_19 ?_
    refine kj_aloadn X 0 dX12_restore_22 rfl ?_
    refine kj_geto (k := 3) (o2 := 10) X K kdc_0 (by decide) (knEnt_9 kdc_0) rfl (by decide) knInX12 (knGm 364 (by decide +kernel) rfl) rfl rfl dX12_restore_23 ?_
    obtain ⟨q3, h4, hf⟩ := knBd_inv hf
    refine kj_callV (As := [knO G 10]) (rest := []) X K (kcX10_copyFrom l kdc_1 kdc_10 h4) knWvX10_copyFrom (knGm 914 (by decide +kernel) rfl) (by decide) (knKd_in kdc_1 (by decide)) (knEnt_7 kdc_1) rfl rfl rfl (Nat.le_of_ble_eq_true rfl) (by decide) dX12_restore_26 rfl (fun h5 => ?_)
    refine kj_aloadn X 0 dX12_restore_29 rfl ?_
    refine kj_geto (k := 5) (o2 := 23) X K kdc_0 (by decide) (knEnt_9 kdc_0) rfl (by decide) knInX12 (knGm 366 (by decide +kernel) rfl) rfl rfl dX12_restore_30 ?_
    obtain ⟨q6, h7, hf⟩ := knBd_inv hf
    refine kj_callV (As := []) (rest := []) X K (kcX6_forget l  h7) knWvX6_forget (knGm 1494 (by decide +kernel) rfl) (by decide) (knKd_in kdc_23 (by decide)) (knEnt_4 kdc_23) rfl rfl rfl (Nat.le_of_ble_eq_true rfl) (by decide) dX12_restore_33 rfl (fun h8 => ?_)
    refine kj_aloadn X 0 dX12_restore_36 rfl ?_
    refine kj_geto (k := 1) (o2 := 2) X K kdc_0 (by decide) (knEnt_9 kdc_0) rfl (by decide) knInX12 (knGm 362 (by decide +kernel) rfl) rfl rfl dX12_restore_37 ?_
    refine kj_geti (k := 3) (ki := 3) X K rfl kdc_2 (by decide) (knEnt_3 kdc_2) rfl (by decide) knInX5 (knGm 180 (by decide +kernel) rfl) rfl rfl dX12_restore_40 (fun h9 => ?_)
    cases hf
    exact kjx_iret X h9 rfl (by decide) (by decide) hr dX12_restore_43 hlk
  · replace hf := knIp hf h2
    cases hf
    exact kjx_throwW X K hl (i := 22) (by show (3 : Int) ≠ 0; decide) rfl (by decide +kernel) (by decide) rfl rfl knTh3.1 knTh3.2 dX12_restore_7 dX12_restore_10 dX12_restore_11 dX12_restore_14 dX12_restore_17 hnx (by decide) hlk (by decide) (by decide)

def kfX13_thrown  (μ : knMem) : Option (Int) :=
 some (μ 142 0)

theorem knWvX13_thrown : knWv yX13_thrown cX13_thrown 1 (some .int) 0 := ⟨(knGm 1592 (by decide +kernel) rfl), (knGm 124 (by decide +kernel) rfl), (knGm 1590 (by decide +kernel) rfl), (knGm 1591 (by decide +kernel) rfl), by decide +kernel, by decide +kernel, by decide +kernel⟩
set_option maxHeartbeats 4000000 in
set_option maxRecDepth 100000 in
theorem kcX13_thrown {G : knGT} (l : Launch)   {μ : knMem} {q : Int} (hf : kfX13_thrown  μ = some q) : knC0 G l yX13_thrown cX13_thrown 1 (some .int) 0 0 [knO G 142] μ (knC q) (some (knV q)) μ := by
  unfold kfX13_thrown at hf
  refine kn_ofJ (plainFor_of_name (by decide)) (Nat.le_of_ble_eq_true rfl) (L := [(0, knO G 142)]) rfl ?_
  intro p e s m args below meth c X K hr hlk
  refine kj_aloadn X 0 dX13_thrown_0 rfl ?_
  refine kj_geti (k := 0) (ki := 0) X K rfl kdc_142 (by decide) (knEnt_10 kdc_142) rfl (by decide) knInX13 (knGm 1504 (by decide +kernel) rfl) rfl rfl dX13_thrown_1 (fun h1 => ?_)
  cases hf
  exact kj_iret X h1 hr dX13_thrown_4 hlk

def kfX13_fails (a1 : Int) (μ : knMem) : Option (Int × knMem) :=
 some (0, (knUp μ 142 0 a1))

theorem knWvX13_fails : knWv yX13_fails cX13_fails 2 (some .int) 1 := ⟨(knGm 1607 (by decide +kernel) rfl), (knGm 124 (by decide +kernel) rfl), (knGm 1606 (by decide +kernel) rfl), (knGm 37 (by decide +kernel) rfl), by decide +kernel, by decide +kernel, by decide +kernel⟩
set_option maxHeartbeats 4000000 in
set_option maxRecDepth 100000 in
theorem kcX13_fails {G : knGT} (l : Launch) {a1 : Int} (ha1 : knC a1) {μ : knMem} {q : Int × knMem} (hf : kfX13_fails a1 μ = some q) : knC0 G l yX13_fails cX13_fails 2 (some .int) 0 0 [knO G 142, knV a1] μ (knC q.1) (some (knV q.1)) q.2 := by
  unfold kfX13_fails at hf
  refine kn_ofJ (plainFor_of_name (by decide)) (Nat.le_of_ble_eq_true rfl) (L := [(0, knO G 142), (1, knV a1)]) rfl ?_
  intro p e s m args below meth c X K hr hlk
  refine kj_aloadn X 0 dX13_fails_0 rfl ?_
  refine kj_iloadn X 1 dX13_fails_1 rfl ?_
  refine kj_putf (k := 0) (ki := 0) (x := a1) (ty := .int) X K rfl (knKd_in kdc_142 (by decide)) (knEnt_10 kdc_142) rfl (by decide) knInX13 tyX13_ok nmX13 (knGm 1504 (by decide +kernel) rfl) rfl rfl (by decide +kernel) rfl rfl (by simp) (by rw [knEnt_10 kdc_142, knUp_row]; rfl) (fun _ => ha1) (fun h => by rw [kdc_142] at h; cases h) (fun h => by rw [kdc_142] at h; cases h) dX13_fails_2 ?_
  refine kj_iconst X dX13_fails_5 ?_
  cases hf
  exact kj_iret X (show knC (0) from ⟨by omega, by omega⟩) hr dX13_fails_6 hlk

def kfX13_isBetween (a0 : Int) (a1 : Int) (a2 : Int) (μ : knMem) : Option (Int) :=
 (fun (k3 : (Unit) → Option (Int)) =>
  if a0 < a1 then
   k3 ()
  else
   if a2 < a0 then
    k3 ()
   else
    some 1)
  (fun _ =>
  some 0)

theorem knWkX13_isBetween : knWk yX13_isBetween cX13_isBetween 3 (some .boolean) 3 := ⟨(knGm 1603 (by decide +kernel) rfl), (knGm 124 (by decide +kernel) rfl), (knGm 1602 (by decide +kernel) rfl), by decide +kernel, by decide +kernel, by decide +kernel⟩
set_option maxHeartbeats 4000000 in
set_option maxRecDepth 100000 in
theorem kcX13_isBetween {G : knGT} (l : Launch) {a0 : Int} {a1 : Int} {a2 : Int} (ha0 : knC a0) (ha1 : knC a1) (ha2 : knC a2) {μ : knMem} {q : Int} (hf : kfX13_isBetween a0 a1 a2 μ = some q) : knC0 G l yX13_isBetween cX13_isBetween 3 (some .boolean) 0 0 [knV a0, knV a1, knV a2] μ (knZ q) (some (knV q)) μ := by
  unfold kfX13_isBetween at hf
  refine kn_ofJ (plainFor_of_name (by decide)) (Nat.le_of_ble_eq_true rfl) (L := [(0, knV a0), (1, knV a1), (2, knV a2)]) rfl ?_
  intro p e s m args below meth c X K hr hlk
  refine kj_iloadn X 1 dX13_isBetween_0 rfl ?_
  refine kj_iloadn X 0 dX13_isBetween_1 rfl ?_
  have j3 : (fun _ =>
   some 0) () = some q → knJ G p l e { frames := 0, cells := 0, slots := 0, locals := 0 } s m args below meth c 3 0 0 (MQ below (knPo G (knZ q) (some (knV q)) μ) args s 0 0 (knA G)) 14 [] [] μ := by
    intro hf
    refine kj_iconst X dX13_isBetween_14 ?_
    cases hf
    exact kj_zret X (Or.inl rfl) hr (kn_nb (Or.inl rfl)) dX13_isBetween_15 hlk
  refine kj_ic_gt X (tgt := 14) dX13_isBetween_2 (by decide) ha1 ha0 (fun h5 => ?_) (fun h5 => ?_)
  · replace hf := knIp hf h5
    refine kj_sub (L' := []) [] rfl ?_
    exact j3  hf
  · replace hf := knIq hf h5
    refine kj_iloadn X 0 dX13_isBetween_5 rfl ?_
    refine kj_iloadn X 2 dX13_isBetween_6 rfl ?_
    refine kj_ic_gt X (tgt := 14) dX13_isBetween_7 (by decide) ha0 ha2 (fun h6 => ?_) (fun h6 => ?_)
    · replace hf := knIp hf h6
      refine kj_sub (L' := []) [] rfl ?_
      exact j3  hf
    · replace hf := knIq hf h6
      refine kj_iconst X dX13_isBetween_10 ?_
      refine kj_goto X (tgt := 15) dX13_isBetween_11 (by decide) ?_
      cases hf
      exact kj_zret X (Or.inr rfl) hr (kn_nb (Or.inr rfl)) dX13_isBetween_15 hlk

