def kfL_addCurl (a1 : Int) (a2 : Int) (a3 : Int) (μ : knMem) : Option (Int × knMem) :=
 Option.bind (kfX12_addCurl a1 a2 a3 μ) (fun q1 =>
  if q1.1 = 0 then
  some (0, (knUp q1.2.2 159 0 q1.2.1))
  else
  if q1.1 = 1 then
   some (1, q1.2.2)
   else
   if q1.1 = 3 then
   some (2, q1.2.2)
   else
   none)

theorem knWhL_addCurl : knWh yL_addCurl cL_addCurl 6 (some .int) [(0, 12, 15, 13), (0, 12, 19, 15)] 5 := ⟨(knGm 917 (by decide +kernel) rfl), (knGm 113 (by decide +kernel) rfl), (knGm 916 (by decide +kernel) rfl), by decide +kernel, by decide +kernel, by decide +kernel⟩
set_option maxHeartbeats 4000000 in
set_option maxRecDepth 100000 in
theorem kcL_addCurl {G : knGT} (l : Launch) (hl : l.stackTraces = false) {a1 : Int} {a2 : Int} {a3 : Int} (ha1 : knC a1) (ha2 : knZ a2) (ha3 : knZ a3) {μ : knMem} {q : Int × knMem} (hf : kfL_addCurl a1 a2 a3 μ = some q) : knCh G l yL_addCurl cL_addCurl 6 (some .int) [(0, 12, 15, 13), (0, 12, 19, 15)] 9 164 1 6 [knO G 0, knV a1, knV a2, knV a3, knO G 159] μ (knC q.1) (some (knV q.1)) q.2 := by
  unfold kfL_addCurl at hf
  refine kn_ofJh (by decide) (Nat.le_of_ble_eq_true rfl) (L := [(0, knO G 0), (1, knV a1), (2, knV a2), (3, knV a3), (4, knO G 159)]) rfl ?_
  intro p e s m args below meth c X K hr hlk hex
  refine kj_aload X 4 dL_addCurl_0 rfl ?_
  refine kj_iconst X dL_addCurl_2 ?_
  refine kj_aloadn X 0 dL_addCurl_3 rfl ?_
  refine kj_iloadn X 1 dL_addCurl_4 rfl ?_
  refine kj_iloadn X 2 dL_addCurl_5 rfl ?_
  refine kj_iloadn X 3 dL_addCurl_6 rfl ?_
  obtain ⟨q1, h2, hf⟩ := knBd_inv hf
  refine kjx_callV (As := [knV a1, knV a2, knV a3]) (rest := [knV 0, knO G 159]) X K (kcX12_addCurl l hl ha1 ha2 ha3 h2) knWvX12_addCurl (knGm 940 (by decide +kernel) rfl) (by decide) (knKd_in kdc_0 (by decide)) (knEnt_9 kdc_0) rfl rfl rfl (Nat.le_of_ble_eq_true rfl) (by decide) dL_addCurl_7 rfl (fun h4 h3 => ?_) (fun E5 h4 h6 => ?_)
  · replace hf := knIp hf h4
    refine kj_i2l X dL_addCurl_10 h3 ?_
    refine kj_last X K h3 dL_addCurl_11 ?_
    refine kj_goto X (tgt := 23) dL_addCurl_12 (by decide) ?_
    refine kj_iconst X dL_addCurl_23 ?_
    cases hf
    exact kj_iret X (show knC (0) from ⟨by omega, by omega⟩) hr dL_addCurl_24 hlk
  · replace hf := knIq hf h4
    by_cases h7 : q1.1 = 1
    · replace hf := knIp hf h7
      refine kjx_catch X K hex 0 (by decide) h7 h6 knE_1 [] [(0, 12, 19, 15)] rfl (by decide) knPs_0 (knGm 918 (by decide +kernel) rfl) (knBm 445 (by decide +kernel) rfl) (fun q9 => ?_)
      refine kj_astore X (L' := [(5, Value.ref q9), (0, knO G 0), (1, knV a1), (2, knV a2), (3, knV a3), (4, knO G 159)]) dL_addCurl_15 (by decide) rfl ?_
      refine kj_iconst X dL_addCurl_17 ?_
      cases hf
      exact kj_iret X (show knC (1) from ⟨by omega, by omega⟩) hr dL_addCurl_18 hlk
    · replace hf := knIq hf h7
      by_cases h8 : q1.1 = 3
      · replace hf := knIp hf h8
        refine kjx_catch X K hex 2 (by decide) h8 h6 knE_3 [(0, 12, 15, 13)] [] rfl (by decide) (knPs_1 0 (by decide) (knGm 918 (by decide +kernel) rfl) knPs_0) (knGm 939 (by decide +kernel) rfl) (knBm 537 (by decide +kernel) rfl) (fun q9 => ?_)
        refine kj_astore X (L' := [(5, Value.ref q9), (0, knO G 0), (1, knV a1), (2, knV a2), (3, knV a3), (4, knO G 159)]) dL_addCurl_19 (by decide) rfl ?_
        refine kj_iconst X dL_addCurl_21 ?_
        cases hf
        exact kj_iret X (show knC (2) from ⟨by omega, by omega⟩) hr dL_addCurl_22 hlk
      · replace hf := knIq hf h8
        cases hf

def kfL_removeCurl (a1 : Int) (μ : knMem) : Option (Int × knMem) :=
 Option.bind (kfX12_removeCurl a1 μ) (fun q1 =>
  if q1.1 = 0 then
  some (0, (knUp q1.2.2 159 0 q1.2.1))
  else
  if q1.1 = 1 then
   some (1, q1.2.2)
   else
   if q1.1 = 4 then
   some (2, q1.2.2)
   else
   none)

theorem knWhL_removeCurl : knWh yL_removeCurl cL_removeCurl 4 (some .int) [(0, 9, 12, 13), (0, 9, 15, 21)] 3 := ⟨(knGm 964 (by decide +kernel) rfl), (knGm 113 (by decide +kernel) rfl), (knGm 963 (by decide +kernel) rfl), by decide +kernel, by decide +kernel, by decide +kernel⟩
set_option maxHeartbeats 4000000 in
set_option maxRecDepth 100000 in
theorem kcL_removeCurl {G : knGT} (l : Launch) (hl : l.stackTraces = false) {a1 : Int} (ha1 : knC a1) {μ : knMem} {q : Int × knMem} (hf : kfL_removeCurl a1 μ = some q) : knCh G l yL_removeCurl cL_removeCurl 4 (some .int) [(0, 9, 12, 13), (0, 9, 15, 21)] 9 162 1 6 [knO G 0, knV a1, knO G 159] μ (knC q.1) (some (knV q.1)) q.2 := by
  unfold kfL_removeCurl at hf
  refine kn_ofJh (by decide) (Nat.le_of_ble_eq_true rfl) (L := [(0, knO G 0), (1, knV a1), (2, knO G 159)]) rfl ?_
  intro p e s m args below meth c X K hr hlk hex
  refine kj_aloadn X 2 dL_removeCurl_0 rfl ?_
  refine kj_iconst X dL_removeCurl_1 ?_
  refine kj_aloadn X 0 dL_removeCurl_2 rfl ?_
  refine kj_iloadn X 1 dL_removeCurl_3 rfl ?_
  obtain ⟨q1, h2, hf⟩ := knBd_inv hf
  refine kjx_callV (As := [knV a1]) (rest := [knV 0, knO G 159]) X K (kcX12_removeCurl l hl ha1 h2) knWvX12_removeCurl (knGm 966 (by decide +kernel) rfl) (by decide) (knKd_in kdc_0 (by decide)) (knEnt_9 kdc_0) rfl rfl rfl (Nat.le_of_ble_eq_true rfl) (by decide) dL_removeCurl_4 rfl (fun h4 h3 => ?_) (fun E5 h4 h6 => ?_)
  · replace hf := knIp hf h4
    refine kj_i2l X dL_removeCurl_7 h3 ?_
    refine kj_last X K h3 dL_removeCurl_8 ?_
    refine kj_goto X (tgt := 18) dL_removeCurl_9 (by decide) ?_
    refine kj_iconst X dL_removeCurl_18 ?_
    cases hf
    exact kj_iret X (show knC (0) from ⟨by omega, by omega⟩) hr dL_removeCurl_19 hlk
  · replace hf := knIq hf h4
    by_cases h7 : q1.1 = 1
    · replace hf := knIp hf h7
      refine kjx_catch X K hex 0 (by decide) h7 h6 knE_1 [] [(0, 9, 15, 21)] rfl (by decide) knPs_0 (knGm 918 (by decide +kernel) rfl) (knBm 445 (by decide +kernel) rfl) (fun q9 => ?_)
      refine kj_astoren X (L' := [(3, Value.ref q9), (0, knO G 0), (1, knV a1), (2, knO G 159)]) dL_removeCurl_12 (by decide) rfl ?_
      refine kj_iconst X dL_removeCurl_13 ?_
      cases hf
      exact kj_iret X (show knC (1) from ⟨by omega, by omega⟩) hr dL_removeCurl_14 hlk
    · replace hf := knIq hf h7
      by_cases h8 : q1.1 = 4
      · replace hf := knIp hf h8
        refine kjx_catch X K hex 3 (by decide) h8 h6 knE_4 [(0, 9, 12, 13)] [] rfl (by decide) (knPs_1 0 (by decide) (knGm 918 (by decide +kernel) rfl) knPs_0) (knGm 965 (by decide +kernel) rfl) (knBm 555 (by decide +kernel) rfl) (fun q9 => ?_)
        refine kj_astoren X (L' := [(3, Value.ref q9), (0, knO G 0), (1, knV a1), (2, knO G 159)]) dL_removeCurl_15 (by decide) rfl ?_
        refine kj_iconst X dL_removeCurl_16 ?_
        cases hf
        exact kj_iret X (show knC (2) from ⟨by omega, by omega⟩) hr dL_removeCurl_17 hlk
      · replace hf := knIq hf h8
        cases hf

def kfL_addPoke (a1 : Int) (a2 : Int) (a3 : Int) (a4 : Int) (μ : knMem) : Option (Int × knMem) :=
 Option.bind (kfX12_addPoke a1 a2 a3 a4 μ) (fun q1 =>
  if q1.1 = 0 then
  some (0, (knUp q1.2.2 159 0 q1.2.1))
  else
  if q1.1 = 1 then
   some (1, q1.2.2)
   else
   if q1.1 = 3 then
   some (2, q1.2.2)
   else
   none)

theorem knWhL_addPoke : knWh yL_addPoke cL_addPoke 7 (some .int) [(0, 14, 17, 13), (0, 14, 21, 15)] 6 := ⟨(knGm 977 (by decide +kernel) rfl), (knGm 113 (by decide +kernel) rfl), (knGm 976 (by decide +kernel) rfl), by decide +kernel, by decide +kernel, by decide +kernel⟩
set_option maxHeartbeats 4000000 in
set_option maxRecDepth 100000 in
theorem kcL_addPoke {G : knGT} (l : Launch) (hl : l.stackTraces = false) {a1 : Int} {a2 : Int} {a3 : Int} {a4 : Int} (ha1 : knC a1) (ha2 : knC a2) (ha3 : knZ a3) (ha4 : knZ a4) {μ : knMem} {q : Int × knMem} (hf : kfL_addPoke a1 a2 a3 a4 μ = some q) : knCh G l yL_addPoke cL_addPoke 7 (some .int) [(0, 14, 17, 13), (0, 14, 21, 15)] 9 165 1 6 [knO G 0, knV a1, knV a2, knV a3, knV a4, knO G 159] μ (knC q.1) (some (knV q.1)) q.2 := by
  unfold kfL_addPoke at hf
  refine kn_ofJh (by decide) (Nat.le_of_ble_eq_true rfl) (L := [(0, knO G 0), (1, knV a1), (2, knV a2), (3, knV a3), (4, knV a4), (5, knO G 159)]) rfl ?_
  intro p e s m args below meth c X K hr hlk hex
  refine kj_aload X 5 dL_addPoke_0 rfl ?_
  refine kj_iconst X dL_addPoke_2 ?_
  refine kj_aloadn X 0 dL_addPoke_3 rfl ?_
  refine kj_iloadn X 1 dL_addPoke_4 rfl ?_
  refine kj_iloadn X 2 dL_addPoke_5 rfl ?_
  refine kj_iloadn X 3 dL_addPoke_6 rfl ?_
  refine kj_iload X 4 dL_addPoke_7 rfl ?_
  obtain ⟨q1, h2, hf⟩ := knBd_inv hf
  refine kjx_callV (As := [knV a1, knV a2, knV a3, knV a4]) (rest := [knV 0, knO G 159]) X K (kcX12_addPoke l hl ha1 ha2 ha3 ha4 h2) knWvX12_addPoke (knGm 978 (by decide +kernel) rfl) (by decide) (knKd_in kdc_0 (by decide)) (knEnt_9 kdc_0) rfl rfl rfl (Nat.le_of_ble_eq_true rfl) (by decide) dL_addPoke_9 rfl (fun h4 h3 => ?_) (fun E5 h4 h6 => ?_)
  · replace hf := knIp hf h4
    refine kj_i2l X dL_addPoke_12 h3 ?_
    refine kj_last X K h3 dL_addPoke_13 ?_
    refine kj_goto X (tgt := 25) dL_addPoke_14 (by decide) ?_
    refine kj_iconst X dL_addPoke_25 ?_
    cases hf
    exact kj_iret X (show knC (0) from ⟨by omega, by omega⟩) hr dL_addPoke_26 hlk
  · replace hf := knIq hf h4
    by_cases h7 : q1.1 = 1
    · replace hf := knIp hf h7
      refine kjx_catch X K hex 0 (by decide) h7 h6 knE_1 [] [(0, 14, 21, 15)] rfl (by decide) knPs_0 (knGm 918 (by decide +kernel) rfl) (knBm 445 (by decide +kernel) rfl) (fun q9 => ?_)
      refine kj_astore X (L' := [(6, Value.ref q9), (0, knO G 0), (1, knV a1), (2, knV a2), (3, knV a3), (4, knV a4), (5, knO G 159)]) dL_addPoke_17 (by decide) rfl ?_
      refine kj_iconst X dL_addPoke_19 ?_
      cases hf
      exact kj_iret X (show knC (1) from ⟨by omega, by omega⟩) hr dL_addPoke_20 hlk
    · replace hf := knIq hf h7
      by_cases h8 : q1.1 = 3
      · replace hf := knIp hf h8
        refine kjx_catch X K hex 2 (by decide) h8 h6 knE_3 [(0, 14, 17, 13)] [] rfl (by decide) (knPs_1 0 (by decide) (knGm 918 (by decide +kernel) rfl) knPs_0) (knGm 939 (by decide +kernel) rfl) (knBm 537 (by decide +kernel) rfl) (fun q9 => ?_)
        refine kj_astore X (L' := [(6, Value.ref q9), (0, knO G 0), (1, knV a1), (2, knV a2), (3, knV a3), (4, knV a4), (5, knO G 159)]) dL_addPoke_21 (by decide) rfl ?_
        refine kj_iconst X dL_addPoke_23 ?_
        cases hf
        exact kj_iret X (show knC (2) from ⟨by omega, by omega⟩) hr dL_addPoke_24 hlk
      · replace hf := knIq hf h8
        cases hf

def kfL_removePoke (a1 : Int) (a2 : Int) (μ : knMem) : Option (Int × knMem) :=
 Option.bind (kfX12_removePoke a1 a2 μ) (fun q1 =>
  if q1.1 = 0 then
  some (0, (knUp q1.2.2 159 0 q1.2.1))
  else
  if q1.1 = 1 then
   some (1, q1.2.2)
   else
   if q1.1 = 4 then
   some (2, q1.2.2)
   else
   none)

theorem knWhL_removePoke : knWh yL_removePoke cL_removePoke 5 (some .int) [(0, 10, 13, 13), (0, 10, 17, 21)] 4 := ⟨(knGm 990 (by decide +kernel) rfl), (knGm 113 (by decide +kernel) rfl), (knGm 989 (by decide +kernel) rfl), by decide +kernel, by decide +kernel, by decide +kernel⟩
set_option maxHeartbeats 4000000 in
set_option maxRecDepth 100000 in
theorem kcL_removePoke {G : knGT} (l : Launch) (hl : l.stackTraces = false) {a1 : Int} {a2 : Int} (ha1 : knC a1) (ha2 : knC a2) {μ : knMem} {q : Int × knMem} (hf : kfL_removePoke a1 a2 μ = some q) : knCh G l yL_removePoke cL_removePoke 5 (some .int) [(0, 10, 13, 13), (0, 10, 17, 21)] 9 163 1 6 [knO G 0, knV a1, knV a2, knO G 159] μ (knC q.1) (some (knV q.1)) q.2 := by
  unfold kfL_removePoke at hf
  refine kn_ofJh (by decide) (Nat.le_of_ble_eq_true rfl) (L := [(0, knO G 0), (1, knV a1), (2, knV a2), (3, knO G 159)]) rfl ?_
  intro p e s m args below meth c X K hr hlk hex
  refine kj_aloadn X 3 dL_removePoke_0 rfl ?_
  refine kj_iconst X dL_removePoke_1 ?_
  refine kj_aloadn X 0 dL_removePoke_2 rfl ?_
  refine kj_iloadn X 1 dL_removePoke_3 rfl ?_
  refine kj_iloadn X 2 dL_removePoke_4 rfl ?_
  obtain ⟨q1, h2, hf⟩ := knBd_inv hf
  refine kjx_callV (As := [knV a1, knV a2]) (rest := [knV 0, knO G 159]) X K (kcX12_removePoke l hl ha1 ha2 h2) knWvX12_removePoke (knGm 991 (by decide +kernel) rfl) (by decide) (knKd_in kdc_0 (by decide)) (knEnt_9 kdc_0) rfl rfl rfl (Nat.le_of_ble_eq_true rfl) (by decide) dL_removePoke_5 rfl (fun h4 h3 => ?_) (fun E5 h4 h6 => ?_)
  · replace hf := knIp hf h4
    refine kj_i2l X dL_removePoke_8 h3 ?_
    refine kj_last X K h3 dL_removePoke_9 ?_
    refine kj_goto X (tgt := 21) dL_removePoke_10 (by decide) ?_
    refine kj_iconst X dL_removePoke_21 ?_
    cases hf
    exact kj_iret X (show knC (0) from ⟨by omega, by omega⟩) hr dL_removePoke_22 hlk
  · replace hf := knIq hf h4
    by_cases h7 : q1.1 = 1
    · replace hf := knIp hf h7
      refine kjx_catch X K hex 0 (by decide) h7 h6 knE_1 [] [(0, 10, 17, 21)] rfl (by decide) knPs_0 (knGm 918 (by decide +kernel) rfl) (knBm 445 (by decide +kernel) rfl) (fun q9 => ?_)
      refine kj_astore X (L' := [(4, Value.ref q9), (0, knO G 0), (1, knV a1), (2, knV a2), (3, knO G 159)]) dL_removePoke_13 (by decide) rfl ?_
      refine kj_iconst X dL_removePoke_15 ?_
      cases hf
      exact kj_iret X (show knC (1) from ⟨by omega, by omega⟩) hr dL_removePoke_16 hlk
    · replace hf := knIq hf h7
      by_cases h8 : q1.1 = 4
      · replace hf := knIp hf h8
        refine kjx_catch X K hex 3 (by decide) h8 h6 knE_4 [(0, 10, 13, 13)] [] rfl (by decide) (knPs_1 0 (by decide) (knGm 918 (by decide +kernel) rfl) knPs_0) (knGm 965 (by decide +kernel) rfl) (knBm 555 (by decide +kernel) rfl) (fun q9 => ?_)
        refine kj_astore X (L' := [(4, Value.ref q9), (0, knO G 0), (1, knV a1), (2, knV a2), (3, knO G 159)]) dL_removePoke_17 (by decide) rfl ?_
        refine kj_iconst X dL_removePoke_19 ?_
        cases hf
        exact kj_iret X (show knC (2) from ⟨by omega, by omega⟩) hr dL_removePoke_20 hlk
      · replace hf := knIq hf h8
        cases hf

def kfL_switchCrossing (a1 : Int) (μ : knMem) : Option (Int × knMem) :=
 Option.bind (kfX12_switchCrossing a1 μ) (fun q1 =>
  if q1.1 = 0 then
  some (0, (knUp q1.2.2 159 0 (if q1.2.1 = 0 then 0 else 1 : Int)))
  else
  if q1.1 = 1 then
   some (1, q1.2.2)
   else
   none)

theorem knWhL_switchCrossing : knWh yL_switchCrossing cL_switchCrossing 4 (some .int) [(0, 16, 19, 13)] 3 := ⟨(knGm 1001 (by decide +kernel) rfl), (knGm 113 (by decide +kernel) rfl), (knGm 1000 (by decide +kernel) rfl), by decide +kernel, by decide +kernel, by decide +kernel⟩
set_option maxHeartbeats 4000000 in
set_option maxRecDepth 100000 in
theorem kcL_switchCrossing {G : knGT} (l : Launch) (hl : l.stackTraces = false) {a1 : Int} (ha1 : knC a1) {μ : knMem} {q : Int × knMem} (hf : kfL_switchCrossing a1 μ = some q) : knCh G l yL_switchCrossing cL_switchCrossing 4 (some .int) [(0, 16, 19, 13)] 9 162 1 6 [knO G 0, knV a1, knO G 159] μ (knC q.1) (some (knV q.1)) q.2 := by
  unfold kfL_switchCrossing at hf
  refine kn_ofJh (by decide) (Nat.le_of_ble_eq_true rfl) (L := [(0, knO G 0), (1, knV a1), (2, knO G 159)]) rfl ?_
  intro p e s m args below meth c X K hr hlk hex
  refine kj_aloadn X 2 dL_switchCrossing_0 rfl ?_
  refine kj_iconst X dL_switchCrossing_1 ?_
  refine kj_aloadn X 0 dL_switchCrossing_2 rfl ?_
  refine kj_iloadn X 1 dL_switchCrossing_3 rfl ?_
  obtain ⟨q1, h2, hf⟩ := knBd_inv hf
  refine kjx_callV (As := [knV a1]) (rest := [knV 0, knO G 159]) X K (kcX12_switchCrossing l hl ha1 h2) knWvX12_switchCrossing (knGm 1002 (by decide +kernel) rfl) (by decide) (knKd_in kdc_0 (by decide)) (knEnt_9 kdc_0) rfl rfl rfl (Nat.le_of_ble_eq_true rfl) (by decide) dL_switchCrossing_4 rfl (fun h4 h3 => ?_) (fun E5 h4 h6 => ?_)
  · replace hf := knIp hf h4
    have j8 : ∀ (t8_0 : Int) (et8_0 : t8_0 = (if q1.2.1 = 0 then 0 else 1 : Int)) (ht8_0 : knC t8_0), knJ G p l e { frames := 9, cells := 1, slots := 6, locals := 162 } s m args below meth c 4 (0 + 1) (0 + 6) (MQ below (knPo G (knC q.1) (some (knV q.1)) q.2) args s 1 6 (knA G)) 15 [] [knVl t8_0, knV 0, knO G 159] q1.2.2 := by
      intro t8_0 et8_0 ht8_0
      subst et8_0
      refine kj_last X K ht8_0 dL_switchCrossing_15 ?_
      refine kj_goto X (tgt := 22) dL_switchCrossing_16 (by decide) ?_
      refine kj_iconst X dL_switchCrossing_22 ?_
      cases hf
      exact kj_iret X (show knC (0) from ⟨by omega, by omega⟩) hr dL_switchCrossing_23 hlk
    refine kj_if_eq X (tgt := 14) dL_switchCrossing_7 (by decide) (knZ_c h3) (fun h10 => ?_) (fun h10 => ?_)
    · refine kj_lconst X (x := 0) dL_switchCrossing_14 rfl ?_
      refine kj_sub (L' := []) [] rfl ?_
      exact j8 0 (by rw [if_pos h10]) (show knC (0) from ⟨by omega, by omega⟩)
    · refine kj_lconst X (x := 1) dL_switchCrossing_10 rfl ?_
      refine kj_goto X (tgt := 15) dL_switchCrossing_11 (by decide) ?_
      refine kj_sub (L' := []) [] rfl ?_
      exact j8 1 (by rw [if_neg h10]) (show knC (1) from ⟨by omega, by omega⟩)
  · replace hf := knIq hf h4
    by_cases h11 : q1.1 = 1
    · replace hf := knIp hf h11
      refine kjx_catch X K hex 0 (by decide) h11 h6 knE_1 [] [] rfl (by decide) knPs_0 (knGm 918 (by decide +kernel) rfl) (knBm 445 (by decide +kernel) rfl) (fun q9 => ?_)
      refine kj_astoren X (L' := [(3, Value.ref q9), (0, knO G 0), (1, knV a1), (2, knO G 159)]) dL_switchCrossing_19 (by decide) rfl ?_
      refine kj_iconst X dL_switchCrossing_20 ?_
      cases hf
      exact kj_iret X (show knC (1) from ⟨by omega, by omega⟩) hr dL_switchCrossing_21 hlk
    · replace hf := knIq hf h11
      cases hf

def kfL_turn (a1 : Int) (μ : knMem) : Option (Int × knMem) :=
 Option.bind (kfX12_turn a1 μ) (fun q1 =>
  if q1.1 = 0 then
  some (0, (knUp q1.2.2 159 0 q1.2.1))
  else
  if q1.1 = 1 then
   some (1, q1.2.2)
   else
   none)

theorem knWhL_turn : knWh yL_turn cL_turn 4 (some .int) [(0, 9, 12, 13)] 3 := ⟨(knGm 1012 (by decide +kernel) rfl), (knGm 113 (by decide +kernel) rfl), (knGm 1011 (by decide +kernel) rfl), by decide +kernel, by decide +kernel, by decide +kernel⟩
set_option maxHeartbeats 4000000 in
set_option maxRecDepth 100000 in
theorem kcL_turn {G : knGT} (l : Launch) (hl : l.stackTraces = false) {a1 : Int} (ha1 : knC a1) {μ : knMem} {q : Int × knMem} (hf : kfL_turn a1 μ = some q) : knCh G l yL_turn cL_turn 4 (some .int) [(0, 9, 12, 13)] 9 162 1 6 [knO G 0, knV a1, knO G 159] μ (knC q.1) (some (knV q.1)) q.2 := by
  unfold kfL_turn at hf
  refine kn_ofJh (by decide) (Nat.le_of_ble_eq_true rfl) (L := [(0, knO G 0), (1, knV a1), (2, knO G 159)]) rfl ?_
  intro p e s m args below meth c X K hr hlk hex
  refine kj_aloadn X 2 dL_turn_0 rfl ?_
  refine kj_iconst X dL_turn_1 ?_
  refine kj_aloadn X 0 dL_turn_2 rfl ?_
  refine kj_iloadn X 1 dL_turn_3 rfl ?_
  obtain ⟨q1, h2, hf⟩ := knBd_inv hf
  refine kjx_callV (As := [knV a1]) (rest := [knV 0, knO G 159]) X K (kcX12_turn l hl ha1 h2) knWvX12_turn (knGm 1013 (by decide +kernel) rfl) (by decide) (knKd_in kdc_0 (by decide)) (knEnt_9 kdc_0) rfl rfl rfl (Nat.le_of_ble_eq_true rfl) (by decide) dL_turn_4 rfl (fun h4 h3 => ?_) (fun E5 h4 h6 => ?_)
  · replace hf := knIp hf h4
    refine kj_i2l X dL_turn_7 h3 ?_
    refine kj_last X K h3 dL_turn_8 ?_
    refine kj_goto X (tgt := 15) dL_turn_9 (by decide) ?_
    refine kj_iconst X dL_turn_15 ?_
    cases hf
    exact kj_iret X (show knC (0) from ⟨by omega, by omega⟩) hr dL_turn_16 hlk
  · replace hf := knIq hf h4
    by_cases h7 : q1.1 = 1
    · replace hf := knIp hf h7
      refine kjx_catch X K hex 0 (by decide) h7 h6 knE_1 [] [] rfl (by decide) knPs_0 (knGm 918 (by decide +kernel) rfl) (knBm 445 (by decide +kernel) rfl) (fun q9 => ?_)
      refine kj_astoren X (L' := [(3, Value.ref q9), (0, knO G 0), (1, knV a1), (2, knO G 159)]) dL_turn_12 (by decide) rfl ?_
      refine kj_iconst X dL_turn_13 ?_
      cases hf
      exact kj_iret X (show knC (1) from ⟨by omega, by omega⟩) hr dL_turn_14 hlk
    · replace hf := knIq hf h7
      cases hf

def kfL_crossingAt (a1 : Int) (μ : knMem) : Option (Int × knMem) :=
 Option.bind (kfX12_crossingAt a1 μ) (fun q1 =>
  if q1.1 = 0 then
  some (0, (knUp μ 159 0 q1.2))
  else
  if q1.1 = 1 then
   some (1, μ)
   else
   none)

theorem knWhL_crossingAt : knWh yL_crossingAt cL_crossingAt 4 (some .int) [(0, 9, 12, 13)] 3 := ⟨(knGm 1028 (by decide +kernel) rfl), (knGm 113 (by decide +kernel) rfl), (knGm 1027 (by decide +kernel) rfl), by decide +kernel, by decide +kernel, by decide +kernel⟩
set_option maxHeartbeats 4000000 in
set_option maxRecDepth 100000 in
theorem kcL_crossingAt {G : knGT} (l : Launch) (hl : l.stackTraces = false) {a1 : Int} (ha1 : knC a1) {μ : knMem} {q : Int × knMem} (hf : kfL_crossingAt a1 μ = some q) : knCh G l yL_crossingAt cL_crossingAt 4 (some .int) [(0, 9, 12, 13)] 8 142 1 6 [knO G 0, knV a1, knO G 159] μ (knC q.1) (some (knV q.1)) q.2 := by
  unfold kfL_crossingAt at hf
  refine kn_ofJh (by decide) (Nat.le_of_ble_eq_true rfl) (L := [(0, knO G 0), (1, knV a1), (2, knO G 159)]) rfl ?_
  intro p e s m args below meth c X K hr hlk hex
  refine kj_aloadn X 2 dL_crossingAt_0 rfl ?_
  refine kj_iconst X dL_crossingAt_1 ?_
  refine kj_aloadn X 0 dL_crossingAt_2 rfl ?_
  refine kj_iloadn X 1 dL_crossingAt_3 rfl ?_
  obtain ⟨q1, h2, hf⟩ := knBd_inv hf
  refine kjx_callV (As := [knV a1]) (rest := [knV 0, knO G 159]) X K (kcX12_crossingAt l hl ha1 h2) knWvX12_crossingAt (knGm 1029 (by decide +kernel) rfl) (by decide) (knKd_in kdc_0 (by decide)) (knEnt_9 kdc_0) rfl rfl rfl (Nat.le_of_ble_eq_true rfl) (by decide) dL_crossingAt_4 rfl (fun h4 h3 => ?_) (fun E5 h4 h6 => ?_)
  · replace hf := knIp hf h4
    refine kj_i2l X dL_crossingAt_7 h3 ?_
    refine kj_last X K h3 dL_crossingAt_8 ?_
    refine kj_goto X (tgt := 15) dL_crossingAt_9 (by decide) ?_
    refine kj_iconst X dL_crossingAt_15 ?_
    cases hf
    exact kj_iret X (show knC (0) from ⟨by omega, by omega⟩) hr dL_crossingAt_16 hlk
  · replace hf := knIq hf h4
    by_cases h7 : q1.1 = 1
    · replace hf := knIp hf h7
      refine kjx_catch X K hex 0 (by decide) h7 h6 knE_1 [] [] rfl (by decide) knPs_0 (knGm 918 (by decide +kernel) rfl) (knBm 445 (by decide +kernel) rfl) (fun q9 => ?_)
      refine kj_astoren X (L' := [(3, Value.ref q9), (0, knO G 0), (1, knV a1), (2, knO G 159)]) dL_crossingAt_12 (by decide) rfl ?_
      refine kj_iconst X dL_crossingAt_13 ?_
      cases hf
      exact kj_iret X (show knC (1) from ⟨by omega, by omega⟩) hr dL_crossingAt_14 hlk
    · replace hf := knIq hf h7
      cases hf

def kfL_isOver (a1 : Int) (μ : knMem) : Option (Int × knMem) :=
 Option.bind (kfX12_isOver a1 μ) (fun q1 =>
  if q1.1 = 0 then
  some (0, (knUp μ 159 0 (if q1.2 = 0 then 0 else 1 : Int)))
  else
  if q1.1 = 1 then
   some (1, μ)
   else
   none)

theorem knWhL_isOver : knWh yL_isOver cL_isOver 4 (some .int) [(0, 16, 19, 13)] 3 := ⟨(knGm 1041 (by decide +kernel) rfl), (knGm 113 (by decide +kernel) rfl), (knGm 1040 (by decide +kernel) rfl), by decide +kernel, by decide +kernel, by decide +kernel⟩
set_option maxHeartbeats 4000000 in
set_option maxRecDepth 100000 in
theorem kcL_isOver {G : knGT} (l : Launch) (hl : l.stackTraces = false) {a1 : Int} (ha1 : knC a1) {μ : knMem} {q : Int × knMem} (hf : kfL_isOver a1 μ = some q) : knCh G l yL_isOver cL_isOver 4 (some .int) [(0, 16, 19, 13)] 8 142 1 6 [knO G 0, knV a1, knO G 159] μ (knC q.1) (some (knV q.1)) q.2 := by
  unfold kfL_isOver at hf
  refine kn_ofJh (by decide) (Nat.le_of_ble_eq_true rfl) (L := [(0, knO G 0), (1, knV a1), (2, knO G 159)]) rfl ?_
  intro p e s m args below meth c X K hr hlk hex
  refine kj_aloadn X 2 dL_isOver_0 rfl ?_
  refine kj_iconst X dL_isOver_1 ?_
  refine kj_aloadn X 0 dL_isOver_2 rfl ?_
  refine kj_iloadn X 1 dL_isOver_3 rfl ?_
  obtain ⟨q1, h2, hf⟩ := knBd_inv hf
  refine kjx_callV (As := [knV a1]) (rest := [knV 0, knO G 159]) X K (kcX12_isOver l hl ha1 h2) knWvX12_isOver (knGm 1042 (by decide +kernel) rfl) (by decide) (knKd_in kdc_0 (by decide)) (knEnt_9 kdc_0) rfl rfl rfl (Nat.le_of_ble_eq_true rfl) (by decide) dL_isOver_4 rfl (fun h4 h3 => ?_) (fun E5 h4 h6 => ?_)
  · replace hf := knIp hf h4
    have j8 : ∀ (t8_0 : Int) (et8_0 : t8_0 = (if q1.2 = 0 then 0 else 1 : Int)) (ht8_0 : knC t8_0), knJ G p l e { frames := 8, cells := 1, slots := 6, locals := 142 } s m args below meth c 4 (0 + 1) (0 + 6) (MQ below (knPo G (knC q.1) (some (knV q.1)) q.2) args s 1 6 (knA G)) 15 [] [knVl t8_0, knV 0, knO G 159] μ := by
      intro t8_0 et8_0 ht8_0
      subst et8_0
      refine kj_last X K ht8_0 dL_isOver_15 ?_
      refine kj_goto X (tgt := 22) dL_isOver_16 (by decide) ?_
      refine kj_iconst X dL_isOver_22 ?_
      cases hf
      exact kj_iret X (show knC (0) from ⟨by omega, by omega⟩) hr dL_isOver_23 hlk
    refine kj_if_eq X (tgt := 14) dL_isOver_7 (by decide) (knZ_c h3) (fun h10 => ?_) (fun h10 => ?_)
    · refine kj_lconst X (x := 0) dL_isOver_14 rfl ?_
      refine kj_sub (L' := []) [] rfl ?_
      exact j8 0 (by rw [if_pos h10]) (show knC (0) from ⟨by omega, by omega⟩)
    · refine kj_lconst X (x := 1) dL_isOver_10 rfl ?_
      refine kj_goto X (tgt := 15) dL_isOver_11 (by decide) ?_
      refine kj_sub (L' := []) [] rfl ?_
      exact j8 1 (by rw [if_neg h10]) (show knC (1) from ⟨by omega, by omega⟩)
  · replace hf := knIq hf h4
    by_cases h11 : q1.1 = 1
    · replace hf := knIp hf h11
      refine kjx_catch X K hex 0 (by decide) h11 h6 knE_1 [] [] rfl (by decide) knPs_0 (knGm 918 (by decide +kernel) rfl) (knBm 445 (by decide +kernel) rfl) (fun q9 => ?_)
      refine kj_astoren X (L' := [(3, Value.ref q9), (0, knO G 0), (1, knV a1), (2, knO G 159)]) dL_isOver_19 (by decide) rfl ?_
      refine kj_iconst X dL_isOver_20 ?_
      cases hf
      exact kj_iret X (show knC (1) from ⟨by omega, by omega⟩) hr dL_isOver_21 hlk
    · replace hf := knIq hf h11
      cases hf

def kfL_isPositive (a1 : Int) (μ : knMem) : Option (Int × knMem) :=
 Option.bind (kfX12_isPositive a1 μ) (fun q1 =>
  if q1.1 = 0 then
  some (0, (knUp μ 159 0 (if q1.2 = 0 then 0 else 1 : Int)))
  else
  if q1.1 = 1 then
   some (1, μ)
   else
   none)

theorem knWhL_isPositive : knWh yL_isPositive cL_isPositive 4 (some .int) [(0, 16, 19, 13)] 3 := ⟨(knGm 1048 (by decide +kernel) rfl), (knGm 113 (by decide +kernel) rfl), (knGm 1047 (by decide +kernel) rfl), by decide +kernel, by decide +kernel, by decide +kernel⟩
set_option maxHeartbeats 4000000 in
set_option maxRecDepth 100000 in
theorem kcL_isPositive {G : knGT} (l : Launch) (hl : l.stackTraces = false) {a1 : Int} (ha1 : knC a1) {μ : knMem} {q : Int × knMem} (hf : kfL_isPositive a1 μ = some q) : knCh G l yL_isPositive cL_isPositive 4 (some .int) [(0, 16, 19, 13)] 8 142 1 6 [knO G 0, knV a1, knO G 159] μ (knC q.1) (some (knV q.1)) q.2 := by
  unfold kfL_isPositive at hf
  refine kn_ofJh (by decide) (Nat.le_of_ble_eq_true rfl) (L := [(0, knO G 0), (1, knV a1), (2, knO G 159)]) rfl ?_
  intro p e s m args below meth c X K hr hlk hex
  refine kj_aloadn X 2 dL_isPositive_0 rfl ?_
  refine kj_iconst X dL_isPositive_1 ?_
  refine kj_aloadn X 0 dL_isPositive_2 rfl ?_
  refine kj_iloadn X 1 dL_isPositive_3 rfl ?_
  obtain ⟨q1, h2, hf⟩ := knBd_inv hf
  refine kjx_callV (As := [knV a1]) (rest := [knV 0, knO G 159]) X K (kcX12_isPositive l hl ha1 h2) knWvX12_isPositive (knGm 1049 (by decide +kernel) rfl) (by decide) (knKd_in kdc_0 (by decide)) (knEnt_9 kdc_0) rfl rfl rfl (Nat.le_of_ble_eq_true rfl) (by decide) dL_isPositive_4 rfl (fun h4 h3 => ?_) (fun E5 h4 h6 => ?_)
  · replace hf := knIp hf h4
    have j8 : ∀ (t8_0 : Int) (et8_0 : t8_0 = (if q1.2 = 0 then 0 else 1 : Int)) (ht8_0 : knC t8_0), knJ G p l e { frames := 8, cells := 1, slots := 6, locals := 142 } s m args below meth c 4 (0 + 1) (0 + 6) (MQ below (knPo G (knC q.1) (some (knV q.1)) q.2) args s 1 6 (knA G)) 15 [] [knVl t8_0, knV 0, knO G 159] μ := by
      intro t8_0 et8_0 ht8_0
      subst et8_0
      refine kj_last X K ht8_0 dL_isPositive_15 ?_
      refine kj_goto X (tgt := 22) dL_isPositive_16 (by decide) ?_
      refine kj_iconst X dL_isPositive_22 ?_
      cases hf
      exact kj_iret X (show knC (0) from ⟨by omega, by omega⟩) hr dL_isPositive_23 hlk
    refine kj_if_eq X (tgt := 14) dL_isPositive_7 (by decide) (knZ_c h3) (fun h10 => ?_) (fun h10 => ?_)
    · refine kj_lconst X (x := 0) dL_isPositive_14 rfl ?_
      refine kj_sub (L' := []) [] rfl ?_
      exact j8 0 (by rw [if_pos h10]) (show knC (0) from ⟨by omega, by omega⟩)
    · refine kj_lconst X (x := 1) dL_isPositive_10 rfl ?_
      refine kj_goto X (tgt := 15) dL_isPositive_11 (by decide) ?_
      refine kj_sub (L' := []) [] rfl ?_
      exact j8 1 (by rw [if_neg h10]) (show knC (1) from ⟨by omega, by omega⟩)
  · replace hf := knIq hf h4
    by_cases h11 : q1.1 = 1
    · replace hf := knIp hf h11
      refine kjx_catch X K hex 0 (by decide) h11 h6 knE_1 [] [] rfl (by decide) knPs_0 (knGm 918 (by decide +kernel) rfl) (knBm 445 (by decide +kernel) rfl) (fun q9 => ?_)
      refine kj_astoren X (L' := [(3, Value.ref q9), (0, knO G 0), (1, knV a1), (2, knO G 159)]) dL_isPositive_19 (by decide) rfl ?_
      refine kj_iconst X dL_isPositive_20 ?_
      cases hf
      exact kj_iret X (show knC (1) from ⟨by omega, by omega⟩) hr dL_isPositive_21 hlk
    · replace hf := knIq hf h11
      cases hf

def kfL_overPosition (a1 : Int) (μ : knMem) : Option (Int × knMem) :=
 Option.bind (kfX12_overPosition a1 μ) (fun q1 =>
  if q1.1 = 0 then
  some (0, (knUp μ 159 0 q1.2))
  else
  if q1.1 = 1 then
   some (1, μ)
   else
   none)

theorem knWhL_overPosition : knWh yL_overPosition cL_overPosition 4 (some .int) [(0, 9, 12, 13)] 3 := ⟨(knGm 1061 (by decide +kernel) rfl), (knGm 113 (by decide +kernel) rfl), (knGm 1060 (by decide +kernel) rfl), by decide +kernel, by decide +kernel, by decide +kernel⟩
set_option maxHeartbeats 4000000 in
set_option maxRecDepth 100000 in
theorem kcL_overPosition {G : knGT} (l : Launch) (hl : l.stackTraces = false) {a1 : Int} (ha1 : knC a1) {μ : knMem} {q : Int × knMem} (hf : kfL_overPosition a1 μ = some q) : knCh G l yL_overPosition cL_overPosition 4 (some .int) [(0, 9, 12, 13)] 8 142 1 6 [knO G 0, knV a1, knO G 159] μ (knC q.1) (some (knV q.1)) q.2 := by
  unfold kfL_overPosition at hf
  refine kn_ofJh (by decide) (Nat.le_of_ble_eq_true rfl) (L := [(0, knO G 0), (1, knV a1), (2, knO G 159)]) rfl ?_
  intro p e s m args below meth c X K hr hlk hex
  refine kj_aloadn X 2 dL_overPosition_0 rfl ?_
  refine kj_iconst X dL_overPosition_1 ?_
  refine kj_aloadn X 0 dL_overPosition_2 rfl ?_
  refine kj_iloadn X 1 dL_overPosition_3 rfl ?_
  obtain ⟨q1, h2, hf⟩ := knBd_inv hf
  refine kjx_callV (As := [knV a1]) (rest := [knV 0, knO G 159]) X K (kcX12_overPosition l hl ha1 h2) knWvX12_overPosition (knGm 1062 (by decide +kernel) rfl) (by decide) (knKd_in kdc_0 (by decide)) (knEnt_9 kdc_0) rfl rfl rfl (Nat.le_of_ble_eq_true rfl) (by decide) dL_overPosition_4 rfl (fun h4 h3 => ?_) (fun E5 h4 h6 => ?_)
  · replace hf := knIp hf h4
    refine kj_i2l X dL_overPosition_7 h3 ?_
    refine kj_last X K h3 dL_overPosition_8 ?_
    refine kj_goto X (tgt := 15) dL_overPosition_9 (by decide) ?_
    refine kj_iconst X dL_overPosition_15 ?_
    cases hf
    exact kj_iret X (show knC (0) from ⟨by omega, by omega⟩) hr dL_overPosition_16 hlk
  · replace hf := knIq hf h4
    by_cases h7 : q1.1 = 1
    · replace hf := knIp hf h7
      refine kjx_catch X K hex 0 (by decide) h7 h6 knE_1 [] [] rfl (by decide) knPs_0 (knGm 918 (by decide +kernel) rfl) (knBm 445 (by decide +kernel) rfl) (fun q9 => ?_)
      refine kj_astoren X (L' := [(3, Value.ref q9), (0, knO G 0), (1, knV a1), (2, knO G 159)]) dL_overPosition_12 (by decide) rfl ?_
      refine kj_iconst X dL_overPosition_13 ?_
      cases hf
      exact kj_iret X (show knC (1) from ⟨by omega, by omega⟩) hr dL_overPosition_14 hlk
    · replace hf := knIq hf h7
      cases hf

def kfL_underPosition (a1 : Int) (μ : knMem) : Option (Int × knMem) :=
 Option.bind (kfX12_underPosition a1 μ) (fun q1 =>
  if q1.1 = 0 then
  some (0, (knUp μ 159 0 q1.2))
  else
  if q1.1 = 1 then
   some (1, μ)
   else
   none)

theorem knWhL_underPosition : knWh yL_underPosition cL_underPosition 4 (some .int) [(0, 9, 12, 13)] 3 := ⟨(knGm 1068 (by decide +kernel) rfl), (knGm 113 (by decide +kernel) rfl), (knGm 1067 (by decide +kernel) rfl), by decide +kernel, by decide +kernel, by decide +kernel⟩
set_option maxHeartbeats 4000000 in
set_option maxRecDepth 100000 in
theorem kcL_underPosition {G : knGT} (l : Launch) (hl : l.stackTraces = false) {a1 : Int} (ha1 : knC a1) {μ : knMem} {q : Int × knMem} (hf : kfL_underPosition a1 μ = some q) : knCh G l yL_underPosition cL_underPosition 4 (some .int) [(0, 9, 12, 13)] 8 142 1 6 [knO G 0, knV a1, knO G 159] μ (knC q.1) (some (knV q.1)) q.2 := by
  unfold kfL_underPosition at hf
  refine kn_ofJh (by decide) (Nat.le_of_ble_eq_true rfl) (L := [(0, knO G 0), (1, knV a1), (2, knO G 159)]) rfl ?_
  intro p e s m args below meth c X K hr hlk hex
  refine kj_aloadn X 2 dL_underPosition_0 rfl ?_
  refine kj_iconst X dL_underPosition_1 ?_
  refine kj_aloadn X 0 dL_underPosition_2 rfl ?_
  refine kj_iloadn X 1 dL_underPosition_3 rfl ?_
  obtain ⟨q1, h2, hf⟩ := knBd_inv hf
  refine kjx_callV (As := [knV a1]) (rest := [knV 0, knO G 159]) X K (kcX12_underPosition l hl ha1 h2) knWvX12_underPosition (knGm 1069 (by decide +kernel) rfl) (by decide) (knKd_in kdc_0 (by decide)) (knEnt_9 kdc_0) rfl rfl rfl (Nat.le_of_ble_eq_true rfl) (by decide) dL_underPosition_4 rfl (fun h4 h3 => ?_) (fun E5 h4 h6 => ?_)
  · replace hf := knIp hf h4
    refine kj_i2l X dL_underPosition_7 h3 ?_
    refine kj_last X K h3 dL_underPosition_8 ?_
    refine kj_goto X (tgt := 15) dL_underPosition_9 (by decide) ?_
    refine kj_iconst X dL_underPosition_15 ?_
    cases hf
    exact kj_iret X (show knC (0) from ⟨by omega, by omega⟩) hr dL_underPosition_16 hlk
  · replace hf := knIq hf h4
    by_cases h7 : q1.1 = 1
    · replace hf := knIp hf h7
      refine kjx_catch X K hex 0 (by decide) h7 h6 knE_1 [] [] rfl (by decide) knPs_0 (knGm 918 (by decide +kernel) rfl) (knBm 445 (by decide +kernel) rfl) (fun q9 => ?_)
      refine kj_astoren X (L' := [(3, Value.ref q9), (0, knO G 0), (1, knV a1), (2, knO G 159)]) dL_underPosition_12 (by decide) rfl ?_
      refine kj_iconst X dL_underPosition_13 ?_
      cases hf
      exact kj_iret X (show knC (1) from ⟨by omega, by omega⟩) hr dL_underPosition_14 hlk
    · replace hf := knIq hf h7
      cases hf

def kfL_isCurl (a1 : Int) (μ : knMem) : Option (Int × knMem) :=
 Option.bind (kfX12_isCurl a1 μ) (fun q1 =>
  if q1.1 = 0 then
  some (0, (knUp μ 159 0 (if q1.2 = 0 then 0 else 1 : Int)))
  else
  if q1.1 = 1 then
   some (1, μ)
   else
   none)

theorem knWhL_isCurl : knWh yL_isCurl cL_isCurl 4 (some .int) [(0, 16, 19, 13)] 3 := ⟨(knGm 1075 (by decide +kernel) rfl), (knGm 113 (by decide +kernel) rfl), (knGm 1074 (by decide +kernel) rfl), by decide +kernel, by decide +kernel, by decide +kernel⟩
set_option maxHeartbeats 4000000 in
set_option maxRecDepth 100000 in
theorem kcL_isCurl {G : knGT} (l : Launch) (hl : l.stackTraces = false) {a1 : Int} (ha1 : knC a1) {μ : knMem} {q : Int × knMem} (hf : kfL_isCurl a1 μ = some q) : knCh G l yL_isCurl cL_isCurl 4 (some .int) [(0, 16, 19, 13)] 8 142 1 6 [knO G 0, knV a1, knO G 159] μ (knC q.1) (some (knV q.1)) q.2 := by
  unfold kfL_isCurl at hf
  refine kn_ofJh (by decide) (Nat.le_of_ble_eq_true rfl) (L := [(0, knO G 0), (1, knV a1), (2, knO G 159)]) rfl ?_
  intro p e s m args below meth c X K hr hlk hex
  refine kj_aloadn X 2 dL_isCurl_0 rfl ?_
  refine kj_iconst X dL_isCurl_1 ?_
  refine kj_aloadn X 0 dL_isCurl_2 rfl ?_
  refine kj_iloadn X 1 dL_isCurl_3 rfl ?_
  obtain ⟨q1, h2, hf⟩ := knBd_inv hf
  refine kjx_callV (As := [knV a1]) (rest := [knV 0, knO G 159]) X K (kcX12_isCurl l hl ha1 h2) knWvX12_isCurl (knGm 1076 (by decide +kernel) rfl) (by decide) (knKd_in kdc_0 (by decide)) (knEnt_9 kdc_0) rfl rfl rfl (Nat.le_of_ble_eq_true rfl) (by decide) dL_isCurl_4 rfl (fun h4 h3 => ?_) (fun E5 h4 h6 => ?_)
  · replace hf := knIp hf h4
    have j8 : ∀ (t8_0 : Int) (et8_0 : t8_0 = (if q1.2 = 0 then 0 else 1 : Int)) (ht8_0 : knC t8_0), knJ G p l e { frames := 8, cells := 1, slots := 6, locals := 142 } s m args below meth c 4 (0 + 1) (0 + 6) (MQ below (knPo G (knC q.1) (some (knV q.1)) q.2) args s 1 6 (knA G)) 15 [] [knVl t8_0, knV 0, knO G 159] μ := by
      intro t8_0 et8_0 ht8_0
      subst et8_0
      refine kj_last X K ht8_0 dL_isCurl_15 ?_
      refine kj_goto X (tgt := 22) dL_isCurl_16 (by decide) ?_
      refine kj_iconst X dL_isCurl_22 ?_
      cases hf
      exact kj_iret X (show knC (0) from ⟨by omega, by omega⟩) hr dL_isCurl_23 hlk
    refine kj_if_eq X (tgt := 14) dL_isCurl_7 (by decide) (knZ_c h3) (fun h10 => ?_) (fun h10 => ?_)
    · refine kj_lconst X (x := 0) dL_isCurl_14 rfl ?_
      refine kj_sub (L' := []) [] rfl ?_
      exact j8 0 (by rw [if_pos h10]) (show knC (0) from ⟨by omega, by omega⟩)
    · refine kj_lconst X (x := 1) dL_isCurl_10 rfl ?_
      refine kj_goto X (tgt := 15) dL_isCurl_11 (by decide) ?_
      refine kj_sub (L' := []) [] rfl ?_
      exact j8 1 (by rw [if_neg h10]) (show knC (1) from ⟨by omega, by omega⟩)
  · replace hf := knIq hf h4
    by_cases h11 : q1.1 = 1
    · replace hf := knIp hf h11
      refine kjx_catch X K hex 0 (by decide) h11 h6 knE_1 [] [] rfl (by decide) knPs_0 (knGm 918 (by decide +kernel) rfl) (knBm 445 (by decide +kernel) rfl) (fun q9 => ?_)
      refine kj_astoren X (L' := [(3, Value.ref q9), (0, knO G 0), (1, knV a1), (2, knO G 159)]) dL_isCurl_19 (by decide) rfl ?_
      refine kj_iconst X dL_isCurl_20 ?_
      cases hf
      exact kj_iret X (show knC (1) from ⟨by omega, by omega⟩) hr dL_isCurl_21 hlk
    · replace hf := knIq hf h11
      cases hf

def kfL_isPoke (a1 : Int) (a2 : Int) (μ : knMem) : Option (Int × knMem) :=
 Option.bind (kfX12_isPoke a1 a2 μ) (fun q1 =>
  if q1.1 = 0 then
  some (0, (knUp μ 159 0 (if q1.2 = 0 then 0 else 1 : Int)))
  else
  if q1.1 = 1 then
   some (1, μ)
   else
   none)

theorem knWhL_isPoke : knWh yL_isPoke cL_isPoke 5 (some .int) [(0, 17, 20, 13)] 4 := ⟨(knGm 1083 (by decide +kernel) rfl), (knGm 113 (by decide +kernel) rfl), (knGm 1082 (by decide +kernel) rfl), by decide +kernel, by decide +kernel, by decide +kernel⟩
set_option maxHeartbeats 4000000 in
set_option maxRecDepth 100000 in
theorem kcL_isPoke {G : knGT} (l : Launch) (hl : l.stackTraces = false) {a1 : Int} {a2 : Int} (ha1 : knC a1) (ha2 : knC a2) {μ : knMem} {q : Int × knMem} (hf : kfL_isPoke a1 a2 μ = some q) : knCh G l yL_isPoke cL_isPoke 5 (some .int) [(0, 17, 20, 13)] 8 143 2 12 [knO G 0, knV a1, knV a2, knO G 159] μ (knC q.1) (some (knV q.1)) q.2 := by
  unfold kfL_isPoke at hf
  refine kn_ofJh (by decide) (Nat.le_of_ble_eq_true rfl) (L := [(0, knO G 0), (1, knV a1), (2, knV a2), (3, knO G 159)]) rfl ?_
  intro p e s m args below meth c X K hr hlk hex
  refine kj_aloadn X 3 dL_isPoke_0 rfl ?_
  refine kj_iconst X dL_isPoke_1 ?_
  refine kj_aloadn X 0 dL_isPoke_2 rfl ?_
  refine kj_iloadn X 1 dL_isPoke_3 rfl ?_
  refine kj_iloadn X 2 dL_isPoke_4 rfl ?_
  obtain ⟨q1, h2, hf⟩ := knBd_inv hf
  refine kjx_callV (As := [knV a1, knV a2]) (rest := [knV 0, knO G 159]) X K (kcX12_isPoke l hl ha1 ha2 h2) knWvX12_isPoke (knGm 1084 (by decide +kernel) rfl) (by decide) (knKd_in kdc_0 (by decide)) (knEnt_9 kdc_0) rfl rfl rfl (Nat.le_of_ble_eq_true rfl) (by decide) dL_isPoke_5 rfl (fun h4 h3 => ?_) (fun E5 h4 h6 => ?_)
  · replace hf := knIp hf h4
    have j8 : ∀ (t8_0 : Int) (et8_0 : t8_0 = (if q1.2 = 0 then 0 else 1 : Int)) (ht8_0 : knC t8_0), knJ G p l e { frames := 8, cells := 2, slots := 12, locals := 143 } s m args below meth c 5 (0 + 2) (0 + 12) (MQ below (knPo G (knC q.1) (some (knV q.1)) q.2) args s 2 12 (knA G)) 16 [] [knVl t8_0, knV 0, knO G 159] μ := by
      intro t8_0 et8_0 ht8_0
      subst et8_0
      refine kj_last X K ht8_0 dL_isPoke_16 ?_
      refine kj_goto X (tgt := 24) dL_isPoke_17 (by decide) ?_
      refine kj_iconst X dL_isPoke_24 ?_
      cases hf
      exact kj_iret X (show knC (0) from ⟨by omega, by omega⟩) hr dL_isPoke_25 hlk
    refine kj_if_eq X (tgt := 15) dL_isPoke_8 (by decide) (knZ_c h3) (fun h10 => ?_) (fun h10 => ?_)
    · refine kj_lconst X (x := 0) dL_isPoke_15 rfl ?_
      refine kj_sub (L' := []) [] rfl ?_
      exact j8 0 (by rw [if_pos h10]) (show knC (0) from ⟨by omega, by omega⟩)
    · refine kj_lconst X (x := 1) dL_isPoke_11 rfl ?_
      refine kj_goto X (tgt := 16) dL_isPoke_12 (by decide) ?_
      refine kj_sub (L' := []) [] rfl ?_
      exact j8 1 (by rw [if_neg h10]) (show knC (1) from ⟨by omega, by omega⟩)
  · replace hf := knIq hf h4
    by_cases h11 : q1.1 = 1
    · replace hf := knIp hf h11
      refine kjx_catch X K hex 0 (by decide) h11 h6 knE_1 [] [] rfl (by decide) knPs_0 (knGm 918 (by decide +kernel) rfl) (knBm 445 (by decide +kernel) rfl) (fun q9 => ?_)
      refine kj_astore X (L' := [(4, Value.ref q9), (0, knO G 0), (1, knV a1), (2, knV a2), (3, knO G 159)]) dL_isPoke_20 (by decide) rfl ?_
      refine kj_iconst X dL_isPoke_22 ?_
      cases hf
      exact kj_iret X (show knC (1) from ⟨by omega, by omega⟩) hr dL_isPoke_23 hlk
    · replace hf := knIq hf h11
      cases hf

def kfL_crossingByChord (a1 : Int) (μ : knMem) : Option (Int × knMem) :=
 Option.bind (kfX12_crossingByChord a1 μ) (fun q1 =>
  if q1.1 = 0 then
  some (0, (knUp μ 159 0 q1.2))
  else
  if q1.1 = 5 then
   some (1, μ)
   else
   none)

theorem knWhL_crossingByChord : knWh yL_crossingByChord cL_crossingByChord 4 (some .int) [(0, 9, 12, 63)] 3 := ⟨(knGm 1091 (by decide +kernel) rfl), (knGm 113 (by decide +kernel) rfl), (knGm 1090 (by decide +kernel) rfl), by decide +kernel, by decide +kernel, by decide +kernel⟩
set_option maxHeartbeats 4000000 in
set_option maxRecDepth 100000 in
theorem kcL_crossingByChord {G : knGT} (l : Launch) (hl : l.stackTraces = false) {a1 : Int} (ha1 : knC a1) {μ : knMem} {q : Int × knMem} (hf : kfL_crossingByChord a1 μ = some q) : knCh G l yL_crossingByChord cL_crossingByChord 4 (some .int) [(0, 9, 12, 63)] 7 121 1 6 [knO G 0, knV a1, knO G 159] μ (knC q.1) (some (knV q.1)) q.2 := by
  unfold kfL_crossingByChord at hf
  refine kn_ofJh (by decide) (Nat.le_of_ble_eq_true rfl) (L := [(0, knO G 0), (1, knV a1), (2, knO G 159)]) rfl ?_
  intro p e s m args below meth c X K hr hlk hex
  refine kj_aloadn X 2 dL_crossingByChord_0 rfl ?_
  refine kj_iconst X dL_crossingByChord_1 ?_
  refine kj_aloadn X 0 dL_crossingByChord_2 rfl ?_
  refine kj_iloadn X 1 dL_crossingByChord_3 rfl ?_
  obtain ⟨q1, h2, hf⟩ := knBd_inv hf
  refine kjx_callV (As := [knV a1]) (rest := [knV 0, knO G 159]) X K (kcX12_crossingByChord l hl ha1 h2) knWvX12_crossingByChord (knGm 1093 (by decide +kernel) rfl) (by decide) (knKd_in kdc_0 (by decide)) (knEnt_9 kdc_0) rfl rfl rfl (Nat.le_of_ble_eq_true rfl) (by decide) dL_crossingByChord_4 rfl (fun h4 h3 => ?_) (fun E5 h4 h6 => ?_)
  · replace hf := knIp hf h4
    refine kj_i2l X dL_crossingByChord_7 h3 ?_
    refine kj_last X K h3 dL_crossingByChord_8 ?_
    refine kj_goto X (tgt := 15) dL_crossingByChord_9 (by decide) ?_
    refine kj_iconst X dL_crossingByChord_15 ?_
    cases hf
    exact kj_iret X (show knC (0) from ⟨by omega, by omega⟩) hr dL_crossingByChord_16 hlk
  · replace hf := knIq hf h4
    by_cases h7 : q1.1 = 5
    · replace hf := knIp hf h7
      refine kjx_catch X K hex 4 (by decide) h7 h6 knE_5 [] [] rfl (by decide) knPs_0 (knGm 1092 (by decide +kernel) rfl) (knBm 573 (by decide +kernel) rfl) (fun q9 => ?_)
      refine kj_astoren X (L' := [(3, Value.ref q9), (0, knO G 0), (1, knV a1), (2, knO G 159)]) dL_crossingByChord_12 (by decide) rfl ?_
      refine kj_iconst X dL_crossingByChord_13 ?_
      cases hf
      exact kj_iret X (show knC (1) from ⟨by omega, by omega⟩) hr dL_crossingByChord_14 hlk
    · replace hf := knIq hf h7
      cases hf

def kfL_arcAt (a1 : Int) (μ : knMem) : Option (Int × knMem) :=
 Option.bind (kfX12_arcAt a1 μ) (fun q1 =>
  if q1.1 = 0 then
  some (0, (knUp μ 159 0 q1.2))
  else
  if q1.1 = 1 then
   some (1, μ)
   else
   none)

theorem knWhL_arcAt : knWh yL_arcAt cL_arcAt 4 (some .int) [(0, 9, 12, 13)] 3 := ⟨(knGm 1108 (by decide +kernel) rfl), (knGm 113 (by decide +kernel) rfl), (knGm 1107 (by decide +kernel) rfl), by decide +kernel, by decide +kernel, by decide +kernel⟩
set_option maxHeartbeats 4000000 in
set_option maxRecDepth 100000 in
theorem kcL_arcAt {G : knGT} (l : Launch) (hl : l.stackTraces = false) {a1 : Int} (ha1 : knC a1) {μ : knMem} {q : Int × knMem} (hf : kfL_arcAt a1 μ = some q) : knCh G l yL_arcAt cL_arcAt 4 (some .int) [(0, 9, 12, 13)] 8 142 1 6 [knO G 0, knV a1, knO G 159] μ (knC q.1) (some (knV q.1)) q.2 := by
  unfold kfL_arcAt at hf
  refine kn_ofJh (by decide) (Nat.le_of_ble_eq_true rfl) (L := [(0, knO G 0), (1, knV a1), (2, knO G 159)]) rfl ?_
  intro p e s m args below meth c X K hr hlk hex
  refine kj_aloadn X 2 dL_arcAt_0 rfl ?_
  refine kj_iconst X dL_arcAt_1 ?_
  refine kj_aloadn X 0 dL_arcAt_2 rfl ?_
  refine kj_iloadn X 1 dL_arcAt_3 rfl ?_
  obtain ⟨q1, h2, hf⟩ := knBd_inv hf
  refine kjx_callV (As := [knV a1]) (rest := [knV 0, knO G 159]) X K (kcX12_arcAt l hl ha1 h2) knWvX12_arcAt (knGm 1109 (by decide +kernel) rfl) (by decide) (knKd_in kdc_0 (by decide)) (knEnt_9 kdc_0) rfl rfl rfl (Nat.le_of_ble_eq_true rfl) (by decide) dL_arcAt_4 rfl (fun h4 h3 => ?_) (fun E5 h4 h6 => ?_)
  · replace hf := knIp hf h4
    refine kj_i2l X dL_arcAt_7 h3 ?_
    refine kj_last X K h3 dL_arcAt_8 ?_
    refine kj_goto X (tgt := 15) dL_arcAt_9 (by decide) ?_
    refine kj_iconst X dL_arcAt_15 ?_
    cases hf
    exact kj_iret X (show knC (0) from ⟨by omega, by omega⟩) hr dL_arcAt_16 hlk
  · replace hf := knIq hf h4
    by_cases h7 : q1.1 = 1
    · replace hf := knIp hf h7
      refine kjx_catch X K hex 0 (by decide) h7 h6 knE_1 [] [] rfl (by decide) knPs_0 (knGm 918 (by decide +kernel) rfl) (knBm 445 (by decide +kernel) rfl) (fun q9 => ?_)
      refine kj_astoren X (L' := [(3, Value.ref q9), (0, knO G 0), (1, knV a1), (2, knO G 159)]) dL_arcAt_12 (by decide) rfl ?_
      refine kj_iconst X dL_arcAt_13 ?_
      cases hf
      exact kj_iret X (show knC (1) from ⟨by omega, by omega⟩) hr dL_arcAt_14 hlk
    · replace hf := knIq hf h7
      cases hf

def kfL_colourings (a1 : Int) (μ : knMem) : Option (Int × knMem) :=
 Option.bind (kfX12_colourings a1 μ) (fun q1 =>
  if q1.1 = 0 then
  some (0, (knUp q1.2.2 159 0 q1.2.1))
  else
  if q1.1 = 2 then
   some (1, q1.2.2)
   else
   none)

theorem knWhL_colourings : knWh yL_colourings cL_colourings 4 (some .int) [(0, 9, 12, 71)] 3 := ⟨(knGm 1116 (by decide +kernel) rfl), (knGm 113 (by decide +kernel) rfl), (knGm 1115 (by decide +kernel) rfl), by decide +kernel, by decide +kernel, by decide +kernel⟩
set_option maxHeartbeats 4000000 in
set_option maxRecDepth 100000 in
theorem kcL_colourings {G : knGT} (l : Launch) (hl : l.stackTraces = false) {a1 : Int} (ha1 : knC a1) {μ : knMem} {q : Int × knMem} (hf : kfL_colourings a1 μ = some q) : knCh G l yL_colourings cL_colourings 4 (some .int) [(0, 9, 12, 71)] 7 121 1 6 [knO G 0, knV a1, knO G 159] μ (knC q.1) (some (knV q.1)) q.2 := by
  unfold kfL_colourings at hf
  refine kn_ofJh (by decide) (Nat.le_of_ble_eq_true rfl) (L := [(0, knO G 0), (1, knV a1), (2, knO G 159)]) rfl ?_
  intro p e s m args below meth c X K hr hlk hex
  refine kj_aloadn X 2 dL_colourings_0 rfl ?_
  refine kj_iconst X dL_colourings_1 ?_
  refine kj_aloadn X 0 dL_colourings_2 rfl ?_
  refine kj_iloadn X 1 dL_colourings_3 rfl ?_
  obtain ⟨q1, h2, hf⟩ := knBd_inv hf
  refine kjx_callV (As := [knV a1]) (rest := [knV 0, knO G 159]) X K (kcX12_colourings l hl ha1 h2) knWvX12_colourings (knGm 1118 (by decide +kernel) rfl) (by decide) (knKd_in kdc_0 (by decide)) (knEnt_9 kdc_0) rfl rfl rfl (Nat.le_of_ble_eq_true rfl) (by decide) dL_colourings_4 rfl (fun h4 h3 => ?_) (fun E5 h4 h6 => ?_)
  · replace hf := knIp hf h4
    refine kj_i2l X dL_colourings_7 h3 ?_
    refine kj_last X K h3 dL_colourings_8 ?_
    refine kj_goto X (tgt := 15) dL_colourings_9 (by decide) ?_
    refine kj_iconst X dL_colourings_15 ?_
    cases hf
    exact kj_iret X (show knC (0) from ⟨by omega, by omega⟩) hr dL_colourings_16 hlk
  · replace hf := knIq hf h4
    by_cases h7 : q1.1 = 2
    · replace hf := knIp hf h7
      refine kjx_catch X K hex 1 (by decide) h7 h6 knE_2 [] [] rfl (by decide) knPs_0 (knGm 1117 (by decide +kernel) rfl) (knBm 519 (by decide +kernel) rfl) (fun q9 => ?_)
      refine kj_astoren X (L' := [(3, Value.ref q9), (0, knO G 0), (1, knV a1), (2, knO G 159)]) dL_colourings_12 (by decide) rfl ?_
      refine kj_iconst X dL_colourings_13 ?_
      cases hf
      exact kj_iret X (show knC (1) from ⟨by omega, by omega⟩) hr dL_colourings_14 hlk
    · replace hf := knIq hf h7
      cases hf

def kfL_loops (a1 : Int) (μ : knMem) : Option (Int × knMem) :=
 Option.bind (kfX12_loops a1 μ) (fun q1 =>
  if q1.1 = 0 then
  some (0, (knUp q1.2.2 159 0 q1.2.1))
  else
  if q1.1 = 2 then
   some (1, q1.2.2)
   else
   none)

theorem knWhL_loops : knWh yL_loops cL_loops 4 (some .int) [(0, 9, 12, 71)] 3 := ⟨(knGm 1125 (by decide +kernel) rfl), (knGm 113 (by decide +kernel) rfl), (knGm 1124 (by decide +kernel) rfl), by decide +kernel, by decide +kernel, by decide +kernel⟩
set_option maxHeartbeats 4000000 in
set_option maxRecDepth 100000 in
theorem kcL_loops {G : knGT} (l : Launch) (hl : l.stackTraces = false) {a1 : Int} (ha1 : knC a1) {μ : knMem} {q : Int × knMem} (hf : kfL_loops a1 μ = some q) : knCh G l yL_loops cL_loops 4 (some .int) [(0, 9, 12, 71)] 7 121 1 6 [knO G 0, knV a1, knO G 159] μ (knC q.1) (some (knV q.1)) q.2 := by
  unfold kfL_loops at hf
  refine kn_ofJh (by decide) (Nat.le_of_ble_eq_true rfl) (L := [(0, knO G 0), (1, knV a1), (2, knO G 159)]) rfl ?_
  intro p e s m args below meth c X K hr hlk hex
  refine kj_aloadn X 2 dL_loops_0 rfl ?_
  refine kj_iconst X dL_loops_1 ?_
  refine kj_aloadn X 0 dL_loops_2 rfl ?_
  refine kj_iloadn X 1 dL_loops_3 rfl ?_
  obtain ⟨q1, h2, hf⟩ := knBd_inv hf
  refine kjx_callV (As := [knV a1]) (rest := [knV 0, knO G 159]) X K (kcX12_loops l hl ha1 h2) knWvX12_loops (knGm 1126 (by decide +kernel) rfl) (by decide) (knKd_in kdc_0 (by decide)) (knEnt_9 kdc_0) rfl rfl rfl (Nat.le_of_ble_eq_true rfl) (by decide) dL_loops_4 rfl (fun h4 h3 => ?_) (fun E5 h4 h6 => ?_)
  · replace hf := knIp hf h4
    refine kj_i2l X dL_loops_7 h3 ?_
    refine kj_last X K h3 dL_loops_8 ?_
    refine kj_goto X (tgt := 15) dL_loops_9 (by decide) ?_
    refine kj_iconst X dL_loops_15 ?_
    cases hf
    exact kj_iret X (show knC (0) from ⟨by omega, by omega⟩) hr dL_loops_16 hlk
  · replace hf := knIq hf h4
    by_cases h7 : q1.1 = 2
    · replace hf := knIp hf h7
      refine kjx_catch X K hex 1 (by decide) h7 h6 knE_2 [] [] rfl (by decide) knPs_0 (knGm 1117 (by decide +kernel) rfl) (knBm 519 (by decide +kernel) rfl) (fun q9 => ?_)
      refine kj_astoren X (L' := [(3, Value.ref q9), (0, knO G 0), (1, knV a1), (2, knO G 159)]) dL_loops_12 (by decide) rfl ?_
      refine kj_iconst X dL_loops_13 ?_
      cases hf
      exact kj_iret X (show knC (1) from ⟨by omega, by omega⟩) hr dL_loops_14 hlk
    · replace hf := knIq hf h7
      cases hf

def kfL_bracketCoefficient (a1 : Int) (μ : knMem) : Option (Int × knMem) :=
 Option.bind (kfX12_bracketCoefficient a1 μ) (fun q1 =>
  if q1.1 = 0 then
  some (0, (knUp q1.2.2 159 0 q1.2.1))
  else
  if q1.1 = 2 then
   some (1, q1.2.2)
   else
   none)

theorem knWhL_bracketCoefficient : knWh yL_bracketCoefficient cL_bracketCoefficient 4 (some .int) [(0, 9, 12, 71)] 3 := ⟨(knGm 1135 (by decide +kernel) rfl), (knGm 113 (by decide +kernel) rfl), (knGm 1134 (by decide +kernel) rfl), by decide +kernel, by decide +kernel, by decide +kernel⟩
set_option maxHeartbeats 4000000 in
set_option maxRecDepth 100000 in
theorem kcL_bracketCoefficient {G : knGT} (l : Launch) (hl : l.stackTraces = false) {a1 : Int} (ha1 : knC a1) {μ : knMem} {q : Int × knMem} (hf : kfL_bracketCoefficient a1 μ = some q) : knCh G l yL_bracketCoefficient cL_bracketCoefficient 4 (some .int) [(0, 9, 12, 71)] 8 141 1 6 [knO G 0, knV a1, knO G 159] μ (knC q.1) (some (knV q.1)) q.2 := by
  unfold kfL_bracketCoefficient at hf
  refine kn_ofJh (by decide) (Nat.le_of_ble_eq_true rfl) (L := [(0, knO G 0), (1, knV a1), (2, knO G 159)]) rfl ?_
  intro p e s m args below meth c X K hr hlk hex
  refine kj_aloadn X 2 dL_bracketCoefficient_0 rfl ?_
  refine kj_iconst X dL_bracketCoefficient_1 ?_
  refine kj_aloadn X 0 dL_bracketCoefficient_2 rfl ?_
  refine kj_iloadn X 1 dL_bracketCoefficient_3 rfl ?_
  obtain ⟨q1, h2, hf⟩ := knBd_inv hf
  refine kjx_callV (As := [knV a1]) (rest := [knV 0, knO G 159]) X K (kcX12_bracketCoefficient l hl ha1 h2) knWvX12_bracketCoefficient (knGm 1136 (by decide +kernel) rfl) (by decide) (knKd_in kdc_0 (by decide)) (knEnt_9 kdc_0) rfl rfl rfl (Nat.le_of_ble_eq_true rfl) (by decide) dL_bracketCoefficient_4 rfl (fun h4 h3 => ?_) (fun E5 h4 h6 => ?_)
  · replace hf := knIp hf h4
    refine kj_i2l X dL_bracketCoefficient_7 h3 ?_
    refine kj_last X K h3 dL_bracketCoefficient_8 ?_
    refine kj_goto X (tgt := 15) dL_bracketCoefficient_9 (by decide) ?_
    refine kj_iconst X dL_bracketCoefficient_15 ?_
    cases hf
    exact kj_iret X (show knC (0) from ⟨by omega, by omega⟩) hr dL_bracketCoefficient_16 hlk
  · replace hf := knIq hf h4
    by_cases h7 : q1.1 = 2
    · replace hf := knIp hf h7
      refine kjx_catch X K hex 1 (by decide) h7 h6 knE_2 [] [] rfl (by decide) knPs_0 (knGm 1117 (by decide +kernel) rfl) (knBm 519 (by decide +kernel) rfl) (fun q9 => ?_)
      refine kj_astoren X (L' := [(3, Value.ref q9), (0, knO G 0), (1, knV a1), (2, knO G 159)]) dL_bracketCoefficient_12 (by decide) rfl ?_
      refine kj_iconst X dL_bracketCoefficient_13 ?_
      cases hf
      exact kj_iret X (show knC (1) from ⟨by omega, by omega⟩) hr dL_bracketCoefficient_14 hlk
    · replace hf := knIq hf h7
      cases hf

def kfL_bracketCoefficientByResolving (a1 : Int) (μ : knMem) : Option (Int × knMem) :=
 Option.bind (kfX12_bracketCoefficientByResolving a1 μ) (fun q1 =>
  if q1.1 = 0 then
  some (0, (knUp q1.2.2 159 0 q1.2.1))
  else
  if q1.1 = 2 then
   some (1, q1.2.2)
   else
   none)

theorem knWhL_bracketCoefficientByResolving : knWh yL_bracketCoefficientByResolving cL_bracketCoefficientByResolving 4 (some .int) [(0, 9, 12, 71)] 3 := ⟨(knGm 1146 (by decide +kernel) rfl), (knGm 113 (by decide +kernel) rfl), (knGm 1145 (by decide +kernel) rfl), by decide +kernel, by decide +kernel, by decide +kernel⟩
set_option maxHeartbeats 4000000 in
set_option maxRecDepth 100000 in
theorem kcL_bracketCoefficientByResolving {G : knGT} (l : Launch) (hl : l.stackTraces = false) {a1 : Int} (ha1 : knC a1) {μ : knMem} {q : Int × knMem} (hf : kfL_bracketCoefficientByResolving a1 μ = some q) : knCh G l yL_bracketCoefficientByResolving cL_bracketCoefficientByResolving 4 (some .int) [(0, 9, 12, 71)] 19 481 1 6 [knO G 0, knV a1, knO G 159] μ (knC q.1) (some (knV q.1)) q.2 := by
  unfold kfL_bracketCoefficientByResolving at hf
  refine kn_ofJh (by decide) (Nat.le_of_ble_eq_true rfl) (L := [(0, knO G 0), (1, knV a1), (2, knO G 159)]) rfl ?_
  intro p e s m args below meth c X K hr hlk hex
  refine kj_aloadn X 2 dL_bracketCoefficientByResolving_0 rfl ?_
  refine kj_iconst X dL_bracketCoefficientByResolving_1 ?_
  refine kj_aloadn X 0 dL_bracketCoefficientByResolving_2 rfl ?_
  refine kj_iloadn X 1 dL_bracketCoefficientByResolving_3 rfl ?_
  obtain ⟨q1, h2, hf⟩ := knBd_inv hf
  refine kjx_callV (As := [knV a1]) (rest := [knV 0, knO G 159]) X K (kcX12_bracketCoefficientByResolving l hl ha1 h2) knWvX12_bracketCoefficientByResolving (knGm 1147 (by decide +kernel) rfl) (by decide) (knKd_in kdc_0 (by decide)) (knEnt_9 kdc_0) rfl rfl rfl (Nat.le_of_ble_eq_true rfl) (by decide) dL_bracketCoefficientByResolving_4 rfl (fun h4 h3 => ?_) (fun E5 h4 h6 => ?_)
  · replace hf := knIp hf h4
    refine kj_i2l X dL_bracketCoefficientByResolving_7 h3 ?_
    refine kj_last X K h3 dL_bracketCoefficientByResolving_8 ?_
    refine kj_goto X (tgt := 15) dL_bracketCoefficientByResolving_9 (by decide) ?_
    refine kj_iconst X dL_bracketCoefficientByResolving_15 ?_
    cases hf
    exact kj_iret X (show knC (0) from ⟨by omega, by omega⟩) hr dL_bracketCoefficientByResolving_16 hlk
  · replace hf := knIq hf h4
    by_cases h7 : q1.1 = 2
    · replace hf := knIp hf h7
      refine kjx_catch X K hex 1 (by decide) h7 h6 knE_2 [] [] rfl (by decide) knPs_0 (knGm 1117 (by decide +kernel) rfl) (knBm 519 (by decide +kernel) rfl) (fun q9 => ?_)
      refine kj_astoren X (L' := [(3, Value.ref q9), (0, knO G 0), (1, knV a1), (2, knO G 159)]) dL_bracketCoefficientByResolving_12 (by decide) rfl ?_
      refine kj_iconst X dL_bracketCoefficientByResolving_13 ?_
      cases hf
      exact kj_iret X (show knC (1) from ⟨by omega, by omega⟩) hr dL_bracketCoefficientByResolving_14 hlk
    · replace hf := knIq hf h7
      cases hf

def kfL_coefficient (a1 : Int) (μ : knMem) : Option (Int × knMem) :=
 Option.bind (kfX12_coefficient a1 μ) (fun q1 =>
  if q1.1 = 0 then
  some (0, (knUp q1.2.2 159 0 q1.2.1))
  else
  if q1.1 = 2 then
   some (1, q1.2.2)
   else
   none)

theorem knWhL_coefficient : knWh yL_coefficient cL_coefficient 4 (some .int) [(0, 9, 12, 71)] 3 := ⟨(knGm 1153 (by decide +kernel) rfl), (knGm 113 (by decide +kernel) rfl), (knGm 1152 (by decide +kernel) rfl), by decide +kernel, by decide +kernel, by decide +kernel⟩
set_option maxHeartbeats 4000000 in
set_option maxRecDepth 100000 in
theorem kcL_coefficient {G : knGT} (l : Launch) (hl : l.stackTraces = false) {a1 : Int} (ha1 : knC a1) {μ : knMem} {q : Int × knMem} (hf : kfL_coefficient a1 μ = some q) : knCh G l yL_coefficient cL_coefficient 4 (some .int) [(0, 9, 12, 71)] 8 146 1 6 [knO G 0, knV a1, knO G 159] μ (knC q.1) (some (knV q.1)) q.2 := by
  unfold kfL_coefficient at hf
  refine kn_ofJh (by decide) (Nat.le_of_ble_eq_true rfl) (L := [(0, knO G 0), (1, knV a1), (2, knO G 159)]) rfl ?_
  intro p e s m args below meth c X K hr hlk hex
  refine kj_aloadn X 2 dL_coefficient_0 rfl ?_
  refine kj_iconst X dL_coefficient_1 ?_
  refine kj_aloadn X 0 dL_coefficient_2 rfl ?_
  refine kj_iloadn X 1 dL_coefficient_3 rfl ?_
  obtain ⟨q1, h2, hf⟩ := knBd_inv hf
  refine kjx_callV (As := [knV a1]) (rest := [knV 0, knO G 159]) X K (kcX12_coefficient l hl ha1 h2) knWvX12_coefficient (knGm 1154 (by decide +kernel) rfl) (by decide) (knKd_in kdc_0 (by decide)) (knEnt_9 kdc_0) rfl rfl rfl (Nat.le_of_ble_eq_true rfl) (by decide) dL_coefficient_4 rfl (fun h4 h3 => ?_) (fun E5 h4 h6 => ?_)
  · replace hf := knIp hf h4
    refine kj_i2l X dL_coefficient_7 h3 ?_
    refine kj_last X K h3 dL_coefficient_8 ?_
    refine kj_goto X (tgt := 15) dL_coefficient_9 (by decide) ?_
    refine kj_iconst X dL_coefficient_15 ?_
    cases hf
    exact kj_iret X (show knC (0) from ⟨by omega, by omega⟩) hr dL_coefficient_16 hlk
  · replace hf := knIq hf h4
    by_cases h7 : q1.1 = 2
    · replace hf := knIp hf h7
      refine kjx_catch X K hex 1 (by decide) h7 h6 knE_2 [] [] rfl (by decide) knPs_0 (knGm 1117 (by decide +kernel) rfl) (knBm 519 (by decide +kernel) rfl) (fun q9 => ?_)
      refine kj_astoren X (L' := [(3, Value.ref q9), (0, knO G 0), (1, knV a1), (2, knO G 159)]) dL_coefficient_12 (by decide) rfl ?_
      refine kj_iconst X dL_coefficient_13 ?_
      cases hf
      exact kj_iret X (show knC (1) from ⟨by omega, by omega⟩) hr dL_coefficient_14 hlk
    · replace hf := knIq hf h7
      cases hf

def kfL_switches  (μ : knMem) : Option (Int × knMem) :=
 Option.bind (kfX12_switches  μ) (fun q1 =>
  if q1.1 = 0 then
  some (0, (knUp q1.2.2 159 0 q1.2.1))
  else
  if q1.1 = 5 then
   some (1, q1.2.2)
   else
   none)

theorem knWhL_switches : knWh yL_switches cL_switches 3 (some .int) [(0, 8, 11, 63)] 2 := ⟨(knGm 1160 (by decide +kernel) rfl), (knGm 113 (by decide +kernel) rfl), (knGm 1159 (by decide +kernel) rfl), by decide +kernel, by decide +kernel, by decide +kernel⟩
set_option maxHeartbeats 4000000 in
set_option maxRecDepth 100000 in
theorem kcL_switches {G : knGT} (l : Launch) (hl : l.stackTraces = false)   {μ : knMem} {q : Int × knMem} (hf : kfL_switches  μ = some q) : knCh G l yL_switches cL_switches 3 (some .int) [(0, 8, 11, 63)] 8 140 1 6 [knO G 0, knO G 159] μ (knC q.1) (some (knV q.1)) q.2 := by
  unfold kfL_switches at hf
  refine kn_ofJh (by decide) (Nat.le_of_ble_eq_true rfl) (L := [(0, knO G 0), (1, knO G 159)]) rfl ?_
  intro p e s m args below meth c X K hr hlk hex
  refine kj_aloadn X 1 dL_switches_0 rfl ?_
  refine kj_iconst X dL_switches_1 ?_
  refine kj_aloadn X 0 dL_switches_2 rfl ?_
  obtain ⟨q1, h2, hf⟩ := knBd_inv hf
  refine kjx_callV (As := []) (rest := [knV 0, knO G 159]) X K (kcX12_switches l hl  h2) knWvX12_switches (knGm 1161 (by decide +kernel) rfl) (by decide) (knKd_in kdc_0 (by decide)) (knEnt_9 kdc_0) rfl rfl rfl (Nat.le_of_ble_eq_true rfl) (by decide) dL_switches_3 rfl (fun h4 h3 => ?_) (fun E5 h4 h6 => ?_)
  · replace hf := knIp hf h4
    refine kj_i2l X dL_switches_6 h3 ?_
    refine kj_last X K h3 dL_switches_7 ?_
    refine kj_goto X (tgt := 14) dL_switches_8 (by decide) ?_
    refine kj_iconst X dL_switches_14 ?_
    cases hf
    exact kj_iret X (show knC (0) from ⟨by omega, by omega⟩) hr dL_switches_15 hlk
  · replace hf := knIq hf h4
    by_cases h7 : q1.1 = 5
    · replace hf := knIp hf h7
      refine kjx_catch X K hex 4 (by decide) h7 h6 knE_5 [] [] rfl (by decide) knPs_0 (knGm 1092 (by decide +kernel) rfl) (knBm 573 (by decide +kernel) rfl) (fun q9 => ?_)
      refine kj_astoren X (L' := [(2, Value.ref q9), (0, knO G 0), (1, knO G 159)]) dL_switches_11 (by decide) rfl ?_
      refine kj_iconst X dL_switches_12 ?_
      cases hf
      exact kj_iret X (show knC (1) from ⟨by omega, by omega⟩) hr dL_switches_13 hlk
    · replace hf := knIq hf h7
      cases hf

def kfL_switchesByDepth  (μ : knMem) : Option (Int × knMem) :=
 Option.bind (kfX12_switchesByDepth  μ) (fun q1 =>
  if q1.1 = 0 then
  some (0, (knUp q1.2.2 159 0 q1.2.1))
  else
  if q1.1 = 5 then
   some (1, q1.2.2)
   else
   none)

theorem knWhL_switchesByDepth : knWh yL_switchesByDepth cL_switchesByDepth 3 (some .int) [(0, 8, 11, 63)] 2 := ⟨(knGm 1170 (by decide +kernel) rfl), (knGm 113 (by decide +kernel) rfl), (knGm 1169 (by decide +kernel) rfl), by decide +kernel, by decide +kernel, by decide +kernel⟩
set_option maxHeartbeats 4000000 in
set_option maxRecDepth 100000 in
theorem kcL_switchesByDepth {G : knGT} (l : Launch) (hl : l.stackTraces = false)   {μ : knMem} {q : Int × knMem} (hf : kfL_switchesByDepth  μ = some q) : knCh G l yL_switchesByDepth cL_switchesByDepth 3 (some .int) [(0, 8, 11, 63)] 17 407 1 6 [knO G 0, knO G 159] μ (knC q.1) (some (knV q.1)) q.2 := by
  unfold kfL_switchesByDepth at hf
  refine kn_ofJh (by decide) (Nat.le_of_ble_eq_true rfl) (L := [(0, knO G 0), (1, knO G 159)]) rfl ?_
  intro p e s m args below meth c X K hr hlk hex
  refine kj_aloadn X 1 dL_switchesByDepth_0 rfl ?_
  refine kj_iconst X dL_switchesByDepth_1 ?_
  refine kj_aloadn X 0 dL_switchesByDepth_2 rfl ?_
  obtain ⟨q1, h2, hf⟩ := knBd_inv hf
  refine kjx_callV (As := []) (rest := [knV 0, knO G 159]) X K (kcX12_switchesByDepth l hl  h2) knWvX12_switchesByDepth (knGm 1171 (by decide +kernel) rfl) (by decide) (knKd_in kdc_0 (by decide)) (knEnt_9 kdc_0) rfl rfl rfl (Nat.le_of_ble_eq_true rfl) (by decide) dL_switchesByDepth_3 rfl (fun h4 h3 => ?_) (fun E5 h4 h6 => ?_)
  · replace hf := knIp hf h4
    refine kj_i2l X dL_switchesByDepth_6 h3 ?_
    refine kj_last X K h3 dL_switchesByDepth_7 ?_
    refine kj_goto X (tgt := 14) dL_switchesByDepth_8 (by decide) ?_
    refine kj_iconst X dL_switchesByDepth_14 ?_
    cases hf
    exact kj_iret X (show knC (0) from ⟨by omega, by omega⟩) hr dL_switchesByDepth_15 hlk
  · replace hf := knIq hf h4
    by_cases h7 : q1.1 = 5
    · replace hf := knIp hf h7
      refine kjx_catch X K hex 4 (by decide) h7 h6 knE_5 [] [] rfl (by decide) knPs_0 (knGm 1092 (by decide +kernel) rfl) (knBm 573 (by decide +kernel) rfl) (fun q9 => ?_)
      refine kj_astoren X (L' := [(2, Value.ref q9), (0, knO G 0), (1, knO G 159)]) dL_switchesByDepth_11 (by decide) rfl ?_
      refine kj_iconst X dL_switchesByDepth_12 ?_
      cases hf
      exact kj_iret X (show knC (1) from ⟨by omega, by omega⟩) hr dL_switchesByDepth_13 hlk
    · replace hf := knIq hf h7
      cases hf

def kfL_firstSwitch  (μ : knMem) : Option (Int × knMem) :=
 Option.bind (kfX12_firstSwitch  μ) (fun q1 =>
  if q1.1 = 0 then
  some (0, (knUp q1.2.2 159 0 q1.2.1))
  else
  if q1.1 = 5 then
   some (1, q1.2.2)
   else
   none)

theorem knWhL_firstSwitch : knWh yL_firstSwitch cL_firstSwitch 3 (some .int) [(0, 8, 11, 63)] 2 := ⟨(knGm 1177 (by decide +kernel) rfl), (knGm 113 (by decide +kernel) rfl), (knGm 1176 (by decide +kernel) rfl), by decide +kernel, by decide +kernel, by decide +kernel⟩
set_option maxHeartbeats 4000000 in
set_option maxRecDepth 100000 in
theorem kcL_firstSwitch {G : knGT} (l : Launch) (hl : l.stackTraces = false)   {μ : knMem} {q : Int × knMem} (hf : kfL_firstSwitch  μ = some q) : knCh G l yL_firstSwitch cL_firstSwitch 3 (some .int) [(0, 8, 11, 63)] 8 141 1 6 [knO G 0, knO G 159] μ (knC q.1) (some (knV q.1)) q.2 := by
  unfold kfL_firstSwitch at hf
  refine kn_ofJh (by decide) (Nat.le_of_ble_eq_true rfl) (L := [(0, knO G 0), (1, knO G 159)]) rfl ?_
  intro p e s m args below meth c X K hr hlk hex
  refine kj_aloadn X 1 dL_firstSwitch_0 rfl ?_
  refine kj_iconst X dL_firstSwitch_1 ?_
  refine kj_aloadn X 0 dL_firstSwitch_2 rfl ?_
  obtain ⟨q1, h2, hf⟩ := knBd_inv hf
  refine kjx_callV (As := []) (rest := [knV 0, knO G 159]) X K (kcX12_firstSwitch l hl  h2) knWvX12_firstSwitch (knGm 1178 (by decide +kernel) rfl) (by decide) (knKd_in kdc_0 (by decide)) (knEnt_9 kdc_0) rfl rfl rfl (Nat.le_of_ble_eq_true rfl) (by decide) dL_firstSwitch_3 rfl (fun h4 h3 => ?_) (fun E5 h4 h6 => ?_)
  · replace hf := knIp hf h4
    refine kj_i2l X dL_firstSwitch_6 h3 ?_
    refine kj_last X K h3 dL_firstSwitch_7 ?_
    refine kj_goto X (tgt := 14) dL_firstSwitch_8 (by decide) ?_
    refine kj_iconst X dL_firstSwitch_14 ?_
    cases hf
    exact kj_iret X (show knC (0) from ⟨by omega, by omega⟩) hr dL_firstSwitch_15 hlk
  · replace hf := knIq hf h4
    by_cases h7 : q1.1 = 5
    · replace hf := knIp hf h7
      refine kjx_catch X K hex 4 (by decide) h7 h6 knE_5 [] [] rfl (by decide) knPs_0 (knGm 1092 (by decide +kernel) rfl) (knBm 573 (by decide +kernel) rfl) (fun q9 => ?_)
      refine kj_astoren X (L' := [(2, Value.ref q9), (0, knO G 0), (1, knO G 159)]) dL_firstSwitch_11 (by decide) rfl ?_
      refine kj_iconst X dL_firstSwitch_12 ?_
      cases hf
      exact kj_iret X (show knC (1) from ⟨by omega, by omega⟩) hr dL_firstSwitch_13 hlk
    · replace hf := knIq hf h7
      cases hf

def kfL_addPlayer  (μ : knMem) : Option (Int × knMem) :=
 Option.bind (kfX12_addPlayer  μ) (fun q1 =>
  if q1.1 = 0 then
  some (0, (knUp q1.2.2 159 0 q1.2.1))
  else
  if q1.1 = 3 then
   some (1, q1.2.2)
   else
   none)

theorem knWhL_addPlayer : knWh yL_addPlayer cL_addPlayer 3 (some .int) [(0, 8, 11, 15)] 2 := ⟨(knGm 1185 (by decide +kernel) rfl), (knGm 113 (by decide +kernel) rfl), (knGm 1184 (by decide +kernel) rfl), by decide +kernel, by decide +kernel, by decide +kernel⟩
set_option maxHeartbeats 4000000 in
set_option maxRecDepth 100000 in
theorem kcL_addPlayer {G : knGT} (l : Launch) (hl : l.stackTraces = false)   {μ : knMem} {q : Int × knMem} (hf : kfL_addPlayer  μ = some q) : knCh G l yL_addPlayer cL_addPlayer 3 (some .int) [(0, 8, 11, 15)] 9 161 1 6 [knO G 0, knO G 159] μ (knC q.1) (some (knV q.1)) q.2 := by
  unfold kfL_addPlayer at hf
  refine kn_ofJh (by decide) (Nat.le_of_ble_eq_true rfl) (L := [(0, knO G 0), (1, knO G 159)]) rfl ?_
  intro p e s m args below meth c X K hr hlk hex
  refine kj_aloadn X 1 dL_addPlayer_0 rfl ?_
  refine kj_iconst X dL_addPlayer_1 ?_
  refine kj_aloadn X 0 dL_addPlayer_2 rfl ?_
  obtain ⟨q1, h2, hf⟩ := knBd_inv hf
  refine kjx_callV (As := []) (rest := [knV 0, knO G 159]) X K (kcX12_addPlayer l hl  h2) knWvX12_addPlayer (knGm 1186 (by decide +kernel) rfl) (by decide) (knKd_in kdc_0 (by decide)) (knEnt_9 kdc_0) rfl rfl rfl (Nat.le_of_ble_eq_true rfl) (by decide) dL_addPlayer_3 rfl (fun h4 h3 => ?_) (fun E5 h4 h6 => ?_)
  · replace hf := knIp hf h4
    refine kj_i2l X dL_addPlayer_6 h3 ?_
    refine kj_last X K h3 dL_addPlayer_7 ?_
    refine kj_goto X (tgt := 14) dL_addPlayer_8 (by decide) ?_
    refine kj_iconst X dL_addPlayer_14 ?_
    cases hf
    exact kj_iret X (show knC (0) from ⟨by omega, by omega⟩) hr dL_addPlayer_15 hlk
  · replace hf := knIq hf h4
    by_cases h7 : q1.1 = 3
    · replace hf := knIp hf h7
      refine kjx_catch X K hex 2 (by decide) h7 h6 knE_3 [] [] rfl (by decide) knPs_0 (knGm 939 (by decide +kernel) rfl) (knBm 537 (by decide +kernel) rfl) (fun q9 => ?_)
      refine kj_astoren X (L' := [(2, Value.ref q9), (0, knO G 0), (1, knO G 159)]) dL_addPlayer_11 (by decide) rfl ?_
      refine kj_iconst X dL_addPlayer_12 ?_
      cases hf
      exact kj_iret X (show knC (1) from ⟨by omega, by omega⟩) hr dL_addPlayer_13 hlk
    · replace hf := knIq hf h7
      cases hf

def kfL_bet (a1 : Int) (a2 : Int) (a3 : Int) (μ : knMem) : Option (Int × knMem) :=
 Option.bind (kfX12_bet a1 a2 a3 μ) (fun q1 =>
  if q1.1 = 0 then
  some (0, (knUp q1.2.2 159 0 q1.2.1))
  else
  if q1.1 = 1 then
   some (1, q1.2.2)
   else
   if q1.1 = 2 then
   some (2, q1.2.2)
   else
   if q1.1 = 3 then
   some (3, q1.2.2)
   else
   if q1.1 = 4 then
   some (4, q1.2.2)
   else
   none)

theorem knWhL_bet : knWh yL_bet cL_bet 6 (some .int) [(0, 12, 15, 13), (0, 12, 19, 71), (0, 12, 23, 15), (0, 12, 27, 21)] 5 := ⟨(knGm 1198 (by decide +kernel) rfl), (knGm 113 (by decide +kernel) rfl), (knGm 1197 (by decide +kernel) rfl), by decide +kernel, by decide +kernel, by decide +kernel⟩
set_option maxHeartbeats 4000000 in
set_option maxRecDepth 100000 in
theorem kcL_bet {G : knGT} (l : Launch) (hl : l.stackTraces = false) {a1 : Int} {a2 : Int} {a3 : Int} (ha1 : knC a1) (ha2 : knC a2) (ha3 : knC a3) {μ : knMem} {q : Int × knMem} (hf : kfL_bet a1 a2 a3 μ = some q) : knCh G l yL_bet cL_bet 6 (some .int) [(0, 12, 15, 13), (0, 12, 19, 71), (0, 12, 23, 15), (0, 12, 27, 21)] 9 164 1 6 [knO G 0, knV a1, knV a2, knV a3, knO G 159] μ (knC q.1) (some (knV q.1)) q.2 := by
  unfold kfL_bet at hf
  refine kn_ofJh (by decide) (Nat.le_of_ble_eq_true rfl) (L := [(0, knO G 0), (1, knV a1), (2, knV a2), (3, knV a3), (4, knO G 159)]) rfl ?_
  intro p e s m args below meth c X K hr hlk hex
  refine kj_aload X 4 dL_bet_0 rfl ?_
  refine kj_iconst X dL_bet_2 ?_
  refine kj_aloadn X 0 dL_bet_3 rfl ?_
  refine kj_iloadn X 1 dL_bet_4 rfl ?_
  refine kj_iloadn X 2 dL_bet_5 rfl ?_
  refine kj_iloadn X 3 dL_bet_6 rfl ?_
  obtain ⟨q1, h2, hf⟩ := knBd_inv hf
  refine kjx_callV (As := [knV a1, knV a2, knV a3]) (rest := [knV 0, knO G 159]) X K (kcX12_bet l hl ha1 ha2 ha3 h2) knWvX12_bet (knGm 1199 (by decide +kernel) rfl) (by decide) (knKd_in kdc_0 (by decide)) (knEnt_9 kdc_0) rfl rfl rfl (Nat.le_of_ble_eq_true rfl) (by decide) dL_bet_7 rfl (fun h4 h3 => ?_) (fun E5 h4 h6 => ?_)
  · replace hf := knIp hf h4
    refine kj_i2l X dL_bet_10 h3 ?_
    refine kj_last X K h3 dL_bet_11 ?_
    refine kj_goto X (tgt := 31) dL_bet_12 (by decide) ?_
    refine kj_iconst X dL_bet_31 ?_
    cases hf
    exact kj_iret X (show knC (0) from ⟨by omega, by omega⟩) hr dL_bet_32 hlk
  · replace hf := knIq hf h4
    by_cases h7 : q1.1 = 1
    · replace hf := knIp hf h7
      refine kjx_catch X K hex 0 (by decide) h7 h6 knE_1 [] [(0, 12, 19, 71), (0, 12, 23, 15), (0, 12, 27, 21)] rfl (by decide) knPs_0 (knGm 918 (by decide +kernel) rfl) (knBm 445 (by decide +kernel) rfl) (fun q9 => ?_)
      refine kj_astore X (L' := [(5, Value.ref q9), (0, knO G 0), (1, knV a1), (2, knV a2), (3, knV a3), (4, knO G 159)]) dL_bet_15 (by decide) rfl ?_
      refine kj_iconst X dL_bet_17 ?_
      cases hf
      exact kj_iret X (show knC (1) from ⟨by omega, by omega⟩) hr dL_bet_18 hlk
    · replace hf := knIq hf h7
      by_cases h8 : q1.1 = 2
      · replace hf := knIp hf h8
        refine kjx_catch X K hex 1 (by decide) h8 h6 knE_2 [(0, 12, 15, 13)] [(0, 12, 23, 15), (0, 12, 27, 21)] rfl (by decide) (knPs_1 0 (by decide) (knGm 918 (by decide +kernel) rfl) knPs_0) (knGm 1117 (by decide +kernel) rfl) (knBm 519 (by decide +kernel) rfl) (fun q9 => ?_)
        refine kj_astore X (L' := [(5, Value.ref q9), (0, knO G 0), (1, knV a1), (2, knV a2), (3, knV a3), (4, knO G 159)]) dL_bet_19 (by decide) rfl ?_
        refine kj_iconst X dL_bet_21 ?_
        cases hf
        exact kj_iret X (show knC (2) from ⟨by omega, by omega⟩) hr dL_bet_22 hlk
      · replace hf := knIq hf h8
        by_cases h9 : q1.1 = 3
        · replace hf := knIp hf h9
          refine kjx_catch X K hex 2 (by decide) h9 h6 knE_3 [(0, 12, 15, 13), (0, 12, 19, 71)] [(0, 12, 27, 21)] rfl (by decide) (knPs_1 0 (by decide) (knGm 918 (by decide +kernel) rfl) (knPs_1 1 (by decide) (knGm 1117 (by decide +kernel) rfl) knPs_0)) (knGm 939 (by decide +kernel) rfl) (knBm 537 (by decide +kernel) rfl) (fun q9 => ?_)
          refine kj_astore X (L' := [(5, Value.ref q9), (0, knO G 0), (1, knV a1), (2, knV a2), (3, knV a3), (4, knO G 159)]) dL_bet_23 (by decide) rfl ?_
          refine kj_iconst X dL_bet_25 ?_
          cases hf
          exact kj_iret X (show knC (3) from ⟨by omega, by omega⟩) hr dL_bet_26 hlk
        · replace hf := knIq hf h9
          by_cases h10 : q1.1 = 4
          · replace hf := knIp hf h10
            refine kjx_catch X K hex 3 (by decide) h10 h6 knE_4 [(0, 12, 15, 13), (0, 12, 19, 71), (0, 12, 23, 15)] [] rfl (by decide) (knPs_1 0 (by decide) (knGm 918 (by decide +kernel) rfl) (knPs_1 1 (by decide) (knGm 1117 (by decide +kernel) rfl) (knPs_1 2 (by decide) (knGm 939 (by decide +kernel) rfl) knPs_0))) (knGm 965 (by decide +kernel) rfl) (knBm 555 (by decide +kernel) rfl) (fun q9 => ?_)
            refine kj_astore X (L' := [(5, Value.ref q9), (0, knO G 0), (1, knV a1), (2, knV a2), (3, knV a3), (4, knO G 159)]) dL_bet_27 (by decide) rfl ?_
            refine kj_iconst X dL_bet_29 ?_
            cases hf
            exact kj_iret X (show knC (4) from ⟨by omega, by omega⟩) hr dL_bet_30 hlk
          · replace hf := knIq hf h10
            cases hf

def kfL_settle  (μ : knMem) : Option (Int × knMem) :=
 Option.bind (kfX12_settle  μ) (fun q1 =>
  if q1.1 = 0 then
  some (0, (knUp q1.2.2 159 0 q1.2.1))
  else
  if q1.1 = 3 then
   some (1, q1.2.2)
   else
   if q1.1 = 5 then
   some (2, q1.2.2)
   else
   none)

theorem knWhL_settle : knWh yL_settle cL_settle 3 (some .int) [(0, 8, 11, 15), (0, 8, 14, 63)] 2 := ⟨(knGm 1216 (by decide +kernel) rfl), (knGm 113 (by decide +kernel) rfl), (knGm 1215 (by decide +kernel) rfl), by decide +kernel, by decide +kernel, by decide +kernel⟩
set_option maxHeartbeats 4000000 in
set_option maxRecDepth 100000 in
theorem kcL_settle {G : knGT} (l : Launch) (hl : l.stackTraces = false)   {μ : knMem} {q : Int × knMem} (hf : kfL_settle  μ = some q) : knCh G l yL_settle cL_settle 3 (some .int) [(0, 8, 11, 15), (0, 8, 14, 63)] 9 163 1 6 [knO G 0, knO G 159] μ (knC q.1) (some (knV q.1)) q.2 := by
  unfold kfL_settle at hf
  refine kn_ofJh (by decide) (Nat.le_of_ble_eq_true rfl) (L := [(0, knO G 0), (1, knO G 159)]) rfl ?_
  intro p e s m args below meth c X K hr hlk hex
  refine kj_aloadn X 1 dL_settle_0 rfl ?_
  refine kj_iconst X dL_settle_1 ?_
  refine kj_aloadn X 0 dL_settle_2 rfl ?_
  obtain ⟨q1, h2, hf⟩ := knBd_inv hf
  refine kjx_callV (As := []) (rest := [knV 0, knO G 159]) X K (kcX12_settle l hl  h2) knWvX12_settle (knGm 1217 (by decide +kernel) rfl) (by decide) (knKd_in kdc_0 (by decide)) (knEnt_9 kdc_0) rfl rfl rfl (Nat.le_of_ble_eq_true rfl) (by decide) dL_settle_3 rfl (fun h4 h3 => ?_) (fun E5 h4 h6 => ?_)
  · replace hf := knIp hf h4
    refine kj_i2l X dL_settle_6 h3 ?_
    refine kj_last X K h3 dL_settle_7 ?_
    refine kj_goto X (tgt := 17) dL_settle_8 (by decide) ?_
    refine kj_iconst X dL_settle_17 ?_
    cases hf
    exact kj_iret X (show knC (0) from ⟨by omega, by omega⟩) hr dL_settle_18 hlk
  · replace hf := knIq hf h4
    by_cases h7 : q1.1 = 3
    · replace hf := knIp hf h7
      refine kjx_catch X K hex 2 (by decide) h7 h6 knE_3 [] [(0, 8, 14, 63)] rfl (by decide) knPs_0 (knGm 939 (by decide +kernel) rfl) (knBm 537 (by decide +kernel) rfl) (fun q9 => ?_)
      refine kj_astoren X (L' := [(2, Value.ref q9), (0, knO G 0), (1, knO G 159)]) dL_settle_11 (by decide) rfl ?_
      refine kj_iconst X dL_settle_12 ?_
      cases hf
      exact kj_iret X (show knC (1) from ⟨by omega, by omega⟩) hr dL_settle_13 hlk
    · replace hf := knIq hf h7
      by_cases h8 : q1.1 = 5
      · replace hf := knIp hf h8
        refine kjx_catch X K hex 4 (by decide) h8 h6 knE_5 [(0, 8, 11, 15)] [] rfl (by decide) (knPs_1 2 (by decide) (knGm 939 (by decide +kernel) rfl) knPs_0) (knGm 1092 (by decide +kernel) rfl) (knBm 573 (by decide +kernel) rfl) (fun q9 => ?_)
        refine kj_astoren X (L' := [(2, Value.ref q9), (0, knO G 0), (1, knO G 159)]) dL_settle_14 (by decide) rfl ?_
        refine kj_iconst X dL_settle_15 ?_
        cases hf
        exact kj_iret X (show knC (2) from ⟨by omega, by omega⟩) hr dL_settle_16 hlk
      · replace hf := knIq hf h8
        cases hf

def kfL_coins (a1 : Int) (μ : knMem) : Option (Int × knMem) :=
 Option.bind (kfX12_coins a1 μ) (fun q1 =>
  if q1.1 = 0 then
  some (0, (knUp μ 159 0 q1.2))
  else
  if q1.1 = 1 then
   some (1, μ)
   else
   none)

theorem knWhL_coins : knWh yL_coins cL_coins 4 (some .int) [(0, 9, 12, 13)] 3 := ⟨(knGm 1237 (by decide +kernel) rfl), (knGm 113 (by decide +kernel) rfl), (knGm 1236 (by decide +kernel) rfl), by decide +kernel, by decide +kernel, by decide +kernel⟩
set_option maxHeartbeats 4000000 in
set_option maxRecDepth 100000 in
theorem kcL_coins {G : knGT} (l : Launch) (hl : l.stackTraces = false) {a1 : Int} (ha1 : knC a1) {μ : knMem} {q : Int × knMem} (hf : kfL_coins a1 μ = some q) : knCh G l yL_coins cL_coins 4 (some .int) [(0, 9, 12, 13)] 8 142 1 6 [knO G 0, knV a1, knO G 159] μ (knC q.1) (some (knV q.1)) q.2 := by
  unfold kfL_coins at hf
  refine kn_ofJh (by decide) (Nat.le_of_ble_eq_true rfl) (L := [(0, knO G 0), (1, knV a1), (2, knO G 159)]) rfl ?_
  intro p e s m args below meth c X K hr hlk hex
  refine kj_aloadn X 2 dL_coins_0 rfl ?_
  refine kj_iconst X dL_coins_1 ?_
  refine kj_aloadn X 0 dL_coins_2 rfl ?_
  refine kj_iloadn X 1 dL_coins_3 rfl ?_
  obtain ⟨q1, h2, hf⟩ := knBd_inv hf
  refine kjx_callV (As := [knV a1]) (rest := [knV 0, knO G 159]) X K (kcX12_coins l hl ha1 h2) knWvX12_coins (knGm 1238 (by decide +kernel) rfl) (by decide) (knKd_in kdc_0 (by decide)) (knEnt_9 kdc_0) rfl rfl rfl (Nat.le_of_ble_eq_true rfl) (by decide) dL_coins_4 rfl (fun h4 h3 => ?_) (fun E5 h4 h6 => ?_)
  · replace hf := knIp hf h4
    refine kj_i2l X dL_coins_7 h3 ?_
    refine kj_last X K h3 dL_coins_8 ?_
    refine kj_goto X (tgt := 15) dL_coins_9 (by decide) ?_
    refine kj_iconst X dL_coins_15 ?_
    cases hf
    exact kj_iret X (show knC (0) from ⟨by omega, by omega⟩) hr dL_coins_16 hlk
  · replace hf := knIq hf h4
    by_cases h7 : q1.1 = 1
    · replace hf := knIp hf h7
      refine kjx_catch X K hex 0 (by decide) h7 h6 knE_1 [] [] rfl (by decide) knPs_0 (knGm 918 (by decide +kernel) rfl) (knBm 445 (by decide +kernel) rfl) (fun q9 => ?_)
      refine kj_astoren X (L' := [(3, Value.ref q9), (0, knO G 0), (1, knV a1), (2, knO G 159)]) dL_coins_12 (by decide) rfl ?_
      refine kj_iconst X dL_coins_13 ?_
      cases hf
      exact kj_iret X (show knC (1) from ⟨by omega, by omega⟩) hr dL_coins_14 hlk
    · replace hf := knIq hf h7
      cases hf

def kfL_guess (a1 : Int) (μ : knMem) : Option (Int × knMem) :=
 Option.bind (kfX12_guess a1 μ) (fun q1 =>
  if q1.1 = 0 then
  some (0, (knUp μ 159 0 q1.2))
  else
  if q1.1 = 1 then
   some (1, μ)
   else
   if q1.1 = 5 then
   some (2, μ)
   else
   none)

theorem knWhL_guess : knWh yL_guess cL_guess 4 (some .int) [(0, 9, 12, 13), (0, 9, 15, 63)] 3 := ⟨(knGm 1250 (by decide +kernel) rfl), (knGm 113 (by decide +kernel) rfl), (knGm 1249 (by decide +kernel) rfl), by decide +kernel, by decide +kernel, by decide +kernel⟩
set_option maxHeartbeats 4000000 in
set_option maxRecDepth 100000 in
theorem kcL_guess {G : knGT} (l : Launch) (hl : l.stackTraces = false) {a1 : Int} (ha1 : knC a1) {μ : knMem} {q : Int × knMem} (hf : kfL_guess a1 μ = some q) : knCh G l yL_guess cL_guess 4 (some .int) [(0, 9, 12, 13), (0, 9, 15, 63)] 8 142 2 12 [knO G 0, knV a1, knO G 159] μ (knC q.1) (some (knV q.1)) q.2 := by
  unfold kfL_guess at hf
  refine kn_ofJh (by decide) (Nat.le_of_ble_eq_true rfl) (L := [(0, knO G 0), (1, knV a1), (2, knO G 159)]) rfl ?_
  intro p e s m args below meth c X K hr hlk hex
  refine kj_aloadn X 2 dL_guess_0 rfl ?_
  refine kj_iconst X dL_guess_1 ?_
  refine kj_aloadn X 0 dL_guess_2 rfl ?_
  refine kj_iloadn X 1 dL_guess_3 rfl ?_
  obtain ⟨q1, h2, hf⟩ := knBd_inv hf
  refine kjx_callV (As := [knV a1]) (rest := [knV 0, knO G 159]) X K (kcX12_guess l hl ha1 h2) knWvX12_guess (knGm 1251 (by decide +kernel) rfl) (by decide) (knKd_in kdc_0 (by decide)) (knEnt_9 kdc_0) rfl rfl rfl (Nat.le_of_ble_eq_true rfl) (by decide) dL_guess_4 rfl (fun h4 h3 => ?_) (fun E5 h4 h6 => ?_)
  · replace hf := knIp hf h4
    refine kj_i2l X dL_guess_7 h3 ?_
    refine kj_last X K h3 dL_guess_8 ?_
    refine kj_goto X (tgt := 18) dL_guess_9 (by decide) ?_
    refine kj_iconst X dL_guess_18 ?_
    cases hf
    exact kj_iret X (show knC (0) from ⟨by omega, by omega⟩) hr dL_guess_19 hlk
  · replace hf := knIq hf h4
    by_cases h7 : q1.1 = 1
    · replace hf := knIp hf h7
      refine kjx_catch X K hex 0 (by decide) h7 h6 knE_1 [] [(0, 9, 15, 63)] rfl (by decide) knPs_0 (knGm 918 (by decide +kernel) rfl) (knBm 445 (by decide +kernel) rfl) (fun q9 => ?_)
      refine kj_astoren X (L' := [(3, Value.ref q9), (0, knO G 0), (1, knV a1), (2, knO G 159)]) dL_guess_12 (by decide) rfl ?_
      refine kj_iconst X dL_guess_13 ?_
      cases hf
      exact kj_iret X (show knC (1) from ⟨by omega, by omega⟩) hr dL_guess_14 hlk
    · replace hf := knIq hf h7
      by_cases h8 : q1.1 = 5
      · replace hf := knIp hf h8
        refine kjx_catch X K hex 4 (by decide) h8 h6 knE_5 [(0, 9, 12, 13)] [] rfl (by decide) (knPs_1 0 (by decide) (knGm 918 (by decide +kernel) rfl) knPs_0) (knGm 1092 (by decide +kernel) rfl) (knBm 573 (by decide +kernel) rfl) (fun q9 => ?_)
        refine kj_astoren X (L' := [(3, Value.ref q9), (0, knO G 0), (1, knV a1), (2, knO G 159)]) dL_guess_15 (by decide) rfl ?_
        refine kj_iconst X dL_guess_16 ?_
        cases hf
        exact kj_iret X (show knC (2) from ⟨by omega, by omega⟩) hr dL_guess_17 hlk
      · replace hf := knIq hf h8
        cases hf

def kfL_playerByCoins (a1 : Int) (μ : knMem) : Option (Int × knMem) :=
 Option.bind (kfX12_playerByCoins a1 μ) (fun q1 =>
  if q1.1 = 0 then
  some (0, (knUp μ 159 0 q1.2))
  else
  if q1.1 = 5 then
   some (1, μ)
   else
   none)

theorem knWhL_playerByCoins : knWh yL_playerByCoins cL_playerByCoins 4 (some .int) [(0, 9, 12, 63)] 3 := ⟨(knGm 1258 (by decide +kernel) rfl), (knGm 113 (by decide +kernel) rfl), (knGm 1257 (by decide +kernel) rfl), by decide +kernel, by decide +kernel, by decide +kernel⟩
set_option maxHeartbeats 4000000 in
set_option maxRecDepth 100000 in
theorem kcL_playerByCoins {G : knGT} (l : Launch) (hl : l.stackTraces = false) {a1 : Int} (ha1 : knC a1) {μ : knMem} {q : Int × knMem} (hf : kfL_playerByCoins a1 μ = some q) : knCh G l yL_playerByCoins cL_playerByCoins 4 (some .int) [(0, 9, 12, 63)] 7 121 1 6 [knO G 0, knV a1, knO G 159] μ (knC q.1) (some (knV q.1)) q.2 := by
  unfold kfL_playerByCoins at hf
  refine kn_ofJh (by decide) (Nat.le_of_ble_eq_true rfl) (L := [(0, knO G 0), (1, knV a1), (2, knO G 159)]) rfl ?_
  intro p e s m args below meth c X K hr hlk hex
  refine kj_aloadn X 2 dL_playerByCoins_0 rfl ?_
  refine kj_iconst X dL_playerByCoins_1 ?_
  refine kj_aloadn X 0 dL_playerByCoins_2 rfl ?_
  refine kj_iloadn X 1 dL_playerByCoins_3 rfl ?_
  obtain ⟨q1, h2, hf⟩ := knBd_inv hf
  refine kjx_callV (As := [knV a1]) (rest := [knV 0, knO G 159]) X K (kcX12_playerByCoins l hl ha1 h2) knWvX12_playerByCoins (knGm 1259 (by decide +kernel) rfl) (by decide) (knKd_in kdc_0 (by decide)) (knEnt_9 kdc_0) rfl rfl rfl (Nat.le_of_ble_eq_true rfl) (by decide) dL_playerByCoins_4 rfl (fun h4 h3 => ?_) (fun E5 h4 h6 => ?_)
  · replace hf := knIp hf h4
    refine kj_i2l X dL_playerByCoins_7 h3 ?_
    refine kj_last X K h3 dL_playerByCoins_8 ?_
    refine kj_goto X (tgt := 15) dL_playerByCoins_9 (by decide) ?_
    refine kj_iconst X dL_playerByCoins_15 ?_
    cases hf
    exact kj_iret X (show knC (0) from ⟨by omega, by omega⟩) hr dL_playerByCoins_16 hlk
  · replace hf := knIq hf h4
    by_cases h7 : q1.1 = 5
    · replace hf := knIp hf h7
      refine kjx_catch X K hex 4 (by decide) h7 h6 knE_5 [] [] rfl (by decide) knPs_0 (knGm 1092 (by decide +kernel) rfl) (knBm 573 (by decide +kernel) rfl) (fun q9 => ?_)
      refine kj_astoren X (L' := [(3, Value.ref q9), (0, knO G 0), (1, knV a1), (2, knO G 159)]) dL_playerByCoins_12 (by decide) rfl ?_
      refine kj_iconst X dL_playerByCoins_13 ?_
      cases hf
      exact kj_iret X (show knC (1) from ⟨by omega, by omega⟩) hr dL_playerByCoins_14 hlk
    · replace hf := knIq hf h7
      cases hf

def kfL_stakeShare (a1 : Int) (μ : knMem) : Option (Int × knMem) :=
 Option.bind (kfX12_stakeShare a1 μ) (fun q1 =>
  if q1.1 = 0 then
  knGd (knN64 (knF2d q1.2))
   (some (0, (knUp μ 160 0 (knF2d q1.2))))
  else
  if q1.1 = 1 then
   some (1, μ)
   else
   if q1.1 = 6 then
   some (2, μ)
   else
   none)

theorem knWhL_stakeShare : knWh yL_stakeShare cL_stakeShare 4 (some .int) [(0, 9, 12, 13), (0, 9, 15, 118)] 3 := ⟨(knGm 1273 (by decide +kernel) rfl), (knGm 113 (by decide +kernel) rfl), (knGm 1272 (by decide +kernel) rfl), by decide +kernel, by decide +kernel, by decide +kernel⟩
set_option maxHeartbeats 4000000 in
set_option maxRecDepth 100000 in
theorem kcL_stakeShare {G : knGT} (l : Launch) (hl : l.stackTraces = false) {a1 : Int} (ha1 : knC a1) {μ : knMem} {q : Int × knMem} (hf : kfL_stakeShare a1 μ = some q) : knCh G l yL_stakeShare cL_stakeShare 4 (some .int) [(0, 9, 12, 13), (0, 9, 15, 118)] 8 143 2 12 [knO G 0, knV a1, knO G 160] μ (knC q.1) (some (knV q.1)) q.2 := by
  unfold kfL_stakeShare at hf
  refine kn_ofJh (by decide) (Nat.le_of_ble_eq_true rfl) (L := [(0, knO G 0), (1, knV a1), (2, knO G 160)]) rfl ?_
  intro p e s m args below meth c X K hr hlk hex
  refine kj_aloadn X 2 dL_stakeShare_0 rfl ?_
  refine kj_iconst X dL_stakeShare_1 ?_
  refine kj_aloadn X 0 dL_stakeShare_2 rfl ?_
  refine kj_iloadn X 1 dL_stakeShare_3 rfl ?_
  obtain ⟨q1, h2, hf⟩ := knBd_inv hf
  refine kjx_callV (As := [knV a1]) (rest := [knV 0, knO G 160]) X K (kcX12_stakeShare l hl ha1 h2) knWvX12_stakeShare (knGm 1288 (by decide +kernel) rfl) (by decide) (knKd_in kdc_0 (by decide)) (knEnt_9 kdc_0) rfl rfl rfl (Nat.le_of_ble_eq_true rfl) (by decide) dL_stakeShare_4 rfl (fun h4 h3 => ?_) (fun E5 h4 h6 => ?_)
  · replace hf := knIp hf h4
    obtain ⟨h7, hf⟩ := knGd_inv hf
    refine kj_f2d X dL_stakeShare_7 h7 ?_
    refine kj_dast X K dL_stakeShare_8 ?_
    refine kj_goto X (tgt := 18) dL_stakeShare_9 (by decide) ?_
    refine kj_iconst X dL_stakeShare_18 ?_
    cases hf
    exact kj_iret X (show knC (0) from ⟨by omega, by omega⟩) hr dL_stakeShare_19 hlk
  · replace hf := knIq hf h4
    by_cases h8 : q1.1 = 1
    · replace hf := knIp hf h8
      refine kjx_catch X K hex 0 (by decide) h8 h6 knE_1 [] [(0, 9, 15, 118)] rfl (by decide) knPs_0 (knGm 918 (by decide +kernel) rfl) (knBm 445 (by decide +kernel) rfl) (fun q9 => ?_)
      refine kj_astoren X (L' := [(3, Value.ref q9), (0, knO G 0), (1, knV a1), (2, knO G 160)]) dL_stakeShare_12 (by decide) rfl ?_
      refine kj_iconst X dL_stakeShare_13 ?_
      cases hf
      exact kj_iret X (show knC (1) from ⟨by omega, by omega⟩) hr dL_stakeShare_14 hlk
    · replace hf := knIq hf h8
      by_cases h9 : q1.1 = 6
      · replace hf := knIp hf h9
        refine kjx_catch X K hex 5 (by decide) h9 h6 knE_6 [(0, 9, 12, 13)] [] rfl (by decide) (knPs_1 0 (by decide) (knGm 918 (by decide +kernel) rfl) knPs_0) (knGm 1274 (by decide +kernel) rfl) (knBm 1286 (by decide +kernel) rfl) (fun q9 => ?_)
        refine kj_astoren X (L' := [(3, Value.ref q9), (0, knO G 0), (1, knV a1), (2, knO G 160)]) dL_stakeShare_15 (by decide) rfl ?_
        refine kj_iconst X dL_stakeShare_16 ?_
        cases hf
        exact kj_iret X (show knC (2) from ⟨by omega, by omega⟩) hr dL_stakeShare_17 hlk
      · replace hf := knIq hf h9
        cases hf

def kfL_outputAt (a1 : Int) (μ : knMem) : Option (Int × knMem) :=
 Option.bind (kfX12_outputAt a1 μ) (fun q1 =>
  if q1.1 = 0 then
  some (0, (knUp μ 159 0 q1.2))
  else
  if q1.1 = 1 then
   some (1, μ)
   else
   none)

theorem knWhL_outputAt : knWh yL_outputAt cL_outputAt 4 (some .int) [(0, 9, 12, 13)] 3 := ⟨(knGm 1297 (by decide +kernel) rfl), (knGm 113 (by decide +kernel) rfl), (knGm 1296 (by decide +kernel) rfl), by decide +kernel, by decide +kernel, by decide +kernel⟩
set_option maxHeartbeats 4000000 in
set_option maxRecDepth 100000 in
theorem kcL_outputAt {G : knGT} (l : Launch) (hl : l.stackTraces = false) {a1 : Int} (ha1 : knC a1) {μ : knMem} {q : Int × knMem} (hf : kfL_outputAt a1 μ = some q) : knCh G l yL_outputAt cL_outputAt 4 (some .int) [(0, 9, 12, 13)] 7 121 1 6 [knO G 0, knV a1, knO G 159] μ (knC q.1) (some (knV q.1)) q.2 := by
  unfold kfL_outputAt at hf
  refine kn_ofJh (by decide) (Nat.le_of_ble_eq_true rfl) (L := [(0, knO G 0), (1, knV a1), (2, knO G 159)]) rfl ?_
  intro p e s m args below meth c X K hr hlk hex
  refine kj_aloadn X 2 dL_outputAt_0 rfl ?_
  refine kj_iconst X dL_outputAt_1 ?_
  refine kj_aloadn X 0 dL_outputAt_2 rfl ?_
  refine kj_iloadn X 1 dL_outputAt_3 rfl ?_
  obtain ⟨q1, h2, hf⟩ := knBd_inv hf
  refine kjx_callV (As := [knV a1]) (rest := [knV 0, knO G 159]) X K (kcX12_outputAt l hl ha1 h2) knWvX12_outputAt (knGm 1298 (by decide +kernel) rfl) (by decide) (knKd_in kdc_0 (by decide)) (knEnt_9 kdc_0) rfl rfl rfl (Nat.le_of_ble_eq_true rfl) (by decide) dL_outputAt_4 rfl (fun h4 h3 => ?_) (fun E5 h4 h6 => ?_)
  · replace hf := knIp hf h4
    refine kj_i2l X dL_outputAt_7 (knH_c h3) ?_
    refine kj_last X K (knH_c h3) dL_outputAt_8 ?_
    refine kj_goto X (tgt := 15) dL_outputAt_9 (by decide) ?_
    refine kj_iconst X dL_outputAt_15 ?_
    cases hf
    exact kj_iret X (show knC (0) from ⟨by omega, by omega⟩) hr dL_outputAt_16 hlk
  · replace hf := knIq hf h4
    by_cases h7 : q1.1 = 1
    · replace hf := knIp hf h7
      refine kjx_catch X K hex 0 (by decide) h7 h6 knE_1 [] [] rfl (by decide) knPs_0 (knGm 918 (by decide +kernel) rfl) (knBm 445 (by decide +kernel) rfl) (fun q9 => ?_)
      refine kj_astoren X (L' := [(3, Value.ref q9), (0, knO G 0), (1, knV a1), (2, knO G 159)]) dL_outputAt_12 (by decide) rfl ?_
      refine kj_iconst X dL_outputAt_13 ?_
      cases hf
      exact kj_iret X (show knC (1) from ⟨by omega, by omega⟩) hr dL_outputAt_14 hlk
    · replace hf := knIq hf h7
      cases hf

def kfL_type (a1 : Int) (μ : knMem) : Option (Int × knMem) :=
 Option.bind (kfX12_type a1 μ) (fun q1 =>
  if q1.1 = 0 then
  some (0, (knUp q1.2.2 159 0 q1.2.1))
  else
  if q1.1 = 2 then
   some (1, q1.2.2)
   else
   if q1.1 = 3 then
   some (2, q1.2.2)
   else
   none)

theorem knWhL_type : knWh yL_type cL_type 4 (some .int) [(0, 9, 12, 71), (0, 9, 15, 15)] 3 := ⟨(knGm 1305 (by decide +kernel) rfl), (knGm 113 (by decide +kernel) rfl), (knGm 1304 (by decide +kernel) rfl), by decide +kernel, by decide +kernel, by decide +kernel⟩
set_option maxHeartbeats 4000000 in
set_option maxRecDepth 100000 in
theorem kcL_type {G : knGT} (l : Launch) (hl : l.stackTraces = false) {a1 : Int} (ha1 : knH a1) {μ : knMem} {q : Int × knMem} (hf : kfL_type a1 μ = some q) : knCh G l yL_type cL_type 4 (some .int) [(0, 9, 12, 71), (0, 9, 15, 15)] 7 121 1 6 [knO G 0, knV a1, knO G 159] μ (knC q.1) (some (knV q.1)) q.2 := by
  unfold kfL_type at hf
  refine kn_ofJh (by decide) (Nat.le_of_ble_eq_true rfl) (L := [(0, knO G 0), (1, knV a1), (2, knO G 159)]) rfl ?_
  intro p e s m args below meth c X K hr hlk hex
  refine kj_aloadn X 2 dL_type_0 rfl ?_
  refine kj_iconst X dL_type_1 ?_
  refine kj_aloadn X 0 dL_type_2 rfl ?_
  refine kj_iloadn X 1 dL_type_3 rfl ?_
  obtain ⟨q1, h2, hf⟩ := knBd_inv hf
  refine kjx_callV (As := [knV a1]) (rest := [knV 0, knO G 159]) X K (kcX12_type l hl ha1 h2) knWvX12_type (knGm 1306 (by decide +kernel) rfl) (by decide) (knKd_in kdc_0 (by decide)) (knEnt_9 kdc_0) rfl rfl rfl (Nat.le_of_ble_eq_true rfl) (by decide) dL_type_4 rfl (fun h4 h3 => ?_) (fun E5 h4 h6 => ?_)
  · replace hf := knIp hf h4
    refine kj_i2l X dL_type_7 h3 ?_
    refine kj_last X K h3 dL_type_8 ?_
    refine kj_goto X (tgt := 18) dL_type_9 (by decide) ?_
    refine kj_iconst X dL_type_18 ?_
    cases hf
    exact kj_iret X (show knC (0) from ⟨by omega, by omega⟩) hr dL_type_19 hlk
  · replace hf := knIq hf h4
    by_cases h7 : q1.1 = 2
    · replace hf := knIp hf h7
      refine kjx_catch X K hex 1 (by decide) h7 h6 knE_2 [] [(0, 9, 15, 15)] rfl (by decide) knPs_0 (knGm 1117 (by decide +kernel) rfl) (knBm 519 (by decide +kernel) rfl) (fun q9 => ?_)
      refine kj_astoren X (L' := [(3, Value.ref q9), (0, knO G 0), (1, knV a1), (2, knO G 159)]) dL_type_12 (by decide) rfl ?_
      refine kj_iconst X dL_type_13 ?_
      cases hf
      exact kj_iret X (show knC (1) from ⟨by omega, by omega⟩) hr dL_type_14 hlk
    · replace hf := knIq hf h7
      by_cases h8 : q1.1 = 3
      · replace hf := knIp hf h8
        refine kjx_catch X K hex 2 (by decide) h8 h6 knE_3 [(0, 9, 12, 71)] [] rfl (by decide) (knPs_1 1 (by decide) (knGm 1117 (by decide +kernel) rfl) knPs_0) (knGm 939 (by decide +kernel) rfl) (knBm 537 (by decide +kernel) rfl) (fun q9 => ?_)
        refine kj_astoren X (L' := [(3, Value.ref q9), (0, knO G 0), (1, knV a1), (2, knO G 159)]) dL_type_15 (by decide) rfl ?_
        refine kj_iconst X dL_type_16 ?_
        cases hf
        exact kj_iret X (show knC (2) from ⟨by omega, by omega⟩) hr dL_type_17 hlk
      · replace hf := knIq hf h8
        cases hf

def kfL_runScript  (μ : knMem) : Option (Int × knMem) :=
 Option.bind (kfX12_runScript  μ) (fun q1 =>
  if q1.1 = 0 then
  some (0, (knUp q1.2.2 159 0 q1.2.1))
  else
  if q1.1 = 2 then
   some (1, q1.2.2)
   else
   if q1.1 = 3 then
   some (2, q1.2.2)
   else
   none)

theorem knWhL_runScript : knWh yL_runScript cL_runScript 3 (some .int) [(0, 8, 11, 71), (0, 8, 14, 15)] 2 := ⟨(knGm 1318 (by decide +kernel) rfl), (knGm 113 (by decide +kernel) rfl), (knGm 1317 (by decide +kernel) rfl), by decide +kernel, by decide +kernel, by decide +kernel⟩
set_option maxHeartbeats 4000000 in
set_option maxRecDepth 100000 in
theorem kcL_runScript {G : knGT} (l : Launch) (hl : l.stackTraces = false)   {μ : knMem} {q : Int × knMem} (hf : kfL_runScript  μ = some q) : knCh G l yL_runScript cL_runScript 3 (some .int) [(0, 8, 11, 71), (0, 8, 14, 15)] 11 231 1 6 [knO G 0, knO G 159] μ (knC q.1) (some (knV q.1)) q.2 := by
  unfold kfL_runScript at hf
  refine kn_ofJh (by decide) (Nat.le_of_ble_eq_true rfl) (L := [(0, knO G 0), (1, knO G 159)]) rfl ?_
  intro p e s m args below meth c X K hr hlk hex
  refine kj_aloadn X 1 dL_runScript_0 rfl ?_
  refine kj_iconst X dL_runScript_1 ?_
  refine kj_aloadn X 0 dL_runScript_2 rfl ?_
  obtain ⟨q1, h2, hf⟩ := knBd_inv hf
  refine kjx_callV (As := []) (rest := [knV 0, knO G 159]) X K (kcX12_runScript l hl  h2) knWvX12_runScript (knGm 1319 (by decide +kernel) rfl) (by decide) (knKd_in kdc_0 (by decide)) (knEnt_9 kdc_0) rfl rfl rfl (Nat.le_of_ble_eq_true rfl) (by decide) dL_runScript_3 rfl (fun h4 h3 => ?_) (fun E5 h4 h6 => ?_)
  · replace hf := knIp hf h4
    refine kj_i2l X dL_runScript_6 h3 ?_
    refine kj_last X K h3 dL_runScript_7 ?_
    refine kj_goto X (tgt := 17) dL_runScript_8 (by decide) ?_
    refine kj_iconst X dL_runScript_17 ?_
    cases hf
    exact kj_iret X (show knC (0) from ⟨by omega, by omega⟩) hr dL_runScript_18 hlk
  · replace hf := knIq hf h4
    by_cases h7 : q1.1 = 2
    · replace hf := knIp hf h7
      refine kjx_catch X K hex 1 (by decide) h7 h6 knE_2 [] [(0, 8, 14, 15)] rfl (by decide) knPs_0 (knGm 1117 (by decide +kernel) rfl) (knBm 519 (by decide +kernel) rfl) (fun q9 => ?_)
      refine kj_astoren X (L' := [(2, Value.ref q9), (0, knO G 0), (1, knO G 159)]) dL_runScript_11 (by decide) rfl ?_
      refine kj_iconst X dL_runScript_12 ?_
      cases hf
      exact kj_iret X (show knC (1) from ⟨by omega, by omega⟩) hr dL_runScript_13 hlk
    · replace hf := knIq hf h7
      by_cases h8 : q1.1 = 3
      · replace hf := knIp hf h8
        refine kjx_catch X K hex 2 (by decide) h8 h6 knE_3 [(0, 8, 11, 71)] [] rfl (by decide) (knPs_1 1 (by decide) (knGm 1117 (by decide +kernel) rfl) knPs_0) (knGm 939 (by decide +kernel) rfl) (knBm 537 (by decide +kernel) rfl) (fun q9 => ?_)
        refine kj_astoren X (L' := [(2, Value.ref q9), (0, knO G 0), (1, knO G 159)]) dL_runScript_14 (by decide) rfl ?_
        refine kj_iconst X dL_runScript_15 ?_
        cases hf
        exact kj_iret X (show knC (2) from ⟨by omega, by omega⟩) hr dL_runScript_16 hlk
      · replace hf := knIq hf h8
        cases hf

def kfL_errorPosition  (μ : knMem) : Option (Int × knMem) :=
 Option.bind (kfX12_errorPosition  μ) (fun q1 =>
  if q1.1 = 0 then
  some (0, (knUp μ 159 0 q1.2))
  else
  if q1.1 = 5 then
   some (1, μ)
   else
   none)

theorem knWhL_errorPosition : knWh yL_errorPosition cL_errorPosition 3 (some .int) [(0, 8, 11, 63)] 2 := ⟨(knGm 1459 (by decide +kernel) rfl), (knGm 113 (by decide +kernel) rfl), (knGm 1458 (by decide +kernel) rfl), by decide +kernel, by decide +kernel, by decide +kernel⟩
set_option maxHeartbeats 4000000 in
set_option maxRecDepth 100000 in
theorem kcL_errorPosition {G : knGT} (l : Launch) (hl : l.stackTraces = false)   {μ : knMem} {q : Int × knMem} (hf : kfL_errorPosition  μ = some q) : knCh G l yL_errorPosition cL_errorPosition 3 (some .int) [(0, 8, 11, 63)] 7 120 1 6 [knO G 0, knO G 159] μ (knC q.1) (some (knV q.1)) q.2 := by
  unfold kfL_errorPosition at hf
  refine kn_ofJh (by decide) (Nat.le_of_ble_eq_true rfl) (L := [(0, knO G 0), (1, knO G 159)]) rfl ?_
  intro p e s m args below meth c X K hr hlk hex
  refine kj_aloadn X 1 dL_errorPosition_0 rfl ?_
  refine kj_iconst X dL_errorPosition_1 ?_
  refine kj_aloadn X 0 dL_errorPosition_2 rfl ?_
  obtain ⟨q1, h2, hf⟩ := knBd_inv hf
  refine kjx_callV (As := []) (rest := [knV 0, knO G 159]) X K (kcX12_errorPosition l hl  h2) knWvX12_errorPosition (knGm 1460 (by decide +kernel) rfl) (by decide) (knKd_in kdc_0 (by decide)) (knEnt_9 kdc_0) rfl rfl rfl (Nat.le_of_ble_eq_true rfl) (by decide) dL_errorPosition_3 rfl (fun h4 h3 => ?_) (fun E5 h4 h6 => ?_)
  · replace hf := knIp hf h4
    refine kj_i2l X dL_errorPosition_6 h3 ?_
    refine kj_last X K h3 dL_errorPosition_7 ?_
    refine kj_goto X (tgt := 14) dL_errorPosition_8 (by decide) ?_
    refine kj_iconst X dL_errorPosition_14 ?_
    cases hf
    exact kj_iret X (show knC (0) from ⟨by omega, by omega⟩) hr dL_errorPosition_15 hlk
  · replace hf := knIq hf h4
    by_cases h7 : q1.1 = 5
    · replace hf := knIp hf h7
      refine kjx_catch X K hex 4 (by decide) h7 h6 knE_5 [] [] rfl (by decide) knPs_0 (knGm 1092 (by decide +kernel) rfl) (knBm 573 (by decide +kernel) rfl) (fun q9 => ?_)
      refine kj_astoren X (L' := [(2, Value.ref q9), (0, knO G 0), (1, knO G 159)]) dL_errorPosition_11 (by decide) rfl ?_
      refine kj_iconst X dL_errorPosition_12 ?_
      cases hf
      exact kj_iret X (show knC (1) from ⟨by omega, by omega⟩) hr dL_errorPosition_13 hlk
    · replace hf := knIq hf h7
      cases hf

def kfL_failedCommand  (μ : knMem) : Option (Int × knMem) :=
 Option.bind (kfX12_failedCommand  μ) (fun q1 =>
  if q1.1 = 0 then
  some (0, (knUp μ 159 0 q1.2))
  else
  if q1.1 = 5 then
   some (1, μ)
   else
   none)

theorem knWhL_failedCommand : knWh yL_failedCommand cL_failedCommand 3 (some .int) [(0, 8, 11, 63)] 2 := ⟨(knGm 1467 (by decide +kernel) rfl), (knGm 113 (by decide +kernel) rfl), (knGm 1466 (by decide +kernel) rfl), by decide +kernel, by decide +kernel, by decide +kernel⟩
set_option maxHeartbeats 4000000 in
set_option maxRecDepth 100000 in
theorem kcL_failedCommand {G : knGT} (l : Launch) (hl : l.stackTraces = false)   {μ : knMem} {q : Int × knMem} (hf : kfL_failedCommand  μ = some q) : knCh G l yL_failedCommand cL_failedCommand 3 (some .int) [(0, 8, 11, 63)] 7 120 1 6 [knO G 0, knO G 159] μ (knC q.1) (some (knV q.1)) q.2 := by
  unfold kfL_failedCommand at hf
  refine kn_ofJh (by decide) (Nat.le_of_ble_eq_true rfl) (L := [(0, knO G 0), (1, knO G 159)]) rfl ?_
  intro p e s m args below meth c X K hr hlk hex
  refine kj_aloadn X 1 dL_failedCommand_0 rfl ?_
  refine kj_iconst X dL_failedCommand_1 ?_
  refine kj_aloadn X 0 dL_failedCommand_2 rfl ?_
  obtain ⟨q1, h2, hf⟩ := knBd_inv hf
  refine kjx_callV (As := []) (rest := [knV 0, knO G 159]) X K (kcX12_failedCommand l hl  h2) knWvX12_failedCommand (knGm 1468 (by decide +kernel) rfl) (by decide) (knKd_in kdc_0 (by decide)) (knEnt_9 kdc_0) rfl rfl rfl (Nat.le_of_ble_eq_true rfl) (by decide) dL_failedCommand_3 rfl (fun h4 h3 => ?_) (fun E5 h4 h6 => ?_)
  · replace hf := knIp hf h4
    refine kj_i2l X dL_failedCommand_6 h3 ?_
    refine kj_last X K h3 dL_failedCommand_7 ?_
    refine kj_goto X (tgt := 14) dL_failedCommand_8 (by decide) ?_
    refine kj_iconst X dL_failedCommand_14 ?_
    cases hf
    exact kj_iret X (show knC (0) from ⟨by omega, by omega⟩) hr dL_failedCommand_15 hlk
  · replace hf := knIq hf h4
    by_cases h7 : q1.1 = 5
    · replace hf := knIp hf h7
      refine kjx_catch X K hex 4 (by decide) h7 h6 knE_5 [] [] rfl (by decide) knPs_0 (knGm 1092 (by decide +kernel) rfl) (knBm 573 (by decide +kernel) rfl) (fun q9 => ?_)
      refine kj_astoren X (L' := [(2, Value.ref q9), (0, knO G 0), (1, knO G 159)]) dL_failedCommand_11 (by decide) rfl ?_
      refine kj_iconst X dL_failedCommand_12 ?_
      cases hf
      exact kj_iret X (show knC (1) from ⟨by omega, by omega⟩) hr dL_failedCommand_13 hlk
    · replace hf := knIq hf h7
      cases hf

def kfL_undo  (μ : knMem) : Option (Int × knMem) :=
 Option.bind (kfX12_undo  μ) (fun q1 =>
  if q1.1 = 0 then
  some (0, (knUp q1.2.2 159 0 q1.2.1))
  else
  if q1.1 = 5 then
   some (1, q1.2.2)
   else
   none)

theorem knWhL_undo : knWh yL_undo cL_undo 3 (some .int) [(0, 8, 11, 63)] 2 := ⟨(knGm 1475 (by decide +kernel) rfl), (knGm 113 (by decide +kernel) rfl), (knGm 1474 (by decide +kernel) rfl), by decide +kernel, by decide +kernel, by decide +kernel⟩
set_option maxHeartbeats 4000000 in
set_option maxRecDepth 100000 in
theorem kcL_undo {G : knGT} (l : Launch) (hl : l.stackTraces = false)   {μ : knMem} {q : Int × knMem} (hf : kfL_undo  μ = some q) : knCh G l yL_undo cL_undo 3 (some .int) [(0, 8, 11, 63)] 7 120 1 6 [knO G 0, knO G 159] μ (knC q.1) (some (knV q.1)) q.2 := by
  unfold kfL_undo at hf
  refine kn_ofJh (by decide) (Nat.le_of_ble_eq_true rfl) (L := [(0, knO G 0), (1, knO G 159)]) rfl ?_
  intro p e s m args below meth c X K hr hlk hex
  refine kj_aloadn X 1 dL_undo_0 rfl ?_
  refine kj_iconst X dL_undo_1 ?_
  refine kj_aloadn X 0 dL_undo_2 rfl ?_
  obtain ⟨q1, h2, hf⟩ := knBd_inv hf
  refine kjx_callV (As := []) (rest := [knV 0, knO G 159]) X K (kcX12_undo l hl  h2) knWvX12_undo (knGm 1476 (by decide +kernel) rfl) (by decide) (knKd_in kdc_0 (by decide)) (knEnt_9 kdc_0) rfl rfl rfl (Nat.le_of_ble_eq_true rfl) (by decide) dL_undo_3 rfl (fun h4 h3 => ?_) (fun E5 h4 h6 => ?_)
  · replace hf := knIp hf h4
    refine kj_i2l X dL_undo_6 h3 ?_
    refine kj_last X K h3 dL_undo_7 ?_
    refine kj_goto X (tgt := 14) dL_undo_8 (by decide) ?_
    refine kj_iconst X dL_undo_14 ?_
    cases hf
    exact kj_iret X (show knC (0) from ⟨by omega, by omega⟩) hr dL_undo_15 hlk
  · replace hf := knIq hf h4
    by_cases h7 : q1.1 = 5
    · replace hf := knIp hf h7
      refine kjx_catch X K hex 4 (by decide) h7 h6 knE_5 [] [] rfl (by decide) knPs_0 (knGm 1092 (by decide +kernel) rfl) (knBm 573 (by decide +kernel) rfl) (fun q9 => ?_)
      refine kj_astoren X (L' := [(2, Value.ref q9), (0, knO G 0), (1, knO G 159)]) dL_undo_11 (by decide) rfl ?_
      refine kj_iconst X dL_undo_12 ?_
      cases hf
      exact kj_iret X (show knC (1) from ⟨by omega, by omega⟩) hr dL_undo_13 hlk
    · replace hf := knIq hf h7
      cases hf

def kfL_restore  (μ : knMem) : Option (Int × knMem) :=
 Option.bind (kfX12_restore  μ) (fun q1 =>
  if q1.1 = 0 then
  some (0, (knUp q1.2.2 159 0 q1.2.1))
  else
  if q1.1 = 3 then
   some (1, q1.2.2)
   else
   none)

theorem knWhL_restore : knWh yL_restore cL_restore 3 (some .int) [(0, 8, 11, 15)] 2 := ⟨(knGm 1488 (by decide +kernel) rfl), (knGm 113 (by decide +kernel) rfl), (knGm 1487 (by decide +kernel) rfl), by decide +kernel, by decide +kernel, by decide +kernel⟩
set_option maxHeartbeats 4000000 in
set_option maxRecDepth 100000 in
theorem kcL_restore {G : knGT} (l : Launch) (hl : l.stackTraces = false)   {μ : knMem} {q : Int × knMem} (hf : kfL_restore  μ = some q) : knCh G l yL_restore cL_restore 3 (some .int) [(0, 8, 11, 15)] 7 120 1 6 [knO G 0, knO G 159] μ (knC q.1) (some (knV q.1)) q.2 := by
  unfold kfL_restore at hf
  refine kn_ofJh (by decide) (Nat.le_of_ble_eq_true rfl) (L := [(0, knO G 0), (1, knO G 159)]) rfl ?_
  intro p e s m args below meth c X K hr hlk hex
  refine kj_aloadn X 1 dL_restore_0 rfl ?_
  refine kj_iconst X dL_restore_1 ?_
  refine kj_aloadn X 0 dL_restore_2 rfl ?_
  obtain ⟨q1, h2, hf⟩ := knBd_inv hf
  refine kjx_callV (As := []) (rest := [knV 0, knO G 159]) X K (kcX12_restore l hl  h2) knWvX12_restore (knGm 1489 (by decide +kernel) rfl) (by decide) (knKd_in kdc_0 (by decide)) (knEnt_9 kdc_0) rfl rfl rfl (Nat.le_of_ble_eq_true rfl) (by decide) dL_restore_3 rfl (fun h4 h3 => ?_) (fun E5 h4 h6 => ?_)
  · replace hf := knIp hf h4
    refine kj_i2l X dL_restore_6 h3 ?_
    refine kj_last X K h3 dL_restore_7 ?_
    refine kj_goto X (tgt := 14) dL_restore_8 (by decide) ?_
    refine kj_iconst X dL_restore_14 ?_
    cases hf
    exact kj_iret X (show knC (0) from ⟨by omega, by omega⟩) hr dL_restore_15 hlk
  · replace hf := knIq hf h4
    by_cases h7 : q1.1 = 3
    · replace hf := knIp hf h7
      refine kjx_catch X K hex 2 (by decide) h7 h6 knE_3 [] [] rfl (by decide) knPs_0 (knGm 939 (by decide +kernel) rfl) (knBm 537 (by decide +kernel) rfl) (fun q9 => ?_)
      refine kj_astoren X (L' := [(2, Value.ref q9), (0, knO G 0), (1, knO G 159)]) dL_restore_11 (by decide) rfl ?_
      refine kj_iconst X dL_restore_12 ?_
      cases hf
      exact kj_iret X (show knC (1) from ⟨by omega, by omega⟩) hr dL_restore_13 hlk
    · replace hf := knIq hf h7
      cases hf

