def kfX13_turn (a1 : Int) (μ : knMem) : Option (Int × knMem) :=
 Option.bind (kfX13_notTurn a1 (knUp μ 142 0 0)) (fun q1 =>
  if q1 = 0 then
   Option.bind (kfX13_remembers  (knUp μ 142 0 0)) (fun q5 =>
    Option.bind (kfX13_turnsTo a1 q5) (fun q8 =>
     some (q8.1, q8.2)))
  else
   Option.bind (kfX13_fails 1 (knUp μ 142 0 0)) (fun q11 =>
    some (q11.1, q11.2)))

theorem knWvX13_turn : knWv yX13_turn cX13_turn 2 (some .int) 1 := ⟨(knGm 1739 (by decide +kernel) rfl), (knGm 124 (by decide +kernel) rfl), (knGm 1737 (by decide +kernel) rfl), (knGm 1738 (by decide +kernel) rfl), by decide +kernel, by decide +kernel, by decide +kernel⟩
set_option maxHeartbeats 4000000 in
set_option maxRecDepth 100000 in
theorem kcX13_turn {G : knGT} (l : Launch) {a1 : Int} (ha1 : knC a1) {μ : knMem} {q : Int × knMem} (hf : kfX13_turn a1 μ = some q) : knC0 G l yX13_turn cX13_turn 2 (some .int) 3 64 [knO G 142, knV a1] μ (knC q.1) (some (knV q.1)) q.2 := by
  unfold kfX13_turn at hf
  refine kn_ofJ (plainFor_of_name (by decide)) (Nat.le_of_ble_eq_true rfl) (L := [(0, knO G 142), (1, knV a1)]) rfl ?_
  intro p e s m args below meth c X K hr hlk
  refine kj_aloadn X 0 dX13_turn_0 rfl ?_
  refine kj_iconst X dX13_turn_1 ?_
  refine kj_putf (k := 0) (ki := 0) (x := 0) (ty := .int) X K rfl (knKd_in kdc_142 (by decide)) (knEnt_10 kdc_142) rfl (by decide) knInX13 tyX13_ok nmX13 (knGm 1504 (by decide +kernel) rfl) rfl rfl (by decide +kernel) rfl rfl (by simp) (by rw [knEnt_10 kdc_142, knUp_row]; rfl) (fun _ => (show knC (0) from ⟨by omega, by omega⟩)) (fun h => by rw [kdc_142] at h; cases h) (fun h => by rw [kdc_142] at h; cases h) dX13_turn_2 ?_
  refine kj_aloadn X 0 dX13_turn_5 rfl ?_
  refine kj_iloadn X 1 dX13_turn_6 rfl ?_
  obtain ⟨q1, h2, hf⟩ := knBd_inv hf
  refine kj_callV (As := [knV a1]) (rest := []) X K (kcX13_notTurn l ha1 h2) knWvX13_notTurn (knGm 1740 (by decide +kernel) rfl) (by decide) (knKd_in kdc_142 (by decide)) (knEnt_10 kdc_142) rfl rfl rfl (Nat.le_of_ble_eq_true rfl) (by decide) dX13_turn_7 rfl (fun h3 => ?_)
  refine kj_if_eq X (tgt := 19) dX13_turn_10 (by decide) h3 (fun h4 => ?_) (fun h4 => ?_)
  · replace hf := knIp hf h4
    refine kj_aloadn X 0 dX13_turn_19 rfl ?_
    obtain ⟨q5, h6, hf⟩ := knBd_inv hf
    refine kj_callV (As := []) (rest := []) X K (kcX13_remembers l  h6) knWvX13_remembers (knGm 1608 (by decide +kernel) rfl) (by decide) (knKd_in kdc_142 (by decide)) (knEnt_10 kdc_142) rfl rfl rfl (Nat.le_of_ble_eq_true rfl) (by decide) dX13_turn_20 rfl (fun h7 => ?_)
    refine kj_aloadn X 0 dX13_turn_23 rfl ?_
    refine kj_iloadn X 1 dX13_turn_24 rfl ?_
    obtain ⟨q8, h9, hf⟩ := knBd_inv hf
    refine kj_callV (As := [knV a1]) (rest := []) X K (kcX13_turnsTo l ha1 h9) knWvX13_turnsTo (knGm 1748 (by decide +kernel) rfl) (by decide) (knKd_in kdc_142 (by decide)) (knEnt_10 kdc_142) rfl rfl rfl (Nat.le_of_ble_eq_true rfl) (by decide) dX13_turn_25 rfl (fun h10 => ?_)
    cases hf
    exact kj_iret X h10 hr dX13_turn_28 hlk
  · replace hf := knIq hf h4
    refine kj_aloadn X 0 dX13_turn_13 rfl ?_
    refine kj_iconst X dX13_turn_14 ?_
    obtain ⟨q11, h12, hf⟩ := knBd_inv hf
    refine kj_callV (As := [knV 1]) (rest := []) X K (kcX13_fails l (show knC (1) from ⟨by omega, by omega⟩) h12) knWvX13_fails (knGm 1604 (by decide +kernel) rfl) (by decide) (knKd_in kdc_142 (by decide)) (knEnt_10 kdc_142) rfl rfl rfl (Nat.le_of_ble_eq_true rfl) (by decide) dX13_turn_15 rfl (fun h13 => ?_)
    cases hf
    exact kj_iret X h13 hr dX13_turn_18 hlk

def kfX13_reducesAll  (μ : knMem) : Option (Int × knMem) :=
 Option.bind (kfX13_loads  μ) (fun q1 =>
  Option.bind (kfX13_reduces  q1) (fun q5 =>
   Option.bind (kfX13_stores  q5) (fun q8 =>
    some ((knW ((q1 142 8) - (q8 142 8))), q8))))

theorem knWvX13_reducesAll : knWv yX13_reducesAll cX13_reducesAll 2 (some .int) 0 := ⟨(knGm 1759 (by decide +kernel) rfl), (knGm 124 (by decide +kernel) rfl), (knGm 1758 (by decide +kernel) rfl), (knGm 67 (by decide +kernel) rfl), by decide +kernel, by decide +kernel, by decide +kernel⟩
set_option maxHeartbeats 4000000 in
set_option maxRecDepth 100000 in
theorem kcX13_reducesAll {G : knGT} (l : Launch)   {μ : knMem} {q : Int × knMem} (hf : kfX13_reducesAll  μ = some q) : knC0 G l yX13_reducesAll cX13_reducesAll 2 (some .int) 4 88 [knO G 142] μ (knC q.1) (some (knV q.1)) q.2 := by
  unfold kfX13_reducesAll at hf
  refine kn_ofJ (plainFor_of_name (by decide)) (Nat.le_of_ble_eq_true rfl) (L := [(0, knO G 142)]) rfl ?_
  intro p e s m args below meth c X K hr hlk
  refine kj_aloadn X 0 dX13_reducesAll_0 rfl ?_
  obtain ⟨q1, h2, hf⟩ := knBd_inv hf
  refine kj_callV (As := []) (rest := []) X K (kcX13_loads l  h2) knWvX13_loads (knGm 1624 (by decide +kernel) rfl) (by decide) (knKd_in kdc_142 (by decide)) (knEnt_10 kdc_142) rfl rfl rfl (Nat.le_of_ble_eq_true rfl) (by decide) dX13_reducesAll_1 rfl (fun h3 => ?_)
  refine kj_aloadn X 0 dX13_reducesAll_4 rfl ?_
  refine kj_geti (k := 8) (ki := 8) X K rfl kdc_142 (by decide) (knEnt_10 kdc_142) rfl (by decide) knInX13 (knGm 1512 (by decide +kernel) rfl) rfl rfl dX13_reducesAll_5 (fun h4 => ?_)
  refine kj_istoren X (L' := [(1, knV (q1 142 8)), (0, knO G 142)]) dX13_reducesAll_8 (by decide) rfl ?_
  refine kj_aloadn X 1 dX13_reducesAll_9 rfl ?_
  obtain ⟨q5, h6, hf⟩ := knBd_inv hf
  refine kj_callV (As := []) (rest := []) X K (kcX13_reduces l  h6) knWvX13_reduces (knGm 1760 (by decide +kernel) rfl) (by decide) (knKd_in kdc_142 (by decide)) (knEnt_10 kdc_142) rfl rfl rfl (Nat.le_of_ble_eq_true rfl) (by decide) dX13_reducesAll_10 rfl (fun h7 => ?_)
  refine kj_aloadn X 1 dX13_reducesAll_13 rfl ?_
  obtain ⟨q8, h9, hf⟩ := knBd_inv hf
  refine kj_callV (As := []) (rest := []) X K (kcX13_stores l  h9) knWvX13_stores (knGm 1632 (by decide +kernel) rfl) (by decide) (knKd_in kdc_142 (by decide)) (knEnt_10 kdc_142) rfl rfl rfl (Nat.le_of_ble_eq_true rfl) (by decide) dX13_reducesAll_14 rfl (fun h10 => ?_)
  refine kj_iloadn X 0 dX13_reducesAll_17 rfl ?_
  refine kj_aloadn X 1 dX13_reducesAll_18 rfl ?_
  refine kj_geti (k := 8) (ki := 8) X K rfl kdc_142 (by decide) (knEnt_10 kdc_142) rfl (by decide) knInX13 (knGm 1512 (by decide +kernel) rfl) rfl rfl dX13_reducesAll_19 (fun h11 => ?_)
  refine kj_isub X dX13_reducesAll_22 ?_
  cases hf
  exact kj_iret X (knCw _) hr dX13_reducesAll_23 hlk

def kfX13_reduce  (μ : knMem) : Option (Int × knMem) :=
 Option.bind (kfX13_remembers  (knUp μ 142 0 0)) (fun q1 =>
  Option.bind (kfX13_reducesAll  q1) (fun q4 =>
   some (q4.1, q4.2)))

theorem knWvX13_reduce : knWv yX13_reduce cX13_reduce 1 (some .int) 0 := ⟨(knGm 1755 (by decide +kernel) rfl), (knGm 124 (by decide +kernel) rfl), (knGm 1753 (by decide +kernel) rfl), (knGm 1754 (by decide +kernel) rfl), by decide +kernel, by decide +kernel, by decide +kernel⟩
set_option maxHeartbeats 4000000 in
set_option maxRecDepth 100000 in
theorem kcX13_reduce {G : knGT} (l : Launch)   {μ : knMem} {q : Int × knMem} (hf : kfX13_reduce  μ = some q) : knC0 G l yX13_reduce cX13_reduce 1 (some .int) 5 109 [knO G 142] μ (knC q.1) (some (knV q.1)) q.2 := by
  unfold kfX13_reduce at hf
  refine kn_ofJ (plainFor_of_name (by decide)) (Nat.le_of_ble_eq_true rfl) (L := [(0, knO G 142)]) rfl ?_
  intro p e s m args below meth c X K hr hlk
  refine kj_aloadn X 0 dX13_reduce_0 rfl ?_
  refine kj_iconst X dX13_reduce_1 ?_
  refine kj_putf (k := 0) (ki := 0) (x := 0) (ty := .int) X K rfl (knKd_in kdc_142 (by decide)) (knEnt_10 kdc_142) rfl (by decide) knInX13 tyX13_ok nmX13 (knGm 1504 (by decide +kernel) rfl) rfl rfl (by decide +kernel) rfl rfl (by simp) (by rw [knEnt_10 kdc_142, knUp_row]; rfl) (fun _ => (show knC (0) from ⟨by omega, by omega⟩)) (fun h => by rw [kdc_142] at h; cases h) (fun h => by rw [kdc_142] at h; cases h) dX13_reduce_2 ?_
  refine kj_aloadn X 0 dX13_reduce_5 rfl ?_
  obtain ⟨q1, h2, hf⟩ := knBd_inv hf
  refine kj_callV (As := []) (rest := []) X K (kcX13_remembers l  h2) knWvX13_remembers (knGm 1608 (by decide +kernel) rfl) (by decide) (knKd_in kdc_142 (by decide)) (knEnt_10 kdc_142) rfl rfl rfl (Nat.le_of_ble_eq_true rfl) (by decide) dX13_reduce_6 rfl (fun h3 => ?_)
  refine kj_aloadn X 0 dX13_reduce_9 rfl ?_
  obtain ⟨q4, h5, hf⟩ := knBd_inv hf
  refine kj_callV (As := []) (rest := []) X K (kcX13_reducesAll l  h5) knWvX13_reducesAll (knGm 1756 (by decide +kernel) rfl) (by decide) (knKd_in kdc_142 (by decide)) (knEnt_10 kdc_142) rfl rfl rfl (Nat.le_of_ble_eq_true rfl) (by decide) dX13_reduce_10 rfl (fun h6 => ?_)
  cases hf
  exact kj_iret X h6 hr dX13_reduce_13 hlk

def kfX13_asks (a1 : Int) (μ : knMem) : Option (Int × knMem) :=
 knGd (0 ≤ a1 ∧ a1 < 50)
  (some (((knUp μ 142 0 0) 143 a1), (knUp μ 142 0 0)))

theorem knWvX13_asks : knWv yX13_asks cX13_asks 2 (some .int) 1 := ⟨(knGm 1775 (by decide +kernel) rfl), (knGm 124 (by decide +kernel) rfl), (knGm 1774 (by decide +kernel) rfl), (knGm 70 (by decide +kernel) rfl), by decide +kernel, by decide +kernel, by decide +kernel⟩
set_option maxHeartbeats 4000000 in
set_option maxRecDepth 100000 in
theorem kcX13_asks {G : knGT} (l : Launch) {a1 : Int} (ha1 : knC a1) {μ : knMem} {q : Int × knMem} (hf : kfX13_asks a1 μ = some q) : knC0 G l yX13_asks cX13_asks 2 (some .int) 0 0 [knO G 142, knV a1] μ (knC q.1) (some (knV q.1)) q.2 := by
  unfold kfX13_asks at hf
  refine kn_ofJ (plainFor_of_name (by decide)) (Nat.le_of_ble_eq_true rfl) (L := [(0, knO G 142), (1, knV a1)]) rfl ?_
  intro p e s m args below meth c X K hr hlk
  refine kj_aloadn X 0 dX13_asks_0 rfl ?_
  refine kj_iconst X dX13_asks_1 ?_
  refine kj_putf (k := 0) (ki := 0) (x := 0) (ty := .int) X K rfl (knKd_in kdc_142 (by decide)) (knEnt_10 kdc_142) rfl (by decide) knInX13 tyX13_ok nmX13 (knGm 1504 (by decide +kernel) rfl) rfl rfl (by decide +kernel) rfl rfl (by simp) (by rw [knEnt_10 kdc_142, knUp_row]; rfl) (fun _ => (show knC (0) from ⟨by omega, by omega⟩)) (fun h => by rw [kdc_142] at h; cases h) (fun h => by rw [kdc_142] at h; cases h) dX13_asks_2 ?_
  refine kj_aloadn X 0 dX13_asks_5 rfl ?_
  refine kj_geto (k := 1) (o2 := 143) X K kdc_142 (by decide) (knEnt_10 kdc_142) rfl (by decide) knInX13 (knGm 1505 (by decide +kernel) rfl) rfl rfl dX13_asks_6 ?_
  refine kj_iloadn X 1 dX13_asks_9 rfl ?_
  obtain ⟨h1, hf⟩ := knGd_inv hf
  refine kj_iald X K kdc_143 ha1 lnc_143 h1 dX13_asks_10 (fun h2 => ?_)
  cases hf
  exact kj_iret X h2 hr dX13_asks_11 hlk

def kfX13_crossingCount  (μ : knMem) : Option (Int × knMem) :=
 Option.bind (kfX13_asks 0 μ) (fun q1 =>
  some (q1.1, q1.2))

theorem knWvX13_crossingCount : knWv yX13_crossingCount cX13_crossingCount 1 (some .int) 0 := ⟨(knGm 1771 (by decide +kernel) rfl), (knGm 124 (by decide +kernel) rfl), (knGm 1769 (by decide +kernel) rfl), (knGm 1770 (by decide +kernel) rfl), by decide +kernel, by decide +kernel, by decide +kernel⟩
set_option maxHeartbeats 4000000 in
set_option maxRecDepth 100000 in
theorem kcX13_crossingCount {G : knGT} (l : Launch)   {μ : knMem} {q : Int × knMem} (hf : kfX13_crossingCount  μ = some q) : knC0 G l yX13_crossingCount cX13_crossingCount 1 (some .int) 1 21 [knO G 142] μ (knC q.1) (some (knV q.1)) q.2 := by
  unfold kfX13_crossingCount at hf
  refine kn_ofJ (plainFor_of_name (by decide)) (Nat.le_of_ble_eq_true rfl) (L := [(0, knO G 142)]) rfl ?_
  intro p e s m args below meth c X K hr hlk
  refine kj_aloadn X 0 dX13_crossingCount_0 rfl ?_
  refine kj_iconst X dX13_crossingCount_1 ?_
  obtain ⟨q1, h2, hf⟩ := knBd_inv hf
  refine kj_callV (As := [knV 0]) (rest := []) X K (kcX13_asks l (show knC (0) from ⟨by omega, by omega⟩) h2) knWvX13_asks (knGm 1772 (by decide +kernel) rfl) (by decide) (knKd_in kdc_142 (by decide)) (knEnt_10 kdc_142) rfl rfl rfl (Nat.le_of_ble_eq_true rfl) (by decide) dX13_crossingCount_2 rfl (fun h3 => ?_)
  cases hf
  exact kj_iret X h3 hr dX13_crossingCount_5 hlk

def kfX13_crossingAt (a1 : Int) (μ : knMem) : Option (Int × knMem) :=
 Option.bind (kfX13_isPass a1 (knUp μ 142 0 0)) (fun q1 =>
  Option.bind (α := Int × knMem)
   (if q1 = 0 then
    Option.bind (kfX13_fails 1 (knUp μ 142 0 0)) (fun q13 =>
     some (q13.1, q13.2))
   else
    knGd (0 ≤ (knW (22 + a1)) ∧ (knW (22 + a1)) < 50)
     (some (((knUp μ 142 0 0) 143 (knW (22 + a1))), (knUp μ 142 0 0))))
   (fun q10 =>
   some (q10.1, q10.2)))

theorem knWvX13_crossingAt : knWv yX13_crossingAt cX13_crossingAt 2 (some .int) 1 := ⟨(knGm 1779 (by decide +kernel) rfl), (knGm 124 (by decide +kernel) rfl), (knGm 1777 (by decide +kernel) rfl), (knGm 1778 (by decide +kernel) rfl), by decide +kernel, by decide +kernel, by decide +kernel⟩
set_option maxHeartbeats 4000000 in
set_option maxRecDepth 100000 in
theorem kcX13_crossingAt {G : knGT} (l : Launch) {a1 : Int} (ha1 : knC a1) {μ : knMem} {q : Int × knMem} (hf : kfX13_crossingAt a1 μ = some q) : knC0 G l yX13_crossingAt cX13_crossingAt 2 (some .int) 2 43 [knO G 142, knV a1] μ (knC q.1) (some (knV q.1)) q.2 := by
  unfold kfX13_crossingAt at hf
  refine kn_ofJ (plainFor_of_name (by decide)) (Nat.le_of_ble_eq_true rfl) (L := [(0, knO G 142), (1, knV a1)]) rfl ?_
  intro p e s m args below meth c X K hr hlk
  refine kj_aloadn X 0 dX13_crossingAt_0 rfl ?_
  refine kj_iconst X dX13_crossingAt_1 ?_
  refine kj_putf (k := 0) (ki := 0) (x := 0) (ty := .int) X K rfl (knKd_in kdc_142 (by decide)) (knEnt_10 kdc_142) rfl (by decide) knInX13 tyX13_ok nmX13 (knGm 1504 (by decide +kernel) rfl) rfl rfl (by decide +kernel) rfl rfl (by simp) (by rw [knEnt_10 kdc_142, knUp_row]; rfl) (fun _ => (show knC (0) from ⟨by omega, by omega⟩)) (fun h => by rw [kdc_142] at h; cases h) (fun h => by rw [kdc_142] at h; cases h) dX13_crossingAt_2 ?_
  refine kj_aloadn X 0 dX13_crossingAt_5 rfl ?_
  refine kj_iloadn X 1 dX13_crossingAt_6 rfl ?_
  obtain ⟨q1, h2, hf⟩ := knBd_inv hf
  refine kj_callV (As := [knV a1]) (rest := []) X K (kcX13_isPass l ha1 h2) knWvX13_isPass (knGm 1744 (by decide +kernel) rfl) (by decide) (knKd_in kdc_142 (by decide)) (knEnt_10 kdc_142) rfl rfl rfl (Nat.le_of_ble_eq_true rfl) (by decide) dX13_crossingAt_7 rfl (fun h3 => ?_)
  have j10 : ∀ (t10_0 : Int) (ht10_0 : knC t10_0) (m10 : knMem), (fun q10 =>
   some (q10.1, q10.2)) (t10_0, m10) = some q → knJ G p l e { frames := 2, cells := 0, slots := 0, locals := 43 } s m args below meth c 2 0 0 (MQ below (knPo G (knC q.1) (some (knV q.1)) q.2) args s 0 0 (knA G)) 30 [] [knV t10_0] m10 := by
    intro t10_0 ht10_0 m10
    intro hf
    cases hf
    exact kj_iret X ht10_0 hr dX13_crossingAt_30 hlk
  obtain ⟨b11, hb11, hf⟩ := knBd_inv hf
  refine kj_if_eq X (tgt := 25) dX13_crossingAt_10 (by decide) (knZ_c h3) (fun h12 => ?_) (fun h12 => ?_)
  · replace hb11 := knIp hb11 h12
    refine kj_aloadn X 0 dX13_crossingAt_25 rfl ?_
    refine kj_iconst X dX13_crossingAt_26 ?_
    obtain ⟨q13, h14, hb11⟩ := knBd_inv hb11
    refine kj_callV (As := [knV 1]) (rest := []) X K (kcX13_fails l (show knC (1) from ⟨by omega, by omega⟩) h14) knWvX13_fails (knGm 1604 (by decide +kernel) rfl) (by decide) (knKd_in kdc_142 (by decide)) (knEnt_10 kdc_142) rfl rfl rfl (Nat.le_of_ble_eq_true rfl) (by decide) dX13_crossingAt_27 rfl (fun h15 => ?_)
    cases hb11
    refine kj_sub (L' := []) [] rfl ?_
    exact j10 _ h15 _ hf
  · replace hb11 := knIq hb11 h12
    refine kj_aloadn X 0 dX13_crossingAt_13 rfl ?_
    refine kj_geto (k := 1) (o2 := 143) X K kdc_142 (by decide) (knEnt_10 kdc_142) rfl (by decide) knInX13 (knGm 1505 (by decide +kernel) rfl) rfl rfl dX13_crossingAt_14 ?_
    refine kj_bipush X (n := 22) dX13_crossingAt_17 rfl ?_
    refine kj_iloadn X 1 dX13_crossingAt_19 rfl ?_
    refine kj_iadd X dX13_crossingAt_20 ?_
    obtain ⟨h16, hb11⟩ := knGd_inv hb11
    refine kj_iald X K kdc_143 (knCw _) lnc_143 h16 dX13_crossingAt_21 (fun h17 => ?_)
    refine kj_goto X (tgt := 30) dX13_crossingAt_22 (by decide) ?_
    cases hb11
    refine kj_sub (L' := []) [] rfl ?_
    exact j10 _ h17 _ hf

def kfX13_isOver (a1 : Int) (μ : knMem) : Option (Int × knMem) :=
 Option.bind (kfX13_isPass a1 (knUp μ 142 0 0)) (fun q1 =>
  if q1 = 0 then
   Option.bind (kfX13_fails 1 (knUp μ 142 0 0)) (fun q11 =>
    some ((if q11.1 ≤ 0 then 0 else 1 : Int), q11.2))
  else
   knGd (0 ≤ (knW (36 + a1)) ∧ (knW (36 + a1)) < 50)
    (some ((if ((knUp μ 142 0 0) 143 (knW (36 + a1))) = 1 then 1 else 0 : Int), (knUp μ 142 0 0))))

theorem knWvX13_isOver : knWv yX13_isOver cX13_isOver 2 (some .boolean) 1 := ⟨(knGm 1783 (by decide +kernel) rfl), (knGm 124 (by decide +kernel) rfl), (knGm 1781 (by decide +kernel) rfl), (knGm 1782 (by decide +kernel) rfl), by decide +kernel, by decide +kernel, by decide +kernel⟩
set_option maxHeartbeats 4000000 in
set_option maxRecDepth 100000 in
theorem kcX13_isOver {G : knGT} (l : Launch) {a1 : Int} (ha1 : knC a1) {μ : knMem} {q : Int × knMem} (hf : kfX13_isOver a1 μ = some q) : knC0 G l yX13_isOver cX13_isOver 2 (some .boolean) 2 43 [knO G 142, knV a1] μ (knZ q.1) (some (knV q.1)) q.2 := by
  unfold kfX13_isOver at hf
  refine kn_ofJ (plainFor_of_name (by decide)) (Nat.le_of_ble_eq_true rfl) (L := [(0, knO G 142), (1, knV a1)]) rfl ?_
  intro p e s m args below meth c X K hr hlk
  refine kj_aloadn X 0 dX13_isOver_0 rfl ?_
  refine kj_iconst X dX13_isOver_1 ?_
  refine kj_putf (k := 0) (ki := 0) (x := 0) (ty := .int) X K rfl (knKd_in kdc_142 (by decide)) (knEnt_10 kdc_142) rfl (by decide) knInX13 tyX13_ok nmX13 (knGm 1504 (by decide +kernel) rfl) rfl rfl (by decide +kernel) rfl rfl (by simp) (by rw [knEnt_10 kdc_142, knUp_row]; rfl) (fun _ => (show knC (0) from ⟨by omega, by omega⟩)) (fun h => by rw [kdc_142] at h; cases h) (fun h => by rw [kdc_142] at h; cases h) dX13_isOver_2 ?_
  refine kj_aloadn X 0 dX13_isOver_5 rfl ?_
  refine kj_iloadn X 1 dX13_isOver_6 rfl ?_
  obtain ⟨q1, h2, hf⟩ := knBd_inv hf
  refine kj_callV (As := [knV a1]) (rest := []) X K (kcX13_isPass l ha1 h2) knWvX13_isPass (knGm 1744 (by decide +kernel) rfl) (by decide) (knKd_in kdc_142 (by decide)) (knEnt_10 kdc_142) rfl rfl rfl (Nat.le_of_ble_eq_true rfl) (by decide) dX13_isOver_7 rfl (fun h3 => ?_)
  refine kj_if_ne X (tgt := 27) dX13_isOver_10 (by decide) (knZ_c h3) (fun h4 => ?_) (fun h4 => ?_)
  · replace hf := knIq hf h4
    refine kj_aloadn X 0 dX13_isOver_27 rfl ?_
    refine kj_geto (k := 1) (o2 := 143) X K kdc_142 (by decide) (knEnt_10 kdc_142) rfl (by decide) knInX13 (knGm 1505 (by decide +kernel) rfl) rfl rfl dX13_isOver_28 ?_
    refine kj_bipush X (n := 36) dX13_isOver_31 rfl ?_
    refine kj_iloadn X 1 dX13_isOver_33 rfl ?_
    refine kj_iadd X dX13_isOver_34 ?_
    obtain ⟨h5, hf⟩ := knGd_inv hf
    refine kj_iald X K kdc_143 (knCw _) lnc_143 h5 dX13_isOver_35 (fun h6 => ?_)
    refine kj_iconst X dX13_isOver_36 ?_
    have j8 : ∀ (t8_0 : Int) (et8_0 : t8_0 = (if ((knUp μ 142 0 0) 143 (knW (36 + a1))) = 1 then 1 else 0 : Int)) (ht8_0 : knZ t8_0), knJ G p l e { frames := 2, cells := 0, slots := 0, locals := 43 } s m args below meth c 2 0 0 (MQ below (knPo G (knZ q.1) (some (knV q.1)) q.2) args s 0 0 (knA G)) 45 [] [knV t8_0] (knUp μ 142 0 0) := by
      intro t8_0 et8_0 ht8_0
      subst et8_0
      cases hf
      exact kj_zret X ht8_0 hr (kn_nb ht8_0) dX13_isOver_45 hlk
    refine kj_ic_ne X (tgt := 44) dX13_isOver_37 (by decide) h6 (show knC (1) from ⟨by omega, by omega⟩) (fun h10 => ?_) (fun h10 => ?_)
    · refine kj_iconst X dX13_isOver_44 ?_
      refine kj_sub (L' := []) [] rfl ?_
      exact j8 0 (by rw [if_neg h10]) (Or.inl rfl)
    · refine kj_iconst X dX13_isOver_40 ?_
      refine kj_goto X (tgt := 45) dX13_isOver_41 (by decide) ?_
      refine kj_sub (L' := []) [] rfl ?_
      exact j8 1 (by rw [if_pos h10]) (Or.inr rfl)
  · replace hf := knIp hf h4
    refine kj_aloadn X 0 dX13_isOver_13 rfl ?_
    refine kj_iconst X dX13_isOver_14 ?_
    obtain ⟨q11, h12, hf⟩ := knBd_inv hf
    refine kj_callV (As := [knV 1]) (rest := []) X K (kcX13_fails l (show knC (1) from ⟨by omega, by omega⟩) h12) knWvX13_fails (knGm 1604 (by decide +kernel) rfl) (by decide) (knKd_in kdc_142 (by decide)) (knEnt_10 kdc_142) rfl rfl rfl (Nat.le_of_ble_eq_true rfl) (by decide) dX13_isOver_15 rfl (fun h13 => ?_)
    have j15 : ∀ (t15_0 : Int) (et15_0 : t15_0 = (if q11.1 ≤ 0 then 0 else 1 : Int)) (ht15_0 : knZ t15_0), knJ G p l e { frames := 2, cells := 0, slots := 0, locals := 43 } s m args below meth c 2 0 0 (MQ below (knPo G (knZ q.1) (some (knV q.1)) q.2) args s 0 0 (knA G)) 26 [] [knV t15_0] q11.2 := by
      intro t15_0 et15_0 ht15_0
      subst et15_0
      cases hf
      exact kj_zret X ht15_0 hr (kn_nb ht15_0) dX13_isOver_26 hlk
    refine kj_if_le X (tgt := 25) dX13_isOver_18 (by decide) h13 (fun h17 => ?_) (fun h17 => ?_)
    · refine kj_iconst X dX13_isOver_25 ?_
      refine kj_sub (L' := []) [] rfl ?_
      exact j15 0 (by rw [if_pos h17]) (Or.inl rfl)
    · refine kj_iconst X dX13_isOver_21 ?_
      refine kj_goto X (tgt := 26) dX13_isOver_22 (by decide) ?_
      refine kj_sub (L' := []) [] rfl ?_
      exact j15 1 (by rw [if_neg h17]) (Or.inr rfl)

def kfX13_isPositive (a1 : Int) (μ : knMem) : Option (Int × knMem) :=
 Option.bind (kfX13_isCrossing a1 (knUp μ 142 0 0)) (fun q1 =>
  if q1 = 0 then
   Option.bind (kfX13_fails 1 (knUp μ 142 0 0)) (fun q11 =>
    some ((if q11.1 ≤ 0 then 0 else 1 : Int), q11.2))
  else
   knGd (0 ≤ (knW (15 + a1)) ∧ (knW (15 + a1)) < 50)
    (some ((if ((knUp μ 142 0 0) 143 (knW (15 + a1))) = 1 then 1 else 0 : Int), (knUp μ 142 0 0))))

theorem knWvX13_isPositive : knWv yX13_isPositive cX13_isPositive 2 (some .boolean) 1 := ⟨(knGm 1787 (by decide +kernel) rfl), (knGm 124 (by decide +kernel) rfl), (knGm 1785 (by decide +kernel) rfl), (knGm 1786 (by decide +kernel) rfl), by decide +kernel, by decide +kernel, by decide +kernel⟩
set_option maxHeartbeats 4000000 in
set_option maxRecDepth 100000 in
theorem kcX13_isPositive {G : knGT} (l : Launch) {a1 : Int} (ha1 : knC a1) {μ : knMem} {q : Int × knMem} (hf : kfX13_isPositive a1 μ = some q) : knC0 G l yX13_isPositive cX13_isPositive 2 (some .boolean) 2 43 [knO G 142, knV a1] μ (knZ q.1) (some (knV q.1)) q.2 := by
  unfold kfX13_isPositive at hf
  refine kn_ofJ (plainFor_of_name (by decide)) (Nat.le_of_ble_eq_true rfl) (L := [(0, knO G 142), (1, knV a1)]) rfl ?_
  intro p e s m args below meth c X K hr hlk
  refine kj_aloadn X 0 dX13_isPositive_0 rfl ?_
  refine kj_iconst X dX13_isPositive_1 ?_
  refine kj_putf (k := 0) (ki := 0) (x := 0) (ty := .int) X K rfl (knKd_in kdc_142 (by decide)) (knEnt_10 kdc_142) rfl (by decide) knInX13 tyX13_ok nmX13 (knGm 1504 (by decide +kernel) rfl) rfl rfl (by decide +kernel) rfl rfl (by simp) (by rw [knEnt_10 kdc_142, knUp_row]; rfl) (fun _ => (show knC (0) from ⟨by omega, by omega⟩)) (fun h => by rw [kdc_142] at h; cases h) (fun h => by rw [kdc_142] at h; cases h) dX13_isPositive_2 ?_
  refine kj_aloadn X 0 dX13_isPositive_5 rfl ?_
  refine kj_iloadn X 1 dX13_isPositive_6 rfl ?_
  obtain ⟨q1, h2, hf⟩ := knBd_inv hf
  refine kj_callV (As := [knV a1]) (rest := []) X K (kcX13_isCrossing l ha1 h2) knWvX13_isCrossing (knGm 1644 (by decide +kernel) rfl) (by decide) (knKd_in kdc_142 (by decide)) (knEnt_10 kdc_142) rfl rfl rfl (Nat.le_of_ble_eq_true rfl) (by decide) dX13_isPositive_7 rfl (fun h3 => ?_)
  refine kj_if_ne X (tgt := 27) dX13_isPositive_10 (by decide) (knZ_c h3) (fun h4 => ?_) (fun h4 => ?_)
  · replace hf := knIq hf h4
    refine kj_aloadn X 0 dX13_isPositive_27 rfl ?_
    refine kj_geto (k := 1) (o2 := 143) X K kdc_142 (by decide) (knEnt_10 kdc_142) rfl (by decide) knInX13 (knGm 1505 (by decide +kernel) rfl) rfl rfl dX13_isPositive_28 ?_
    refine kj_bipush X (n := 15) dX13_isPositive_31 rfl ?_
    refine kj_iloadn X 1 dX13_isPositive_33 rfl ?_
    refine kj_iadd X dX13_isPositive_34 ?_
    obtain ⟨h5, hf⟩ := knGd_inv hf
    refine kj_iald X K kdc_143 (knCw _) lnc_143 h5 dX13_isPositive_35 (fun h6 => ?_)
    refine kj_iconst X dX13_isPositive_36 ?_
    have j8 : ∀ (t8_0 : Int) (et8_0 : t8_0 = (if ((knUp μ 142 0 0) 143 (knW (15 + a1))) = 1 then 1 else 0 : Int)) (ht8_0 : knZ t8_0), knJ G p l e { frames := 2, cells := 0, slots := 0, locals := 43 } s m args below meth c 2 0 0 (MQ below (knPo G (knZ q.1) (some (knV q.1)) q.2) args s 0 0 (knA G)) 45 [] [knV t8_0] (knUp μ 142 0 0) := by
      intro t8_0 et8_0 ht8_0
      subst et8_0
      cases hf
      exact kj_zret X ht8_0 hr (kn_nb ht8_0) dX13_isPositive_45 hlk
    refine kj_ic_ne X (tgt := 44) dX13_isPositive_37 (by decide) h6 (show knC (1) from ⟨by omega, by omega⟩) (fun h10 => ?_) (fun h10 => ?_)
    · refine kj_iconst X dX13_isPositive_44 ?_
      refine kj_sub (L' := []) [] rfl ?_
      exact j8 0 (by rw [if_neg h10]) (Or.inl rfl)
    · refine kj_iconst X dX13_isPositive_40 ?_
      refine kj_goto X (tgt := 45) dX13_isPositive_41 (by decide) ?_
      refine kj_sub (L' := []) [] rfl ?_
      exact j8 1 (by rw [if_pos h10]) (Or.inr rfl)
  · replace hf := knIp hf h4
    refine kj_aloadn X 0 dX13_isPositive_13 rfl ?_
    refine kj_iconst X dX13_isPositive_14 ?_
    obtain ⟨q11, h12, hf⟩ := knBd_inv hf
    refine kj_callV (As := [knV 1]) (rest := []) X K (kcX13_fails l (show knC (1) from ⟨by omega, by omega⟩) h12) knWvX13_fails (knGm 1604 (by decide +kernel) rfl) (by decide) (knKd_in kdc_142 (by decide)) (knEnt_10 kdc_142) rfl rfl rfl (Nat.le_of_ble_eq_true rfl) (by decide) dX13_isPositive_15 rfl (fun h13 => ?_)
    have j15 : ∀ (t15_0 : Int) (et15_0 : t15_0 = (if q11.1 ≤ 0 then 0 else 1 : Int)) (ht15_0 : knZ t15_0), knJ G p l e { frames := 2, cells := 0, slots := 0, locals := 43 } s m args below meth c 2 0 0 (MQ below (knPo G (knZ q.1) (some (knV q.1)) q.2) args s 0 0 (knA G)) 26 [] [knV t15_0] q11.2 := by
      intro t15_0 et15_0 ht15_0
      subst et15_0
      cases hf
      exact kj_zret X ht15_0 hr (kn_nb ht15_0) dX13_isPositive_26 hlk
    refine kj_if_le X (tgt := 25) dX13_isPositive_18 (by decide) h13 (fun h17 => ?_) (fun h17 => ?_)
    · refine kj_iconst X dX13_isPositive_25 ?_
      refine kj_sub (L' := []) [] rfl ?_
      exact j15 0 (by rw [if_pos h17]) (Or.inl rfl)
    · refine kj_iconst X dX13_isPositive_21 ?_
      refine kj_goto X (tgt := 26) dX13_isPositive_22 (by decide) ?_
      refine kj_sub (L' := []) [] rfl ?_
      exact j15 1 (by rw [if_neg h17]) (Or.inr rfl)

def kfX13_asksPass (a1 : Int) (a2 : Int) (μ : knMem) : Option (Int × knMem) :=
 Option.bind (kfX13_isCrossing a1 (knUp μ 142 0 0)) (fun q1 =>
  if q1 = 0 then
   Option.bind (kfX13_fails 1 (knUp μ 142 0 0)) (fun q11 =>
    some (q11.1, q11.2))
  else
   Option.bind (kfX13_loads  (knUp μ 142 0 0)) (fun q5 =>
    Option.bind (kfX13_passOf a1 a2 q5) (fun q8 =>
     some (q8, q5))))

theorem knWvX13_asksPass : knWv yX13_asksPass cX13_asksPass 3 (some .int) 2 := ⟨(knGm 1795 (by decide +kernel) rfl), (knGm 124 (by decide +kernel) rfl), (knGm 1794 (by decide +kernel) rfl), (knGm 71 (by decide +kernel) rfl), by decide +kernel, by decide +kernel, by decide +kernel⟩
set_option maxHeartbeats 4000000 in
set_option maxRecDepth 100000 in
theorem kcX13_asksPass {G : knGT} (l : Launch) {a1 : Int} {a2 : Int} (ha1 : knC a1) (ha2 : knC a2) {μ : knMem} {q : Int × knMem} (hf : kfX13_asksPass a1 a2 μ = some q) : knC0 G l yX13_asksPass cX13_asksPass 3 (some .int) 2 43 [knO G 142, knV a1, knV a2] μ (knC q.1) (some (knV q.1)) q.2 := by
  unfold kfX13_asksPass at hf
  refine kn_ofJ (plainFor_of_name (by decide)) (Nat.le_of_ble_eq_true rfl) (L := [(0, knO G 142), (1, knV a1), (2, knV a2)]) rfl ?_
  intro p e s m args below meth c X K hr hlk
  refine kj_aloadn X 0 dX13_asksPass_0 rfl ?_
  refine kj_iconst X dX13_asksPass_1 ?_
  refine kj_putf (k := 0) (ki := 0) (x := 0) (ty := .int) X K rfl (knKd_in kdc_142 (by decide)) (knEnt_10 kdc_142) rfl (by decide) knInX13 tyX13_ok nmX13 (knGm 1504 (by decide +kernel) rfl) rfl rfl (by decide +kernel) rfl rfl (by simp) (by rw [knEnt_10 kdc_142, knUp_row]; rfl) (fun _ => (show knC (0) from ⟨by omega, by omega⟩)) (fun h => by rw [kdc_142] at h; cases h) (fun h => by rw [kdc_142] at h; cases h) dX13_asksPass_2 ?_
  refine kj_aloadn X 0 dX13_asksPass_5 rfl ?_
  refine kj_iloadn X 1 dX13_asksPass_6 rfl ?_
  obtain ⟨q1, h2, hf⟩ := knBd_inv hf
  refine kj_callV (As := [knV a1]) (rest := []) X K (kcX13_isCrossing l ha1 h2) knWvX13_isCrossing (knGm 1644 (by decide +kernel) rfl) (by decide) (knKd_in kdc_142 (by decide)) (knEnt_10 kdc_142) rfl rfl rfl (Nat.le_of_ble_eq_true rfl) (by decide) dX13_asksPass_7 rfl (fun h3 => ?_)
  refine kj_if_ne X (tgt := 19) dX13_asksPass_10 (by decide) (knZ_c h3) (fun h4 => ?_) (fun h4 => ?_)
  · replace hf := knIq hf h4
    refine kj_aloadn X 0 dX13_asksPass_19 rfl ?_
    obtain ⟨q5, h6, hf⟩ := knBd_inv hf
    refine kj_callV (As := []) (rest := []) X K (kcX13_loads l  h6) knWvX13_loads (knGm 1624 (by decide +kernel) rfl) (by decide) (knKd_in kdc_142 (by decide)) (knEnt_10 kdc_142) rfl rfl rfl (Nat.le_of_ble_eq_true rfl) (by decide) dX13_asksPass_20 rfl (fun h7 => ?_)
    refine kj_aloadn X 0 dX13_asksPass_23 rfl ?_
    refine kj_iloadn X 1 dX13_asksPass_24 rfl ?_
    refine kj_iloadn X 2 dX13_asksPass_25 rfl ?_
    obtain ⟨q8, h9, hf⟩ := knBd_inv hf
    refine kj_callV (As := [knV a1, knV a2]) (rest := []) X K (kcX13_passOf l ha1 ha2 h9) knWvX13_passOf (knGm 1652 (by decide +kernel) rfl) (by decide) (knKd_in kdc_142 (by decide)) (knEnt_10 kdc_142) rfl rfl rfl (Nat.le_of_ble_eq_true rfl) (by decide) dX13_asksPass_26 rfl (fun h10 => ?_)
    cases hf
    exact kj_iret X h10 hr dX13_asksPass_29 hlk
  · replace hf := knIp hf h4
    refine kj_aloadn X 0 dX13_asksPass_13 rfl ?_
    refine kj_iconst X dX13_asksPass_14 ?_
    obtain ⟨q11, h12, hf⟩ := knBd_inv hf
    refine kj_callV (As := [knV 1]) (rest := []) X K (kcX13_fails l (show knC (1) from ⟨by omega, by omega⟩) h12) knWvX13_fails (knGm 1604 (by decide +kernel) rfl) (by decide) (knKd_in kdc_142 (by decide)) (knEnt_10 kdc_142) rfl rfl rfl (Nat.le_of_ble_eq_true rfl) (by decide) dX13_asksPass_15 rfl (fun h13 => ?_)
    cases hf
    exact kj_iret X h13 hr dX13_asksPass_18 hlk

def kfX13_overPosition (a1 : Int) (μ : knMem) : Option (Int × knMem) :=
 Option.bind (kfX13_asksPass a1 1 μ) (fun q1 =>
  some (q1.1, q1.2))

theorem knWvX13_overPosition : knWv yX13_overPosition cX13_overPosition 2 (some .int) 1 := ⟨(knGm 1791 (by decide +kernel) rfl), (knGm 124 (by decide +kernel) rfl), (knGm 1789 (by decide +kernel) rfl), (knGm 1790 (by decide +kernel) rfl), by decide +kernel, by decide +kernel, by decide +kernel⟩
set_option maxHeartbeats 4000000 in
set_option maxRecDepth 100000 in
theorem kcX13_overPosition {G : knGT} (l : Launch) {a1 : Int} (ha1 : knC a1) {μ : knMem} {q : Int × knMem} (hf : kfX13_overPosition a1 μ = some q) : knC0 G l yX13_overPosition cX13_overPosition 2 (some .int) 3 65 [knO G 142, knV a1] μ (knC q.1) (some (knV q.1)) q.2 := by
  unfold kfX13_overPosition at hf
  refine kn_ofJ (plainFor_of_name (by decide)) (Nat.le_of_ble_eq_true rfl) (L := [(0, knO G 142), (1, knV a1)]) rfl ?_
  intro p e s m args below meth c X K hr hlk
  refine kj_aloadn X 0 dX13_overPosition_0 rfl ?_
  refine kj_iloadn X 1 dX13_overPosition_1 rfl ?_
  refine kj_iconst X dX13_overPosition_2 ?_
  obtain ⟨q1, h2, hf⟩ := knBd_inv hf
  refine kj_callV (As := [knV a1, knV 1]) (rest := []) X K (kcX13_asksPass l ha1 (show knC (1) from ⟨by omega, by omega⟩) h2) knWvX13_asksPass (knGm 1792 (by decide +kernel) rfl) (by decide) (knKd_in kdc_142 (by decide)) (knEnt_10 kdc_142) rfl rfl rfl (Nat.le_of_ble_eq_true rfl) (by decide) dX13_overPosition_3 rfl (fun h3 => ?_)
  cases hf
  exact kj_iret X h3 hr dX13_overPosition_6 hlk

def kfX13_underPosition (a1 : Int) (μ : knMem) : Option (Int × knMem) :=
 Option.bind (kfX13_asksPass a1 0 μ) (fun q1 =>
  some (q1.1, q1.2))

theorem knWvX13_underPosition : knWv yX13_underPosition cX13_underPosition 2 (some .int) 1 := ⟨(knGm 1799 (by decide +kernel) rfl), (knGm 124 (by decide +kernel) rfl), (knGm 1797 (by decide +kernel) rfl), (knGm 1798 (by decide +kernel) rfl), by decide +kernel, by decide +kernel, by decide +kernel⟩
set_option maxHeartbeats 4000000 in
set_option maxRecDepth 100000 in
theorem kcX13_underPosition {G : knGT} (l : Launch) {a1 : Int} (ha1 : knC a1) {μ : knMem} {q : Int × knMem} (hf : kfX13_underPosition a1 μ = some q) : knC0 G l yX13_underPosition cX13_underPosition 2 (some .int) 3 65 [knO G 142, knV a1] μ (knC q.1) (some (knV q.1)) q.2 := by
  unfold kfX13_underPosition at hf
  refine kn_ofJ (plainFor_of_name (by decide)) (Nat.le_of_ble_eq_true rfl) (L := [(0, knO G 142), (1, knV a1)]) rfl ?_
  intro p e s m args below meth c X K hr hlk
  refine kj_aloadn X 0 dX13_underPosition_0 rfl ?_
  refine kj_iloadn X 1 dX13_underPosition_1 rfl ?_
  refine kj_iconst X dX13_underPosition_2 ?_
  obtain ⟨q1, h2, hf⟩ := knBd_inv hf
  refine kj_callV (As := [knV a1, knV 0]) (rest := []) X K (kcX13_asksPass l ha1 (show knC (0) from ⟨by omega, by omega⟩) h2) knWvX13_asksPass (knGm 1792 (by decide +kernel) rfl) (by decide) (knKd_in kdc_142 (by decide)) (knEnt_10 kdc_142) rfl rfl rfl (Nat.le_of_ble_eq_true rfl) (by decide) dX13_underPosition_3 rfl (fun h3 => ?_)
  cases hf
  exact kj_iret X h3 hr dX13_underPosition_6 hlk

def kfX13_writhe  (μ : knMem) : Option (Int × knMem) :=
 Option.bind (kfX13_loads  (knUp μ 142 0 0)) (fun q1 =>
  Option.bind (kfX13_turns  q1) (fun q4 =>
   some (q4, q1)))

theorem knWvX13_writhe : knWv yX13_writhe cX13_writhe 1 (some .int) 0 := ⟨(knGm 1803 (by decide +kernel) rfl), (knGm 124 (by decide +kernel) rfl), (knGm 1801 (by decide +kernel) rfl), (knGm 1802 (by decide +kernel) rfl), by decide +kernel, by decide +kernel, by decide +kernel⟩
set_option maxHeartbeats 4000000 in
set_option maxRecDepth 100000 in
theorem kcX13_writhe {G : knGT} (l : Launch)   {μ : knMem} {q : Int × knMem} (hf : kfX13_writhe  μ = some q) : knC0 G l yX13_writhe cX13_writhe 1 (some .int) 1 22 [knO G 142] μ (knC q.1) (some (knV q.1)) q.2 := by
  unfold kfX13_writhe at hf
  refine kn_ofJ (plainFor_of_name (by decide)) (Nat.le_of_ble_eq_true rfl) (L := [(0, knO G 142)]) rfl ?_
  intro p e s m args below meth c X K hr hlk
  refine kj_aloadn X 0 dX13_writhe_0 rfl ?_
  refine kj_iconst X dX13_writhe_1 ?_
  refine kj_putf (k := 0) (ki := 0) (x := 0) (ty := .int) X K rfl (knKd_in kdc_142 (by decide)) (knEnt_10 kdc_142) rfl (by decide) knInX13 tyX13_ok nmX13 (knGm 1504 (by decide +kernel) rfl) rfl rfl (by decide +kernel) rfl rfl (by simp) (by rw [knEnt_10 kdc_142, knUp_row]; rfl) (fun _ => (show knC (0) from ⟨by omega, by omega⟩)) (fun h => by rw [kdc_142] at h; cases h) (fun h => by rw [kdc_142] at h; cases h) dX13_writhe_2 ?_
  refine kj_aloadn X 0 dX13_writhe_5 rfl ?_
  obtain ⟨q1, h2, hf⟩ := knBd_inv hf
  refine kj_callV (As := []) (rest := []) X K (kcX13_loads l  h2) knWvX13_loads (knGm 1624 (by decide +kernel) rfl) (by decide) (knKd_in kdc_142 (by decide)) (knEnt_10 kdc_142) rfl rfl rfl (Nat.le_of_ble_eq_true rfl) (by decide) dX13_writhe_6 rfl (fun h3 => ?_)
  refine kj_aloadn X 0 dX13_writhe_9 rfl ?_
  obtain ⟨q4, h5, hf⟩ := knBd_inv hf
  refine kj_callV (As := []) (rest := []) X K (kcX13_turns l  h5) knWvX13_turns (knGm 1724 (by decide +kernel) rfl) (by decide) (knKd_in kdc_142 (by decide)) (knEnt_10 kdc_142) rfl rfl rfl (Nat.le_of_ble_eq_true rfl) (by decide) dX13_writhe_10 rfl (fun h6 => ?_)
  cases hf
  exact kj_iret X h6 hr dX13_writhe_13 hlk

def kfX13_isCurl (a1 : Int) (μ : knMem) : Option (Int × knMem) :=
 Option.bind (kfX13_isCrossing a1 (knUp μ 142 0 0)) (fun q1 =>
  if q1 = 0 then
   Option.bind (kfX13_fails 1 (knUp μ 142 0 0)) (fun q11 =>
    some ((if q11.1 ≤ 0 then 0 else 1 : Int), q11.2))
  else
   Option.bind (kfX13_loads  (knUp μ 142 0 0)) (fun q5 =>
    Option.bind (kfX13_curls a1 q5) (fun q8 =>
     some (q8, q5))))

theorem knWvX13_isCurl : knWv yX13_isCurl cX13_isCurl 2 (some .boolean) 1 := ⟨(knGm 1807 (by decide +kernel) rfl), (knGm 124 (by decide +kernel) rfl), (knGm 1805 (by decide +kernel) rfl), (knGm 1806 (by decide +kernel) rfl), by decide +kernel, by decide +kernel, by decide +kernel⟩
set_option maxHeartbeats 4000000 in
set_option maxRecDepth 100000 in
theorem kcX13_isCurl {G : knGT} (l : Launch) {a1 : Int} (ha1 : knC a1) {μ : knMem} {q : Int × knMem} (hf : kfX13_isCurl a1 μ = some q) : knC0 G l yX13_isCurl cX13_isCurl 2 (some .boolean) 2 44 [knO G 142, knV a1] μ (knZ q.1) (some (knV q.1)) q.2 := by
  unfold kfX13_isCurl at hf
  refine kn_ofJ (plainFor_of_name (by decide)) (Nat.le_of_ble_eq_true rfl) (L := [(0, knO G 142), (1, knV a1)]) rfl ?_
  intro p e s m args below meth c X K hr hlk
  refine kj_aloadn X 0 dX13_isCurl_0 rfl ?_
  refine kj_iconst X dX13_isCurl_1 ?_
  refine kj_putf (k := 0) (ki := 0) (x := 0) (ty := .int) X K rfl (knKd_in kdc_142 (by decide)) (knEnt_10 kdc_142) rfl (by decide) knInX13 tyX13_ok nmX13 (knGm 1504 (by decide +kernel) rfl) rfl rfl (by decide +kernel) rfl rfl (by simp) (by rw [knEnt_10 kdc_142, knUp_row]; rfl) (fun _ => (show knC (0) from ⟨by omega, by omega⟩)) (fun h => by rw [kdc_142] at h; cases h) (fun h => by rw [kdc_142] at h; cases h) dX13_isCurl_2 ?_
  refine kj_aloadn X 0 dX13_isCurl_5 rfl ?_
  refine kj_iloadn X 1 dX13_isCurl_6 rfl ?_
  obtain ⟨q1, h2, hf⟩ := knBd_inv hf
  refine kj_callV (As := [knV a1]) (rest := []) X K (kcX13_isCrossing l ha1 h2) knWvX13_isCrossing (knGm 1644 (by decide +kernel) rfl) (by decide) (knKd_in kdc_142 (by decide)) (knEnt_10 kdc_142) rfl rfl rfl (Nat.le_of_ble_eq_true rfl) (by decide) dX13_isCurl_7 rfl (fun h3 => ?_)
  refine kj_if_ne X (tgt := 27) dX13_isCurl_10 (by decide) (knZ_c h3) (fun h4 => ?_) (fun h4 => ?_)
  · replace hf := knIq hf h4
    refine kj_aloadn X 0 dX13_isCurl_27 rfl ?_
    obtain ⟨q5, h6, hf⟩ := knBd_inv hf
    refine kj_callV (As := []) (rest := []) X K (kcX13_loads l  h6) knWvX13_loads (knGm 1624 (by decide +kernel) rfl) (by decide) (knKd_in kdc_142 (by decide)) (knEnt_10 kdc_142) rfl rfl rfl (Nat.le_of_ble_eq_true rfl) (by decide) dX13_isCurl_28 rfl (fun h7 => ?_)
    refine kj_aloadn X 0 dX13_isCurl_31 rfl ?_
    refine kj_iloadn X 1 dX13_isCurl_32 rfl ?_
    obtain ⟨q8, h9, hf⟩ := knBd_inv hf
    refine kj_callV (As := [knV a1]) (rest := []) X K (kcX13_curls l ha1 h9) knWvX13_curls (knGm 1648 (by decide +kernel) rfl) (by decide) (knKd_in kdc_142 (by decide)) (knEnt_10 kdc_142) rfl rfl rfl (Nat.le_of_ble_eq_true rfl) (by decide) dX13_isCurl_33 rfl (fun h10 => ?_)
    cases hf
    exact kj_zret X h10 hr (kn_nb h10) dX13_isCurl_36 hlk
  · replace hf := knIp hf h4
    refine kj_aloadn X 0 dX13_isCurl_13 rfl ?_
    refine kj_iconst X dX13_isCurl_14 ?_
    obtain ⟨q11, h12, hf⟩ := knBd_inv hf
    refine kj_callV (As := [knV 1]) (rest := []) X K (kcX13_fails l (show knC (1) from ⟨by omega, by omega⟩) h12) knWvX13_fails (knGm 1604 (by decide +kernel) rfl) (by decide) (knKd_in kdc_142 (by decide)) (knEnt_10 kdc_142) rfl rfl rfl (Nat.le_of_ble_eq_true rfl) (by decide) dX13_isCurl_15 rfl (fun h13 => ?_)
    have j15 : ∀ (t15_0 : Int) (et15_0 : t15_0 = (if q11.1 ≤ 0 then 0 else 1 : Int)) (ht15_0 : knZ t15_0), knJ G p l e { frames := 2, cells := 0, slots := 0, locals := 44 } s m args below meth c 2 0 0 (MQ below (knPo G (knZ q.1) (some (knV q.1)) q.2) args s 0 0 (knA G)) 26 [] [knV t15_0] q11.2 := by
      intro t15_0 et15_0 ht15_0
      subst et15_0
      cases hf
      exact kj_zret X ht15_0 hr (kn_nb ht15_0) dX13_isCurl_26 hlk
    refine kj_if_le X (tgt := 25) dX13_isCurl_18 (by decide) h13 (fun h17 => ?_) (fun h17 => ?_)
    · refine kj_iconst X dX13_isCurl_25 ?_
      refine kj_sub (L' := []) [] rfl ?_
      exact j15 0 (by rw [if_pos h17]) (Or.inl rfl)
    · refine kj_iconst X dX13_isCurl_21 ?_
      refine kj_goto X (tgt := 26) dX13_isCurl_22 (by decide) ?_
      refine kj_sub (L' := []) [] rfl ?_
      exact j15 1 (by rw [if_neg h17]) (Or.inr rfl)

def kfX13_isPoke (a1 : Int) (a2 : Int) (μ : knMem) : Option (Int × knMem) :=
 Option.bind (kfX13_isCrossing a1 (knUp μ 142 0 0)) (fun q1 =>
  (fun (k15 : (Unit) → Option (Int × knMem)) =>
   if q1 = 0 then
    k15 ()
   else
    Option.bind (kfX13_isCrossing a2 (knUp μ 142 0 0)) (fun q32 =>
     if q32 = 0 then
      k15 ()
     else
      Option.bind (kfX13_loads  (knUp μ 142 0 0)) (fun q36 =>
       Option.bind (kfX13_pokes a1 a2 q36) (fun q39 =>
        some (q39, q36)))))
   (fun _ =>
   Option.bind (kfX13_fails 1 (knUp μ 142 0 0)) (fun q16 =>
    some ((if q16.1 ≤ 0 then 0 else 1 : Int), q16.2))))

theorem knWvX13_isPoke : knWv yX13_isPoke cX13_isPoke 3 (some .boolean) 2 := ⟨(knGm 1811 (by decide +kernel) rfl), (knGm 124 (by decide +kernel) rfl), (knGm 1809 (by decide +kernel) rfl), (knGm 1810 (by decide +kernel) rfl), by decide +kernel, by decide +kernel, by decide +kernel⟩
set_option maxHeartbeats 4000000 in
set_option maxRecDepth 100000 in
theorem kcX13_isPoke {G : knGT} (l : Launch) {a1 : Int} {a2 : Int} (ha1 : knC a1) (ha2 : knC a2) {μ : knMem} {q : Int × knMem} (hf : kfX13_isPoke a1 a2 μ = some q) : knC0 G l yX13_isPoke cX13_isPoke 3 (some .boolean) 2 45 [knO G 142, knV a1, knV a2] μ (knZ q.1) (some (knV q.1)) q.2 := by
  unfold kfX13_isPoke at hf
  refine kn_ofJ (plainFor_of_name (by decide)) (Nat.le_of_ble_eq_true rfl) (L := [(0, knO G 142), (1, knV a1), (2, knV a2)]) rfl ?_
  intro p e s m args below meth c X K hr hlk
  refine kj_aloadn X 0 dX13_isPoke_0 rfl ?_
  refine kj_iconst X dX13_isPoke_1 ?_
  refine kj_putf (k := 0) (ki := 0) (x := 0) (ty := .int) X K rfl (knKd_in kdc_142 (by decide)) (knEnt_10 kdc_142) rfl (by decide) knInX13 tyX13_ok nmX13 (knGm 1504 (by decide +kernel) rfl) rfl rfl (by decide +kernel) rfl rfl (by simp) (by rw [knEnt_10 kdc_142, knUp_row]; rfl) (fun _ => (show knC (0) from ⟨by omega, by omega⟩)) (fun h => by rw [kdc_142] at h; cases h) (fun h => by rw [kdc_142] at h; cases h) dX13_isPoke_2 ?_
  refine kj_aloadn X 0 dX13_isPoke_5 rfl ?_
  refine kj_iloadn X 1 dX13_isPoke_6 rfl ?_
  obtain ⟨q1, h2, hf⟩ := knBd_inv hf
  refine kj_callV (As := [knV a1]) (rest := []) X K (kcX13_isCrossing l ha1 h2) knWvX13_isCrossing (knGm 1644 (by decide +kernel) rfl) (by decide) (knKd_in kdc_142 (by decide)) (knEnt_10 kdc_142) rfl rfl rfl (Nat.le_of_ble_eq_true rfl) (by decide) dX13_isPoke_7 rfl (fun h3 => ?_)
  have j15 : (fun _ =>
   Option.bind (kfX13_fails 1 (knUp μ 142 0 0)) (fun q16 =>
    some ((if q16.1 ≤ 0 then 0 else 1 : Int), q16.2))) () = some q → knJ G p l e { frames := 2, cells := 0, slots := 0, locals := 45 } s m args below meth c 3 0 0 (MQ below (knPo G (knZ q.1) (some (knV q.1)) q.2) args s 0 0 (knA G)) 21 [(0, knO G 142)] [] (knUp μ 142 0 0) := by
    intro hf
    refine kj_aloadn X 0 dX13_isPoke_21 rfl ?_
    refine kj_iconst X dX13_isPoke_22 ?_
    obtain ⟨q23, h24, hf⟩ := knBd_inv hf
    refine kj_callV (As := [knV 1]) (rest := []) X K (kcX13_fails l (show knC (1) from ⟨by omega, by omega⟩) h24) knWvX13_fails (knGm 1604 (by decide +kernel) rfl) (by decide) (knKd_in kdc_142 (by decide)) (knEnt_10 kdc_142) rfl rfl rfl (Nat.le_of_ble_eq_true rfl) (by decide) dX13_isPoke_23 rfl (fun h25 => ?_)
    have j27 : ∀ (t27_0 : Int) (et27_0 : t27_0 = (if q23.1 ≤ 0 then 0 else 1 : Int)) (ht27_0 : knZ t27_0), knJ G p l e { frames := 2, cells := 0, slots := 0, locals := 45 } s m args below meth c 3 0 0 (MQ below (knPo G (knZ q.1) (some (knV q.1)) q.2) args s 0 0 (knA G)) 34 [] [knV t27_0] q23.2 := by
      intro t27_0 et27_0 ht27_0
      subst et27_0
      cases hf
      exact kj_zret X ht27_0 hr (kn_nb ht27_0) dX13_isPoke_34 hlk
    refine kj_if_le X (tgt := 33) dX13_isPoke_26 (by decide) h25 (fun h29 => ?_) (fun h29 => ?_)
    · refine kj_iconst X dX13_isPoke_33 ?_
      refine kj_sub (L' := []) [] rfl ?_
      exact j27 0 (by rw [if_pos h29]) (Or.inl rfl)
    · refine kj_iconst X dX13_isPoke_29 ?_
      refine kj_goto X (tgt := 34) dX13_isPoke_30 (by decide) ?_
      refine kj_sub (L' := []) [] rfl ?_
      exact j27 1 (by rw [if_neg h29]) (Or.inr rfl)
  refine kj_if_eq X (tgt := 21) dX13_isPoke_10 (by decide) (knZ_c h3) (fun h31 => ?_) (fun h31 => ?_)
  · replace hf := knIp hf h31
    refine kj_sub (L' := [(0, knO G 142)]) [0] rfl ?_
    exact j15  hf
  · replace hf := knIq hf h31
    refine kj_aloadn X 0 dX13_isPoke_13 rfl ?_
    refine kj_iloadn X 2 dX13_isPoke_14 rfl ?_
    obtain ⟨q32, h33, hf⟩ := knBd_inv hf
    refine kj_callV (As := [knV a2]) (rest := []) X K (kcX13_isCrossing l ha2 h33) knWvX13_isCrossing (knGm 1644 (by decide +kernel) rfl) (by decide) (knKd_in kdc_142 (by decide)) (knEnt_10 kdc_142) rfl rfl rfl (Nat.le_of_ble_eq_true rfl) (by decide) dX13_isPoke_15 rfl (fun h34 => ?_)
    refine kj_if_ne X (tgt := 35) dX13_isPoke_18 (by decide) (knZ_c h34) (fun h35 => ?_) (fun h35 => ?_)
    · replace hf := knIq hf h35
      refine kj_aloadn X 0 dX13_isPoke_35 rfl ?_
      obtain ⟨q36, h37, hf⟩ := knBd_inv hf
      refine kj_callV (As := []) (rest := []) X K (kcX13_loads l  h37) knWvX13_loads (knGm 1624 (by decide +kernel) rfl) (by decide) (knKd_in kdc_142 (by decide)) (knEnt_10 kdc_142) rfl rfl rfl (Nat.le_of_ble_eq_true rfl) (by decide) dX13_isPoke_36 rfl (fun h38 => ?_)
      refine kj_aloadn X 0 dX13_isPoke_39 rfl ?_
      refine kj_iloadn X 1 dX13_isPoke_40 rfl ?_
      refine kj_iloadn X 2 dX13_isPoke_41 rfl ?_
      obtain ⟨q39, h40, hf⟩ := knBd_inv hf
      refine kj_callV (As := [knV a1, knV a2]) (rest := []) X K (kcX13_pokes l ha1 ha2 h40) knWvX13_pokes (knGm 1692 (by decide +kernel) rfl) (by decide) (knKd_in kdc_142 (by decide)) (knEnt_10 kdc_142) rfl rfl rfl (Nat.le_of_ble_eq_true rfl) (by decide) dX13_isPoke_42 rfl (fun h41 => ?_)
      cases hf
      exact kj_zret X h41 hr (kn_nb h41) dX13_isPoke_45 hlk
    · replace hf := knIp hf h35
      refine kj_sub (L' := [(0, knO G 142)]) [0] rfl ?_
      exact j15  hf

def kfX13_isAlternating_l11   (μ : knMem) (kc : (Unit) → Option (Int × knMem)) : Nat → Int → Option (Int × knMem)
  | 0, _ => none
  | n + 1, x1 =>
    if (knW (2 * (μ 142 8))) ≤ x1 then
     kc ()
    else
     knGd (0 ≤ x1 ∧ x1 < 14)
      (knGd ((knW (2 * (μ 142 8))) ≠ 0)
      (knGd (0 ≤ (knRem (knW (x1 + 1)) (knW (2 * (μ 142 8)))) ∧ (knRem (knW (x1 + 1)) (knW (2 * (μ 142 8)))) < 14)
      (if (μ 148 x1) = (μ 148 (knRem (knW (x1 + 1)) (knW (2 * (μ 142 8))))) then
      some (0, μ)
     else
      kfX13_isAlternating_l11   μ kc n (knW (x1 + 1)))))

def kfX13_isAlternating  (μ : knMem) : Option (Int × knMem) :=
 Option.bind (kfX13_loads  (knUp μ 142 0 0)) (fun q1 =>
  kfX13_isAlternating_l11  q1 (fun _ =>
   some (1, q1)) knF 0)

theorem knWvX13_isAlternating : knWv yX13_isAlternating cX13_isAlternating 2 (some .boolean) 0 := ⟨(knGm 1815 (by decide +kernel) rfl), (knGm 124 (by decide +kernel) rfl), (knGm 1813 (by decide +kernel) rfl), (knGm 1814 (by decide +kernel) rfl), by decide +kernel, by decide +kernel, by decide +kernel⟩
set_option maxHeartbeats 4000000 in
set_option maxRecDepth 100000 in
theorem kfX13_isAlternating_l11_ok {q : Int × knMem} {kc : (Unit) → Option (Int × knMem)} {G : knGT} {p : Program} {l : Launch} {e : Env} {s : State} {m : MethodId} {args : Array Value} {below : List Frame} {meth : Method} {c : Code} (X : knX p m c cX13_isAlternating 2 s args yX13_isAlternating.cls) (K : knK G s s.heap) (hr : meth.sig.returnType = (some .boolean)) (hlk : meth.locks = false)   (μ : knMem) (hk : kc () = some q → knJ G p l e { frames := 1, cells := 0, slots := 0, locals := 21 } s m args below meth c 2 0 0 (MQ below (knPo G (knZ q.1) (some (knV q.1)) q.2) args s 0 0 (knA G)) 53 [] [] μ) : ∀ (n : Nat) (x1 : Int) (hx1 : knC x1) , kfX13_isAlternating_l11   μ kc n x1 = some q → knJ G p l e { frames := 1, cells := 0, slots := 0, locals := 21 } s m args below meth c 2 0 0 (MQ below (knPo G (knZ q.1) (some (knV q.1)) q.2) args s 0 0 (knA G)) 11 [(0, knO G 142), (1, knV x1)] [] μ := by
  intro n
  induction n with
  | zero => intro x1 hx1 hf; cases hf
  | succ n ih =>
    intro x1 hx1 hf
    unfold kfX13_isAlternating_l11 at hf
    refine kj_iloadn X 1 dX13_isAlternating_11 rfl ?_
    refine kj_iconst X dX13_isAlternating_12 ?_
    refine kj_aloadn X 0 dX13_isAlternating_13 rfl ?_
    refine kj_geti (k := 8) (ki := 8) X K rfl kdc_142 (by decide) (knEnt_10 kdc_142) rfl (by decide) knInX13 (knGm 1512 (by decide +kernel) rfl) rfl rfl dX13_isAlternating_14 (fun h4 => ?_)
    refine kj_imul X dX13_isAlternating_17 ?_
    refine kj_ic_ge X (tgt := 53) dX13_isAlternating_18 (by decide) hx1 (knCw _) (fun h5 => ?_) (fun h5 => ?_)
    · replace hf := knIp hf h5
      refine kj_sub (L' := []) [] rfl ?_
      exact hk  hf
    · replace hf := knIq hf h5
      refine kj_aloadn X 0 dX13_isAlternating_21 rfl ?_
      refine kj_geto (k := 10) (o2 := 148) X K kdc_142 (by decide) (knEnt_10 kdc_142) rfl (by decide) knInX13 (knGm 1514 (by decide +kernel) rfl) rfl rfl dX13_isAlternating_22 ?_
      refine kj_iloadn X 1 dX13_isAlternating_25 rfl ?_
      obtain ⟨h6, hf⟩ := knGd_inv hf
      refine kj_iald X K kdc_148 hx1 lnc_148 h6 dX13_isAlternating_26 (fun h7 => ?_)
      refine kj_aloadn X 0 dX13_isAlternating_27 rfl ?_
      refine kj_geto (k := 10) (o2 := 148) X K kdc_142 (by decide) (knEnt_10 kdc_142) rfl (by decide) knInX13 (knGm 1514 (by decide +kernel) rfl) rfl rfl dX13_isAlternating_28 ?_
      refine kj_iloadn X 1 dX13_isAlternating_31 rfl ?_
      refine kj_iconst X dX13_isAlternating_32 ?_
      refine kj_iadd X dX13_isAlternating_33 ?_
      refine kj_iconst X dX13_isAlternating_34 ?_
      refine kj_aloadn X 0 dX13_isAlternating_35 rfl ?_
      refine kj_geti (k := 8) (ki := 8) X K rfl kdc_142 (by decide) (knEnt_10 kdc_142) rfl (by decide) knInX13 (knGm 1512 (by decide +kernel) rfl) rfl rfl dX13_isAlternating_36 (fun h8 => ?_)
      refine kj_imul X dX13_isAlternating_39 ?_
      obtain ⟨h9, hf⟩ := knGd_inv hf
      refine kj_irem X dX13_isAlternating_40 (knCw _) h9 ?_
      obtain ⟨h10, hf⟩ := knGd_inv hf
      refine kj_iald X K kdc_148 (knC_rem _ _) lnc_148 h10 dX13_isAlternating_41 (fun h11 => ?_)
      refine kj_ic_ne X (tgt := 47) dX13_isAlternating_42 (by decide) h7 h11 (fun h12 => ?_) (fun h12 => ?_)
      · replace hf := knIq hf h12
        refine kj_iinc X 1 (L' := [(1, knV (knW (x1 + 1))), (0, knO G 142)]) dX13_isAlternating_47 rfl (by decide) rfl ?_
        refine kj_goto X (tgt := 11) dX13_isAlternating_50 (by decide) ?_
        refine kj_sub (L' := [(0, knO G 142), (1, knV (knW (x1 + 1)))]) [1, 0] rfl ?_
        exact ih _ (knCw _)  hf
      · replace hf := knIp hf h12
        refine kj_iconst X dX13_isAlternating_45 ?_
        cases hf
        exact kj_zret X (Or.inl rfl) hr (kn_nb (Or.inl rfl)) dX13_isAlternating_46 hlk

set_option maxHeartbeats 4000000 in
set_option maxRecDepth 100000 in
theorem kcX13_isAlternating {G : knGT} (l : Launch)   {μ : knMem} {q : Int × knMem} (hf : kfX13_isAlternating  μ = some q) : knC0 G l yX13_isAlternating cX13_isAlternating 2 (some .boolean) 1 21 [knO G 142] μ (knZ q.1) (some (knV q.1)) q.2 := by
  unfold kfX13_isAlternating at hf
  refine kn_ofJ (plainFor_of_name (by decide)) (Nat.le_of_ble_eq_true rfl) (L := [(0, knO G 142)]) rfl ?_
  intro p e s m args below meth c X K hr hlk
  refine kj_aloadn X 0 dX13_isAlternating_0 rfl ?_
  refine kj_iconst X dX13_isAlternating_1 ?_
  refine kj_putf (k := 0) (ki := 0) (x := 0) (ty := .int) X K rfl (knKd_in kdc_142 (by decide)) (knEnt_10 kdc_142) rfl (by decide) knInX13 tyX13_ok nmX13 (knGm 1504 (by decide +kernel) rfl) rfl rfl (by decide +kernel) rfl rfl (by simp) (by rw [knEnt_10 kdc_142, knUp_row]; rfl) (fun _ => (show knC (0) from ⟨by omega, by omega⟩)) (fun h => by rw [kdc_142] at h; cases h) (fun h => by rw [kdc_142] at h; cases h) dX13_isAlternating_2 ?_
  refine kj_aloadn X 0 dX13_isAlternating_5 rfl ?_
  obtain ⟨q1, h2, hf⟩ := knBd_inv hf
  refine kj_callV (As := []) (rest := []) X K (kcX13_loads l  h2) knWvX13_loads (knGm 1624 (by decide +kernel) rfl) (by decide) (knKd_in kdc_142 (by decide)) (knEnt_10 kdc_142) rfl rfl rfl (Nat.le_of_ble_eq_true rfl) (by decide) dX13_isAlternating_6 rfl (fun h3 => ?_)
  refine kj_iconst X dX13_isAlternating_9 ?_
  refine kj_istoren X (L' := [(1, knV 0), (0, knO G 142)]) dX13_isAlternating_10 (by decide) rfl ?_
  refine kj_sub (L' := [(0, knO G 142), (1, knV 0)]) [1, 0] rfl ?_
  refine kfX13_isAlternating_l11_ok X K hr hlk   q1 ?_ knF _ (show knC (0) from ⟨by omega, by omega⟩)  hf
  intro hf
  refine kj_iconst X dX13_isAlternating_53 ?_
  cases hf
  exact kj_zret X (Or.inr rfl) hr (kn_nb (Or.inr rfl)) dX13_isAlternating_54 hlk

def kfX13_reducedCrossings  (μ : knMem) : Option (Int × knMem) :=
 Option.bind (kfX13_loads  (knUp μ 142 0 0)) (fun q1 =>
  Option.bind (kfX13_reduces  q1) (fun q4 =>
   some ((q4 142 8), q4)))

theorem knWvX13_reducedCrossings : knWv yX13_reducedCrossings cX13_reducedCrossings 1 (some .int) 0 := ⟨(knGm 1819 (by decide +kernel) rfl), (knGm 124 (by decide +kernel) rfl), (knGm 1817 (by decide +kernel) rfl), (knGm 1818 (by decide +kernel) rfl), by decide +kernel, by decide +kernel, by decide +kernel⟩
set_option maxHeartbeats 4000000 in
set_option maxRecDepth 100000 in
theorem kcX13_reducedCrossings {G : knGT} (l : Launch)   {μ : knMem} {q : Int × knMem} (hf : kfX13_reducedCrossings  μ = some q) : knC0 G l yX13_reducedCrossings cX13_reducedCrossings 1 (some .int) 4 88 [knO G 142] μ (knC q.1) (some (knV q.1)) q.2 := by
  unfold kfX13_reducedCrossings at hf
  refine kn_ofJ (plainFor_of_name (by decide)) (Nat.le_of_ble_eq_true rfl) (L := [(0, knO G 142)]) rfl ?_
  intro p e s m args below meth c X K hr hlk
  refine kj_aloadn X 0 dX13_reducedCrossings_0 rfl ?_
  refine kj_iconst X dX13_reducedCrossings_1 ?_
  refine kj_putf (k := 0) (ki := 0) (x := 0) (ty := .int) X K rfl (knKd_in kdc_142 (by decide)) (knEnt_10 kdc_142) rfl (by decide) knInX13 tyX13_ok nmX13 (knGm 1504 (by decide +kernel) rfl) rfl rfl (by decide +kernel) rfl rfl (by simp) (by rw [knEnt_10 kdc_142, knUp_row]; rfl) (fun _ => (show knC (0) from ⟨by omega, by omega⟩)) (fun h => by rw [kdc_142] at h; cases h) (fun h => by rw [kdc_142] at h; cases h) dX13_reducedCrossings_2 ?_
  refine kj_aloadn X 0 dX13_reducedCrossings_5 rfl ?_
  obtain ⟨q1, h2, hf⟩ := knBd_inv hf
  refine kj_callV (As := []) (rest := []) X K (kcX13_loads l  h2) knWvX13_loads (knGm 1624 (by decide +kernel) rfl) (by decide) (knKd_in kdc_142 (by decide)) (knEnt_10 kdc_142) rfl rfl rfl (Nat.le_of_ble_eq_true rfl) (by decide) dX13_reducedCrossings_6 rfl (fun h3 => ?_)
  refine kj_aloadn X 0 dX13_reducedCrossings_9 rfl ?_
  obtain ⟨q4, h5, hf⟩ := knBd_inv hf
  refine kj_callV (As := []) (rest := []) X K (kcX13_reduces l  h5) knWvX13_reduces (knGm 1760 (by decide +kernel) rfl) (by decide) (knKd_in kdc_142 (by decide)) (knEnt_10 kdc_142) rfl rfl rfl (Nat.le_of_ble_eq_true rfl) (by decide) dX13_reducedCrossings_10 rfl (fun h6 => ?_)
  refine kj_aloadn X 0 dX13_reducedCrossings_13 rfl ?_
  refine kj_geti (k := 8) (ki := 8) X K rfl kdc_142 (by decide) (knEnt_10 kdc_142) rfl (by decide) knInX13 (knGm 1512 (by decide +kernel) rfl) rfl rfl dX13_reducedCrossings_14 (fun h7 => ?_)
  cases hf
  exact kj_iret X h7 hr dX13_reducedCrossings_17 hlk

def kfX13_chord (a1 : Int) (μ : knMem) : Option (Int) :=
 Option.bind (kfX13_passOf a1 1 μ) (fun q1 =>
  Option.bind (kfX13_passOf a1 0 μ) (fun q4 =>
   some (if (knW ((knW ((knW (2 * (μ 142 8))) - 2)) - (if 0 ≤ (knW (q1 - q4)) then (knW ((knW (q1 - q4)) - 1)) else (knW ((knW (-(knW (q1 - q4)))) - 1)) : Int))) ≤ (if 0 ≤ (knW (q1 - q4)) then (knW ((knW (q1 - q4)) - 1)) else (knW ((knW (-(knW (q1 - q4)))) - 1)) : Int) then (knW ((knW ((knW (2 * (μ 142 8))) - 2)) - (if 0 ≤ (knW (q1 - q4)) then (knW ((knW (q1 - q4)) - 1)) else (knW ((knW (-(knW (q1 - q4)))) - 1)) : Int))) else (if 0 ≤ (knW (q1 - q4)) then (knW ((knW (q1 - q4)) - 1)) else (knW ((knW (-(knW (q1 - q4)))) - 1)) : Int) : Int)))

theorem knWvX13_chord : knWv yX13_chord cX13_chord 5 (some .int) 1 := ⟨(knGm 1827 (by decide +kernel) rfl), (knGm 124 (by decide +kernel) rfl), (knGm 1826 (by decide +kernel) rfl), (knGm 72 (by decide +kernel) rfl), by decide +kernel, by decide +kernel, by decide +kernel⟩
set_option maxHeartbeats 4000000 in
set_option maxRecDepth 100000 in
theorem kcX13_chord {G : knGT} (l : Launch) {a1 : Int} (ha1 : knC a1) {μ : knMem} {q : Int} (hf : kfX13_chord a1 μ = some q) : knC0 G l yX13_chord cX13_chord 5 (some .int) 1 23 [knO G 142, knV a1] μ (knC q) (some (knV q)) μ := by
  unfold kfX13_chord at hf
  refine kn_ofJ (plainFor_of_name (by decide)) (Nat.le_of_ble_eq_true rfl) (L := [(0, knO G 142), (1, knV a1)]) rfl ?_
  intro p e s m args below meth c X K hr hlk
  refine kj_aloadn X 0 dX13_chord_0 rfl ?_
  refine kj_iloadn X 1 dX13_chord_1 rfl ?_
  refine kj_iconst X dX13_chord_2 ?_
  obtain ⟨q1, h2, hf⟩ := knBd_inv hf
  refine kj_callV (As := [knV a1, knV 1]) (rest := []) X K (kcX13_passOf l ha1 (show knC (1) from ⟨by omega, by omega⟩) h2) knWvX13_passOf (knGm 1652 (by decide +kernel) rfl) (by decide) (knKd_in kdc_142 (by decide)) (knEnt_10 kdc_142) rfl rfl rfl (Nat.le_of_ble_eq_true rfl) (by decide) dX13_chord_3 rfl (fun h3 => ?_)
  refine kj_aloadn X 0 dX13_chord_6 rfl ?_
  refine kj_iloadn X 1 dX13_chord_7 rfl ?_
  refine kj_iconst X dX13_chord_8 ?_
  obtain ⟨q4, h5, hf⟩ := knBd_inv hf
  refine kj_callV (As := [knV a1, knV 0]) (rest := [knV q1]) X K (kcX13_passOf l ha1 (show knC (0) from ⟨by omega, by omega⟩) h5) knWvX13_passOf (knGm 1652 (by decide +kernel) rfl) (by decide) (knKd_in kdc_142 (by decide)) (knEnt_10 kdc_142) rfl rfl rfl (Nat.le_of_ble_eq_true rfl) (by decide) dX13_chord_9 rfl (fun h6 => ?_)
  refine kj_isub X dX13_chord_12 ?_
  refine kj_istoren X (L' := [(2, knV (knW (q1 - q4))), (0, knO G 142), (1, knV a1)]) dX13_chord_13 (by decide) rfl ?_
  refine kj_iloadn X 0 dX13_chord_14 rfl ?_
  have j8 : ∀ (t8_0 : Int) (et8_0 : t8_0 = (if 0 ≤ (knW (q1 - q4)) then (knW ((knW (q1 - q4)) - 1)) else (knW ((knW (-(knW (q1 - q4)))) - 1)) : Int)) (ht8_0 : knC t8_0), knJ G p l e { frames := 1, cells := 0, slots := 0, locals := 23 } s m args below meth c 5 0 0 (MQ below (knPo G (knC q) (some (knV q)) μ) args s 0 0 (knA G)) 28 [(0, knO G 142)] [knV t8_0] μ := by
    intro t8_0 et8_0 ht8_0
    subst et8_0
    refine kj_istoren X (L' := [(3, knV (if 0 ≤ (knW (q1 - q4)) then (knW ((knW (q1 - q4)) - 1)) else (knW ((knW (-(knW (q1 - q4)))) - 1)) : Int)), (0, knO G 142)]) dX13_chord_28 (by decide) rfl ?_
    refine kj_iconst X dX13_chord_29 ?_
    refine kj_aloadn X 1 dX13_chord_30 rfl ?_
    refine kj_geti (k := 8) (ki := 8) X K rfl kdc_142 (by decide) (knEnt_10 kdc_142) rfl (by decide) knInX13 (knGm 1512 (by decide +kernel) rfl) rfl rfl dX13_chord_31 (fun h10 => ?_)
    refine kj_imul X dX13_chord_34 ?_
    refine kj_iconst X dX13_chord_35 ?_
    refine kj_isub X dX13_chord_36 ?_
    refine kj_iloadn X 0 dX13_chord_37 rfl ?_
    refine kj_isub X dX13_chord_38 ?_
    refine kj_istore X (L' := [(4, knV (knW ((knW ((knW (2 * (μ 142 8))) - 2)) - (if 0 ≤ (knW (q1 - q4)) then (knW ((knW (q1 - q4)) - 1)) else (knW ((knW (-(knW (q1 - q4)))) - 1)) : Int)))), (3, knV (if 0 ≤ (knW (q1 - q4)) then (knW ((knW (q1 - q4)) - 1)) else (knW ((knW (-(knW (q1 - q4)))) - 1)) : Int)), (0, knO G 142)]) dX13_chord_39 (by decide) rfl ?_
    refine kj_iloadn X 1 dX13_chord_41 rfl ?_
    refine kj_iload X 0 dX13_chord_42 rfl ?_
    have j12 : ∀ (t12_0 : Int) (et12_0 : t12_0 = (if (knW ((knW ((knW (2 * (μ 142 8))) - 2)) - (if 0 ≤ (knW (q1 - q4)) then (knW ((knW (q1 - q4)) - 1)) else (knW ((knW (-(knW (q1 - q4)))) - 1)) : Int))) ≤ (if 0 ≤ (knW (q1 - q4)) then (knW ((knW (q1 - q4)) - 1)) else (knW ((knW (-(knW (q1 - q4)))) - 1)) : Int) then (knW ((knW ((knW (2 * (μ 142 8))) - 2)) - (if 0 ≤ (knW (q1 - q4)) then (knW ((knW (q1 - q4)) - 1)) else (knW ((knW (-(knW (q1 - q4)))) - 1)) : Int))) else (if 0 ≤ (knW (q1 - q4)) then (knW ((knW (q1 - q4)) - 1)) else (knW ((knW (-(knW (q1 - q4)))) - 1)) : Int) : Int)) (ht12_0 : knC t12_0), knJ G p l e { frames := 1, cells := 0, slots := 0, locals := 23 } s m args below meth c 5 0 0 (MQ below (knPo G (knC q) (some (knV q)) μ) args s 0 0 (knA G)) 53 [] [knV t12_0] μ := by
      intro t12_0 et12_0 ht12_0
      subst et12_0
      cases hf
      exact kj_iret X ht12_0 hr dX13_chord_53 hlk
    refine kj_ic_ge X (tgt := 51) dX13_chord_44 (by decide) ht8_0 (knCw _) (fun h14 => ?_) (fun h14 => ?_)
    · refine kj_iload X 0 dX13_chord_51 rfl ?_
      refine kj_sub (L' := []) [] rfl ?_
      exact j12 (knW ((knW ((knW (2 * (μ 142 8))) - 2)) - (if 0 ≤ (knW (q1 - q4)) then (knW ((knW (q1 - q4)) - 1)) else (knW ((knW (-(knW (q1 - q4)))) - 1)) : Int))) (by rw [if_pos h14]) (knCw _)
    · refine kj_iloadn X 1 dX13_chord_47 rfl ?_
      refine kj_goto X (tgt := 53) dX13_chord_48 (by decide) ?_
      refine kj_sub (L' := []) [] rfl ?_
      exact j12 (if 0 ≤ (knW (q1 - q4)) then (knW ((knW (q1 - q4)) - 1)) else (knW ((knW (-(knW (q1 - q4)))) - 1)) : Int) (by rw [if_neg h14]) ht8_0
  refine kj_if_ge X (tgt := 25) dX13_chord_15 (by decide) (knCw _) (fun h15 => ?_) (fun h15 => ?_)
  · refine kj_iloadn X 0 dX13_chord_25 rfl ?_
    refine kj_iconst X dX13_chord_26 ?_
    refine kj_isub X dX13_chord_27 ?_
    refine kj_sub (L' := [(0, knO G 142)]) [1] rfl ?_
    exact j8 (knW ((knW (q1 - q4)) - 1)) (by rw [if_pos h15]) (knCw _)
  · refine kj_iloadn X 0 dX13_chord_18 rfl ?_
    refine kj_ineg X dX13_chord_19 ?_
    refine kj_iconst X dX13_chord_20 ?_
    refine kj_isub X dX13_chord_21 ?_
    refine kj_goto X (tgt := 28) dX13_chord_22 (by decide) ?_
    refine kj_sub (L' := [(0, knO G 142)]) [1] rfl ?_
    exact j8 (knW ((knW (-(knW (q1 - q4)))) - 1)) (by rw [if_neg h15]) (knCw _)

def kfX13_crossingByChord_l24  (x1 : Int) (x2 : Int) (μ : knMem) (kc : (Int) → Option (Int × knMem)) : Nat → Int → Int → Option (Int × knMem)
  | 0, _, _ => none
  | n + 1, x3, x4 =>
    if (μ 142 8) ≤ x4 then
     kc x3
    else
     Option.bind (kfX13_chord x4 μ) (fun q8 =>
      Option.bind (kfX13_chord x2 μ) (fun q11 =>
       Option.bind (α := Int)
        (if q8 < q11 then
         some 1
        else
         Option.bind (kfX13_chord x4 μ) (fun q30 =>
          Option.bind (kfX13_chord x2 μ) (fun q33 =>
           (fun (k38 : (Unit) → Option (Int)) =>
            if q30 = q33 then
             if x2 ≤ x4 then
              k38 ()
             else
              some 1
            else
             k38 ())
            (fun _ =>
            some 0))))
        (fun q27 =>
        kfX13_crossingByChord_l24  x1 x2 μ kc n (knW (x3 + q27)) (knW (x4 + 1)))))

def kfX13_crossingByChord_l11  (x1 : Int) (μ : knMem) (kc : (Unit) → Option (Int × knMem)) : Nat → Int → Option (Int × knMem)
  | 0, _ => none
  | n + 1, x2 =>
    if (μ 142 8) ≤ x2 then
     kc ()
    else
     kfX13_crossingByChord_l24 x1 x2 μ (fun w42 =>
      if w42 = x1 then
       some (x2, μ)
      else
       kfX13_crossingByChord_l11  x1 μ kc n (knW (x2 + 1))) knF 0 0

def kfX13_crossingByChord (a1 : Int) (μ : knMem) : Option (Int × knMem) :=
 Option.bind (kfX13_loads  (knUp μ 142 0 0)) (fun q1 =>
  kfX13_crossingByChord_l11 a1 q1 (fun _ =>
   Option.bind (kfX13_fails 1 q1) (fun q46 =>
    some (q46.1, q46.2))) knF 0)

theorem knWvX13_crossingByChord : knWv yX13_crossingByChord cX13_crossingByChord 5 (some .int) 1 := ⟨(knGm 1823 (by decide +kernel) rfl), (knGm 124 (by decide +kernel) rfl), (knGm 1821 (by decide +kernel) rfl), (knGm 1822 (by decide +kernel) rfl), by decide +kernel, by decide +kernel, by decide +kernel⟩
set_option maxHeartbeats 4000000 in
set_option maxRecDepth 100000 in
theorem kfX13_crossingByChord_l24_ok {q : Int × knMem} {kc : (Int) → Option (Int × knMem)} {G : knGT} {p : Program} {l : Launch} {e : Env} {s : State} {m : MethodId} {args : Array Value} {below : List Frame} {meth : Method} {c : Code} (X : knX p m c cX13_crossingByChord 5 s args yX13_crossingByChord.cls) (K : knK G s s.heap) (hr : meth.sig.returnType = (some .int)) (hlk : meth.locks = false) (x1 : Int) (x2 : Int) (hx1 : knC x1) (hx2 : knC x2) (μ : knMem) (hk : ∀ (y3 : Int) (hy3 : knC y3), kc y3 = some q → knJ G p l e { frames := 2, cells := 0, slots := 0, locals := 47 } s m args below meth c 5 0 0 (MQ below (knPo G (knC q.1) (some (knV q.1)) q.2) args s 0 0 (knA G)) 81 [(0, knO G 142), (1, knV x1), (2, knV x2), (3, knV y3)] [] μ) : ∀ (n : Nat) (x3 : Int) (hx3 : knC x3) (x4 : Int) (hx4 : knC x4) , kfX13_crossingByChord_l24  x1 x2 μ kc n x3 x4 = some q → knJ G p l e { frames := 2, cells := 0, slots := 0, locals := 47 } s m args below meth c 5 0 0 (MQ below (knPo G (knC q.1) (some (knV q.1)) q.2) args s 0 0 (knA G)) 24 [(0, knO G 142), (1, knV x1), (2, knV x2), (3, knV x3), (4, knV x4)] [] μ := by
  intro n
  induction n with
  | zero => intro x3 hx3 x4 hx4 hf; cases hf
  | succ n ih =>
    intro x3 hx3 x4 hx4 hf
    unfold kfX13_crossingByChord_l24 at hf
    refine kj_iload X 4 dX13_crossingByChord_24 rfl ?_
    refine kj_aloadn X 0 dX13_crossingByChord_26 rfl ?_
    refine kj_geti (k := 8) (ki := 8) X K rfl kdc_142 (by decide) (knEnt_10 kdc_142) rfl (by decide) knInX13 (knGm 1512 (by decide +kernel) rfl) rfl rfl dX13_crossingByChord_27 (fun h6 => ?_)
    refine kj_ic_ge X (tgt := 81) dX13_crossingByChord_30 (by decide) hx4 h6 (fun h7 => ?_) (fun h7 => ?_)
    · replace hf := knIp hf h7
      refine kj_sub (L' := [(0, knO G 142), (1, knV x1), (2, knV x2), (3, knV x3)]) [0, 1, 2, 3] rfl ?_
      exact hk _ hx3 hf
    · replace hf := knIq hf h7
      refine kj_iloadn X 3 dX13_crossingByChord_33 rfl ?_
      refine kj_aloadn X 0 dX13_crossingByChord_34 rfl ?_
      refine kj_iload X 4 dX13_crossingByChord_35 rfl ?_
      obtain ⟨q8, h9, hf⟩ := knBd_inv hf
      refine kj_callV (As := [knV x4]) (rest := [knV x3]) X K (kcX13_chord l hx4 h9) knWvX13_chord (knGm 1824 (by decide +kernel) rfl) (by decide) (knKd_in kdc_142 (by decide)) (knEnt_10 kdc_142) rfl rfl rfl (Nat.le_of_ble_eq_true rfl) (by decide) dX13_crossingByChord_37 rfl (fun h10 => ?_)
      refine kj_aloadn X 0 dX13_crossingByChord_40 rfl ?_
      refine kj_iloadn X 2 dX13_crossingByChord_41 rfl ?_
      obtain ⟨q11, h12, hf⟩ := knBd_inv hf
      refine kj_callV (As := [knV x2]) (rest := [knV q8, knV x3]) X K (kcX13_chord l hx2 h12) knWvX13_chord (knGm 1824 (by decide +kernel) rfl) (by decide) (knKd_in kdc_142 (by decide)) (knEnt_10 kdc_142) rfl rfl rfl (Nat.le_of_ble_eq_true rfl) (by decide) dX13_crossingByChord_42 rfl (fun h13 => ?_)
      have j27 : ∀ (t27_0 : Int) (ht27_0 : knZ t27_0), (fun q27 =>
       kfX13_crossingByChord_l24  x1 x2 μ kc n (knW (x3 + q27)) (knW (x4 + 1))) t27_0 = some q → knJ G p l e { frames := 2, cells := 0, slots := 0, locals := 47 } s m args below meth c 5 0 0 (MQ below (knPo G (knC q.1) (some (knV q.1)) q.2) args s 0 0 (knA G)) 73 [(0, knO G 142), (1, knV x1), (2, knV x2), (4, knV x4)] [knV t27_0, knV x3] μ := by
        intro t27_0 ht27_0
        intro hf
        refine kj_iadd X dX13_crossingByChord_73 ?_
        refine kj_istoren X (L' := [(3, knV (knW (x3 + t27_0))), (0, knO G 142), (1, knV x1), (2, knV x2), (4, knV x4)]) dX13_crossingByChord_74 (by decide) rfl ?_
        refine kj_iinc X 4 (L' := [(4, knV (knW (x4 + 1))), (3, knV (knW (x3 + t27_0))), (0, knO G 142), (1, knV x1), (2, knV x2)]) dX13_crossingByChord_75 rfl (by decide) rfl ?_
        refine kj_goto X (tgt := 24) dX13_crossingByChord_78 (by decide) ?_
        refine kj_sub (L' := [(0, knO G 142), (1, knV x1), (2, knV x2), (3, knV (knW (x3 + t27_0))), (4, knV (knW (x4 + 1)))]) [2, 3, 4, 1, 0] rfl ?_
        exact ih _ (knCw _) _ (knCw _)  hf
      obtain ⟨b28, hb28, hf⟩ := knBd_inv hf
      refine kj_ic_lt X (tgt := 68) dX13_crossingByChord_45 (by decide) h10 h13 (fun h29 => ?_) (fun h29 => ?_)
      · replace hb28 := knIp hb28 h29
        refine kj_iconst X dX13_crossingByChord_68 ?_
        refine kj_goto X (tgt := 73) dX13_crossingByChord_69 (by decide) ?_
        cases hb28
        refine kj_sub (L' := [(0, knO G 142), (1, knV x1), (2, knV x2), (4, knV x4)]) [0, 1, 2, 4] rfl ?_
        exact j27 _ (Or.inr rfl) hf
      · replace hb28 := knIq hb28 h29
        refine kj_aloadn X 0 dX13_crossingByChord_48 rfl ?_
        refine kj_iload X 4 dX13_crossingByChord_49 rfl ?_
        obtain ⟨q30, h31, hb28⟩ := knBd_inv hb28
        refine kj_callV (As := [knV x4]) (rest := [knV x3]) X K (kcX13_chord l hx4 h31) knWvX13_chord (knGm 1824 (by decide +kernel) rfl) (by decide) (knKd_in kdc_142 (by decide)) (knEnt_10 kdc_142) rfl rfl rfl (Nat.le_of_ble_eq_true rfl) (by decide) dX13_crossingByChord_51 rfl (fun h32 => ?_)
        refine kj_aloadn X 0 dX13_crossingByChord_54 rfl ?_
        refine kj_iloadn X 2 dX13_crossingByChord_55 rfl ?_
        obtain ⟨q33, h34, hb28⟩ := knBd_inv hb28
        refine kj_callV (As := [knV x2]) (rest := [knV q30, knV x3]) X K (kcX13_chord l hx2 h34) knWvX13_chord (knGm 1824 (by decide +kernel) rfl) (by decide) (knKd_in kdc_142 (by decide)) (knEnt_10 kdc_142) rfl rfl rfl (Nat.le_of_ble_eq_true rfl) (by decide) dX13_crossingByChord_56 rfl (fun h35 => ?_)
        have j38 : (fun _ =>
         some 0) () = some b28 → knJ G p l e { frames := 2, cells := 0, slots := 0, locals := 47 } s m args below meth c 5 0 0 (MQ below (knPo G (knC q.1) (some (knV q.1)) q.2) args s 0 0 (knA G)) 72 [(0, knO G 142), (1, knV x1), (2, knV x2), (4, knV x4)] [knV x3] μ := by
          intro hb28
          refine kj_iconst X dX13_crossingByChord_72 ?_
          cases hb28
          refine kj_sub (L' := [(0, knO G 142), (1, knV x1), (2, knV x2), (4, knV x4)]) [0, 1, 2, 3] rfl ?_
          exact j27 _ (Or.inl rfl) hf
        refine kj_ic_ne X (tgt := 72) dX13_crossingByChord_59 (by decide) h32 h35 (fun h40 => ?_) (fun h40 => ?_)
        · replace hb28 := knIq hb28 h40
          refine kj_sub (L' := [(0, knO G 142), (1, knV x1), (2, knV x2), (4, knV x4)]) [0, 1, 2, 4] rfl ?_
          exact j38  hb28
        · replace hb28 := knIp hb28 h40
          refine kj_iload X 4 dX13_crossingByChord_62 rfl ?_
          refine kj_iloadn X 2 dX13_crossingByChord_64 rfl ?_
          refine kj_ic_ge X (tgt := 72) dX13_crossingByChord_65 (by decide) hx4 hx2 (fun h41 => ?_) (fun h41 => ?_)
          · replace hb28 := knIp hb28 h41
            refine kj_sub (L' := [(0, knO G 142), (1, knV x1), (2, knV x2), (4, knV x4)]) [0, 1, 2, 4] rfl ?_
            exact j38  hb28
          · replace hb28 := knIq hb28 h41
            refine kj_iconst X dX13_crossingByChord_68 ?_
            refine kj_goto X (tgt := 73) dX13_crossingByChord_69 (by decide) ?_
            cases hb28
            refine kj_sub (L' := [(0, knO G 142), (1, knV x1), (2, knV x2), (4, knV x4)]) [0, 1, 2, 4] rfl ?_
            exact j27 _ (Or.inr rfl) hf

set_option maxHeartbeats 4000000 in
set_option maxRecDepth 100000 in
theorem kfX13_crossingByChord_l11_ok {q : Int × knMem} {kc : (Unit) → Option (Int × knMem)} {G : knGT} {p : Program} {l : Launch} {e : Env} {s : State} {m : MethodId} {args : Array Value} {below : List Frame} {meth : Method} {c : Code} (X : knX p m c cX13_crossingByChord 5 s args yX13_crossingByChord.cls) (K : knK G s s.heap) (hr : meth.sig.returnType = (some .int)) (hlk : meth.locks = false) (x1 : Int) (hx1 : knC x1) (μ : knMem) (hk : kc () = some q → knJ G p l e { frames := 2, cells := 0, slots := 0, locals := 47 } s m args below meth c 5 0 0 (MQ below (knPo G (knC q.1) (some (knV q.1)) q.2) args s 0 0 (knA G)) 94 [(0, knO G 142)] [] μ) : ∀ (n : Nat) (x2 : Int) (hx2 : knC x2) , kfX13_crossingByChord_l11  x1 μ kc n x2 = some q → knJ G p l e { frames := 2, cells := 0, slots := 0, locals := 47 } s m args below meth c 5 0 0 (MQ below (knPo G (knC q.1) (some (knV q.1)) q.2) args s 0 0 (knA G)) 11 [(0, knO G 142), (1, knV x1), (2, knV x2)] [] μ := by
  intro n
  induction n with
  | zero => intro x2 hx2 hf; cases hf
  | succ n ih =>
    intro x2 hx2 hf
    unfold kfX13_crossingByChord_l11 at hf
    refine kj_iloadn X 2 dX13_crossingByChord_11 rfl ?_
    refine kj_aloadn X 0 dX13_crossingByChord_12 rfl ?_
    refine kj_geti (k := 8) (ki := 8) X K rfl kdc_142 (by decide) (knEnt_10 kdc_142) rfl (by decide) knInX13 (knGm 1512 (by decide +kernel) rfl) rfl rfl dX13_crossingByChord_13 (fun h4 => ?_)
    refine kj_ic_ge X (tgt := 94) dX13_crossingByChord_16 (by decide) hx2 h4 (fun h5 => ?_) (fun h5 => ?_)
    · replace hf := knIp hf h5
      refine kj_sub (L' := [(0, knO G 142)]) [0] rfl ?_
      exact hk  hf
    · replace hf := knIq hf h5
      refine kj_iconst X dX13_crossingByChord_19 ?_
      refine kj_istoren X (L' := [(3, knV 0), (0, knO G 142), (1, knV x1), (2, knV x2)]) dX13_crossingByChord_20 (by decide) rfl ?_
      refine kj_iconst X dX13_crossingByChord_21 ?_
      refine kj_istore X (L' := [(4, knV 0), (3, knV 0), (0, knO G 142), (1, knV x1), (2, knV x2)]) dX13_crossingByChord_22 (by decide) rfl ?_
      refine kj_sub (L' := [(0, knO G 142), (1, knV x1), (2, knV x2), (3, knV 0), (4, knV 0)]) [2, 3, 4, 1, 0] rfl ?_
      refine kfX13_crossingByChord_l24_ok X K hr hlk x1 x2 hx1 hx2 μ ?_ knF _ (show knC (0) from ⟨by omega, by omega⟩) _ (show knC (0) from ⟨by omega, by omega⟩)  hf
      intro w42_0 hw42_0
      intro hf
      refine kj_iloadn X 3 dX13_crossingByChord_81 rfl ?_
      refine kj_iloadn X 1 dX13_crossingByChord_82 rfl ?_
      refine kj_ic_ne X (tgt := 88) dX13_crossingByChord_83 (by decide) hw42_0 hx1 (fun h44 => ?_) (fun h44 => ?_)
      · replace hf := knIq hf h44
        refine kj_iinc X 2 (L' := [(2, knV (knW (x2 + 1))), (0, knO G 142), (1, knV x1), (3, knV w42_0)]) dX13_crossingByChord_88 rfl (by decide) rfl ?_
        refine kj_goto X (tgt := 11) dX13_crossingByChord_91 (by decide) ?_
        refine kj_sub (L' := [(0, knO G 142), (1, knV x1), (2, knV (knW (x2 + 1)))]) [1, 2, 0] rfl ?_
        exact ih _ (knCw _)  hf
      · replace hf := knIp hf h44
        refine kj_iloadn X 2 dX13_crossingByChord_86 rfl ?_
        cases hf
        exact kj_iret X hx2 hr dX13_crossingByChord_87 hlk

set_option maxHeartbeats 4000000 in
set_option maxRecDepth 100000 in
theorem kcX13_crossingByChord {G : knGT} (l : Launch) {a1 : Int} (ha1 : knC a1) {μ : knMem} {q : Int × knMem} (hf : kfX13_crossingByChord a1 μ = some q) : knC0 G l yX13_crossingByChord cX13_crossingByChord 5 (some .int) 2 47 [knO G 142, knV a1] μ (knC q.1) (some (knV q.1)) q.2 := by
  unfold kfX13_crossingByChord at hf
  refine kn_ofJ (plainFor_of_name (by decide)) (Nat.le_of_ble_eq_true rfl) (L := [(0, knO G 142), (1, knV a1)]) rfl ?_
  intro p e s m args below meth c X K hr hlk
  refine kj_aloadn X 0 dX13_crossingByChord_0 rfl ?_
  refine kj_iconst X dX13_crossingByChord_1 ?_
  refine kj_putf (k := 0) (ki := 0) (x := 0) (ty := .int) X K rfl (knKd_in kdc_142 (by decide)) (knEnt_10 kdc_142) rfl (by decide) knInX13 tyX13_ok nmX13 (knGm 1504 (by decide +kernel) rfl) rfl rfl (by decide +kernel) rfl rfl (by simp) (by rw [knEnt_10 kdc_142, knUp_row]; rfl) (fun _ => (show knC (0) from ⟨by omega, by omega⟩)) (fun h => by rw [kdc_142] at h; cases h) (fun h => by rw [kdc_142] at h; cases h) dX13_crossingByChord_2 ?_
  refine kj_aloadn X 0 dX13_crossingByChord_5 rfl ?_
  obtain ⟨q1, h2, hf⟩ := knBd_inv hf
  refine kj_callV (As := []) (rest := []) X K (kcX13_loads l  h2) knWvX13_loads (knGm 1624 (by decide +kernel) rfl) (by decide) (knKd_in kdc_142 (by decide)) (knEnt_10 kdc_142) rfl rfl rfl (Nat.le_of_ble_eq_true rfl) (by decide) dX13_crossingByChord_6 rfl (fun h3 => ?_)
  refine kj_iconst X dX13_crossingByChord_9 ?_
  refine kj_istoren X (L' := [(2, knV 0), (0, knO G 142), (1, knV a1)]) dX13_crossingByChord_10 (by decide) rfl ?_
  refine kj_sub (L' := [(0, knO G 142), (1, knV a1), (2, knV 0)]) [1, 2, 0] rfl ?_
  refine kfX13_crossingByChord_l11_ok X K hr hlk a1 ha1 q1 ?_ knF _ (show knC (0) from ⟨by omega, by omega⟩)  hf
  intro hf
  refine kj_aloadn X 0 dX13_crossingByChord_94 rfl ?_
  refine kj_iconst X dX13_crossingByChord_95 ?_
  obtain ⟨q49, h50, hf⟩ := knBd_inv hf
  refine kj_callV (As := [knV 1]) (rest := []) X K (kcX13_fails l (show knC (1) from ⟨by omega, by omega⟩) h50) knWvX13_fails (knGm 1604 (by decide +kernel) rfl) (by decide) (knKd_in kdc_142 (by decide)) (knEnt_10 kdc_142) rfl rfl rfl (Nat.le_of_ble_eq_true rfl) (by decide) dX13_crossingByChord_96 rfl (fun h51 => ?_)
  cases hf
  exact kj_iret X h51 hr dX13_crossingByChord_99 hlk

def kfX13_arcs  (μ : knMem) : Option (Int) :=
 some (if (μ 142 8) = 0 then 1 else (μ 142 8) : Int)

theorem knWvX13_arcs : knWv yX13_arcs cX13_arcs 1 (some .int) 0 := ⟨(knGm 1835 (by decide +kernel) rfl), (knGm 124 (by decide +kernel) rfl), (knGm 1834 (by decide +kernel) rfl), (knGm 73 (by decide +kernel) rfl), by decide +kernel, by decide +kernel, by decide +kernel⟩
set_option maxHeartbeats 4000000 in
set_option maxRecDepth 100000 in
theorem kcX13_arcs {G : knGT} (l : Launch)   {μ : knMem} {q : Int} (hf : kfX13_arcs  μ = some q) : knC0 G l yX13_arcs cX13_arcs 1 (some .int) 0 0 [knO G 142] μ (knC q) (some (knV q)) μ := by
  unfold kfX13_arcs at hf
  refine kn_ofJ (plainFor_of_name (by decide)) (Nat.le_of_ble_eq_true rfl) (L := [(0, knO G 142)]) rfl ?_
  intro p e s m args below meth c X K hr hlk
  refine kj_aloadn X 0 dX13_arcs_0 rfl ?_
  refine kj_geti (k := 8) (ki := 8) X K rfl kdc_142 (by decide) (knEnt_10 kdc_142) rfl (by decide) knInX13 (knGm 1512 (by decide +kernel) rfl) rfl rfl dX13_arcs_1 (fun h1 => ?_)
  have j4 : ∀ (t4_0 : Int) (et4_0 : t4_0 = (if (μ 142 8) = 0 then 1 else (μ 142 8) : Int)) (ht4_0 : knC t4_0), knJ G p l e { frames := 0, cells := 0, slots := 0, locals := 0 } s m args below meth c 1 0 0 (MQ below (knPo G (knC q) (some (knV q)) μ) args s 0 0 (knA G)) 15 [] [knV t4_0] μ := by
    intro t4_0 et4_0 ht4_0
    subst et4_0
    cases hf
    exact kj_iret X ht4_0 hr dX13_arcs_15 hlk
  refine kj_if_ne X (tgt := 11) dX13_arcs_4 (by decide) h1 (fun h7 => ?_) (fun h7 => ?_)
  · refine kj_aloadn X 0 dX13_arcs_11 rfl ?_
    refine kj_geti (k := 8) (ki := 8) X K rfl kdc_142 (by decide) (knEnt_10 kdc_142) rfl (by decide) knInX13 (knGm 1512 (by decide +kernel) rfl) rfl rfl dX13_arcs_12 (fun h8 => ?_)
    refine kj_sub (L' := []) [] rfl ?_
    exact j4 (μ 142 8) (by rw [if_neg h7]) h8
  · refine kj_iconst X dX13_arcs_7 ?_
    refine kj_goto X (tgt := 15) dX13_arcs_8 (by decide) ?_
    refine kj_sub (L' := []) [] rfl ?_
    exact j4 1 (by rw [if_pos h7]) (show knC (1) from ⟨by omega, by omega⟩)

def kfX13_arcOf_l4  (x1 : Int) (μ : knMem) (kc : (Int) → Option (Int)) : Nat → Int → Int → Option (Int)
  | 0, _, _ => none
  | n + 1, x2, x3 =>
    if x1 < x3 then
     kc x2
    else
     knGd (0 ≤ x3 ∧ x3 < 14)
      (kfX13_arcOf_l4  x1 μ kc n (knW (x2 + (knW (1 - (μ 148 x3))))) (knW (x3 + 1)))

def kfX13_arcOf (a1 : Int) (μ : knMem) : Option (Int) :=
 kfX13_arcOf_l4 a1 μ (fun w4 =>
  some (if w4 = 0 then (knW ((μ 142 8) - 1)) else (knW (w4 - 1)) : Int)) knF 0 0

theorem knWvX13_arcOf : knWv yX13_arcOf cX13_arcOf 4 (some .int) 1 := ⟨(knGm 1843 (by decide +kernel) rfl), (knGm 124 (by decide +kernel) rfl), (knGm 1842 (by decide +kernel) rfl), (knGm 74 (by decide +kernel) rfl), by decide +kernel, by decide +kernel, by decide +kernel⟩
set_option maxHeartbeats 4000000 in
set_option maxRecDepth 100000 in
theorem kfX13_arcOf_l4_ok {q : Int} {kc : (Int) → Option (Int)} {G : knGT} {p : Program} {l : Launch} {e : Env} {s : State} {m : MethodId} {args : Array Value} {below : List Frame} {meth : Method} {c : Code} (X : knX p m c cX13_arcOf 4 s args yX13_arcOf.cls) (K : knK G s s.heap) (hr : meth.sig.returnType = (some .int)) (hlk : meth.locks = false) (x1 : Int) (hx1 : knC x1) (μ : knMem) (hk : ∀ (y2 : Int) (hy2 : knC y2), kc y2 = some q → knJ G p l e { frames := 0, cells := 0, slots := 0, locals := 0 } s m args below meth c 4 0 0 (MQ below (knPo G (knC q) (some (knV q)) μ) args s 0 0 (knA G)) 26 [(0, knO G 142), (2, knV y2)] [] μ) : ∀ (n : Nat) (x2 : Int) (hx2 : knC x2) (x3 : Int) (hx3 : knC x3) , kfX13_arcOf_l4  x1 μ kc n x2 x3 = some q → knJ G p l e { frames := 0, cells := 0, slots := 0, locals := 0 } s m args below meth c 4 0 0 (MQ below (knPo G (knC q) (some (knV q)) μ) args s 0 0 (knA G)) 4 [(0, knO G 142), (1, knV x1), (2, knV x2), (3, knV x3)] [] μ := by
  intro n
  induction n with
  | zero => intro x2 hx2 x3 hx3 hf; cases hf
  | succ n ih =>
    intro x2 hx2 x3 hx3 hf
    unfold kfX13_arcOf_l4 at hf
    refine kj_iloadn X 3 dX13_arcOf_4 rfl ?_
    refine kj_iloadn X 1 dX13_arcOf_5 rfl ?_
    refine kj_ic_gt X (tgt := 26) dX13_arcOf_6 (by decide) hx3 hx1 (fun h1 => ?_) (fun h1 => ?_)
    · replace hf := knIp hf h1
      refine kj_sub (L' := [(0, knO G 142), (2, knV x2)]) [0, 2] rfl ?_
      exact hk _ hx2 hf
    · replace hf := knIq hf h1
      refine kj_iloadn X 2 dX13_arcOf_9 rfl ?_
      refine kj_iconst X dX13_arcOf_10 ?_
      refine kj_aloadn X 0 dX13_arcOf_11 rfl ?_
      refine kj_geto (k := 10) (o2 := 148) X K kdc_142 (by decide) (knEnt_10 kdc_142) rfl (by decide) knInX13 (knGm 1514 (by decide +kernel) rfl) rfl rfl dX13_arcOf_12 ?_
      refine kj_iloadn X 3 dX13_arcOf_15 rfl ?_
      obtain ⟨h2, hf⟩ := knGd_inv hf
      refine kj_iald X K kdc_148 hx3 lnc_148 h2 dX13_arcOf_16 (fun h3 => ?_)
      refine kj_isub X dX13_arcOf_17 ?_
      refine kj_iadd X dX13_arcOf_18 ?_
      refine kj_istoren X (L' := [(2, knV (knW (x2 + (knW (1 - (μ 148 x3)))))), (0, knO G 142), (1, knV x1), (3, knV x3)]) dX13_arcOf_19 (by decide) rfl ?_
      refine kj_iinc X 3 (L' := [(3, knV (knW (x3 + 1))), (2, knV (knW (x2 + (knW (1 - (μ 148 x3)))))), (0, knO G 142), (1, knV x1)]) dX13_arcOf_20 rfl (by decide) rfl ?_
      refine kj_goto X (tgt := 4) dX13_arcOf_23 (by decide) ?_
      refine kj_sub (L' := [(0, knO G 142), (1, knV x1), (2, knV (knW (x2 + (knW (1 - (μ 148 x3)))))), (3, knV (knW (x3 + 1)))]) [2, 3, 1, 0] rfl ?_
      exact ih _ (knCw _) _ (knCw _)  hf

set_option maxHeartbeats 4000000 in
set_option maxRecDepth 100000 in
theorem kcX13_arcOf {G : knGT} (l : Launch) {a1 : Int} (ha1 : knC a1) {μ : knMem} {q : Int} (hf : kfX13_arcOf a1 μ = some q) : knC0 G l yX13_arcOf cX13_arcOf 4 (some .int) 0 0 [knO G 142, knV a1] μ (knC q) (some (knV q)) μ := by
  unfold kfX13_arcOf at hf
  refine kn_ofJ (plainFor_of_name (by decide)) (Nat.le_of_ble_eq_true rfl) (L := [(0, knO G 142), (1, knV a1)]) rfl ?_
  intro p e s m args below meth c X K hr hlk
  refine kj_iconst X dX13_arcOf_0 ?_
  refine kj_istoren X (L' := [(2, knV 0), (0, knO G 142), (1, knV a1)]) dX13_arcOf_1 (by decide) rfl ?_
  refine kj_iconst X dX13_arcOf_2 ?_
  refine kj_istoren X (L' := [(3, knV 0), (2, knV 0), (0, knO G 142), (1, knV a1)]) dX13_arcOf_3 (by decide) rfl ?_
  refine kj_sub (L' := [(0, knO G 142), (1, knV a1), (2, knV 0), (3, knV 0)]) [2, 3, 1, 0] rfl ?_
  refine kfX13_arcOf_l4_ok X K hr hlk a1 ha1 μ ?_ knF _ (show knC (0) from ⟨by omega, by omega⟩) _ (show knC (0) from ⟨by omega, by omega⟩)  hf
  intro w4_0 hw4_0
  intro hf
  refine kj_iloadn X 1 dX13_arcOf_26 rfl ?_
  have j14 : ∀ (t14_0 : Int) (et14_0 : t14_0 = (if w4_0 = 0 then (knW ((μ 142 8) - 1)) else (knW (w4_0 - 1)) : Int)) (ht14_0 : knC t14_0), knJ G p l e { frames := 0, cells := 0, slots := 0, locals := 0 } s m args below meth c 4 0 0 (MQ below (knPo G (knC q) (some (knV q)) μ) args s 0 0 (knA G)) 42 [] [knV t14_0] μ := by
    intro t14_0 et14_0 ht14_0
    subst et14_0
    cases hf
    exact kj_iret X ht14_0 hr dX13_arcOf_42 hlk
  refine kj_if_ne X (tgt := 39) dX13_arcOf_27 (by decide) hw4_0 (fun h17 => ?_) (fun h17 => ?_)
  · refine kj_iloadn X 1 dX13_arcOf_39 rfl ?_
    refine kj_iconst X dX13_arcOf_40 ?_
    refine kj_isub X dX13_arcOf_41 ?_
    refine kj_sub (L' := []) [] rfl ?_
    exact j14 (knW (w4_0 - 1)) (by rw [if_neg h17]) (knCw _)
  · refine kj_aloadn X 0 dX13_arcOf_30 rfl ?_
    refine kj_geti (k := 8) (ki := 8) X K rfl kdc_142 (by decide) (knEnt_10 kdc_142) rfl (by decide) knInX13 (knGm 1512 (by decide +kernel) rfl) rfl rfl dX13_arcOf_31 (fun h18 => ?_)
    refine kj_iconst X dX13_arcOf_34 ?_
    refine kj_isub X dX13_arcOf_35 ?_
    refine kj_goto X (tgt := 42) dX13_arcOf_36 (by decide) ?_
    refine kj_sub (L' := []) [] rfl ?_
    exact j14 (knW ((μ 142 8) - 1)) (by rw [if_pos h17]) (knCw _)

def kfX13_arcCount  (μ : knMem) : Option (Int × knMem) :=
 Option.bind (kfX13_loads  (knUp μ 142 0 0)) (fun q1 =>
  Option.bind (kfX13_arcs  q1) (fun q4 =>
   some (q4, q1)))

theorem knWvX13_arcCount : knWv yX13_arcCount cX13_arcCount 1 (some .int) 0 := ⟨(knGm 1831 (by decide +kernel) rfl), (knGm 124 (by decide +kernel) rfl), (knGm 1829 (by decide +kernel) rfl), (knGm 1830 (by decide +kernel) rfl), by decide +kernel, by decide +kernel, by decide +kernel⟩
set_option maxHeartbeats 4000000 in
set_option maxRecDepth 100000 in
theorem kcX13_arcCount {G : knGT} (l : Launch)   {μ : knMem} {q : Int × knMem} (hf : kfX13_arcCount  μ = some q) : knC0 G l yX13_arcCount cX13_arcCount 1 (some .int) 1 21 [knO G 142] μ (knC q.1) (some (knV q.1)) q.2 := by
  unfold kfX13_arcCount at hf
  refine kn_ofJ (plainFor_of_name (by decide)) (Nat.le_of_ble_eq_true rfl) (L := [(0, knO G 142)]) rfl ?_
  intro p e s m args below meth c X K hr hlk
  refine kj_aloadn X 0 dX13_arcCount_0 rfl ?_
  refine kj_iconst X dX13_arcCount_1 ?_
  refine kj_putf (k := 0) (ki := 0) (x := 0) (ty := .int) X K rfl (knKd_in kdc_142 (by decide)) (knEnt_10 kdc_142) rfl (by decide) knInX13 tyX13_ok nmX13 (knGm 1504 (by decide +kernel) rfl) rfl rfl (by decide +kernel) rfl rfl (by simp) (by rw [knEnt_10 kdc_142, knUp_row]; rfl) (fun _ => (show knC (0) from ⟨by omega, by omega⟩)) (fun h => by rw [kdc_142] at h; cases h) (fun h => by rw [kdc_142] at h; cases h) dX13_arcCount_2 ?_
  refine kj_aloadn X 0 dX13_arcCount_5 rfl ?_
  obtain ⟨q1, h2, hf⟩ := knBd_inv hf
  refine kj_callV (As := []) (rest := []) X K (kcX13_loads l  h2) knWvX13_loads (knGm 1624 (by decide +kernel) rfl) (by decide) (knKd_in kdc_142 (by decide)) (knEnt_10 kdc_142) rfl rfl rfl (Nat.le_of_ble_eq_true rfl) (by decide) dX13_arcCount_6 rfl (fun h3 => ?_)
  refine kj_aloadn X 0 dX13_arcCount_9 rfl ?_
  obtain ⟨q4, h5, hf⟩ := knBd_inv hf
  refine kj_callV (As := []) (rest := []) X K (kcX13_arcs l  h5) knWvX13_arcs (knGm 1832 (by decide +kernel) rfl) (by decide) (knKd_in kdc_142 (by decide)) (knEnt_10 kdc_142) rfl rfl rfl (Nat.le_of_ble_eq_true rfl) (by decide) dX13_arcCount_10 rfl (fun h6 => ?_)
  cases hf
  exact kj_iret X h6 hr dX13_arcCount_13 hlk

def kfX13_arcAt (a1 : Int) (μ : knMem) : Option (Int × knMem) :=
 Option.bind (kfX13_isPass a1 (knUp μ 142 0 0)) (fun q1 =>
  if q1 = 0 then
   Option.bind (kfX13_fails 1 (knUp μ 142 0 0)) (fun q11 =>
    some (q11.1, q11.2))
  else
   Option.bind (kfX13_loads  (knUp μ 142 0 0)) (fun q5 =>
    Option.bind (kfX13_arcOf a1 q5) (fun q8 =>
     some (q8, q5))))

theorem knWvX13_arcAt : knWv yX13_arcAt cX13_arcAt 2 (some .int) 1 := ⟨(knGm 1839 (by decide +kernel) rfl), (knGm 124 (by decide +kernel) rfl), (knGm 1837 (by decide +kernel) rfl), (knGm 1838 (by decide +kernel) rfl), by decide +kernel, by decide +kernel, by decide +kernel⟩
set_option maxHeartbeats 4000000 in
set_option maxRecDepth 100000 in
theorem kcX13_arcAt {G : knGT} (l : Launch) {a1 : Int} (ha1 : knC a1) {μ : knMem} {q : Int × knMem} (hf : kfX13_arcAt a1 μ = some q) : knC0 G l yX13_arcAt cX13_arcAt 2 (some .int) 2 43 [knO G 142, knV a1] μ (knC q.1) (some (knV q.1)) q.2 := by
  unfold kfX13_arcAt at hf
  refine kn_ofJ (plainFor_of_name (by decide)) (Nat.le_of_ble_eq_true rfl) (L := [(0, knO G 142), (1, knV a1)]) rfl ?_
  intro p e s m args below meth c X K hr hlk
  refine kj_aloadn X 0 dX13_arcAt_0 rfl ?_
  refine kj_iconst X dX13_arcAt_1 ?_
  refine kj_putf (k := 0) (ki := 0) (x := 0) (ty := .int) X K rfl (knKd_in kdc_142 (by decide)) (knEnt_10 kdc_142) rfl (by decide) knInX13 tyX13_ok nmX13 (knGm 1504 (by decide +kernel) rfl) rfl rfl (by decide +kernel) rfl rfl (by simp) (by rw [knEnt_10 kdc_142, knUp_row]; rfl) (fun _ => (show knC (0) from ⟨by omega, by omega⟩)) (fun h => by rw [kdc_142] at h; cases h) (fun h => by rw [kdc_142] at h; cases h) dX13_arcAt_2 ?_
  refine kj_aloadn X 0 dX13_arcAt_5 rfl ?_
  refine kj_iloadn X 1 dX13_arcAt_6 rfl ?_
  obtain ⟨q1, h2, hf⟩ := knBd_inv hf
  refine kj_callV (As := [knV a1]) (rest := []) X K (kcX13_isPass l ha1 h2) knWvX13_isPass (knGm 1744 (by decide +kernel) rfl) (by decide) (knKd_in kdc_142 (by decide)) (knEnt_10 kdc_142) rfl rfl rfl (Nat.le_of_ble_eq_true rfl) (by decide) dX13_arcAt_7 rfl (fun h3 => ?_)
  refine kj_if_ne X (tgt := 19) dX13_arcAt_10 (by decide) (knZ_c h3) (fun h4 => ?_) (fun h4 => ?_)
  · replace hf := knIq hf h4
    refine kj_aloadn X 0 dX13_arcAt_19 rfl ?_
    obtain ⟨q5, h6, hf⟩ := knBd_inv hf
    refine kj_callV (As := []) (rest := []) X K (kcX13_loads l  h6) knWvX13_loads (knGm 1624 (by decide +kernel) rfl) (by decide) (knKd_in kdc_142 (by decide)) (knEnt_10 kdc_142) rfl rfl rfl (Nat.le_of_ble_eq_true rfl) (by decide) dX13_arcAt_20 rfl (fun h7 => ?_)
    refine kj_aloadn X 0 dX13_arcAt_23 rfl ?_
    refine kj_iloadn X 1 dX13_arcAt_24 rfl ?_
    obtain ⟨q8, h9, hf⟩ := knBd_inv hf
    refine kj_callV (As := [knV a1]) (rest := []) X K (kcX13_arcOf l ha1 h9) knWvX13_arcOf (knGm 1840 (by decide +kernel) rfl) (by decide) (knKd_in kdc_142 (by decide)) (knEnt_10 kdc_142) rfl rfl rfl (Nat.le_of_ble_eq_true rfl) (by decide) dX13_arcAt_25 rfl (fun h10 => ?_)
    cases hf
    exact kj_iret X h10 hr dX13_arcAt_28 hlk
  · replace hf := knIp hf h4
    refine kj_aloadn X 0 dX13_arcAt_13 rfl ?_
    refine kj_iconst X dX13_arcAt_14 ?_
    obtain ⟨q11, h12, hf⟩ := knBd_inv hf
    refine kj_callV (As := [knV 1]) (rest := []) X K (kcX13_fails l (show knC (1) from ⟨by omega, by omega⟩) h12) knWvX13_fails (knGm 1604 (by decide +kernel) rfl) (by decide) (knKd_in kdc_142 (by decide)) (knEnt_10 kdc_142) rfl rfl rfl (Nat.le_of_ble_eq_true rfl) (by decide) dX13_arcAt_15 rfl (fun h13 => ?_)
    cases hf
    exact kj_iret X h13 hr dX13_arcAt_18 hlk

def kfX13_equations_l2  (x1 : Int)  (kc : (knMem) → Option (knMem)) : Nat → Int → knMem → Option (knMem)
  | 0, _, _ => none
  | n + 1, x2, μ =>
    if 49 ≤ x2 then
     kc μ
    else
     knGd (0 ≤ x2 ∧ x2 < 49)
      (kfX13_equations_l2  x1 kc n (knW (x2 + 1)) (knUp μ 150 x2 0))

def kfX13_equations_l23  (x1 : Int)  (kc : (knMem) → Option (knMem)) : Nat → Int → knMem → Option (knMem)
  | 0, _, _ => none
  | n + 1, x2, μ =>
    if (μ 142 8) ≤ x2 then
     kc μ
    else
     Option.bind (kfX13_passOf x2 0 μ) (fun q6 =>
      Option.bind (kfX13_arcOf q6 μ) (fun q9 =>
       knGd ((μ 142 8) ≠ 0)
        (Option.bind (kfX13_passOf x2 1 μ) (fun q15 =>
        Option.bind (kfX13_arcOf q15 μ) (fun q18 =>
         knGd (0 ≤ (knW ((knW (7 * x2)) + q18)) ∧ (knW ((knW (7 * x2)) + q18)) < 49)
          (knGd (0 ≤ (knW ((knW (7 * x2)) + q9)) ∧ (knW ((knW (7 * x2)) + q9)) < 49)
          (knGd (0 ≤ (knW ((knW (7 * x2)) + (knRem (knW ((knW (q9 + (μ 142 8))) - 1)) (μ 142 8)))) ∧ (knW ((knW (7 * x2)) + (knRem (knW ((knW (q9 + (μ 142 8))) - 1)) (μ 142 8)))) < 49)
          (kfX13_equations_l23  x1 kc n (knW (x2 + 1)) (knUp (knUp (knUp μ 150 (knW ((knW (7 * x2)) + q18)) (knW ((μ 150 (knW ((knW (7 * x2)) + q18))) + 2))) 150 (knW ((knW (7 * x2)) + q9)) (knW (((knUp μ 150 (knW ((knW (7 * x2)) + q18)) (knW ((μ 150 (knW ((knW (7 * x2)) + q18))) + 2))) 150 (knW ((knW (7 * x2)) + q9))) + (knW (x1 - 1))))) 150 (knW ((knW (7 * x2)) + (knRem (knW ((knW (q9 + (μ 142 8))) - 1)) (μ 142 8)))) (knW (((knUp (knUp μ 150 (knW ((knW (7 * x2)) + q18)) (knW ((μ 150 (knW ((knW (7 * x2)) + q18))) + 2))) 150 (knW ((knW (7 * x2)) + q9)) (knW (((knUp μ 150 (knW ((knW (7 * x2)) + q18)) (knW ((μ 150 (knW ((knW (7 * x2)) + q18))) + 2))) 150 (knW ((knW (7 * x2)) + q9))) + (knW (x1 - 1))))) 150 (knW ((knW (7 * x2)) + (knRem (knW ((knW (q9 + (μ 142 8))) - 1)) (μ 142 8))))) + (knW (x1 - 1)))))))))))))

def kfX13_equations_l124  (x1 : Int)  (kc : (knMem) → Option (knMem)) : Nat → Int → knMem → Option (knMem)
  | 0, _, _ => none
  | n + 1, x2, μ =>
    if 49 ≤ x2 then
     kc μ
    else
     knGd (0 ≤ x2 ∧ x2 < 49)
      (knGd (x1 ≠ 0)
      (kfX13_equations_l124  x1 kc n (knW (x2 + 1)) (knUp μ 150 x2 (knRem (μ 150 x2) x1))))

def kfX13_equations (a1 : Int) (μ : knMem) : Option (knMem) :=
 kfX13_equations_l2 a1  (fun w3 =>
  kfX13_equations_l23 a1  (fun w27 =>
   kfX13_equations_l124 a1  (fun w32 =>
    some w32) knF 0 w27) knF 0 w3) knF 0 μ

theorem knWvX13_equations : knWv yX13_equations cX13_equations 5 none 1 := ⟨(knGm 1859 (by decide +kernel) rfl), (knGm 124 (by decide +kernel) rfl), (knGm 1858 (by decide +kernel) rfl), (knGm 77 (by decide +kernel) rfl), by decide +kernel, by decide +kernel, by decide +kernel⟩
set_option maxHeartbeats 4000000 in
set_option maxRecDepth 100000 in
theorem kfX13_equations_l2_ok {q : knMem} {kc : (knMem) → Option (knMem)} {G : knGT} {p : Program} {l : Launch} {e : Env} {s : State} {m : MethodId} {args : Array Value} {below : List Frame} {meth : Method} {c : Code} (X : knX p m c cX13_equations 5 s args yX13_equations.cls) (K : knK G s s.heap) (hr : meth.sig.returnType = none) (hlk : meth.locks = false) (x1 : Int) (hx1 : knC x1)  (hk : ∀ (μ1 : knMem), kc μ1 = some q → knJ G p l e { frames := 1, cells := 0, slots := 0, locals := 23 } s m args below meth c 5 0 0 (MQ below (knPo G True none q) args s 0 0 (knA G)) 21 [(0, knO G 142), (1, knV x1)] [] μ1) : ∀ (n : Nat) (x2 : Int) (hx2 : knC x2) (μ : knMem), kfX13_equations_l2  x1 kc n x2 μ = some q → knJ G p l e { frames := 1, cells := 0, slots := 0, locals := 23 } s m args below meth c 5 0 0 (MQ below (knPo G True none q) args s 0 0 (knA G)) 2 [(0, knO G 142), (1, knV x1), (2, knV x2)] [] μ := by
  intro n
  induction n with
  | zero => intro x2 hx2 μ hf; cases hf
  | succ n ih =>
    intro x2 hx2 μ hf
    unfold kfX13_equations_l2 at hf
    refine kj_iloadn X 2 dX13_equations_2 rfl ?_
    refine kj_bipush X (n := 49) dX13_equations_3 rfl ?_
    refine kj_ic_ge X (tgt := 21) dX13_equations_5 (by decide) hx2 (show knC (49) from ⟨by omega, by omega⟩) (fun h1 => ?_) (fun h1 => ?_)
    · replace hf := knIp hf h1
      refine kj_sub (L' := [(0, knO G 142), (1, knV x1)]) [0, 1] rfl ?_
      exact hk _ hf
    · replace hf := knIq hf h1
      refine kj_aloadn X 0 dX13_equations_8 rfl ?_
      refine kj_geto (k := 12) (o2 := 150) X K kdc_142 (by decide) (knEnt_10 kdc_142) rfl (by decide) knInX13 (knGm 1516 (by decide +kernel) rfl) rfl rfl dX13_equations_9 ?_
      refine kj_iloadn X 2 dX13_equations_12 rfl ?_
      refine kj_iconst X dX13_equations_13 ?_
      obtain ⟨h2, hf⟩ := knGd_inv hf
      refine kj_iast X K kdc_150 hx2 (show knC (0) from ⟨by omega, by omega⟩) lnc_150 h2 dX13_equations_14 ?_
      refine kj_iinc X 2 (L' := [(2, knV (knW (x2 + 1))), (0, knO G 142), (1, knV x1)]) dX13_equations_15 rfl (by decide) rfl ?_
      refine kj_goto X (tgt := 2) dX13_equations_18 (by decide) ?_
      refine kj_sub (L' := [(0, knO G 142), (1, knV x1), (2, knV (knW (x2 + 1)))]) [1, 2, 0] rfl ?_
      exact ih _ (knCw _) _ hf

set_option maxHeartbeats 4000000 in
set_option maxRecDepth 100000 in
theorem kfX13_equations_l23_ok {q : knMem} {kc : (knMem) → Option (knMem)} {G : knGT} {p : Program} {l : Launch} {e : Env} {s : State} {m : MethodId} {args : Array Value} {below : List Frame} {meth : Method} {c : Code} (X : knX p m c cX13_equations 5 s args yX13_equations.cls) (K : knK G s s.heap) (hr : meth.sig.returnType = none) (hlk : meth.locks = false) (x1 : Int) (hx1 : knC x1)  (hk : ∀ (μ1 : knMem), kc μ1 = some q → knJ G p l e { frames := 1, cells := 0, slots := 0, locals := 23 } s m args below meth c 5 0 0 (MQ below (knPo G True none q) args s 0 0 (knA G)) 122 [(0, knO G 142), (1, knV x1)] [] μ1) : ∀ (n : Nat) (x2 : Int) (hx2 : knC x2) (μ : knMem), kfX13_equations_l23  x1 kc n x2 μ = some q → knJ G p l e { frames := 1, cells := 0, slots := 0, locals := 23 } s m args below meth c 5 0 0 (MQ below (knPo G True none q) args s 0 0 (knA G)) 23 [(0, knO G 142), (1, knV x1), (2, knV x2)] [] μ := by
  intro n
  induction n with
  | zero => intro x2 hx2 μ hf; cases hf
  | succ n ih =>
    intro x2 hx2 μ hf
    unfold kfX13_equations_l23 at hf
    refine kj_iloadn X 2 dX13_equations_23 rfl ?_
    refine kj_aloadn X 0 dX13_equations_24 rfl ?_
    refine kj_geti (k := 8) (ki := 8) X K rfl kdc_142 (by decide) (knEnt_10 kdc_142) rfl (by decide) knInX13 (knGm 1512 (by decide +kernel) rfl) rfl rfl dX13_equations_25 (fun h4 => ?_)
    refine kj_ic_ge X (tgt := 122) dX13_equations_28 (by decide) hx2 h4 (fun h5 => ?_) (fun h5 => ?_)
    · replace hf := knIp hf h5
      refine kj_sub (L' := [(0, knO G 142), (1, knV x1)]) [0, 1] rfl ?_
      exact hk _ hf
    · replace hf := knIq hf h5
      refine kj_aloadn X 0 dX13_equations_31 rfl ?_
      refine kj_aloadn X 0 dX13_equations_32 rfl ?_
      refine kj_iloadn X 2 dX13_equations_33 rfl ?_
      refine kj_iconst X dX13_equations_34 ?_
      obtain ⟨q6, h7, hf⟩ := knBd_inv hf
      refine kj_callV (As := [knV x2, knV 0]) (rest := [knO G 142]) X K (kcX13_passOf l hx2 (show knC (0) from ⟨by omega, by omega⟩) h7) knWvX13_passOf (knGm 1652 (by decide +kernel) rfl) (by decide) (knKd_in kdc_142 (by decide)) (knEnt_10 kdc_142) rfl rfl rfl (Nat.le_of_ble_eq_true rfl) (by decide) dX13_equations_35 rfl (fun h8 => ?_)
      obtain ⟨q9, h10, hf⟩ := knBd_inv hf
      refine kj_callV (As := [knV q6]) (rest := []) X K (kcX13_arcOf l h8 h10) knWvX13_arcOf (knGm 1840 (by decide +kernel) rfl) (by decide) (knKd_in kdc_142 (by decide)) (knEnt_10 kdc_142) rfl rfl rfl (Nat.le_of_ble_eq_true rfl) (by decide) dX13_equations_38 rfl (fun h11 => ?_)
      refine kj_istoren X (L' := [(3, knV q9), (0, knO G 142), (1, knV x1), (2, knV x2)]) dX13_equations_41 (by decide) rfl ?_
      refine kj_iloadn X 0 dX13_equations_42 rfl ?_
      refine kj_aloadn X 1 dX13_equations_43 rfl ?_
      refine kj_geti (k := 8) (ki := 8) X K rfl kdc_142 (by decide) (knEnt_10 kdc_142) rfl (by decide) knInX13 (knGm 1512 (by decide +kernel) rfl) rfl rfl dX13_equations_44 (fun h12 => ?_)
      refine kj_iadd X dX13_equations_47 ?_
      refine kj_iconst X dX13_equations_48 ?_
      refine kj_isub X dX13_equations_49 ?_
      refine kj_aloadn X 1 dX13_equations_50 rfl ?_
      refine kj_geti (k := 8) (ki := 8) X K rfl kdc_142 (by decide) (knEnt_10 kdc_142) rfl (by decide) knInX13 (knGm 1512 (by decide +kernel) rfl) rfl rfl dX13_equations_51 (fun h13 => ?_)
      obtain ⟨h14, hf⟩ := knGd_inv hf
      refine kj_irem X dX13_equations_54 h13 h14 ?_
      refine kj_istore X (L' := [(4, knV (knRem (knW ((knW (q9 + (μ 142 8))) - 1)) (μ 142 8))), (3, knV q9), (0, knO G 142), (1, knV x1), (2, knV x2)]) dX13_equations_55 (by decide) rfl ?_
      refine kj_aloadn X 2 dX13_equations_57 rfl ?_
      refine kj_geto (k := 12) (o2 := 150) X K kdc_142 (by decide) (knEnt_10 kdc_142) rfl (by decide) knInX13 (knGm 1516 (by decide +kernel) rfl) rfl rfl dX13_equations_58 ?_
      refine kj_bipush X (n := 7) dX13_equations_61 rfl ?_
      refine kj_iloadn X 4 dX13_equations_63 rfl ?_
      refine kj_imul X dX13_equations_64 ?_
      refine kj_aloadn X 2 dX13_equations_65 rfl ?_
      refine kj_aloadn X 2 dX13_equations_66 rfl ?_
      refine kj_iloadn X 4 dX13_equations_67 rfl ?_
      refine kj_iconst X dX13_equations_68 ?_
      obtain ⟨q15, h16, hf⟩ := knBd_inv hf
      refine kj_callV (As := [knV x2, knV 1]) (rest := [knO G 142, knV (knW (7 * x2)), knO G 150]) X K (kcX13_passOf l hx2 (show knC (1) from ⟨by omega, by omega⟩) h16) knWvX13_passOf (knGm 1652 (by decide +kernel) rfl) (by decide) (knKd_in kdc_142 (by decide)) (knEnt_10 kdc_142) rfl rfl rfl (Nat.le_of_ble_eq_true rfl) (by decide) dX13_equations_69 rfl (fun h17 => ?_)
      obtain ⟨q18, h19, hf⟩ := knBd_inv hf
      refine kj_callV (As := [knV q15]) (rest := [knV (knW (7 * x2)), knO G 150]) X K (kcX13_arcOf l h17 h19) knWvX13_arcOf (knGm 1840 (by decide +kernel) rfl) (by decide) (knKd_in kdc_142 (by decide)) (knEnt_10 kdc_142) rfl rfl rfl (Nat.le_of_ble_eq_true rfl) (by decide) dX13_equations_72 rfl (fun h20 => ?_)
      refine kj_iadd X dX13_equations_75 ?_
      refine kj_dup2 X dX13_equations_76 rfl rfl ?_
      obtain ⟨h21, hf⟩ := knGd_inv hf
      refine kj_iald X K kdc_150 (knCw _) lnc_150 h21 dX13_equations_77 (fun h22 => ?_)
      refine kj_iconst X dX13_equations_78 ?_
      refine kj_iadd X dX13_equations_79 ?_
      refine kj_iast X K kdc_150 (knCw _) (knCw _) lnc_150 h21 dX13_equations_80 ?_
      refine kj_aloadn X 2 dX13_equations_81 rfl ?_
      refine kj_geto (k := 12) (o2 := 150) X K kdc_142 (by decide) (knEnt_10 kdc_142) rfl (by decide) knInX13 (knGm 1516 (by decide +kernel) rfl) rfl rfl dX13_equations_82 ?_
      refine kj_bipush X (n := 7) dX13_equations_85 rfl ?_
      refine kj_iloadn X 4 dX13_equations_87 rfl ?_
      refine kj_imul X dX13_equations_88 ?_
      refine kj_iloadn X 1 dX13_equations_89 rfl ?_
      refine kj_iadd X dX13_equations_90 ?_
      refine kj_dup2 X dX13_equations_91 rfl rfl ?_
      obtain ⟨h23, hf⟩ := knGd_inv hf
      refine kj_iald X K kdc_150 (knCw _) lnc_150 h23 dX13_equations_92 (fun h24 => ?_)
      refine kj_iloadn X 3 dX13_equations_93 rfl ?_
      refine kj_iconst X dX13_equations_94 ?_
      refine kj_isub X dX13_equations_95 ?_
      refine kj_iadd X dX13_equations_96 ?_
      refine kj_iast X K kdc_150 (knCw _) (knCw _) lnc_150 h23 dX13_equations_97 ?_
      refine kj_aloadn X 2 dX13_equations_98 rfl ?_
      refine kj_geto (k := 12) (o2 := 150) X K kdc_142 (by decide) (knEnt_10 kdc_142) rfl (by decide) knInX13 (knGm 1516 (by decide +kernel) rfl) rfl rfl dX13_equations_99 ?_
      refine kj_bipush X (n := 7) dX13_equations_102 rfl ?_
      refine kj_iloadn X 4 dX13_equations_104 rfl ?_
      refine kj_imul X dX13_equations_105 ?_
      refine kj_iload X 0 dX13_equations_106 rfl ?_
      refine kj_iadd X dX13_equations_108 ?_
      refine kj_dup2 X dX13_equations_109 rfl rfl ?_
      obtain ⟨h25, hf⟩ := knGd_inv hf
      refine kj_iald X K kdc_150 (knCw _) lnc_150 h25 dX13_equations_110 (fun h26 => ?_)
      refine kj_iloadn X 3 dX13_equations_111 rfl ?_
      refine kj_iconst X dX13_equations_112 ?_
      refine kj_isub X dX13_equations_113 ?_
      refine kj_iadd X dX13_equations_114 ?_
      refine kj_iast X K kdc_150 (knCw _) (knCw _) lnc_150 h25 dX13_equations_115 ?_
      refine kj_iinc X 4 (L' := [(2, knV (knW (x2 + 1))), (4, knV (knRem (knW ((knW (q9 + (μ 142 8))) - 1)) (μ 142 8))), (3, knV q9), (0, knO G 142), (1, knV x1)]) dX13_equations_116 rfl (by decide) rfl ?_
      refine kj_goto X (tgt := 23) dX13_equations_119 (by decide) ?_
      refine kj_sub (L' := [(0, knO G 142), (1, knV x1), (2, knV (knW (x2 + 1)))]) [3, 4, 0] rfl ?_
      exact ih _ (knCw _) _ hf

set_option maxHeartbeats 4000000 in
set_option maxRecDepth 100000 in
theorem kfX13_equations_l124_ok {q : knMem} {kc : (knMem) → Option (knMem)} {G : knGT} {p : Program} {l : Launch} {e : Env} {s : State} {m : MethodId} {args : Array Value} {below : List Frame} {meth : Method} {c : Code} (X : knX p m c cX13_equations 5 s args yX13_equations.cls) (K : knK G s s.heap) (hr : meth.sig.returnType = none) (hlk : meth.locks = false) (x1 : Int) (hx1 : knC x1)  (hk : ∀ (μ1 : knMem), kc μ1 = some q → knJ G p l e { frames := 1, cells := 0, slots := 0, locals := 23 } s m args below meth c 5 0 0 (MQ below (knPo G True none q) args s 0 0 (knA G)) 146 [] [] μ1) : ∀ (n : Nat) (x2 : Int) (hx2 : knC x2) (μ : knMem), kfX13_equations_l124  x1 kc n x2 μ = some q → knJ G p l e { frames := 1, cells := 0, slots := 0, locals := 23 } s m args below meth c 5 0 0 (MQ below (knPo G True none q) args s 0 0 (knA G)) 124 [(0, knO G 142), (1, knV x1), (2, knV x2)] [] μ := by
  intro n
  induction n with
  | zero => intro x2 hx2 μ hf; cases hf
  | succ n ih =>
    intro x2 hx2 μ hf
    unfold kfX13_equations_l124 at hf
    refine kj_iloadn X 2 dX13_equations_124 rfl ?_
    refine kj_bipush X (n := 49) dX13_equations_125 rfl ?_
    refine kj_ic_ge X (tgt := 146) dX13_equations_127 (by decide) hx2 (show knC (49) from ⟨by omega, by omega⟩) (fun h28 => ?_) (fun h28 => ?_)
    · replace hf := knIp hf h28
      refine kj_sub (L' := []) [] rfl ?_
      exact hk _ hf
    · replace hf := knIq hf h28
      refine kj_aloadn X 0 dX13_equations_130 rfl ?_
      refine kj_geto (k := 12) (o2 := 150) X K kdc_142 (by decide) (knEnt_10 kdc_142) rfl (by decide) knInX13 (knGm 1516 (by decide +kernel) rfl) rfl rfl dX13_equations_131 ?_
      refine kj_iloadn X 2 dX13_equations_134 rfl ?_
      refine kj_dup2 X dX13_equations_135 rfl rfl ?_
      obtain ⟨h29, hf⟩ := knGd_inv hf
      refine kj_iald X K kdc_150 hx2 lnc_150 h29 dX13_equations_136 (fun h30 => ?_)
      refine kj_iloadn X 1 dX13_equations_137 rfl ?_
      obtain ⟨h31, hf⟩ := knGd_inv hf
      refine kj_irem X dX13_equations_138 hx1 h31 ?_
      refine kj_iast X K kdc_150 hx2 (knC_rem _ _) lnc_150 h29 dX13_equations_139 ?_
      refine kj_iinc X 2 (L' := [(2, knV (knW (x2 + 1))), (0, knO G 142), (1, knV x1)]) dX13_equations_140 rfl (by decide) rfl ?_
      refine kj_goto X (tgt := 124) dX13_equations_143 (by decide) ?_
      refine kj_sub (L' := [(0, knO G 142), (1, knV x1), (2, knV (knW (x2 + 1)))]) [1, 2, 0] rfl ?_
      exact ih _ (knCw _) _ hf

set_option maxHeartbeats 4000000 in
set_option maxRecDepth 100000 in
theorem kcX13_equations {G : knGT} (l : Launch) {a1 : Int} (ha1 : knC a1) {μ : knMem} {q : knMem} (hf : kfX13_equations a1 μ = some q) : knC0 G l yX13_equations cX13_equations 5 none 1 23 [knO G 142, knV a1] μ True none q := by
  unfold kfX13_equations at hf
  refine kn_ofJ (plainFor_of_name (by decide)) (Nat.le_of_ble_eq_true rfl) (L := [(0, knO G 142), (1, knV a1)]) rfl ?_
  intro p e s m args below meth c X K hr hlk
  refine kj_iconst X dX13_equations_0 ?_
  refine kj_istoren X (L' := [(2, knV 0), (0, knO G 142), (1, knV a1)]) dX13_equations_1 (by decide) rfl ?_
  refine kj_sub (L' := [(0, knO G 142), (1, knV a1), (2, knV 0)]) [1, 2, 0] rfl ?_
  refine kfX13_equations_l2_ok X K hr hlk a1 ha1  ?_ knF _ (show knC (0) from ⟨by omega, by omega⟩) _ hf
  intro w3_m
  intro hf
  refine kj_iconst X dX13_equations_21 ?_
  refine kj_istoren X (L' := [(2, knV 0), (0, knO G 142), (1, knV a1)]) dX13_equations_22 (by decide) rfl ?_
  refine kj_sub (L' := [(0, knO G 142), (1, knV a1), (2, knV 0)]) [1, 2, 0] rfl ?_
  refine kfX13_equations_l23_ok X K hr hlk a1 ha1  ?_ knF _ (show knC (0) from ⟨by omega, by omega⟩) _ hf
  intro w34_m
  intro hf
  refine kj_iconst X dX13_equations_122 ?_
  refine kj_istoren X (L' := [(2, knV 0), (0, knO G 142), (1, knV a1)]) dX13_equations_123 (by decide) rfl ?_
  refine kj_sub (L' := [(0, knO G 142), (1, knV a1), (2, knV 0)]) [1, 2, 0] rfl ?_
  refine kfX13_equations_l124_ok X K hr hlk a1 ha1  ?_ knF _ (show knC (0) from ⟨by omega, by omega⟩) _ hf
  intro w36_m
  intro hf
  cases hf
  exact kj_vret X trivial hr dX13_equations_146 hlk

def kfX13_inverse_l2  (x0 : Int) (x1 : Int) (μ : knMem) (kc : (Int) → Option (Int)) : Nat → Int → Option (Int)
  | 0, _ => none
  | n + 1, x2 =>
    knGd (x1 ≠ 0)
     (if (knRem (knW (x0 * x2)) x1) = 1 then
     kc x2
    else
     kfX13_inverse_l2  x0 x1 μ kc n (knW (x2 + 1)))

def kfX13_inverse (a0 : Int) (a1 : Int) (μ : knMem) : Option (Int) :=
 kfX13_inverse_l2 a0 a1 μ (fun w3 =>
  some w3) knF 1

theorem knWkX13_inverse : knWk yX13_inverse cX13_inverse 3 (some .int) 2 := ⟨(knGm 1866 (by decide +kernel) rfl), (knGm 124 (by decide +kernel) rfl), (knGm 1865 (by decide +kernel) rfl), by decide +kernel, by decide +kernel, by decide +kernel⟩
set_option maxHeartbeats 4000000 in
set_option maxRecDepth 100000 in
theorem kfX13_inverse_l2_ok {q : Int} {kc : (Int) → Option (Int)} {G : knGT} {p : Program} {l : Launch} {e : Env} {s : State} {m : MethodId} {args : Array Value} {below : List Frame} {meth : Method} {c : Code} (X : knX p m c cX13_inverse 3 s args yX13_inverse.cls) (K : knK G s s.heap) (hr : meth.sig.returnType = (some .int)) (hlk : meth.locks = false) (x0 : Int) (x1 : Int) (hx0 : knC x0) (hx1 : knC x1) (μ : knMem) (hk : ∀ (y2 : Int) (hy2 : knC y2), kc y2 = some q → knJ G p l e { frames := 0, cells := 0, slots := 0, locals := 0 } s m args below meth c 3 0 0 (MQ below (knPo G (knC q) (some (knV q)) μ) args s 0 0 (knA G)) 17 [(2, knV y2)] [] μ) : ∀ (n : Nat) (x2 : Int) (hx2 : knC x2) , kfX13_inverse_l2  x0 x1 μ kc n x2 = some q → knJ G p l e { frames := 0, cells := 0, slots := 0, locals := 0 } s m args below meth c 3 0 0 (MQ below (knPo G (knC q) (some (knV q)) μ) args s 0 0 (knA G)) 2 [(0, knV x0), (1, knV x1), (2, knV x2)] [] μ := by
  intro n
  induction n with
  | zero => intro x2 hx2 hf; cases hf
  | succ n ih =>
    intro x2 hx2 hf
    unfold kfX13_inverse_l2 at hf
    refine kj_iloadn X 0 dX13_inverse_2 rfl ?_
    refine kj_iloadn X 2 dX13_inverse_3 rfl ?_
    refine kj_imul X dX13_inverse_4 ?_
    refine kj_iloadn X 1 dX13_inverse_5 rfl ?_
    obtain ⟨h1, hf⟩ := knGd_inv hf
    refine kj_irem X dX13_inverse_6 hx1 h1 ?_
    refine kj_iconst X dX13_inverse_7 ?_
    refine kj_ic_eq X (tgt := 17) dX13_inverse_8 (by decide) (knC_rem _ _) (show knC (1) from ⟨by omega, by omega⟩) (fun h2 => ?_) (fun h2 => ?_)
    · replace hf := knIp hf h2
      refine kj_sub (L' := [(2, knV x2)]) [2] rfl ?_
      exact hk _ hx2 hf
    · replace hf := knIq hf h2
      refine kj_iinc X 2 (L' := [(2, knV (knW (x2 + 1))), (0, knV x0), (1, knV x1)]) dX13_inverse_11 rfl (by decide) rfl ?_
      refine kj_goto X (tgt := 2) dX13_inverse_14 (by decide) ?_
      refine kj_sub (L' := [(0, knV x0), (1, knV x1), (2, knV (knW (x2 + 1)))]) [1, 2, 0] rfl ?_
      exact ih _ (knCw _)  hf

set_option maxHeartbeats 4000000 in
set_option maxRecDepth 100000 in
theorem kcX13_inverse {G : knGT} (l : Launch) {a0 : Int} {a1 : Int} (ha0 : knC a0) (ha1 : knC a1) {μ : knMem} {q : Int} (hf : kfX13_inverse a0 a1 μ = some q) : knC0 G l yX13_inverse cX13_inverse 3 (some .int) 0 0 [knV a0, knV a1] μ (knC q) (some (knV q)) μ := by
  unfold kfX13_inverse at hf
  refine kn_ofJ (plainFor_of_name (by decide)) (Nat.le_of_ble_eq_true rfl) (L := [(0, knV a0), (1, knV a1)]) rfl ?_
  intro p e s m args below meth c X K hr hlk
  refine kj_iconst X dX13_inverse_0 ?_
  refine kj_istoren X (L' := [(2, knV 1), (0, knV a0), (1, knV a1)]) dX13_inverse_1 (by decide) rfl ?_
  refine kj_sub (L' := [(0, knV a0), (1, knV a1), (2, knV 1)]) [1, 2, 0] rfl ?_
  refine kfX13_inverse_l2_ok X K hr hlk a0 a1 ha0 ha1 μ ?_ knF _ (show knC (1) from ⟨by omega, by omega⟩)  hf
  intro w3_0 hw3_0
  intro hf
  refine kj_iloadn X 0 dX13_inverse_17 rfl ?_
  cases hf
  exact kj_iret X hw3_0 hr dX13_inverse_18 hlk

def kfX13_takes_l3  (x1 : Int) (x2 : Int) (x3 : Int) (x4 : Int)  (kc : (knMem) → Option (knMem)) : Nat → Int → knMem → Option (knMem)
  | 0, _, _ => none
  | n + 1, x5, μ =>
    if (μ 142 8) ≤ x5 then
     kc μ
    else
     knGd (0 ≤ (knW ((knW (7 * x1)) + x5)) ∧ (knW ((knW (7 * x1)) + x5)) < 49)
      (knGd (0 ≤ (knW ((knW (7 * x2)) + x5)) ∧ (knW ((knW (7 * x2)) + x5)) < 49)
      (knGd (x4 ≠ 0)
      (kfX13_takes_l3  x1 x2 x3 x4 kc n (knW (x5 + 1)) (knUp μ 150 (knW ((knW (7 * x1)) + x5)) (knRem (knW ((μ 150 (knW ((knW (7 * x1)) + x5))) + (knW ((knW (x4 - x3)) * (μ 150 (knW ((knW (7 * x2)) + x5))))))) x4)))))

def kfX13_takes (a1 : Int) (a2 : Int) (a3 : Int) (a4 : Int) (μ : knMem) : Option (knMem) :=
 kfX13_takes_l3 a1 a2 a3 a4  (fun w8 =>
  some w8) knF 0 μ

theorem knWvX13_takes : knWv yX13_takes cX13_takes 6 none 4 := ⟨(knGm 1870 (by decide +kernel) rfl), (knGm 124 (by decide +kernel) rfl), (knGm 1869 (by decide +kernel) rfl), (knGm 79 (by decide +kernel) rfl), by decide +kernel, by decide +kernel, by decide +kernel⟩
set_option maxHeartbeats 4000000 in
set_option maxRecDepth 100000 in
theorem kfX13_takes_l3_ok {q : knMem} {kc : (knMem) → Option (knMem)} {G : knGT} {p : Program} {l : Launch} {e : Env} {s : State} {m : MethodId} {args : Array Value} {below : List Frame} {meth : Method} {c : Code} (X : knX p m c cX13_takes 6 s args yX13_takes.cls) (K : knK G s s.heap) (hr : meth.sig.returnType = none) (hlk : meth.locks = false) (x1 : Int) (x2 : Int) (x3 : Int) (x4 : Int) (hx1 : knC x1) (hx2 : knC x2) (hx3 : knC x3) (hx4 : knC x4)  (hk : ∀ (μ1 : knMem), kc μ1 = some q → knJ G p l e { frames := 0, cells := 0, slots := 0, locals := 0 } s m args below meth c 6 0 0 (MQ below (knPo G True none q) args s 0 0 (knA G)) 63 [] [] μ1) : ∀ (n : Nat) (x5 : Int) (hx5 : knC x5) (μ : knMem), kfX13_takes_l3  x1 x2 x3 x4 kc n x5 μ = some q → knJ G p l e { frames := 0, cells := 0, slots := 0, locals := 0 } s m args below meth c 6 0 0 (MQ below (knPo G True none q) args s 0 0 (knA G)) 3 [(0, knO G 142), (1, knV x1), (2, knV x2), (3, knV x3), (4, knV x4), (5, knV x5)] [] μ := by
  intro n
  induction n with
  | zero => intro x5 hx5 μ hf; cases hf
  | succ n ih =>
    intro x5 hx5 μ hf
    unfold kfX13_takes_l3 at hf
    refine kj_iload X 5 dX13_takes_3 rfl ?_
    refine kj_aloadn X 0 dX13_takes_5 rfl ?_
    refine kj_geti (k := 8) (ki := 8) X K rfl kdc_142 (by decide) (knEnt_10 kdc_142) rfl (by decide) knInX13 (knGm 1512 (by decide +kernel) rfl) rfl rfl dX13_takes_6 (fun h1 => ?_)
    refine kj_ic_ge X (tgt := 63) dX13_takes_9 (by decide) hx5 h1 (fun h2 => ?_) (fun h2 => ?_)
    · replace hf := knIp hf h2
      refine kj_sub (L' := []) [] rfl ?_
      exact hk _ hf
    · replace hf := knIq hf h2
      refine kj_aloadn X 0 dX13_takes_12 rfl ?_
      refine kj_geto (k := 12) (o2 := 150) X K kdc_142 (by decide) (knEnt_10 kdc_142) rfl (by decide) knInX13 (knGm 1516 (by decide +kernel) rfl) rfl rfl dX13_takes_13 ?_
      refine kj_bipush X (n := 7) dX13_takes_16 rfl ?_
      refine kj_iloadn X 1 dX13_takes_18 rfl ?_
      refine kj_imul X dX13_takes_19 ?_
      refine kj_iload X 5 dX13_takes_20 rfl ?_
      refine kj_iadd X dX13_takes_22 ?_
      refine kj_aloadn X 0 dX13_takes_23 rfl ?_
      refine kj_geto (k := 12) (o2 := 150) X K kdc_142 (by decide) (knEnt_10 kdc_142) rfl (by decide) knInX13 (knGm 1516 (by decide +kernel) rfl) rfl rfl dX13_takes_24 ?_
      refine kj_bipush X (n := 7) dX13_takes_27 rfl ?_
      refine kj_iloadn X 1 dX13_takes_29 rfl ?_
      refine kj_imul X dX13_takes_30 ?_
      refine kj_iload X 5 dX13_takes_31 rfl ?_
      refine kj_iadd X dX13_takes_33 ?_
      obtain ⟨h3, hf⟩ := knGd_inv hf
      refine kj_iald X K kdc_150 (knCw _) lnc_150 h3 dX13_takes_34 (fun h4 => ?_)
      refine kj_iload X 4 dX13_takes_35 rfl ?_
      refine kj_iloadn X 3 dX13_takes_37 rfl ?_
      refine kj_isub X dX13_takes_38 ?_
      refine kj_aloadn X 0 dX13_takes_39 rfl ?_
      refine kj_geto (k := 12) (o2 := 150) X K kdc_142 (by decide) (knEnt_10 kdc_142) rfl (by decide) knInX13 (knGm 1516 (by decide +kernel) rfl) rfl rfl dX13_takes_40 ?_
      refine kj_bipush X (n := 7) dX13_takes_43 rfl ?_
      refine kj_iloadn X 2 dX13_takes_45 rfl ?_
      refine kj_imul X dX13_takes_46 ?_
      refine kj_iload X 5 dX13_takes_47 rfl ?_
      refine kj_iadd X dX13_takes_49 ?_
      obtain ⟨h5, hf⟩ := knGd_inv hf
      refine kj_iald X K kdc_150 (knCw _) lnc_150 h5 dX13_takes_50 (fun h6 => ?_)
      refine kj_imul X dX13_takes_51 ?_
      refine kj_iadd X dX13_takes_52 ?_
      refine kj_iload X 4 dX13_takes_53 rfl ?_
      obtain ⟨h7, hf⟩ := knGd_inv hf
      refine kj_irem X dX13_takes_55 hx4 h7 ?_
      refine kj_iast X K kdc_150 (knCw _) (knC_rem _ _) lnc_150 h3 dX13_takes_56 ?_
      refine kj_iinc X 5 (L' := [(5, knV (knW (x5 + 1))), (0, knO G 142), (1, knV x1), (2, knV x2), (3, knV x3), (4, knV x4)]) dX13_takes_57 rfl (by decide) rfl ?_
      refine kj_goto X (tgt := 3) dX13_takes_60 (by decide) ?_
      refine kj_sub (L' := [(0, knO G 142), (1, knV x1), (2, knV x2), (3, knV x3), (4, knV x4), (5, knV (knW (x5 + 1)))]) [1, 2, 3, 4, 5, 0] rfl ?_
      exact ih _ (knCw _) _ hf

set_option maxHeartbeats 4000000 in
set_option maxRecDepth 100000 in
theorem kcX13_takes {G : knGT} (l : Launch) {a1 : Int} {a2 : Int} {a3 : Int} {a4 : Int} (ha1 : knC a1) (ha2 : knC a2) (ha3 : knC a3) (ha4 : knC a4) {μ : knMem} {q : knMem} (hf : kfX13_takes a1 a2 a3 a4 μ = some q) : knC0 G l yX13_takes cX13_takes 6 none 0 0 [knO G 142, knV a1, knV a2, knV a3, knV a4] μ True none q := by
  unfold kfX13_takes at hf
  refine kn_ofJ (plainFor_of_name (by decide)) (Nat.le_of_ble_eq_true rfl) (L := [(0, knO G 142), (1, knV a1), (2, knV a2), (3, knV a3), (4, knV a4)]) rfl ?_
  intro p e s m args below meth c X K hr hlk
  refine kj_iconst X dX13_takes_0 ?_
  refine kj_istore X (L' := [(5, knV 0), (0, knO G 142), (1, knV a1), (2, knV a2), (3, knV a3), (4, knV a4)]) dX13_takes_1 (by decide) rfl ?_
  refine kj_sub (L' := [(0, knO G 142), (1, knV a1), (2, knV a2), (3, knV a3), (4, knV a4), (5, knV 0)]) [1, 2, 3, 4, 5, 0] rfl ?_
  refine kfX13_takes_l3_ok X K hr hlk a1 a2 a3 a4 ha1 ha2 ha3 ha4  ?_ knF _ (show knC (0) from ⟨by omega, by omega⟩) _ hf
  intro w8_m
  intro hf
  cases hf
  exact kj_vret X trivial hr dX13_takes_63 hlk

def kfX13_swaps_l2  (x1 : Int) (x2 : Int)  (kc : (knMem) → Option (knMem)) : Nat → Int → knMem → Option (knMem)
  | 0, _, _ => none
  | n + 1, x3, μ =>
    if (μ 142 8) ≤ x3 then
     kc μ
    else
     knGd (0 ≤ (knW ((knW (7 * x1)) + x3)) ∧ (knW ((knW (7 * x1)) + x3)) < 49)
      (knGd (0 ≤ (knW ((knW (7 * x2)) + x3)) ∧ (knW ((knW (7 * x2)) + x3)) < 49)
      (kfX13_swaps_l2  x1 x2 kc n (knW (x3 + 1)) (knUp (knUp μ 150 (knW ((knW (7 * x1)) + x3)) (μ 150 (knW ((knW (7 * x2)) + x3)))) 150 (knW ((knW (7 * x2)) + x3)) (μ 150 (knW ((knW (7 * x1)) + x3))))))

def kfX13_swaps (a1 : Int) (a2 : Int) (μ : knMem) : Option (knMem) :=
 kfX13_swaps_l2 a1 a2  (fun w7 =>
  some w7) knF 0 μ

theorem knWvX13_swaps : knWv yX13_swaps cX13_swaps 5 none 2 := ⟨(knGm 1863 (by decide +kernel) rfl), (knGm 124 (by decide +kernel) rfl), (knGm 1862 (by decide +kernel) rfl), (knGm 78 (by decide +kernel) rfl), by decide +kernel, by decide +kernel, by decide +kernel⟩
set_option maxHeartbeats 4000000 in
set_option maxRecDepth 100000 in
theorem kfX13_swaps_l2_ok {q : knMem} {kc : (knMem) → Option (knMem)} {G : knGT} {p : Program} {l : Launch} {e : Env} {s : State} {m : MethodId} {args : Array Value} {below : List Frame} {meth : Method} {c : Code} (X : knX p m c cX13_swaps 5 s args yX13_swaps.cls) (K : knK G s s.heap) (hr : meth.sig.returnType = none) (hlk : meth.locks = false) (x1 : Int) (x2 : Int) (hx1 : knC x1) (hx2 : knC x2)  (hk : ∀ (μ1 : knMem), kc μ1 = some q → knJ G p l e { frames := 0, cells := 0, slots := 0, locals := 0 } s m args below meth c 5 0 0 (MQ below (knPo G True none q) args s 0 0 (knA G)) 64 [] [] μ1) : ∀ (n : Nat) (x3 : Int) (hx3 : knC x3) (μ : knMem), kfX13_swaps_l2  x1 x2 kc n x3 μ = some q → knJ G p l e { frames := 0, cells := 0, slots := 0, locals := 0 } s m args below meth c 5 0 0 (MQ below (knPo G True none q) args s 0 0 (knA G)) 2 [(0, knO G 142), (1, knV x1), (2, knV x2), (3, knV x3)] [] μ := by
  intro n
  induction n with
  | zero => intro x3 hx3 μ hf; cases hf
  | succ n ih =>
    intro x3 hx3 μ hf
    unfold kfX13_swaps_l2 at hf
    refine kj_iloadn X 3 dX13_swaps_2 rfl ?_
    refine kj_aloadn X 0 dX13_swaps_3 rfl ?_
    refine kj_geti (k := 8) (ki := 8) X K rfl kdc_142 (by decide) (knEnt_10 kdc_142) rfl (by decide) knInX13 (knGm 1512 (by decide +kernel) rfl) rfl rfl dX13_swaps_4 (fun h1 => ?_)
    refine kj_ic_ge X (tgt := 64) dX13_swaps_7 (by decide) hx3 h1 (fun h2 => ?_) (fun h2 => ?_)
    · replace hf := knIp hf h2
      refine kj_sub (L' := []) [] rfl ?_
      exact hk _ hf
    · replace hf := knIq hf h2
      refine kj_aloadn X 0 dX13_swaps_10 rfl ?_
      refine kj_geto (k := 12) (o2 := 150) X K kdc_142 (by decide) (knEnt_10 kdc_142) rfl (by decide) knInX13 (knGm 1516 (by decide +kernel) rfl) rfl rfl dX13_swaps_11 ?_
      refine kj_bipush X (n := 7) dX13_swaps_14 rfl ?_
      refine kj_iloadn X 1 dX13_swaps_16 rfl ?_
      refine kj_imul X dX13_swaps_17 ?_
      refine kj_iloadn X 3 dX13_swaps_18 rfl ?_
      refine kj_iadd X dX13_swaps_19 ?_
      obtain ⟨h3, hf⟩ := knGd_inv hf
      refine kj_iald X K kdc_150 (knCw _) lnc_150 h3 dX13_swaps_20 (fun h4 => ?_)
      refine kj_istore X (L' := [(4, knV (μ 150 (knW ((knW (7 * x1)) + x3)))), (0, knO G 142), (1, knV x1), (2, knV x2), (3, knV x3)]) dX13_swaps_21 (by decide) rfl ?_
      refine kj_aloadn X 1 dX13_swaps_23 rfl ?_
      refine kj_geto (k := 12) (o2 := 150) X K kdc_142 (by decide) (knEnt_10 kdc_142) rfl (by decide) knInX13 (knGm 1516 (by decide +kernel) rfl) rfl rfl dX13_swaps_24 ?_
      refine kj_bipush X (n := 7) dX13_swaps_27 rfl ?_
      refine kj_iloadn X 2 dX13_swaps_29 rfl ?_
      refine kj_imul X dX13_swaps_30 ?_
      refine kj_iloadn X 4 dX13_swaps_31 rfl ?_
      refine kj_iadd X dX13_swaps_32 ?_
      refine kj_aloadn X 1 dX13_swaps_33 rfl ?_
      refine kj_geto (k := 12) (o2 := 150) X K kdc_142 (by decide) (knEnt_10 kdc_142) rfl (by decide) knInX13 (knGm 1516 (by decide +kernel) rfl) rfl rfl dX13_swaps_34 ?_
      refine kj_bipush X (n := 7) dX13_swaps_37 rfl ?_
      refine kj_iloadn X 3 dX13_swaps_39 rfl ?_
      refine kj_imul X dX13_swaps_40 ?_
      refine kj_iloadn X 4 dX13_swaps_41 rfl ?_
      refine kj_iadd X dX13_swaps_42 ?_
      obtain ⟨h5, hf⟩ := knGd_inv hf
      refine kj_iald X K kdc_150 (knCw _) lnc_150 h5 dX13_swaps_43 (fun h6 => ?_)
      refine kj_iast X K kdc_150 (knCw _) h6 lnc_150 h3 dX13_swaps_44 ?_
      refine kj_aloadn X 1 dX13_swaps_45 rfl ?_
      refine kj_geto (k := 12) (o2 := 150) X K kdc_142 (by decide) (knEnt_10 kdc_142) rfl (by decide) knInX13 (knGm 1516 (by decide +kernel) rfl) rfl rfl dX13_swaps_46 ?_
      refine kj_bipush X (n := 7) dX13_swaps_49 rfl ?_
      refine kj_iloadn X 3 dX13_swaps_51 rfl ?_
      refine kj_imul X dX13_swaps_52 ?_
      refine kj_iloadn X 4 dX13_swaps_53 rfl ?_
      refine kj_iadd X dX13_swaps_54 ?_
      refine kj_iload X 0 dX13_swaps_55 rfl ?_
      refine kj_iast X K kdc_150 (knCw _) h4 lnc_150 h5 dX13_swaps_57 ?_
      refine kj_iinc X 4 (L' := [(3, knV (knW (x3 + 1))), (4, knV (μ 150 (knW ((knW (7 * x1)) + x3)))), (0, knO G 142), (1, knV x1), (2, knV x2)]) dX13_swaps_58 rfl (by decide) rfl ?_
      refine kj_goto X (tgt := 2) dX13_swaps_61 (by decide) ?_
      refine kj_sub (L' := [(0, knO G 142), (1, knV x1), (2, knV x2), (3, knV (knW (x3 + 1)))]) [2, 3, 4, 0] rfl ?_
      exact ih _ (knCw _) _ hf

set_option maxHeartbeats 4000000 in
set_option maxRecDepth 100000 in
theorem kcX13_swaps {G : knGT} (l : Launch) {a1 : Int} {a2 : Int} (ha1 : knC a1) (ha2 : knC a2) {μ : knMem} {q : knMem} (hf : kfX13_swaps a1 a2 μ = some q) : knC0 G l yX13_swaps cX13_swaps 5 none 0 0 [knO G 142, knV a1, knV a2] μ True none q := by
  unfold kfX13_swaps at hf
  refine kn_ofJ (plainFor_of_name (by decide)) (Nat.le_of_ble_eq_true rfl) (L := [(0, knO G 142), (1, knV a1), (2, knV a2)]) rfl ?_
  intro p e s m args below meth c X K hr hlk
  refine kj_iconst X dX13_swaps_0 ?_
  refine kj_istoren X (L' := [(3, knV 0), (0, knO G 142), (1, knV a1), (2, knV a2)]) dX13_swaps_1 (by decide) rfl ?_
  refine kj_sub (L' := [(0, knO G 142), (1, knV a1), (2, knV a2), (3, knV 0)]) [1, 2, 3, 0] rfl ?_
  refine kfX13_swaps_l2_ok X K hr hlk a1 a2 ha1 ha2  ?_ knF _ (show knC (0) from ⟨by omega, by omega⟩) _ hf
  intro w7_m
  intro hf
  cases hf
  exact kj_vret X trivial hr dX13_swaps_64 hlk

def kfX13_rankOf_l20  (x1 : Int) (x2 : Int) (x3 : Int) (μ : knMem) (kc : (Int) → Option (Int × knMem)) : Nat → Int → Option (Int × knMem)
  | 0, _ => none
  | n + 1, x4 =>
    if (μ 142 8) ≤ x4 then
     kc x4
    else
     knGd (0 ≤ (knW ((knW (7 * x4)) + x3)) ∧ (knW ((knW (7 * x4)) + x3)) < 49)
      (if (μ 150 (knW ((knW (7 * x4)) + x3))) = 0 then
      kfX13_rankOf_l20  x1 x2 x3 μ kc n (knW (x4 + 1))
     else
      kc x4)

def kfX13_rankOf_l91  (x1 : Int) (x2 : Int) (x3 : Int) (x5 : Int)  (kc : (knMem) → Option (Int × knMem)) : Nat → Int → knMem → Option (Int × knMem)
  | 0, _, _ => none
  | n + 1, x6, μ =>
    if (μ 142 8) ≤ x6 then
     kc μ
    else
     knGd (0 ≤ (knW ((knW (7 * x6)) + x3)) ∧ (knW ((knW (7 * x6)) + x3)) < 49)
      (knGd (x1 ≠ 0)
      (Option.bind (kfX13_takes x6 x2 (knRem (knW ((μ 150 (knW ((knW (7 * x6)) + x3))) * x5)) x1) x1 μ) (fun q39 =>
      kfX13_rankOf_l91  x1 x2 x3 x5 kc n (knW (x6 + 1)) q39)))

def kfX13_rankOf_l9  (x1 : Int)  (kc : (Int × knMem) → Option (Int × knMem)) : Nat → Int → Int → knMem → Option (Int × knMem)
  | 0, _, _, _ => none
  | n + 1, x2, x3, μ =>
    if (μ 142 8) ≤ x3 then
     kc (x2, μ)
    else
     kfX13_rankOf_l20 x1 x2 x3 μ (fun w11 =>
      (fun (k23 : (Int × knMem) → Option (Int × knMem)) =>
       if w11 = (μ 142 8) then
        k23 (x2, μ)
       else
        Option.bind (kfX13_swaps x2 w11 μ) (fun q26 =>
         knGd (0 ≤ (knW ((knW (7 * x2)) + x3)) ∧ (knW ((knW (7 * x2)) + x3)) < 49)
          (Option.bind (kfX13_inverse (q26 150 (knW ((knW (7 * x2)) + x3))) x1 q26) (fun q31 =>
          kfX13_rankOf_l91 x1 x2 x3 q31  (fun w42 =>
           k23 ((knW (x2 + 1)), w42)) knF (knW (x2 + 1)) q26))))
       (fun q23 =>
       kfX13_rankOf_l9  x1 kc n q23.1 (knW (x3 + 1)) q23.2)) knF x2

def kfX13_rankOf (a1 : Int) (μ : knMem) : Option (Int × knMem) :=
 Option.bind (kfX13_equations a1 μ) (fun q1 =>
  kfX13_rankOf_l9 a1  (fun w66 =>
   some (w66.1, w66.2)) knF 0 0 q1)

theorem knWvX13_rankOf : knWv yX13_rankOf cX13_rankOf 7 (some .int) 1 := ⟨(knGm 1855 (by decide +kernel) rfl), (knGm 124 (by decide +kernel) rfl), (knGm 1854 (by decide +kernel) rfl), (knGm 76 (by decide +kernel) rfl), by decide +kernel, by decide +kernel, by decide +kernel⟩
set_option maxHeartbeats 4000000 in
set_option maxRecDepth 100000 in
theorem kfX13_rankOf_l20_ok {q : Int × knMem} {kc : (Int) → Option (Int × knMem)} {G : knGT} {p : Program} {l : Launch} {e : Env} {s : State} {m : MethodId} {args : Array Value} {below : List Frame} {meth : Method} {c : Code} (X : knX p m c cX13_rankOf 7 s args yX13_rankOf.cls) (K : knK G s s.heap) (hr : meth.sig.returnType = (some .int)) (hlk : meth.locks = false) (x1 : Int) (x2 : Int) (x3 : Int) (hx1 : knC x1) (hx2 : knC x2) (hx3 : knC x3) (μ : knMem) (hk : ∀ (y4 : Int) (hy4 : knC y4), kc y4 = some q → knJ G p l e { frames := 2, cells := 0, slots := 0, locals := 47 } s m args below meth c 7 0 0 (MQ below (knPo G (knC q.1) (some (knV q.1)) q.2) args s 0 0 (knA G)) 50 [(0, knO G 142), (1, knV x1), (2, knV x2), (3, knV x3), (4, knV y4)] [] μ) : ∀ (n : Nat) (x4 : Int) (hx4 : knC x4) , kfX13_rankOf_l20  x1 x2 x3 μ kc n x4 = some q → knJ G p l e { frames := 2, cells := 0, slots := 0, locals := 47 } s m args below meth c 7 0 0 (MQ below (knPo G (knC q.1) (some (knV q.1)) q.2) args s 0 0 (knA G)) 20 [(0, knO G 142), (1, knV x1), (2, knV x2), (3, knV x3), (4, knV x4)] [] μ := by
  intro n
  induction n with
  | zero => intro x4 hx4 hf; cases hf
  | succ n ih =>
    intro x4 hx4 hf
    unfold kfX13_rankOf_l20 at hf
    refine kj_iload X 4 dX13_rankOf_20 rfl ?_
    refine kj_aloadn X 0 dX13_rankOf_22 rfl ?_
    refine kj_geti (k := 8) (ki := 8) X K rfl kdc_142 (by decide) (knEnt_10 kdc_142) rfl (by decide) knInX13 (knGm 1512 (by decide +kernel) rfl) rfl rfl dX13_rankOf_23 (fun h6 => ?_)
    refine kj_ic_ge X (tgt := 50) dX13_rankOf_26 (by decide) hx4 h6 (fun h7 => ?_) (fun h7 => ?_)
    · replace hf := knIp hf h7
      refine kj_sub (L' := [(0, knO G 142), (1, knV x1), (2, knV x2), (3, knV x3), (4, knV x4)]) [0, 1, 2, 3, 4] rfl ?_
      exact hk _ hx4 hf
    · replace hf := knIq hf h7
      refine kj_aloadn X 0 dX13_rankOf_29 rfl ?_
      refine kj_geto (k := 12) (o2 := 150) X K kdc_142 (by decide) (knEnt_10 kdc_142) rfl (by decide) knInX13 (knGm 1516 (by decide +kernel) rfl) rfl rfl dX13_rankOf_30 ?_
      refine kj_bipush X (n := 7) dX13_rankOf_33 rfl ?_
      refine kj_iload X 4 dX13_rankOf_35 rfl ?_
      refine kj_imul X dX13_rankOf_37 ?_
      refine kj_iloadn X 3 dX13_rankOf_38 rfl ?_
      refine kj_iadd X dX13_rankOf_39 ?_
      obtain ⟨h8, hf⟩ := knGd_inv hf
      refine kj_iald X K kdc_150 (knCw _) lnc_150 h8 dX13_rankOf_40 (fun h9 => ?_)
      refine kj_if_ne X (tgt := 50) dX13_rankOf_41 (by decide) h9 (fun h10 => ?_) (fun h10 => ?_)
      · replace hf := knIq hf h10
        refine kj_sub (L' := [(0, knO G 142), (1, knV x1), (2, knV x2), (3, knV x3), (4, knV x4)]) [0, 1, 2, 3, 4] rfl ?_
        exact hk _ hx4 hf
      · replace hf := knIp hf h10
        refine kj_iinc X 4 (L' := [(4, knV (knW (x4 + 1))), (0, knO G 142), (1, knV x1), (2, knV x2), (3, knV x3)]) dX13_rankOf_44 rfl (by decide) rfl ?_
        refine kj_goto X (tgt := 20) dX13_rankOf_47 (by decide) ?_
        refine kj_sub (L' := [(0, knO G 142), (1, knV x1), (2, knV x2), (3, knV x3), (4, knV (knW (x4 + 1)))]) [1, 2, 3, 4, 0] rfl ?_
        exact ih _ (knCw _)  hf

set_option maxHeartbeats 4000000 in
set_option maxRecDepth 100000 in
theorem kfX13_rankOf_l91_ok {q : Int × knMem} {kc : (knMem) → Option (Int × knMem)} {G : knGT} {p : Program} {l : Launch} {e : Env} {s : State} {m : MethodId} {args : Array Value} {below : List Frame} {meth : Method} {c : Code} (X : knX p m c cX13_rankOf 7 s args yX13_rankOf.cls) (K : knK G s s.heap) (hr : meth.sig.returnType = (some .int)) (hlk : meth.locks = false) (x1 : Int) (x2 : Int) (x3 : Int) (x5 : Int) (hx1 : knC x1) (hx2 : knC x2) (hx3 : knC x3) (hx5 : knC x5)  (hk : ∀ (μ1 : knMem), kc μ1 = some q → knJ G p l e { frames := 2, cells := 0, slots := 0, locals := 47 } s m args below meth c 7 0 0 (MQ below (knPo G (knC q.1) (some (knV q.1)) q.2) args s 0 0 (knA G)) 131 [(0, knO G 142), (1, knV x1), (2, knV x2), (3, knV x3)] [] μ1) : ∀ (n : Nat) (x6 : Int) (hx6 : knC x6) (μ : knMem), kfX13_rankOf_l91  x1 x2 x3 x5 kc n x6 μ = some q → knJ G p l e { frames := 2, cells := 0, slots := 0, locals := 47 } s m args below meth c 7 0 0 (MQ below (knPo G (knC q.1) (some (knV q.1)) q.2) args s 0 0 (knA G)) 91 [(0, knO G 142), (1, knV x1), (2, knV x2), (3, knV x3), (5, knV x5), (6, knV x6)] [] μ := by
  intro n
  induction n with
  | zero => intro x6 hx6 μ hf; cases hf
  | succ n ih =>
    intro x6 hx6 μ hf
    unfold kfX13_rankOf_l91 at hf
    refine kj_iload X 5 dX13_rankOf_91 rfl ?_
    refine kj_aloadn X 0 dX13_rankOf_93 rfl ?_
    refine kj_geti (k := 8) (ki := 8) X K rfl kdc_142 (by decide) (knEnt_10 kdc_142) rfl (by decide) knInX13 (knGm 1512 (by decide +kernel) rfl) rfl rfl dX13_rankOf_94 (fun h34 => ?_)
    refine kj_ic_ge X (tgt := 131) dX13_rankOf_97 (by decide) hx6 h34 (fun h35 => ?_) (fun h35 => ?_)
    · replace hf := knIp hf h35
      refine kj_sub (L' := [(0, knO G 142), (1, knV x1), (2, knV x2), (3, knV x3)]) [0, 1, 2, 3] rfl ?_
      exact hk _ hf
    · replace hf := knIq hf h35
      refine kj_aloadn X 0 dX13_rankOf_100 rfl ?_
      refine kj_iload X 5 dX13_rankOf_101 rfl ?_
      refine kj_iloadn X 2 dX13_rankOf_103 rfl ?_
      refine kj_aloadn X 0 dX13_rankOf_104 rfl ?_
      refine kj_geto (k := 12) (o2 := 150) X K kdc_142 (by decide) (knEnt_10 kdc_142) rfl (by decide) knInX13 (knGm 1516 (by decide +kernel) rfl) rfl rfl dX13_rankOf_105 ?_
      refine kj_bipush X (n := 7) dX13_rankOf_108 rfl ?_
      refine kj_iload X 5 dX13_rankOf_110 rfl ?_
      refine kj_imul X dX13_rankOf_112 ?_
      refine kj_iloadn X 3 dX13_rankOf_113 rfl ?_
      refine kj_iadd X dX13_rankOf_114 ?_
      obtain ⟨h36, hf⟩ := knGd_inv hf
      refine kj_iald X K kdc_150 (knCw _) lnc_150 h36 dX13_rankOf_115 (fun h37 => ?_)
      refine kj_iload X 4 dX13_rankOf_116 rfl ?_
      refine kj_imul X dX13_rankOf_118 ?_
      refine kj_iloadn X 1 dX13_rankOf_119 rfl ?_
      obtain ⟨h38, hf⟩ := knGd_inv hf
      refine kj_irem X dX13_rankOf_120 hx1 h38 ?_
      refine kj_iloadn X 1 dX13_rankOf_121 rfl ?_
      obtain ⟨q39, h40, hf⟩ := knBd_inv hf
      refine kj_callV (As := [knV x6, knV x2, knV (knRem (knW ((μ 150 (knW ((knW (7 * x6)) + x3))) * x5)) x1), knV x1]) (rest := []) X K (kcX13_takes l hx6 hx2 (knC_rem _ _) hx1 h40) knWvX13_takes (knGm 1867 (by decide +kernel) rfl) (by decide) (knKd_in kdc_142 (by decide)) (knEnt_10 kdc_142) rfl rfl rfl (Nat.le_of_ble_eq_true rfl) (by decide) dX13_rankOf_122 rfl (fun h41 => ?_)
      refine kj_iinc X 5 (L' := [(6, knV (knW (x6 + 1))), (0, knO G 142), (1, knV x1), (2, knV x2), (3, knV x3), (5, knV x5)]) dX13_rankOf_125 rfl (by decide) rfl ?_
      refine kj_goto X (tgt := 91) dX13_rankOf_128 (by decide) ?_
      refine kj_sub (L' := [(0, knO G 142), (1, knV x1), (2, knV x2), (3, knV x3), (5, knV x5), (6, knV (knW (x6 + 1)))]) [1, 2, 3, 4, 5, 0] rfl ?_
      exact ih _ (knCw _) _ hf

set_option maxHeartbeats 4000000 in
set_option maxRecDepth 100000 in
theorem kfX13_rankOf_l9_ok {q : Int × knMem} {kc : (Int × knMem) → Option (Int × knMem)} {G : knGT} {p : Program} {l : Launch} {e : Env} {s : State} {m : MethodId} {args : Array Value} {below : List Frame} {meth : Method} {c : Code} (X : knX p m c cX13_rankOf 7 s args yX13_rankOf.cls) (K : knK G s s.heap) (hr : meth.sig.returnType = (some .int)) (hlk : meth.locks = false) (x1 : Int) (hx1 : knC x1)  (hk : ∀ (y2 : Int) (hy2 : knC y2) (μ1 : knMem), kc (y2, μ1) = some q → knJ G p l e { frames := 2, cells := 0, slots := 0, locals := 47 } s m args below meth c 7 0 0 (MQ below (knPo G (knC q.1) (some (knV q.1)) q.2) args s 0 0 (knA G)) 140 [(2, knV y2)] [] μ1) : ∀ (n : Nat) (x2 : Int) (hx2 : knC x2) (x3 : Int) (hx3 : knC x3) (μ : knMem), kfX13_rankOf_l9  x1 kc n x2 x3 μ = some q → knJ G p l e { frames := 2, cells := 0, slots := 0, locals := 47 } s m args below meth c 7 0 0 (MQ below (knPo G (knC q.1) (some (knV q.1)) q.2) args s 0 0 (knA G)) 9 [(0, knO G 142), (1, knV x1), (2, knV x2), (3, knV x3)] [] μ := by
  intro n
  induction n with
  | zero => intro x2 hx2 x3 hx3 μ hf; cases hf
  | succ n ih =>
    intro x2 hx2 x3 hx3 μ hf
    unfold kfX13_rankOf_l9 at hf
    refine kj_iloadn X 3 dX13_rankOf_9 rfl ?_
    refine kj_aloadn X 0 dX13_rankOf_10 rfl ?_
    refine kj_geti (k := 8) (ki := 8) X K rfl kdc_142 (by decide) (knEnt_10 kdc_142) rfl (by decide) knInX13 (knGm 1512 (by decide +kernel) rfl) rfl rfl dX13_rankOf_11 (fun h4 => ?_)
    refine kj_ic_ge X (tgt := 140) dX13_rankOf_14 (by decide) hx3 h4 (fun h5 => ?_) (fun h5 => ?_)
    · replace hf := knIp hf h5
      refine kj_sub (L' := [(2, knV x2)]) [2] rfl ?_
      exact hk _ hx2 _ hf
    · replace hf := knIq hf h5
      refine kj_iloadn X 2 dX13_rankOf_17 rfl ?_
      refine kj_istore X (L' := [(4, knV x2), (0, knO G 142), (1, knV x1), (2, knV x2), (3, knV x3)]) dX13_rankOf_18 (by decide) rfl ?_
      refine kj_sub (L' := [(0, knO G 142), (1, knV x1), (2, knV x2), (3, knV x3), (4, knV x2)]) [1, 2, 3, 4, 0] rfl ?_
      refine kfX13_rankOf_l20_ok X K hr hlk x1 x2 x3 hx1 hx2 hx3 μ ?_ knF _ hx2  hf
      intro w11_0 hw11_0
      intro hf
      refine kj_iload X 4 dX13_rankOf_50 rfl ?_
      refine kj_aloadn X 0 dX13_rankOf_52 rfl ?_
      refine kj_geti (k := 8) (ki := 8) X K rfl kdc_142 (by decide) (knEnt_10 kdc_142) rfl (by decide) knInX13 (knGm 1512 (by decide +kernel) rfl) rfl rfl dX13_rankOf_53 (fun h43 => ?_)
      have j54 : ∀ (t54_0 : Int) (ht54_0 : knC t54_0) (m54 : knMem), (fun q54 =>
       kfX13_rankOf_l9  x1 kc n q54.1 (knW (x3 + 1)) q54.2) (t54_0, m54) = some q → knJ G p l e { frames := 2, cells := 0, slots := 0, locals := 47 } s m args below meth c 7 0 0 (MQ below (knPo G (knC q.1) (some (knV q.1)) q.2) args s 0 0 (knA G)) 134 [(0, knO G 142), (1, knV x1), (2, knV t54_0), (3, knV x3)] [] m54 := by
        intro t54_0 ht54_0 m54
        intro hf
        refine kj_iinc X 3 (L' := [(3, knV (knW (x3 + 1))), (0, knO G 142), (1, knV x1), (2, knV t54_0)]) dX13_rankOf_134 rfl (by decide) rfl ?_
        refine kj_goto X (tgt := 9) dX13_rankOf_137 (by decide) ?_
        refine kj_sub (L' := [(0, knO G 142), (1, knV x1), (2, knV t54_0), (3, knV (knW (x3 + 1)))]) [1, 2, 3, 0] rfl ?_
        exact ih _ ht54_0 _ (knCw _) _ hf
      refine kj_ic_ne X (tgt := 62) dX13_rankOf_56 (by decide) hw11_0 h43 (fun h56 => ?_) (fun h56 => ?_)
      · replace hf := knIq hf h56
        refine kj_aloadn X 0 dX13_rankOf_62 rfl ?_
        refine kj_iloadn X 2 dX13_rankOf_63 rfl ?_
        refine kj_iload X 4 dX13_rankOf_64 rfl ?_
        obtain ⟨q57, h58, hf⟩ := knBd_inv hf
        refine kj_callV (As := [knV x2, knV w11_0]) (rest := []) X K (kcX13_swaps l hx2 hw11_0 h58) knWvX13_swaps (knGm 1860 (by decide +kernel) rfl) (by decide) (knKd_in kdc_142 (by decide)) (knEnt_10 kdc_142) rfl rfl rfl (Nat.le_of_ble_eq_true rfl) (by decide) dX13_rankOf_66 rfl (fun h59 => ?_)
        refine kj_aloadn X 0 dX13_rankOf_69 rfl ?_
        refine kj_geto (k := 12) (o2 := 150) X K kdc_142 (by decide) (knEnt_10 kdc_142) rfl (by decide) knInX13 (knGm 1516 (by decide +kernel) rfl) rfl rfl dX13_rankOf_70 ?_
        refine kj_bipush X (n := 7) dX13_rankOf_73 rfl ?_
        refine kj_iloadn X 2 dX13_rankOf_75 rfl ?_
        refine kj_imul X dX13_rankOf_76 ?_
        refine kj_iloadn X 3 dX13_rankOf_77 rfl ?_
        refine kj_iadd X dX13_rankOf_78 ?_
        obtain ⟨h60, hf⟩ := knGd_inv hf
        refine kj_iald X K kdc_150 (knCw _) lnc_150 h60 dX13_rankOf_79 (fun h61 => ?_)
        refine kj_iloadn X 1 dX13_rankOf_80 rfl ?_
        obtain ⟨q62, h63, hf⟩ := knBd_inv hf
        refine kj_callS (As := [knV (q57 150 (knW ((knW (7 * x2)) + x3))), knV x1]) (rest := []) X K (kcX13_inverse l h61 hx1 h63) knWkX13_inverse (knGm 1864 (by decide +kernel) rfl) (by decide)  rfl (Nat.le_of_ble_eq_true rfl) (by decide) dX13_rankOf_81 rfl (fun h64 => ?_)
        refine kj_istore X (L' := [(5, knV q62), (0, knO G 142), (1, knV x1), (2, knV x2), (3, knV x3), (4, knV w11_0)]) dX13_rankOf_84 (by decide) rfl ?_
        refine kj_iloadn X 3 dX13_rankOf_86 rfl ?_
        refine kj_iconst X dX13_rankOf_87 ?_
        refine kj_iadd X dX13_rankOf_88 ?_
        refine kj_istore X (L' := [(6, knV (knW (x2 + 1))), (5, knV q62), (0, knO G 142), (1, knV x1), (2, knV x2), (3, knV x3), (4, knV w11_0)]) dX13_rankOf_89 (by decide) rfl ?_
        refine kj_sub (L' := [(0, knO G 142), (1, knV x1), (2, knV x2), (3, knV x3), (5, knV q62), (6, knV (knW (x2 + 1)))]) [2, 3, 4, 5, 1, 0] rfl ?_
        refine kfX13_rankOf_l91_ok X K hr hlk x1 x2 x3 q62 hx1 hx2 hx3 h64  ?_ knF _ (knCw _) _ hf
        intro w65_m
        intro hf
        refine kj_iinc X 2 (L' := [(2, knV (knW (x2 + 1))), (0, knO G 142), (1, knV x1), (3, knV x3)]) dX13_rankOf_131 rfl (by decide) rfl ?_
        refine kj_sub (L' := [(0, knO G 142), (1, knV x1), (2, knV (knW (x2 + 1))), (3, knV x3)]) [1, 2, 0, 3] rfl ?_
        exact j54 _ (knCw _) _ hf
      · replace hf := knIp hf h56
        refine kj_goto X (tgt := 134) dX13_rankOf_59 (by decide) ?_
        refine kj_sub (L' := [(0, knO G 142), (1, knV x1), (2, knV x2), (3, knV x3)]) [0, 1, 2, 3] rfl ?_
        exact j54 _ hx2 _ hf

set_option maxHeartbeats 4000000 in
set_option maxRecDepth 100000 in
theorem kcX13_rankOf {G : knGT} (l : Launch) {a1 : Int} (ha1 : knC a1) {μ : knMem} {q : Int × knMem} (hf : kfX13_rankOf a1 μ = some q) : knC0 G l yX13_rankOf cX13_rankOf 7 (some .int) 2 47 [knO G 142, knV a1] μ (knC q.1) (some (knV q.1)) q.2 := by
  unfold kfX13_rankOf at hf
  refine kn_ofJ (plainFor_of_name (by decide)) (Nat.le_of_ble_eq_true rfl) (L := [(0, knO G 142), (1, knV a1)]) rfl ?_
  intro p e s m args below meth c X K hr hlk
  refine kj_aloadn X 0 dX13_rankOf_0 rfl ?_
  refine kj_iloadn X 1 dX13_rankOf_1 rfl ?_
  obtain ⟨q1, h2, hf⟩ := knBd_inv hf
  refine kj_callV (As := [knV a1]) (rest := []) X K (kcX13_equations l ha1 h2) knWvX13_equations (knGm 1856 (by decide +kernel) rfl) (by decide) (knKd_in kdc_142 (by decide)) (knEnt_10 kdc_142) rfl rfl rfl (Nat.le_of_ble_eq_true rfl) (by decide) dX13_rankOf_2 rfl (fun h3 => ?_)
  refine kj_iconst X dX13_rankOf_5 ?_
  refine kj_istoren X (L' := [(2, knV 0), (0, knO G 142), (1, knV a1)]) dX13_rankOf_6 (by decide) rfl ?_
  refine kj_iconst X dX13_rankOf_7 ?_
  refine kj_istoren X (L' := [(3, knV 0), (2, knV 0), (0, knO G 142), (1, knV a1)]) dX13_rankOf_8 (by decide) rfl ?_
  refine kj_sub (L' := [(0, knO G 142), (1, knV a1), (2, knV 0), (3, knV 0)]) [2, 3, 1, 0] rfl ?_
  refine kfX13_rankOf_l9_ok X K hr hlk a1 ha1  ?_ knF _ (show knC (0) from ⟨by omega, by omega⟩) _ (show knC (0) from ⟨by omega, by omega⟩) _ hf
  intro w66_0 hw66_0 w66_m
  intro hf
  refine kj_iloadn X 0 dX13_rankOf_140 rfl ?_
  cases hf
  exact kj_iret X hw66_0 hr dX13_rankOf_141 hlk

def kfX13_coloured_l12  (x1 : Int) (μ : knMem) (kc : (Int) → Option (Int × knMem)) : Nat → Int → Int → Option (Int × knMem)
  | 0, _, _ => none
  | n + 1, x2, x3 =>
    Option.bind (kfX13_arcs  μ) (fun q7 =>
     if q7 ≤ x3 then
      kc x2
     else
      kfX13_coloured_l12  x1 μ kc n (knW (x2 * x1)) (knW (x3 + 1)))

def kfX13_coloured (a1 : Int) (μ : knMem) : Option (Int × knMem) :=
 Option.bind (kfX13_loads  μ) (fun q1 =>
  Option.bind (kfX13_rankOf a1 q1) (fun q4 =>
   kfX13_coloured_l12 a1 q4.2 (fun w11 =>
    some (w11, q4.2)) knF 1 q4.1))

theorem knWvX13_coloured : knWv yX13_coloured cX13_coloured 4 (some .int) 1 := ⟨(knGm 1851 (by decide +kernel) rfl), (knGm 124 (by decide +kernel) rfl), (knGm 1850 (by decide +kernel) rfl), (knGm 75 (by decide +kernel) rfl), by decide +kernel, by decide +kernel, by decide +kernel⟩
set_option maxHeartbeats 4000000 in
set_option maxRecDepth 100000 in
theorem kfX13_coloured_l12_ok {q : Int × knMem} {kc : (Int) → Option (Int × knMem)} {G : knGT} {p : Program} {l : Launch} {e : Env} {s : State} {m : MethodId} {args : Array Value} {below : List Frame} {meth : Method} {c : Code} (X : knX p m c cX13_coloured 4 s args yX13_coloured.cls) (K : knK G s s.heap) (hr : meth.sig.returnType = (some .int)) (hlk : meth.locks = false) (x1 : Int) (hx1 : knC x1) (μ : knMem) (hk : ∀ (y2 : Int) (hy2 : knC y2), kc y2 = some q → knJ G p l e { frames := 3, cells := 0, slots := 0, locals := 73 } s m args below meth c 4 0 0 (MQ below (knPo G (knC q.1) (some (knV q.1)) q.2) args s 0 0 (knA G)) 30 [(2, knV y2)] [] μ) : ∀ (n : Nat) (x2 : Int) (hx2 : knC x2) (x3 : Int) (hx3 : knC x3) , kfX13_coloured_l12  x1 μ kc n x2 x3 = some q → knJ G p l e { frames := 3, cells := 0, slots := 0, locals := 73 } s m args below meth c 4 0 0 (MQ below (knPo G (knC q.1) (some (knV q.1)) q.2) args s 0 0 (knA G)) 12 [(0, knO G 142), (1, knV x1), (2, knV x2), (3, knV x3)] [] μ := by
  intro n
  induction n with
  | zero => intro x2 hx2 x3 hx3 hf; cases hf
  | succ n ih =>
    intro x2 hx2 x3 hx3 hf
    unfold kfX13_coloured_l12 at hf
    refine kj_iloadn X 3 dX13_coloured_12 rfl ?_
    refine kj_aloadn X 0 dX13_coloured_13 rfl ?_
    obtain ⟨q7, h8, hf⟩ := knBd_inv hf
    refine kj_callV (As := []) (rest := [knV x3]) X K (kcX13_arcs l  h8) knWvX13_arcs (knGm 1832 (by decide +kernel) rfl) (by decide) (knKd_in kdc_142 (by decide)) (knEnt_10 kdc_142) rfl rfl rfl (Nat.le_of_ble_eq_true rfl) (by decide) dX13_coloured_14 rfl (fun h9 => ?_)
    refine kj_ic_ge X (tgt := 30) dX13_coloured_17 (by decide) hx3 h9 (fun h10 => ?_) (fun h10 => ?_)
    · replace hf := knIp hf h10
      refine kj_sub (L' := [(2, knV x2)]) [2] rfl ?_
      exact hk _ hx2 hf
    · replace hf := knIq hf h10
      refine kj_iloadn X 2 dX13_coloured_20 rfl ?_
      refine kj_iloadn X 1 dX13_coloured_21 rfl ?_
      refine kj_imul X dX13_coloured_22 ?_
      refine kj_istoren X (L' := [(2, knV (knW (x2 * x1))), (0, knO G 142), (1, knV x1), (3, knV x3)]) dX13_coloured_23 (by decide) rfl ?_
      refine kj_iinc X 3 (L' := [(3, knV (knW (x3 + 1))), (2, knV (knW (x2 * x1))), (0, knO G 142), (1, knV x1)]) dX13_coloured_24 rfl (by decide) rfl ?_
      refine kj_goto X (tgt := 12) dX13_coloured_27 (by decide) ?_
      refine kj_sub (L' := [(0, knO G 142), (1, knV x1), (2, knV (knW (x2 * x1))), (3, knV (knW (x3 + 1)))]) [2, 3, 1, 0] rfl ?_
      exact ih _ (knCw _) _ (knCw _)  hf

set_option maxHeartbeats 4000000 in
set_option maxRecDepth 100000 in
theorem kcX13_coloured {G : knGT} (l : Launch) {a1 : Int} (ha1 : knC a1) {μ : knMem} {q : Int × knMem} (hf : kfX13_coloured a1 μ = some q) : knC0 G l yX13_coloured cX13_coloured 4 (some .int) 3 73 [knO G 142, knV a1] μ (knC q.1) (some (knV q.1)) q.2 := by
  unfold kfX13_coloured at hf
  refine kn_ofJ (plainFor_of_name (by decide)) (Nat.le_of_ble_eq_true rfl) (L := [(0, knO G 142), (1, knV a1)]) rfl ?_
  intro p e s m args below meth c X K hr hlk
  refine kj_aloadn X 0 dX13_coloured_0 rfl ?_
  obtain ⟨q1, h2, hf⟩ := knBd_inv hf
  refine kj_callV (As := []) (rest := []) X K (kcX13_loads l  h2) knWvX13_loads (knGm 1624 (by decide +kernel) rfl) (by decide) (knKd_in kdc_142 (by decide)) (knEnt_10 kdc_142) rfl rfl rfl (Nat.le_of_ble_eq_true rfl) (by decide) dX13_coloured_1 rfl (fun h3 => ?_)
  refine kj_iconst X dX13_coloured_4 ?_
  refine kj_istoren X (L' := [(2, knV 1), (0, knO G 142), (1, knV a1)]) dX13_coloured_5 (by decide) rfl ?_
  refine kj_aloadn X 1 dX13_coloured_6 rfl ?_
  refine kj_iloadn X 2 dX13_coloured_7 rfl ?_
  obtain ⟨q4, h5, hf⟩ := knBd_inv hf
  refine kj_callV (As := [knV a1]) (rest := []) X K (kcX13_rankOf l ha1 h5) knWvX13_rankOf (knGm 1852 (by decide +kernel) rfl) (by decide) (knKd_in kdc_142 (by decide)) (knEnt_10 kdc_142) rfl rfl rfl (Nat.le_of_ble_eq_true rfl) (by decide) dX13_coloured_8 rfl (fun h6 => ?_)
  refine kj_istoren X (L' := [(3, knV q4.1), (2, knV 1), (0, knO G 142), (1, knV a1)]) dX13_coloured_11 (by decide) rfl ?_
  refine kj_sub (L' := [(0, knO G 142), (1, knV a1), (2, knV 1), (3, knV q4.1)]) [2, 3, 1, 0] rfl ?_
  refine kfX13_coloured_l12_ok X K hr hlk a1 ha1 q4.2 ?_ knF _ (show knC (1) from ⟨by omega, by omega⟩) _ h6  hf
  intro w11_0 hw11_0
  intro hf
  refine kj_iloadn X 0 dX13_coloured_30 rfl ?_
  cases hf
  exact kj_iret X hw11_0 hr dX13_coloured_31 hlk

def kfX13_colourings (a1 : Int) (μ : knMem) : Option (Int × knMem) :=
 (fun (k7 : (Unit) → Option (Int × knMem)) =>
  if a1 = 3 then
   k7 ()
  else
   if a1 = 5 then
    k7 ()
   else
    if a1 = 7 then
     k7 ()
    else
     Option.bind (kfX13_fails 1 (knUp μ 142 0 0)) (fun q18 =>
      some (q18.1, q18.2)))
  (fun _ =>
  Option.bind (kfX13_coloured a1 (knUp μ 142 0 0)) (fun q8 =>
   some (q8.1, q8.2)))

theorem knWvX13_colourings : knWv yX13_colourings cX13_colourings 2 (some .int) 1 := ⟨(knGm 1847 (by decide +kernel) rfl), (knGm 124 (by decide +kernel) rfl), (knGm 1845 (by decide +kernel) rfl), (knGm 1846 (by decide +kernel) rfl), by decide +kernel, by decide +kernel, by decide +kernel⟩
set_option maxHeartbeats 4000000 in
set_option maxRecDepth 100000 in
theorem kcX13_colourings {G : knGT} (l : Launch) {a1 : Int} (ha1 : knC a1) {μ : knMem} {q : Int × knMem} (hf : kfX13_colourings a1 μ = some q) : knC0 G l yX13_colourings cX13_colourings 2 (some .int) 4 96 [knO G 142, knV a1] μ (knC q.1) (some (knV q.1)) q.2 := by
  unfold kfX13_colourings at hf
  refine kn_ofJ (plainFor_of_name (by decide)) (Nat.le_of_ble_eq_true rfl) (L := [(0, knO G 142), (1, knV a1)]) rfl ?_
  intro p e s m args below meth c X K hr hlk
  refine kj_aloadn X 0 dX13_colourings_0 rfl ?_
  refine kj_iconst X dX13_colourings_1 ?_
  refine kj_putf (k := 0) (ki := 0) (x := 0) (ty := .int) X K rfl (knKd_in kdc_142 (by decide)) (knEnt_10 kdc_142) rfl (by decide) knInX13 tyX13_ok nmX13 (knGm 1504 (by decide +kernel) rfl) rfl rfl (by decide +kernel) rfl rfl (by simp) (by rw [knEnt_10 kdc_142, knUp_row]; rfl) (fun _ => (show knC (0) from ⟨by omega, by omega⟩)) (fun h => by rw [kdc_142] at h; cases h) (fun h => by rw [kdc_142] at h; cases h) dX13_colourings_2 ?_
  refine kj_iloadn X 1 dX13_colourings_5 rfl ?_
  refine kj_iconst X dX13_colourings_6 ?_
  have j7 : (fun _ =>
   Option.bind (kfX13_coloured a1 (knUp μ 142 0 0)) (fun q8 =>
    some (q8.1, q8.2))) () = some q → knJ G p l e { frames := 4, cells := 0, slots := 0, locals := 96 } s m args below meth c 2 0 0 (MQ below (knPo G (knC q.1) (some (knV q.1)) q.2) args s 0 0 (knA G)) 21 [(0, knO G 142), (1, knV a1)] [] (knUp μ 142 0 0) := by
    intro hf
    refine kj_aloadn X 0 dX13_colourings_21 rfl ?_
    refine kj_iloadn X 1 dX13_colourings_22 rfl ?_
    obtain ⟨q11, h12, hf⟩ := knBd_inv hf
    refine kj_callV (As := [knV a1]) (rest := []) X K (kcX13_coloured l ha1 h12) knWvX13_coloured (knGm 1848 (by decide +kernel) rfl) (by decide) (knKd_in kdc_142 (by decide)) (knEnt_10 kdc_142) rfl rfl rfl (Nat.le_of_ble_eq_true rfl) (by decide) dX13_colourings_23 rfl (fun h13 => ?_)
    refine kj_goto X (tgt := 34) dX13_colourings_26 (by decide) ?_
    cases hf
    exact kj_iret X h13 hr dX13_colourings_34 hlk
  refine kj_ic_eq X (tgt := 21) dX13_colourings_7 (by decide) ha1 (show knC (3) from ⟨by omega, by omega⟩) (fun h15 => ?_) (fun h15 => ?_)
  · replace hf := knIp hf h15
    refine kj_sub (L' := [(0, knO G 142), (1, knV a1)]) [0, 1] rfl ?_
    exact j7  hf
  · replace hf := knIq hf h15
    refine kj_iloadn X 1 dX13_colourings_10 rfl ?_
    refine kj_iconst X dX13_colourings_11 ?_
    refine kj_ic_eq X (tgt := 21) dX13_colourings_12 (by decide) ha1 (show knC (5) from ⟨by omega, by omega⟩) (fun h16 => ?_) (fun h16 => ?_)
    · replace hf := knIp hf h16
      refine kj_sub (L' := [(0, knO G 142), (1, knV a1)]) [0, 1] rfl ?_
      exact j7  hf
    · replace hf := knIq hf h16
      refine kj_iloadn X 1 dX13_colourings_15 rfl ?_
      refine kj_bipush X (n := 7) dX13_colourings_16 rfl ?_
      refine kj_ic_ne X (tgt := 29) dX13_colourings_18 (by decide) ha1 (show knC (7) from ⟨by omega, by omega⟩) (fun h17 => ?_) (fun h17 => ?_)
      · replace hf := knIq hf h17
        refine kj_aloadn X 0 dX13_colourings_29 rfl ?_
        refine kj_iconst X dX13_colourings_30 ?_
        obtain ⟨q18, h19, hf⟩ := knBd_inv hf
        refine kj_callV (As := [knV 1]) (rest := []) X K (kcX13_fails l (show knC (1) from ⟨by omega, by omega⟩) h19) knWvX13_fails (knGm 1604 (by decide +kernel) rfl) (by decide) (knKd_in kdc_142 (by decide)) (knEnt_10 kdc_142) rfl rfl rfl (Nat.le_of_ble_eq_true rfl) (by decide) dX13_colourings_31 rfl (fun h20 => ?_)
        cases hf
        exact kj_iret X h20 hr dX13_colourings_34 hlk
      · replace hf := knIp hf h17
        refine kj_sub (L' := [(0, knO G 142), (1, knV a1)]) [0, 1] rfl ?_
        exact j7  hf

def kfX13_colouringsByTrying  (μ : knMem) : Option (Int × knMem) :=
 Option.bind (kfX13_colourings 3 μ) (fun q1 =>
  some (q1.1, q1.2))

theorem knWvX13_colouringsByTrying : knWv yX13_colouringsByTrying cX13_colouringsByTrying 1 (some .int) 0 := ⟨(knGm 1874 (by decide +kernel) rfl), (knGm 124 (by decide +kernel) rfl), (knGm 1872 (by decide +kernel) rfl), (knGm 1873 (by decide +kernel) rfl), by decide +kernel, by decide +kernel, by decide +kernel⟩
set_option maxHeartbeats 4000000 in
set_option maxRecDepth 100000 in
theorem kcX13_colouringsByTrying {G : knGT} (l : Launch)   {μ : knMem} {q : Int × knMem} (hf : kfX13_colouringsByTrying  μ = some q) : knC0 G l yX13_colouringsByTrying cX13_colouringsByTrying 1 (some .int) 5 117 [knO G 142] μ (knC q.1) (some (knV q.1)) q.2 := by
  unfold kfX13_colouringsByTrying at hf
  refine kn_ofJ (plainFor_of_name (by decide)) (Nat.le_of_ble_eq_true rfl) (L := [(0, knO G 142)]) rfl ?_
  intro p e s m args below meth c X K hr hlk
  refine kj_aloadn X 0 dX13_colouringsByTrying_0 rfl ?_
  refine kj_iconst X dX13_colouringsByTrying_1 ?_
  obtain ⟨q1, h2, hf⟩ := knBd_inv hf
  refine kj_callV (As := [knV 3]) (rest := []) X K (kcX13_colourings l (show knC (3) from ⟨by omega, by omega⟩) h2) knWvX13_colourings (knGm 1875 (by decide +kernel) rfl) (by decide) (knKd_in kdc_142 (by decide)) (knEnt_10 kdc_142) rfl rfl rfl (Nat.le_of_ble_eq_true rfl) (by decide) dX13_colouringsByTrying_2 rfl (fun h3 => ?_)
  cases hf
  exact kj_iret X h3 hr dX13_colouringsByTrying_5 hlk

def kfX13_leaderOf_l2   (μ : knMem) (kc : (Int) → Option (Int)) : Nat → Int → Option (Int)
  | 0, _ => none
  | n + 1, x2 =>
    knGd (0 ≤ x2 ∧ x2 < 14)
     (if (μ 151 x2) = x2 then
     kc x2
    else
     kfX13_leaderOf_l2   μ kc n (μ 151 x2))

def kfX13_leaderOf (a1 : Int) (μ : knMem) : Option (Int) :=
 kfX13_leaderOf_l2  μ (fun w5 =>
  some w5) knF a1

theorem knWvX13_leaderOf : knWv yX13_leaderOf cX13_leaderOf 3 (some .int) 1 := ⟨(knGm 1891 (by decide +kernel) rfl), (knGm 124 (by decide +kernel) rfl), (knGm 1890 (by decide +kernel) rfl), (knGm 82 (by decide +kernel) rfl), by decide +kernel, by decide +kernel, by decide +kernel⟩
set_option maxHeartbeats 4000000 in
set_option maxRecDepth 100000 in
theorem kfX13_leaderOf_l2_ok {q : Int} {kc : (Int) → Option (Int)} {G : knGT} {p : Program} {l : Launch} {e : Env} {s : State} {m : MethodId} {args : Array Value} {below : List Frame} {meth : Method} {c : Code} (X : knX p m c cX13_leaderOf 3 s args yX13_leaderOf.cls) (K : knK G s s.heap) (hr : meth.sig.returnType = (some .int)) (hlk : meth.locks = false)   (μ : knMem) (hk : ∀ (y2 : Int) (hy2 : knC y2), kc y2 = some q → knJ G p l e { frames := 0, cells := 0, slots := 0, locals := 0 } s m args below meth c 3 0 0 (MQ below (knPo G (knC q) (some (knV q)) μ) args s 0 0 (knA G)) 22 [(2, knV y2)] [] μ) : ∀ (n : Nat) (x2 : Int) (hx2 : knC x2) , kfX13_leaderOf_l2   μ kc n x2 = some q → knJ G p l e { frames := 0, cells := 0, slots := 0, locals := 0 } s m args below meth c 3 0 0 (MQ below (knPo G (knC q) (some (knV q)) μ) args s 0 0 (knA G)) 2 [(0, knO G 142), (2, knV x2)] [] μ := by
  intro n
  induction n with
  | zero => intro x2 hx2 hf; cases hf
  | succ n ih =>
    intro x2 hx2 hf
    unfold kfX13_leaderOf_l2 at hf
    refine kj_aloadn X 0 dX13_leaderOf_2 rfl ?_
    refine kj_geto (k := 13) (o2 := 151) X K kdc_142 (by decide) (knEnt_10 kdc_142) rfl (by decide) knInX13 (knGm 1517 (by decide +kernel) rfl) rfl rfl dX13_leaderOf_3 ?_
    refine kj_iloadn X 1 dX13_leaderOf_6 rfl ?_
    obtain ⟨h1, hf⟩ := knGd_inv hf
    refine kj_iald X K kdc_151 hx2 lnc_151 h1 dX13_leaderOf_7 (fun h2 => ?_)
    refine kj_iloadn X 1 dX13_leaderOf_8 rfl ?_
    refine kj_ic_eq X (tgt := 22) dX13_leaderOf_9 (by decide) h2 hx2 (fun h3 => ?_) (fun h3 => ?_)
    · replace hf := knIp hf h3
      refine kj_sub (L' := [(2, knV x2)]) [1] rfl ?_
      exact hk _ hx2 hf
    · replace hf := knIq hf h3
      refine kj_aloadn X 0 dX13_leaderOf_12 rfl ?_
      refine kj_geto (k := 13) (o2 := 151) X K kdc_142 (by decide) (knEnt_10 kdc_142) rfl (by decide) knInX13 (knGm 1517 (by decide +kernel) rfl) rfl rfl dX13_leaderOf_13 ?_
      refine kj_iloadn X 1 dX13_leaderOf_16 rfl ?_
      refine kj_iald X K kdc_151 hx2 lnc_151 h1 dX13_leaderOf_17 (fun h4 => ?_)
      refine kj_istoren X (L' := [(2, knV (μ 151 x2)), (0, knO G 142)]) dX13_leaderOf_18 (by decide) rfl ?_
      refine kj_goto X (tgt := 2) dX13_leaderOf_19 (by decide) ?_
      refine kj_sub (L' := [(0, knO G 142), (2, knV (μ 151 x2))]) [1, 0] rfl ?_
      exact ih _ h4  hf

set_option maxHeartbeats 4000000 in
set_option maxRecDepth 100000 in
theorem kcX13_leaderOf {G : knGT} (l : Launch) {a1 : Int} (ha1 : knC a1) {μ : knMem} {q : Int} (hf : kfX13_leaderOf a1 μ = some q) : knC0 G l yX13_leaderOf cX13_leaderOf 3 (some .int) 0 0 [knO G 142, knV a1] μ (knC q) (some (knV q)) μ := by
  unfold kfX13_leaderOf at hf
  refine kn_ofJ (plainFor_of_name (by decide)) (Nat.le_of_ble_eq_true rfl) (L := [(0, knO G 142), (1, knV a1)]) rfl ?_
  intro p e s m args below meth c X K hr hlk
  refine kj_iloadn X 1 dX13_leaderOf_0 rfl ?_
  refine kj_istoren X (L' := [(2, knV a1), (0, knO G 142), (1, knV a1)]) dX13_leaderOf_1 (by decide) rfl ?_
  refine kj_sub (L' := [(0, knO G 142), (2, knV a1)]) [1, 0] rfl ?_
  refine kfX13_leaderOf_l2_ok X K hr hlk   μ ?_ knF _ ha1  hf
  intro w5_0 hw5_0
  intro hf
  refine kj_iloadn X 0 dX13_leaderOf_22 rfl ?_
  cases hf
  exact kj_iret X hw5_0 hr dX13_leaderOf_23 hlk

def kfX13_joins (a1 : Int) (a2 : Int) (μ : knMem) : Option (knMem) :=
 Option.bind (kfX13_leaderOf a1 μ) (fun q1 =>
  Option.bind (kfX13_leaderOf a2 μ) (fun q4 =>
   knGd (0 ≤ q4 ∧ q4 < 14)
    (some (knUp μ 151 q4 q1))))

theorem knWvX13_joins : knWv yX13_joins cX13_joins 4 none 2 := ⟨(knGm 1887 (by decide +kernel) rfl), (knGm 124 (by decide +kernel) rfl), (knGm 1886 (by decide +kernel) rfl), (knGm 81 (by decide +kernel) rfl), by decide +kernel, by decide +kernel, by decide +kernel⟩
set_option maxHeartbeats 4000000 in
set_option maxRecDepth 100000 in
theorem kcX13_joins {G : knGT} (l : Launch) {a1 : Int} {a2 : Int} (ha1 : knC a1) (ha2 : knC a2) {μ : knMem} {q : knMem} (hf : kfX13_joins a1 a2 μ = some q) : knC0 G l yX13_joins cX13_joins 4 none 1 22 [knO G 142, knV a1, knV a2] μ True none q := by
  unfold kfX13_joins at hf
  refine kn_ofJ (plainFor_of_name (by decide)) (Nat.le_of_ble_eq_true rfl) (L := [(0, knO G 142), (1, knV a1), (2, knV a2)]) rfl ?_
  intro p e s m args below meth c X K hr hlk
  refine kj_aloadn X 0 dX13_joins_0 rfl ?_
  refine kj_iloadn X 1 dX13_joins_1 rfl ?_
  obtain ⟨q1, h2, hf⟩ := knBd_inv hf
  refine kj_callV (As := [knV a1]) (rest := []) X K (kcX13_leaderOf l ha1 h2) knWvX13_leaderOf (knGm 1888 (by decide +kernel) rfl) (by decide) (knKd_in kdc_142 (by decide)) (knEnt_10 kdc_142) rfl rfl rfl (Nat.le_of_ble_eq_true rfl) (by decide) dX13_joins_2 rfl (fun h3 => ?_)
  refine kj_istoren X (L' := [(3, knV q1), (0, knO G 142), (1, knV a1), (2, knV a2)]) dX13_joins_5 (by decide) rfl ?_
  refine kj_aloadn X 1 dX13_joins_6 rfl ?_
  refine kj_geto (k := 13) (o2 := 151) X K kdc_142 (by decide) (knEnt_10 kdc_142) rfl (by decide) knInX13 (knGm 1517 (by decide +kernel) rfl) rfl rfl dX13_joins_7 ?_
  refine kj_aloadn X 1 dX13_joins_10 rfl ?_
  refine kj_iloadn X 3 dX13_joins_11 rfl ?_
  obtain ⟨q4, h5, hf⟩ := knBd_inv hf
  refine kj_callV (As := [knV a2]) (rest := [knO G 151]) X K (kcX13_leaderOf l ha2 h5) knWvX13_leaderOf (knGm 1888 (by decide +kernel) rfl) (by decide) (knKd_in kdc_142 (by decide)) (knEnt_10 kdc_142) rfl rfl rfl (Nat.le_of_ble_eq_true rfl) (by decide) dX13_joins_12 rfl (fun h6 => ?_)
  refine kj_iloadn X 0 dX13_joins_15 rfl ?_
  obtain ⟨h7, hf⟩ := knGd_inv hf
  refine kj_iast X K kdc_151 h6 h3 lnc_151 h7 dX13_joins_16 ?_
  cases hf
  exact kj_vret X trivial hr dX13_joins_17 hlk

def kfX13_loopsOf_l9  (x1 : Int) (x2 : Int)  (kc : (knMem) → Option (Int × knMem)) : Nat → Int → knMem → Option (Int × knMem)
  | 0, _, _ => none
  | n + 1, x3, μ =>
    if x2 ≤ x3 then
     kc μ
    else
     knGd (0 ≤ x3 ∧ x3 < 14)
      (kfX13_loopsOf_l9  x1 x2 kc n (knW (x3 + 1)) (knUp μ 151 x3 x3))

def kfX13_loopsOf_l29  (x1 : Int) (x2 : Int)  (kc : (knMem) → Option (Int × knMem)) : Nat → Int → knMem → Option (Int × knMem)
  | 0, _, _ => none
  | n + 1, x3, μ =>
    if (μ 142 8) ≤ x3 then
     kc μ
    else
     Option.bind (kfX13_passOf x3 1 μ) (fun q7 =>
      Option.bind (kfX13_passOf x3 0 μ) (fun q10 =>
       knGd (x2 ≠ 0)
        (Option.bind (kfX13_joins (knRem (knW ((knW (q7 + x2)) - 1)) x2) (if (if (knAnd (knShr x1 x3) 1) = 1 then 1 else 0 : Int) = 0 then (knRem (knW ((knW (q10 + x2)) - 1)) x2) else q10 : Int) μ) (fun q20 =>
        Option.bind (kfX13_joins (if (if (knAnd (knShr x1 x3) 1) = 1 then 1 else 0 : Int) = 0 then q10 else (knRem (knW ((knW (q10 + x2)) - 1)) x2) : Int) q7 q20) (fun q26 =>
         kfX13_loopsOf_l29  x1 x2 kc n (knW (x3 + 1)) q26)))))

def kfX13_loopsOf_l136  (x2 : Int) (μ : knMem) (kc : (Int) → Option (Int × knMem)) : Nat → Int → Int → Option (Int × knMem)
  | 0, _, _ => none
  | n + 1, x3, x4 =>
    if x2 ≤ x4 then
     kc x3
    else
     knGd (0 ≤ x4 ∧ x4 < 14)
      (kfX13_loopsOf_l136  x2 μ kc n (knW (x3 + (if (μ 151 x4) = x4 then 1 else 0 : Int))) (knW (x4 + 1)))

def kfX13_loopsOf (a1 : Int) (μ : knMem) : Option (Int × knMem) :=
 kfX13_loopsOf_l9 a1 (knW (2 * (μ 142 8)))  (fun w4 =>
  kfX13_loopsOf_l29 a1 (knW (2 * (μ 142 8)))  (fun w32 =>
   kfX13_loopsOf_l136 (knW (2 * (μ 142 8))) w32 (fun w40 =>
    some ((if (w32 142 8) = 0 then 1 else w40 : Int), w32)) knF 0 0) knF 0 w4) knF 0 μ

theorem knWvX13_loopsOf : knWv yX13_loopsOf cX13_loopsOf 9 (some .int) 1 := ⟨(knGm 1883 (by decide +kernel) rfl), (knGm 124 (by decide +kernel) rfl), (knGm 1882 (by decide +kernel) rfl), (knGm 80 (by decide +kernel) rfl), by decide +kernel, by decide +kernel, by decide +kernel⟩
set_option maxHeartbeats 4000000 in
set_option maxRecDepth 100000 in
theorem kfX13_loopsOf_l9_ok {q : Int × knMem} {kc : (knMem) → Option (Int × knMem)} {G : knGT} {p : Program} {l : Launch} {e : Env} {s : State} {m : MethodId} {args : Array Value} {below : List Frame} {meth : Method} {c : Code} (X : knX p m c cX13_loopsOf 9 s args yX13_loopsOf.cls) (K : knK G s s.heap) (hr : meth.sig.returnType = (some .int)) (hlk : meth.locks = false) (x1 : Int) (x2 : Int) (hx1 : knC x1) (hx2 : knC x2)  (hk : ∀ (μ1 : knMem), kc μ1 = some q → knJ G p l e { frames := 2, cells := 0, slots := 0, locals := 45 } s m args below meth c 9 0 0 (MQ below (knPo G (knC q.1) (some (knV q.1)) q.2) args s 0 0 (knA G)) 27 [(0, knO G 142), (1, knV x1), (2, knV x2)] [] μ1) : ∀ (n : Nat) (x3 : Int) (hx3 : knC x3) (μ : knMem), kfX13_loopsOf_l9  x1 x2 kc n x3 μ = some q → knJ G p l e { frames := 2, cells := 0, slots := 0, locals := 45 } s m args below meth c 9 0 0 (MQ below (knPo G (knC q.1) (some (knV q.1)) q.2) args s 0 0 (knA G)) 9 [(0, knO G 142), (1, knV x1), (2, knV x2), (3, knV x3)] [] μ := by
  intro n
  induction n with
  | zero => intro x3 hx3 μ hf; cases hf
  | succ n ih =>
    intro x3 hx3 μ hf
    unfold kfX13_loopsOf_l9 at hf
    refine kj_iloadn X 3 dX13_loopsOf_9 rfl ?_
    refine kj_iloadn X 2 dX13_loopsOf_10 rfl ?_
    refine kj_ic_ge X (tgt := 27) dX13_loopsOf_11 (by decide) hx3 hx2 (fun h2 => ?_) (fun h2 => ?_)
    · replace hf := knIp hf h2
      refine kj_sub (L' := [(0, knO G 142), (1, knV x1), (2, knV x2)]) [0, 1, 2] rfl ?_
      exact hk _ hf
    · replace hf := knIq hf h2
      refine kj_aloadn X 0 dX13_loopsOf_14 rfl ?_
      refine kj_geto (k := 13) (o2 := 151) X K kdc_142 (by decide) (knEnt_10 kdc_142) rfl (by decide) knInX13 (knGm 1517 (by decide +kernel) rfl) rfl rfl dX13_loopsOf_15 ?_
      refine kj_iloadn X 3 dX13_loopsOf_18 rfl ?_
      refine kj_iloadn X 3 dX13_loopsOf_19 rfl ?_
      obtain ⟨h3, hf⟩ := knGd_inv hf
      refine kj_iast X K kdc_151 hx3 hx3 lnc_151 h3 dX13_loopsOf_20 ?_
      refine kj_iinc X 3 (L' := [(3, knV (knW (x3 + 1))), (0, knO G 142), (1, knV x1), (2, knV x2)]) dX13_loopsOf_21 rfl (by decide) rfl ?_
      refine kj_goto X (tgt := 9) dX13_loopsOf_24 (by decide) ?_
      refine kj_sub (L' := [(0, knO G 142), (1, knV x1), (2, knV x2), (3, knV (knW (x3 + 1)))]) [1, 2, 3, 0] rfl ?_
      exact ih _ (knCw _) _ hf

set_option maxHeartbeats 4000000 in
set_option maxRecDepth 100000 in
theorem kfX13_loopsOf_l29_ok {q : Int × knMem} {kc : (knMem) → Option (Int × knMem)} {G : knGT} {p : Program} {l : Launch} {e : Env} {s : State} {m : MethodId} {args : Array Value} {below : List Frame} {meth : Method} {c : Code} (X : knX p m c cX13_loopsOf 9 s args yX13_loopsOf.cls) (K : knK G s s.heap) (hr : meth.sig.returnType = (some .int)) (hlk : meth.locks = false) (x1 : Int) (x2 : Int) (hx1 : knC x1) (hx2 : knC x2)  (hk : ∀ (μ1 : knMem), kc μ1 = some q → knJ G p l e { frames := 2, cells := 0, slots := 0, locals := 45 } s m args below meth c 9 0 0 (MQ below (knPo G (knC q.1) (some (knV q.1)) q.2) args s 0 0 (knA G)) 131 [(0, knO G 142), (2, knV x2)] [] μ1) : ∀ (n : Nat) (x3 : Int) (hx3 : knC x3) (μ : knMem), kfX13_loopsOf_l29  x1 x2 kc n x3 μ = some q → knJ G p l e { frames := 2, cells := 0, slots := 0, locals := 45 } s m args below meth c 9 0 0 (MQ below (knPo G (knC q.1) (some (knV q.1)) q.2) args s 0 0 (knA G)) 29 [(0, knO G 142), (1, knV x1), (2, knV x2), (3, knV x3)] [] μ := by
  intro n
  induction n with
  | zero => intro x3 hx3 μ hf; cases hf
  | succ n ih =>
    intro x3 hx3 μ hf
    unfold kfX13_loopsOf_l29 at hf
    refine kj_iloadn X 3 dX13_loopsOf_29 rfl ?_
    refine kj_aloadn X 0 dX13_loopsOf_30 rfl ?_
    refine kj_geti (k := 8) (ki := 8) X K rfl kdc_142 (by decide) (knEnt_10 kdc_142) rfl (by decide) knInX13 (knGm 1512 (by decide +kernel) rfl) rfl rfl dX13_loopsOf_31 (fun h5 => ?_)
    refine kj_ic_ge X (tgt := 131) dX13_loopsOf_34 (by decide) hx3 h5 (fun h6 => ?_) (fun h6 => ?_)
    · replace hf := knIp hf h6
      refine kj_sub (L' := [(0, knO G 142), (2, knV x2)]) [0, 2] rfl ?_
      exact hk _ hf
    · replace hf := knIq hf h6
      refine kj_aloadn X 0 dX13_loopsOf_37 rfl ?_
      refine kj_iloadn X 3 dX13_loopsOf_38 rfl ?_
      refine kj_iconst X dX13_loopsOf_39 ?_
      obtain ⟨q7, h8, hf⟩ := knBd_inv hf
      refine kj_callV (As := [knV x3, knV 1]) (rest := []) X K (kcX13_passOf l hx3 (show knC (1) from ⟨by omega, by omega⟩) h8) knWvX13_passOf (knGm 1652 (by decide +kernel) rfl) (by decide) (knKd_in kdc_142 (by decide)) (knEnt_10 kdc_142) rfl rfl rfl (Nat.le_of_ble_eq_true rfl) (by decide) dX13_loopsOf_40 rfl (fun h9 => ?_)
      refine kj_istore X (L' := [(4, knV q7), (0, knO G 142), (1, knV x1), (2, knV x2), (3, knV x3)]) dX13_loopsOf_43 (by decide) rfl ?_
      refine kj_aloadn X 1 dX13_loopsOf_45 rfl ?_
      refine kj_iloadn X 4 dX13_loopsOf_46 rfl ?_
      refine kj_iconst X dX13_loopsOf_47 ?_
      obtain ⟨q10, h11, hf⟩ := knBd_inv hf
      refine kj_callV (As := [knV x3, knV 0]) (rest := []) X K (kcX13_passOf l hx3 (show knC (0) from ⟨by omega, by omega⟩) h11) knWvX13_passOf (knGm 1652 (by decide +kernel) rfl) (by decide) (knKd_in kdc_142 (by decide)) (knEnt_10 kdc_142) rfl rfl rfl (Nat.le_of_ble_eq_true rfl) (by decide) dX13_loopsOf_48 rfl (fun h12 => ?_)
      refine kj_istore X (L' := [(5, knV q10), (4, knV q7), (0, knO G 142), (1, knV x1), (2, knV x2), (3, knV x3)]) dX13_loopsOf_51 (by decide) rfl ?_
      refine kj_iload X 1 dX13_loopsOf_53 rfl ?_
      refine kj_iloadn X 4 dX13_loopsOf_55 rfl ?_
      refine kj_iadd X dX13_loopsOf_56 ?_
      refine kj_iconst X dX13_loopsOf_57 ?_
      refine kj_isub X dX13_loopsOf_58 ?_
      refine kj_iloadn X 4 dX13_loopsOf_59 rfl ?_
      obtain ⟨h13, hf⟩ := knGd_inv hf
      refine kj_irem X dX13_loopsOf_60 hx2 h13 ?_
      refine kj_istore X (L' := [(6, knV (knRem (knW ((knW (q7 + x2)) - 1)) x2)), (5, knV q10), (4, knV q7), (0, knO G 142), (1, knV x1), (2, knV x2), (3, knV x3)]) dX13_loopsOf_61 (by decide) rfl ?_
      refine kj_iload X 1 dX13_loopsOf_63 rfl ?_
      refine kj_iloadn X 5 dX13_loopsOf_65 rfl ?_
      refine kj_iadd X dX13_loopsOf_66 ?_
      refine kj_iconst X dX13_loopsOf_67 ?_
      refine kj_isub X dX13_loopsOf_68 ?_
      refine kj_iloadn X 5 dX13_loopsOf_69 rfl ?_
      refine kj_irem X dX13_loopsOf_70 hx2 h13 ?_
      refine kj_istore X (L' := [(7, knV (knRem (knW ((knW (q10 + x2)) - 1)) x2)), (6, knV (knRem (knW ((knW (q7 + x2)) - 1)) x2)), (5, knV q10), (4, knV q7), (0, knO G 142), (1, knV x1), (2, knV x2), (3, knV x3)]) dX13_loopsOf_71 (by decide) rfl ?_
      refine kj_iloadn X 5 dX13_loopsOf_73 rfl ?_
      refine kj_iloadn X 7 dX13_loopsOf_74 rfl ?_
      refine kj_ishr X dX13_loopsOf_75 ?_
      refine kj_iconst X dX13_loopsOf_76 ?_
      refine kj_iand X dX13_loopsOf_77 ?_
      refine kj_iconst X dX13_loopsOf_78 ?_
      have j15 : ∀ (t15_0 : Int) (et15_0 : t15_0 = (if (knAnd (knShr x1 x3) 1) = 1 then 1 else 0 : Int)) (ht15_0 : knZ t15_0), knJ G p l e { frames := 2, cells := 0, slots := 0, locals := 45 } s m args below meth c 9 0 0 (MQ below (knPo G (knC q.1) (some (knV q.1)) q.2) args s 0 0 (knA G)) 87 [(0, knO G 142), (1, knV x1), (2, knV x2), (3, knV x3), (4, knV q7), (5, knV q10), (6, knV (knRem (knW ((knW (q7 + x2)) - 1)) x2)), (7, knV (knRem (knW ((knW (q10 + x2)) - 1)) x2))] [knV t15_0] μ := by
        intro t15_0 et15_0 ht15_0
        subst et15_0
        refine kj_istore X (L' := [(8, knV (if (knAnd (knShr x1 x3) 1) = 1 then 1 else 0 : Int)), (0, knO G 142), (1, knV x1), (2, knV x2), (3, knV x3), (4, knV q7), (5, knV q10), (6, knV (knRem (knW ((knW (q7 + x2)) - 1)) x2)), (7, knV (knRem (knW ((knW (q10 + x2)) - 1)) x2))]) dX13_loopsOf_87 (by decide) rfl ?_
        refine kj_aloadn X 1 dX13_loopsOf_89 rfl ?_
        refine kj_iload X 7 dX13_loopsOf_90 rfl ?_
        refine kj_iload X 0 dX13_loopsOf_92 rfl ?_
        have j18 : ∀ (t18_0 : Int) (et18_0 : t18_0 = (if (if (knAnd (knShr x1 x3) 1) = 1 then 1 else 0 : Int) = 0 then (knRem (knW ((knW (q10 + x2)) - 1)) x2) else q10 : Int)) (ht18_0 : knC t18_0), knJ G p l e { frames := 2, cells := 0, slots := 0, locals := 45 } s m args below meth c 9 0 0 (MQ below (knPo G (knC q.1) (some (knV q.1)) q.2) args s 0 0 (knA G)) 104 [(0, knO G 142), (1, knV x1), (2, knV x2), (3, knV x3), (4, knV q7), (5, knV q10), (7, knV (knRem (knW ((knW (q10 + x2)) - 1)) x2)), (8, knV (if (knAnd (knShr x1 x3) 1) = 1 then 1 else 0 : Int))] [knV t18_0, knV (knRem (knW ((knW (q7 + x2)) - 1)) x2), knO G 142] μ := by
          intro t18_0 et18_0 ht18_0
          subst et18_0
          obtain ⟨q20, h21, hf⟩ := knBd_inv hf
          refine kj_callV (As := [knV (knRem (knW ((knW (q7 + x2)) - 1)) x2), knV (if (if (knAnd (knShr x1 x3) 1) = 1 then 1 else 0 : Int) = 0 then (knRem (knW ((knW (q10 + x2)) - 1)) x2) else q10 : Int)]) (rest := []) X K (kcX13_joins l (knC_rem _ _) ht18_0 h21) knWvX13_joins (knGm 1884 (by decide +kernel) rfl) (by decide) (knKd_in kdc_142 (by decide)) (knEnt_10 kdc_142) rfl rfl rfl (Nat.le_of_ble_eq_true rfl) (by decide) dX13_loopsOf_104 rfl (fun h22 => ?_)
          refine kj_aloadn X 0 dX13_loopsOf_107 rfl ?_
          refine kj_iload X 7 dX13_loopsOf_108 rfl ?_
          have j24 : ∀ (t24_0 : Int) (et24_0 : t24_0 = (if (if (knAnd (knShr x1 x3) 1) = 1 then 1 else 0 : Int) = 0 then q10 else (knRem (knW ((knW (q10 + x2)) - 1)) x2) : Int)) (ht24_0 : knC t24_0), knJ G p l e { frames := 2, cells := 0, slots := 0, locals := 45 } s m args below meth c 9 0 0 (MQ below (knPo G (knC q.1) (some (knV q.1)) q.2) args s 0 0 (knA G)) 120 [(0, knO G 142), (1, knV x1), (2, knV x2), (3, knV x3), (4, knV q7)] [knV t24_0, knO G 142] q20 := by
            intro t24_0 et24_0 ht24_0
            subst et24_0
            refine kj_iload X 4 dX13_loopsOf_120 rfl ?_
            obtain ⟨q26, h27, hf⟩ := knBd_inv hf
            refine kj_callV (As := [knV (if (if (knAnd (knShr x1 x3) 1) = 1 then 1 else 0 : Int) = 0 then q10 else (knRem (knW ((knW (q10 + x2)) - 1)) x2) : Int), knV q7]) (rest := []) X K (kcX13_joins l ht24_0 h9 h27) knWvX13_joins (knGm 1884 (by decide +kernel) rfl) (by decide) (knKd_in kdc_142 (by decide)) (knEnt_10 kdc_142) rfl rfl rfl (Nat.le_of_ble_eq_true rfl) (by decide) dX13_loopsOf_122 rfl (fun h28 => ?_)
            refine kj_iinc X 3 (L' := [(3, knV (knW (x3 + 1))), (0, knO G 142), (1, knV x1), (2, knV x2), (4, knV q7)]) dX13_loopsOf_125 rfl (by decide) rfl ?_
            refine kj_goto X (tgt := 29) dX13_loopsOf_128 (by decide) ?_
            refine kj_sub (L' := [(0, knO G 142), (1, knV x1), (2, knV x2), (3, knV (knW (x3 + 1)))]) [1, 2, 3, 0] rfl ?_
            exact ih _ (knCw _) _ hf
          refine kj_if_eq X (tgt := 118) dX13_loopsOf_110 (by decide) (knZ_c ht15_0) (fun h29 => ?_) (fun h29 => ?_)
          · refine kj_iload X 5 dX13_loopsOf_118 rfl ?_
            refine kj_sub (L' := [(0, knO G 142), (1, knV x1), (2, knV x2), (3, knV x3), (4, knV q7)]) [0, 1, 2, 3, 4] rfl ?_
            exact j24 q10 (by rw [if_pos h29]) h12
          · refine kj_iload X 6 dX13_loopsOf_113 rfl ?_
            refine kj_goto X (tgt := 120) dX13_loopsOf_115 (by decide) ?_
            refine kj_sub (L' := [(0, knO G 142), (1, knV x1), (2, knV x2), (3, knV x3), (4, knV q7)]) [0, 1, 2, 3, 4] rfl ?_
            exact j24 (knRem (knW ((knW (q10 + x2)) - 1)) x2) (by rw [if_neg h29]) (knC_rem _ _)
        refine kj_if_eq X (tgt := 102) dX13_loopsOf_94 (by decide) (knZ_c ht15_0) (fun h30 => ?_) (fun h30 => ?_)
        · refine kj_iload X 8 dX13_loopsOf_102 rfl ?_
          refine kj_sub (L' := [(0, knO G 142), (1, knV x1), (2, knV x2), (3, knV x3), (4, knV q7), (5, knV q10), (7, knV (knRem (knW ((knW (q10 + x2)) - 1)) x2)), (8, knV (if (knAnd (knShr x1 x3) 1) = 1 then 1 else 0 : Int))]) [1, 2, 3, 4, 5, 6, 8, 0] rfl ?_
          exact j18 (knRem (knW ((knW (q10 + x2)) - 1)) x2) (by rw [if_pos h30]) (knC_rem _ _)
        · refine kj_iload X 6 dX13_loopsOf_97 rfl ?_
          refine kj_goto X (tgt := 104) dX13_loopsOf_99 (by decide) ?_
          refine kj_sub (L' := [(0, knO G 142), (1, knV x1), (2, knV x2), (3, knV x3), (4, knV q7), (5, knV q10), (7, knV (knRem (knW ((knW (q10 + x2)) - 1)) x2)), (8, knV (if (knAnd (knShr x1 x3) 1) = 1 then 1 else 0 : Int))]) [1, 2, 3, 4, 5, 6, 8, 0] rfl ?_
          exact j18 q10 (by rw [if_neg h30]) h12
      refine kj_ic_ne X (tgt := 86) dX13_loopsOf_79 (by decide) (knC_and _ _) (show knC (1) from ⟨by omega, by omega⟩) (fun h31 => ?_) (fun h31 => ?_)
      · refine kj_iconst X dX13_loopsOf_86 ?_
        refine kj_sub (L' := [(0, knO G 142), (1, knV x1), (2, knV x2), (3, knV x3), (4, knV q7), (5, knV q10), (6, knV (knRem (knW ((knW (q7 + x2)) - 1)) x2)), (7, knV (knRem (knW ((knW (q10 + x2)) - 1)) x2))]) [4, 5, 6, 7, 3, 2, 1, 0] rfl ?_
        exact j15 0 (by rw [if_neg h31]) (Or.inl rfl)
      · refine kj_iconst X dX13_loopsOf_82 ?_
        refine kj_goto X (tgt := 87) dX13_loopsOf_83 (by decide) ?_
        refine kj_sub (L' := [(0, knO G 142), (1, knV x1), (2, knV x2), (3, knV x3), (4, knV q7), (5, knV q10), (6, knV (knRem (knW ((knW (q7 + x2)) - 1)) x2)), (7, knV (knRem (knW ((knW (q10 + x2)) - 1)) x2))]) [4, 5, 6, 7, 3, 2, 1, 0] rfl ?_
        exact j15 1 (by rw [if_pos h31]) (Or.inr rfl)

set_option maxHeartbeats 4000000 in
set_option maxRecDepth 100000 in
theorem kfX13_loopsOf_l136_ok {q : Int × knMem} {kc : (Int) → Option (Int × knMem)} {G : knGT} {p : Program} {l : Launch} {e : Env} {s : State} {m : MethodId} {args : Array Value} {below : List Frame} {meth : Method} {c : Code} (X : knX p m c cX13_loopsOf 9 s args yX13_loopsOf.cls) (K : knK G s s.heap) (hr : meth.sig.returnType = (some .int)) (hlk : meth.locks = false) (x2 : Int) (hx2 : knC x2) (μ : knMem) (hk : ∀ (y3 : Int) (hy3 : knC y3), kc y3 = some q → knJ G p l e { frames := 2, cells := 0, slots := 0, locals := 45 } s m args below meth c 9 0 0 (MQ below (knPo G (knC q.1) (some (knV q.1)) q.2) args s 0 0 (knA G)) 168 [(0, knO G 142), (3, knV y3)] [] μ) : ∀ (n : Nat) (x3 : Int) (hx3 : knC x3) (x4 : Int) (hx4 : knC x4) , kfX13_loopsOf_l136  x2 μ kc n x3 x4 = some q → knJ G p l e { frames := 2, cells := 0, slots := 0, locals := 45 } s m args below meth c 9 0 0 (MQ below (knPo G (knC q.1) (some (knV q.1)) q.2) args s 0 0 (knA G)) 136 [(0, knO G 142), (2, knV x2), (3, knV x3), (4, knV x4)] [] μ := by
  intro n
  induction n with
  | zero => intro x3 hx3 x4 hx4 hf; cases hf
  | succ n ih =>
    intro x3 hx3 x4 hx4 hf
    unfold kfX13_loopsOf_l136 at hf
    refine kj_iload X 3 dX13_loopsOf_136 rfl ?_
    refine kj_iloadn X 1 dX13_loopsOf_138 rfl ?_
    refine kj_ic_ge X (tgt := 168) dX13_loopsOf_139 (by decide) hx4 hx2 (fun h33 => ?_) (fun h33 => ?_)
    · replace hf := knIp hf h33
      refine kj_sub (L' := [(0, knO G 142), (3, knV x3)]) [0, 2] rfl ?_
      exact hk _ hx3 hf
    · replace hf := knIq hf h33
      refine kj_iloadn X 2 dX13_loopsOf_142 rfl ?_
      refine kj_aloadn X 0 dX13_loopsOf_143 rfl ?_
      refine kj_geto (k := 13) (o2 := 151) X K kdc_142 (by decide) (knEnt_10 kdc_142) rfl (by decide) knInX13 (knGm 1517 (by decide +kernel) rfl) rfl rfl dX13_loopsOf_144 ?_
      refine kj_iload X 3 dX13_loopsOf_147 rfl ?_
      obtain ⟨h34, hf⟩ := knGd_inv hf
      refine kj_iald X K kdc_151 hx4 lnc_151 h34 dX13_loopsOf_149 (fun h35 => ?_)
      refine kj_iload X 3 dX13_loopsOf_150 rfl ?_
      have j37 : ∀ (t37_0 : Int) (et37_0 : t37_0 = (if (μ 151 x4) = x4 then 1 else 0 : Int)) (ht37_0 : knZ t37_0), knJ G p l e { frames := 2, cells := 0, slots := 0, locals := 45 } s m args below meth c 9 0 0 (MQ below (knPo G (knC q.1) (some (knV q.1)) q.2) args s 0 0 (knA G)) 160 [(0, knO G 142), (2, knV x2), (4, knV x4)] [knV t37_0, knV x3] μ := by
        intro t37_0 et37_0 ht37_0
        subst et37_0
        refine kj_iadd X dX13_loopsOf_160 ?_
        refine kj_istoren X (L' := [(3, knV (knW (x3 + (if (μ 151 x4) = x4 then 1 else 0 : Int)))), (0, knO G 142), (2, knV x2), (4, knV x4)]) dX13_loopsOf_161 (by decide) rfl ?_
        refine kj_iinc X 3 (L' := [(4, knV (knW (x4 + 1))), (3, knV (knW (x3 + (if (μ 151 x4) = x4 then 1 else 0 : Int)))), (0, knO G 142), (2, knV x2)]) dX13_loopsOf_162 rfl (by decide) rfl ?_
        refine kj_goto X (tgt := 136) dX13_loopsOf_165 (by decide) ?_
        refine kj_sub (L' := [(0, knO G 142), (2, knV x2), (3, knV (knW (x3 + (if (μ 151 x4) = x4 then 1 else 0 : Int)))), (4, knV (knW (x4 + 1)))]) [2, 3, 1, 0] rfl ?_
        exact ih _ (knCw _) _ (knCw _)  hf
      refine kj_ic_ne X (tgt := 159) dX13_loopsOf_152 (by decide) h35 hx4 (fun h39 => ?_) (fun h39 => ?_)
      · refine kj_iconst X dX13_loopsOf_159 ?_
        refine kj_sub (L' := [(0, knO G 142), (2, knV x2), (4, knV x4)]) [0, 1, 3] rfl ?_
        exact j37 0 (by rw [if_neg h39]) (Or.inl rfl)
      · refine kj_iconst X dX13_loopsOf_155 ?_
        refine kj_goto X (tgt := 160) dX13_loopsOf_156 (by decide) ?_
        refine kj_sub (L' := [(0, knO G 142), (2, knV x2), (4, knV x4)]) [0, 1, 3] rfl ?_
        exact j37 1 (by rw [if_pos h39]) (Or.inr rfl)

set_option maxHeartbeats 4000000 in
set_option maxRecDepth 100000 in
theorem kcX13_loopsOf {G : knGT} (l : Launch) {a1 : Int} (ha1 : knC a1) {μ : knMem} {q : Int × knMem} (hf : kfX13_loopsOf a1 μ = some q) : knC0 G l yX13_loopsOf cX13_loopsOf 9 (some .int) 2 45 [knO G 142, knV a1] μ (knC q.1) (some (knV q.1)) q.2 := by
  unfold kfX13_loopsOf at hf
  refine kn_ofJ (plainFor_of_name (by decide)) (Nat.le_of_ble_eq_true rfl) (L := [(0, knO G 142), (1, knV a1)]) rfl ?_
  intro p e s m args below meth c X K hr hlk
  refine kj_iconst X dX13_loopsOf_0 ?_
  refine kj_aloadn X 0 dX13_loopsOf_1 rfl ?_
  refine kj_geti (k := 8) (ki := 8) X K rfl kdc_142 (by decide) (knEnt_10 kdc_142) rfl (by decide) knInX13 (knGm 1512 (by decide +kernel) rfl) rfl rfl dX13_loopsOf_2 (fun h1 => ?_)
  refine kj_imul X dX13_loopsOf_5 ?_
  refine kj_istoren X (L' := [(2, knV (knW (2 * (μ 142 8)))), (0, knO G 142), (1, knV a1)]) dX13_loopsOf_6 (by decide) rfl ?_
  refine kj_iconst X dX13_loopsOf_7 ?_
  refine kj_istoren X (L' := [(3, knV 0), (2, knV (knW (2 * (μ 142 8)))), (0, knO G 142), (1, knV a1)]) dX13_loopsOf_8 (by decide) rfl ?_
  refine kj_sub (L' := [(0, knO G 142), (1, knV a1), (2, knV (knW (2 * (μ 142 8)))), (3, knV 0)]) [2, 3, 1, 0] rfl ?_
  refine kfX13_loopsOf_l9_ok X K hr hlk a1 (knW (2 * (μ 142 8))) ha1 (knCw _)  ?_ knF _ (show knC (0) from ⟨by omega, by omega⟩) _ hf
  intro w4_m
  intro hf
  refine kj_iconst X dX13_loopsOf_27 ?_
  refine kj_istoren X (L' := [(3, knV 0), (0, knO G 142), (1, knV a1), (2, knV (knW (2 * (μ 142 8))))]) dX13_loopsOf_28 (by decide) rfl ?_
  refine kj_sub (L' := [(0, knO G 142), (1, knV a1), (2, knV (knW (2 * (μ 142 8)))), (3, knV 0)]) [1, 2, 3, 0] rfl ?_
  refine kfX13_loopsOf_l29_ok X K hr hlk a1 (knW (2 * (μ 142 8))) ha1 (knCw _)  ?_ knF _ (show knC (0) from ⟨by omega, by omega⟩) _ hf
  intro w62_m
  intro hf
  refine kj_iconst X dX13_loopsOf_131 ?_
  refine kj_istoren X (L' := [(3, knV 0), (0, knO G 142), (2, knV (knW (2 * (μ 142 8))))]) dX13_loopsOf_132 (by decide) rfl ?_
  refine kj_iconst X dX13_loopsOf_133 ?_
  refine kj_istore X (L' := [(4, knV 0), (3, knV 0), (0, knO G 142), (2, knV (knW (2 * (μ 142 8))))]) dX13_loopsOf_134 (by decide) rfl ?_
  refine kj_sub (L' := [(0, knO G 142), (2, knV (knW (2 * (μ 142 8)))), (3, knV 0), (4, knV 0)]) [2, 3, 1, 0] rfl ?_
  refine kfX13_loopsOf_l136_ok X K hr hlk (knW (2 * (μ 142 8))) (knCw _) w62_m ?_ knF _ (show knC (0) from ⟨by omega, by omega⟩) _ (show knC (0) from ⟨by omega, by omega⟩)  hf
  intro w74_0 hw74_0
  intro hf
  refine kj_aloadn X 0 dX13_loopsOf_168 rfl ?_
  refine kj_geti (k := 8) (ki := 8) X K rfl kdc_142 (by decide) (knEnt_10 kdc_142) rfl (by decide) knInX13 (knGm 1512 (by decide +kernel) rfl) rfl rfl dX13_loopsOf_169 (fun h80 => ?_)
  have j82 : ∀ (t82_0 : Int) (et82_0 : t82_0 = (if (w62_m 142 8) = 0 then 1 else w74_0 : Int)) (ht82_0 : knC t82_0), knJ G p l e { frames := 2, cells := 0, slots := 0, locals := 45 } s m args below meth c 9 0 0 (MQ below (knPo G (knC q.1) (some (knV q.1)) q.2) args s 0 0 (knA G)) 180 [] [knV t82_0] w62_m := by
    intro t82_0 et82_0 ht82_0
    subst et82_0
    cases hf
    exact kj_iret X ht82_0 hr dX13_loopsOf_180 hlk
  refine kj_if_ne X (tgt := 179) dX13_loopsOf_172 (by decide) h80 (fun h84 => ?_) (fun h84 => ?_)
  · refine kj_iloadn X 1 dX13_loopsOf_179 rfl ?_
    refine kj_sub (L' := []) [] rfl ?_
    exact j82 w74_0 (by rw [if_neg h84]) hw74_0
  · refine kj_iconst X dX13_loopsOf_175 ?_
    refine kj_goto X (tgt := 180) dX13_loopsOf_176 (by decide) ?_
    refine kj_sub (L' := []) [] rfl ?_
    exact j82 1 (by rw [if_pos h84]) (show knC (1) from ⟨by omega, by omega⟩)

def kfX13_loops (a1 : Int) (μ : knMem) : Option (Int × knMem) :=
 knGd ((0 : Int) ≤ 0 ∧ (0 : Int) < 50)
  (Option.bind (kfX13_isBetween a1 0 (knW ((knShl 1 ((knUp μ 142 0 0) 143 0)) - 1)) (knUp μ 142 0 0)) (fun q3 =>
  if q3 = 0 then
   Option.bind (kfX13_fails 1 (knUp μ 142 0 0)) (fun q13 =>
    some (q13.1, q13.2))
  else
   Option.bind (kfX13_loads  (knUp μ 142 0 0)) (fun q7 =>
    Option.bind (kfX13_loopsOf a1 q7) (fun q10 =>
     some (q10.1, q10.2)))))

theorem knWvX13_loops : knWv yX13_loops cX13_loops 2 (some .int) 1 := ⟨(knGm 1879 (by decide +kernel) rfl), (knGm 124 (by decide +kernel) rfl), (knGm 1877 (by decide +kernel) rfl), (knGm 1878 (by decide +kernel) rfl), by decide +kernel, by decide +kernel, by decide +kernel⟩
set_option maxHeartbeats 4000000 in
set_option maxRecDepth 100000 in
theorem kcX13_loops {G : knGT} (l : Launch) {a1 : Int} (ha1 : knC a1) {μ : knMem} {q : Int × knMem} (hf : kfX13_loops a1 μ = some q) : knC0 G l yX13_loops cX13_loops 2 (some .int) 3 73 [knO G 142, knV a1] μ (knC q.1) (some (knV q.1)) q.2 := by
  unfold kfX13_loops at hf
  refine kn_ofJ (plainFor_of_name (by decide)) (Nat.le_of_ble_eq_true rfl) (L := [(0, knO G 142), (1, knV a1)]) rfl ?_
  intro p e s m args below meth c X K hr hlk
  refine kj_aloadn X 0 dX13_loops_0 rfl ?_
  refine kj_iconst X dX13_loops_1 ?_
  refine kj_putf (k := 0) (ki := 0) (x := 0) (ty := .int) X K rfl (knKd_in kdc_142 (by decide)) (knEnt_10 kdc_142) rfl (by decide) knInX13 tyX13_ok nmX13 (knGm 1504 (by decide +kernel) rfl) rfl rfl (by decide +kernel) rfl rfl (by simp) (by rw [knEnt_10 kdc_142, knUp_row]; rfl) (fun _ => (show knC (0) from ⟨by omega, by omega⟩)) (fun h => by rw [kdc_142] at h; cases h) (fun h => by rw [kdc_142] at h; cases h) dX13_loops_2 ?_
  refine kj_iloadn X 1 dX13_loops_5 rfl ?_
  refine kj_iconst X dX13_loops_6 ?_
  refine kj_iconst X dX13_loops_7 ?_
  refine kj_aloadn X 0 dX13_loops_8 rfl ?_
  refine kj_geto (k := 1) (o2 := 143) X K kdc_142 (by decide) (knEnt_10 kdc_142) rfl (by decide) knInX13 (knGm 1505 (by decide +kernel) rfl) rfl rfl dX13_loops_9 ?_
  refine kj_iconst X dX13_loops_12 ?_
  obtain ⟨h1, hf⟩ := knGd_inv hf
  refine kj_iald X K kdc_143 (show knC (0) from ⟨by omega, by omega⟩) lnc_143 h1 dX13_loops_13 (fun h2 => ?_)
  refine kj_ishl X dX13_loops_14 ?_
  refine kj_iconst X dX13_loops_15 ?_
  refine kj_isub X dX13_loops_16 ?_
  obtain ⟨q3, h4, hf⟩ := knBd_inv hf
  refine kj_callS (As := [knV a1, knV 0, knV (knW ((knShl 1 ((knUp μ 142 0 0) 143 0)) - 1))]) (rest := []) X K (kcX13_isBetween l ha1 (show knC (0) from ⟨by omega, by omega⟩) (knCw _) h4) knWkX13_isBetween (knGm 1601 (by decide +kernel) rfl) (by decide)  rfl (Nat.le_of_ble_eq_true rfl) (by decide) dX13_loops_17 rfl (fun h5 => ?_)
  refine kj_if_ne X (tgt := 29) dX13_loops_20 (by decide) (knZ_c h5) (fun h6 => ?_) (fun h6 => ?_)
  · replace hf := knIq hf h6
    refine kj_aloadn X 0 dX13_loops_29 rfl ?_
    obtain ⟨q7, h8, hf⟩ := knBd_inv hf
    refine kj_callV (As := []) (rest := []) X K (kcX13_loads l  h8) knWvX13_loads (knGm 1624 (by decide +kernel) rfl) (by decide) (knKd_in kdc_142 (by decide)) (knEnt_10 kdc_142) rfl rfl rfl (Nat.le_of_ble_eq_true rfl) (by decide) dX13_loops_30 rfl (fun h9 => ?_)
    refine kj_aloadn X 0 dX13_loops_33 rfl ?_
    refine kj_iloadn X 1 dX13_loops_34 rfl ?_
    obtain ⟨q10, h11, hf⟩ := knBd_inv hf
    refine kj_callV (As := [knV a1]) (rest := []) X K (kcX13_loopsOf l ha1 h11) knWvX13_loopsOf (knGm 1880 (by decide +kernel) rfl) (by decide) (knKd_in kdc_142 (by decide)) (knEnt_10 kdc_142) rfl rfl rfl (Nat.le_of_ble_eq_true rfl) (by decide) dX13_loops_35 rfl (fun h12 => ?_)
    cases hf
    exact kj_iret X h12 hr dX13_loops_38 hlk
  · replace hf := knIp hf h6
    refine kj_aloadn X 0 dX13_loops_23 rfl ?_
    refine kj_iconst X dX13_loops_24 ?_
    obtain ⟨q13, h14, hf⟩ := knBd_inv hf
    refine kj_callV (As := [knV 1]) (rest := []) X K (kcX13_fails l (show knC (1) from ⟨by omega, by omega⟩) h14) knWvX13_fails (knGm 1604 (by decide +kernel) rfl) (by decide) (knKd_in kdc_142 (by decide)) (knEnt_10 kdc_142) rfl rfl rfl (Nat.le_of_ble_eq_true rfl) (by decide) dX13_loops_25 rfl (fun h15 => ?_)
    cases hf
    exact kj_iret X h15 hr dX13_loops_28 hlk

def kfX13_multiplies_l2    (kc : (knMem) → Option (knMem)) : Nat → Int → knMem → Option (knMem)
  | 0, _, _ => none
  | n + 1, x1, μ =>
    if 101 ≤ x1 then
     kc μ
    else
     knGd (0 ≤ x1 ∧ x1 < 101)
      (kfX13_multiplies_l2   kc n (knW (x1 + 1)) (knUp μ 155 x1 0))

def kfX13_multiplies_l23    (kc : (knMem) → Option (knMem)) : Nat → Int → knMem → Option (knMem)
  | 0, _, _ => none
  | n + 1, x1, μ =>
    if 99 ≤ x1 then
     kc μ
    else
     knGd (0 ≤ (knW (x1 + 2)) ∧ (knW (x1 + 2)) < 101)
      (knGd (0 ≤ x1 ∧ x1 < 101)
      (knGd (0 ≤ (knW (x1 - 2)) ∧ (knW (x1 - 2)) < 101)
      (kfX13_multiplies_l23   kc n (knW (x1 + 1)) (knUp (knUp μ 155 (knW (x1 + 2)) (knW ((μ 155 (knW (x1 + 2))) - (μ 154 x1)))) 155 (knW (x1 - 2)) (knW (((knUp μ 155 (knW (x1 + 2)) (knW ((μ 155 (knW (x1 + 2))) - (μ 154 x1)))) 155 (knW (x1 - 2))) - ((knUp μ 155 (knW (x1 + 2)) (knW ((μ 155 (knW (x1 + 2))) - (μ 154 x1)))) 154 x1)))))))

def kfX13_multiplies_l71    (kc : (knMem) → Option (knMem)) : Nat → Int → knMem → Option (knMem)
  | 0, _, _ => none
  | n + 1, x1, μ =>
    if 101 ≤ x1 then
     kc μ
    else
     knGd (0 ≤ x1 ∧ x1 < 101)
      (kfX13_multiplies_l71   kc n (knW (x1 + 1)) (knUp μ 154 x1 (μ 155 x1)))

def kfX13_multiplies  (μ : knMem) : Option (knMem) :=
 kfX13_multiplies_l2   (fun w3 =>
  kfX13_multiplies_l23   (fun w12 =>
   kfX13_multiplies_l71   (fun w16 =>
    some w16) knF 0 w12) knF 2 w3) knF 0 μ

theorem knWvX13_multiplies : knWv yX13_multiplies cX13_multiplies 2 none 0 := ⟨(knGm 1906 (by decide +kernel) rfl), (knGm 124 (by decide +kernel) rfl), (knGm 1905 (by decide +kernel) rfl), (knGm 84 (by decide +kernel) rfl), by decide +kernel, by decide +kernel, by decide +kernel⟩
set_option maxHeartbeats 4000000 in
set_option maxRecDepth 100000 in
theorem kfX13_multiplies_l2_ok {q : knMem} {kc : (knMem) → Option (knMem)} {G : knGT} {p : Program} {l : Launch} {e : Env} {s : State} {m : MethodId} {args : Array Value} {below : List Frame} {meth : Method} {c : Code} (X : knX p m c cX13_multiplies 2 s args yX13_multiplies.cls) (K : knK G s s.heap) (hr : meth.sig.returnType = none) (hlk : meth.locks = false)    (hk : ∀ (μ1 : knMem), kc μ1 = some q → knJ G p l e { frames := 0, cells := 0, slots := 0, locals := 0 } s m args below meth c 2 0 0 (MQ below (knPo G True none q) args s 0 0 (knA G)) 21 [(0, knO G 142)] [] μ1) : ∀ (n : Nat) (x1 : Int) (hx1 : knC x1) (μ : knMem), kfX13_multiplies_l2   kc n x1 μ = some q → knJ G p l e { frames := 0, cells := 0, slots := 0, locals := 0 } s m args below meth c 2 0 0 (MQ below (knPo G True none q) args s 0 0 (knA G)) 2 [(0, knO G 142), (1, knV x1)] [] μ := by
  intro n
  induction n with
  | zero => intro x1 hx1 μ hf; cases hf
  | succ n ih =>
    intro x1 hx1 μ hf
    unfold kfX13_multiplies_l2 at hf
    refine kj_iloadn X 1 dX13_multiplies_2 rfl ?_
    refine kj_bipush X (n := 101) dX13_multiplies_3 rfl ?_
    refine kj_ic_ge X (tgt := 21) dX13_multiplies_5 (by decide) hx1 (show knC (101) from ⟨by omega, by omega⟩) (fun h1 => ?_) (fun h1 => ?_)
    · replace hf := knIp hf h1
      refine kj_sub (L' := [(0, knO G 142)]) [0] rfl ?_
      exact hk _ hf
    · replace hf := knIq hf h1
      refine kj_aloadn X 0 dX13_multiplies_8 rfl ?_
      refine kj_geto (k := 17) (o2 := 155) X K kdc_142 (by decide) (knEnt_10 kdc_142) rfl (by decide) knInX13 (knGm 1521 (by decide +kernel) rfl) rfl rfl dX13_multiplies_9 ?_
      refine kj_iloadn X 1 dX13_multiplies_12 rfl ?_
      refine kj_iconst X dX13_multiplies_13 ?_
      obtain ⟨h2, hf⟩ := knGd_inv hf
      refine kj_iast X K kdc_155 hx1 (show knC (0) from ⟨by omega, by omega⟩) lnc_155 h2 dX13_multiplies_14 ?_
      refine kj_iinc X 1 (L' := [(1, knV (knW (x1 + 1))), (0, knO G 142)]) dX13_multiplies_15 rfl (by decide) rfl ?_
      refine kj_goto X (tgt := 2) dX13_multiplies_18 (by decide) ?_
      refine kj_sub (L' := [(0, knO G 142), (1, knV (knW (x1 + 1)))]) [1, 0] rfl ?_
      exact ih _ (knCw _) _ hf

set_option maxHeartbeats 4000000 in
set_option maxRecDepth 100000 in
theorem kfX13_multiplies_l23_ok {q : knMem} {kc : (knMem) → Option (knMem)} {G : knGT} {p : Program} {l : Launch} {e : Env} {s : State} {m : MethodId} {args : Array Value} {below : List Frame} {meth : Method} {c : Code} (X : knX p m c cX13_multiplies 2 s args yX13_multiplies.cls) (K : knK G s s.heap) (hr : meth.sig.returnType = none) (hlk : meth.locks = false)    (hk : ∀ (μ1 : knMem), kc μ1 = some q → knJ G p l e { frames := 0, cells := 0, slots := 0, locals := 0 } s m args below meth c 2 0 0 (MQ below (knPo G True none q) args s 0 0 (knA G)) 69 [(0, knO G 142)] [] μ1) : ∀ (n : Nat) (x1 : Int) (hx1 : knC x1) (μ : knMem), kfX13_multiplies_l23   kc n x1 μ = some q → knJ G p l e { frames := 0, cells := 0, slots := 0, locals := 0 } s m args below meth c 2 0 0 (MQ below (knPo G True none q) args s 0 0 (knA G)) 23 [(0, knO G 142), (1, knV x1)] [] μ := by
  intro n
  induction n with
  | zero => intro x1 hx1 μ hf; cases hf
  | succ n ih =>
    intro x1 hx1 μ hf
    unfold kfX13_multiplies_l23 at hf
    refine kj_iloadn X 1 dX13_multiplies_23 rfl ?_
    refine kj_bipush X (n := 99) dX13_multiplies_24 rfl ?_
    refine kj_ic_ge X (tgt := 69) dX13_multiplies_26 (by decide) hx1 (show knC (99) from ⟨by omega, by omega⟩) (fun h4 => ?_) (fun h4 => ?_)
    · replace hf := knIp hf h4
      refine kj_sub (L' := [(0, knO G 142)]) [0] rfl ?_
      exact hk _ hf
    · replace hf := knIq hf h4
      refine kj_aloadn X 0 dX13_multiplies_29 rfl ?_
      refine kj_geto (k := 17) (o2 := 155) X K kdc_142 (by decide) (knEnt_10 kdc_142) rfl (by decide) knInX13 (knGm 1521 (by decide +kernel) rfl) rfl rfl dX13_multiplies_30 ?_
      refine kj_iloadn X 1 dX13_multiplies_33 rfl ?_
      refine kj_iconst X dX13_multiplies_34 ?_
      refine kj_iadd X dX13_multiplies_35 ?_
      refine kj_dup2 X dX13_multiplies_36 rfl rfl ?_
      obtain ⟨h5, hf⟩ := knGd_inv hf
      refine kj_iald X K kdc_155 (knCw _) lnc_155 h5 dX13_multiplies_37 (fun h6 => ?_)
      refine kj_aloadn X 0 dX13_multiplies_38 rfl ?_
      refine kj_geto (k := 16) (o2 := 154) X K kdc_142 (by decide) (knEnt_10 kdc_142) rfl (by decide) knInX13 (knGm 1520 (by decide +kernel) rfl) rfl rfl dX13_multiplies_39 ?_
      refine kj_iloadn X 1 dX13_multiplies_42 rfl ?_
      obtain ⟨h7, hf⟩ := knGd_inv hf
      refine kj_iald X K kdc_154 hx1 lnc_154 h7 dX13_multiplies_43 (fun h8 => ?_)
      refine kj_isub X dX13_multiplies_44 ?_
      refine kj_iast X K kdc_155 (knCw _) (knCw _) lnc_155 h5 dX13_multiplies_45 ?_
      refine kj_aloadn X 0 dX13_multiplies_46 rfl ?_
      refine kj_geto (k := 17) (o2 := 155) X K kdc_142 (by decide) (knEnt_10 kdc_142) rfl (by decide) knInX13 (knGm 1521 (by decide +kernel) rfl) rfl rfl dX13_multiplies_47 ?_
      refine kj_iloadn X 1 dX13_multiplies_50 rfl ?_
      refine kj_iconst X dX13_multiplies_51 ?_
      refine kj_isub X dX13_multiplies_52 ?_
      refine kj_dup2 X dX13_multiplies_53 rfl rfl ?_
      obtain ⟨h9, hf⟩ := knGd_inv hf
      refine kj_iald X K kdc_155 (knCw _) lnc_155 h9 dX13_multiplies_54 (fun h10 => ?_)
      refine kj_aloadn X 0 dX13_multiplies_55 rfl ?_
      refine kj_geto (k := 16) (o2 := 154) X K kdc_142 (by decide) (knEnt_10 kdc_142) rfl (by decide) knInX13 (knGm 1520 (by decide +kernel) rfl) rfl rfl dX13_multiplies_56 ?_
      refine kj_iloadn X 1 dX13_multiplies_59 rfl ?_
      refine kj_iald X K kdc_154 hx1 lnc_154 h7 dX13_multiplies_60 (fun h11 => ?_)
      refine kj_isub X dX13_multiplies_61 ?_
      refine kj_iast X K kdc_155 (knCw _) (knCw _) lnc_155 h9 dX13_multiplies_62 ?_
      refine kj_iinc X 1 (L' := [(1, knV (knW (x1 + 1))), (0, knO G 142)]) dX13_multiplies_63 rfl (by decide) rfl ?_
      refine kj_goto X (tgt := 23) dX13_multiplies_66 (by decide) ?_
      refine kj_sub (L' := [(0, knO G 142), (1, knV (knW (x1 + 1)))]) [1, 0] rfl ?_
      exact ih _ (knCw _) _ hf

set_option maxHeartbeats 4000000 in
set_option maxRecDepth 100000 in
theorem kfX13_multiplies_l71_ok {q : knMem} {kc : (knMem) → Option (knMem)} {G : knGT} {p : Program} {l : Launch} {e : Env} {s : State} {m : MethodId} {args : Array Value} {below : List Frame} {meth : Method} {c : Code} (X : knX p m c cX13_multiplies 2 s args yX13_multiplies.cls) (K : knK G s s.heap) (hr : meth.sig.returnType = none) (hlk : meth.locks = false)    (hk : ∀ (μ1 : knMem), kc μ1 = some q → knJ G p l e { frames := 0, cells := 0, slots := 0, locals := 0 } s m args below meth c 2 0 0 (MQ below (knPo G True none q) args s 0 0 (knA G)) 95 [] [] μ1) : ∀ (n : Nat) (x1 : Int) (hx1 : knC x1) (μ : knMem), kfX13_multiplies_l71   kc n x1 μ = some q → knJ G p l e { frames := 0, cells := 0, slots := 0, locals := 0 } s m args below meth c 2 0 0 (MQ below (knPo G True none q) args s 0 0 (knA G)) 71 [(0, knO G 142), (1, knV x1)] [] μ := by
  intro n
  induction n with
  | zero => intro x1 hx1 μ hf; cases hf
  | succ n ih =>
    intro x1 hx1 μ hf
    unfold kfX13_multiplies_l71 at hf
    refine kj_iloadn X 1 dX13_multiplies_71 rfl ?_
    refine kj_bipush X (n := 101) dX13_multiplies_72 rfl ?_
    refine kj_ic_ge X (tgt := 95) dX13_multiplies_74 (by decide) hx1 (show knC (101) from ⟨by omega, by omega⟩) (fun h13 => ?_) (fun h13 => ?_)
    · replace hf := knIp hf h13
      refine kj_sub (L' := []) [] rfl ?_
      exact hk _ hf
    · replace hf := knIq hf h13
      refine kj_aloadn X 0 dX13_multiplies_77 rfl ?_
      refine kj_geto (k := 16) (o2 := 154) X K kdc_142 (by decide) (knEnt_10 kdc_142) rfl (by decide) knInX13 (knGm 1520 (by decide +kernel) rfl) rfl rfl dX13_multiplies_78 ?_
      refine kj_iloadn X 1 dX13_multiplies_81 rfl ?_
      refine kj_aloadn X 0 dX13_multiplies_82 rfl ?_
      refine kj_geto (k := 17) (o2 := 155) X K kdc_142 (by decide) (knEnt_10 kdc_142) rfl (by decide) knInX13 (knGm 1521 (by decide +kernel) rfl) rfl rfl dX13_multiplies_83 ?_
      refine kj_iloadn X 1 dX13_multiplies_86 rfl ?_
      obtain ⟨h14, hf⟩ := knGd_inv hf
      refine kj_iald X K kdc_155 hx1 lnc_155 h14 dX13_multiplies_87 (fun h15 => ?_)
      refine kj_iast X K kdc_154 hx1 h15 lnc_154 h14 dX13_multiplies_88 ?_
      refine kj_iinc X 1 (L' := [(1, knV (knW (x1 + 1))), (0, knO G 142)]) dX13_multiplies_89 rfl (by decide) rfl ?_
      refine kj_goto X (tgt := 71) dX13_multiplies_92 (by decide) ?_
      refine kj_sub (L' := [(0, knO G 142), (1, knV (knW (x1 + 1)))]) [1, 0] rfl ?_
      exact ih _ (knCw _) _ hf

set_option maxHeartbeats 4000000 in
set_option maxRecDepth 100000 in
theorem kcX13_multiplies {G : knGT} (l : Launch)   {μ : knMem} {q : knMem} (hf : kfX13_multiplies  μ = some q) : knC0 G l yX13_multiplies cX13_multiplies 2 none 0 0 [knO G 142] μ True none q := by
  unfold kfX13_multiplies at hf
  refine kn_ofJ (plainFor_of_name (by decide)) (Nat.le_of_ble_eq_true rfl) (L := [(0, knO G 142)]) rfl ?_
  intro p e s m args below meth c X K hr hlk
  refine kj_iconst X dX13_multiplies_0 ?_
  refine kj_istoren X (L' := [(1, knV 0), (0, knO G 142)]) dX13_multiplies_1 (by decide) rfl ?_
  refine kj_sub (L' := [(0, knO G 142), (1, knV 0)]) [1, 0] rfl ?_
  refine kfX13_multiplies_l2_ok X K hr hlk    ?_ knF _ (show knC (0) from ⟨by omega, by omega⟩) _ hf
  intro w3_m
  intro hf
  refine kj_iconst X dX13_multiplies_21 ?_
  refine kj_istoren X (L' := [(1, knV 2), (0, knO G 142)]) dX13_multiplies_22 (by decide) rfl ?_
  refine kj_sub (L' := [(0, knO G 142), (1, knV 2)]) [1, 0] rfl ?_
  refine kfX13_multiplies_l23_ok X K hr hlk    ?_ knF _ (show knC (2) from ⟨by omega, by omega⟩) _ hf
  intro w18_m
  intro hf
  refine kj_iconst X dX13_multiplies_69 ?_
  refine kj_istoren X (L' := [(1, knV 0), (0, knO G 142)]) dX13_multiplies_70 (by decide) rfl ?_
  refine kj_sub (L' := [(0, knO G 142), (1, knV 0)]) [1, 0] rfl ?_
  refine kfX13_multiplies_l71_ok X K hr hlk    ?_ knF _ (show knC (0) from ⟨by omega, by omega⟩) _ hf
  intro w20_m
  intro hf
  cases hf
  exact kj_vret X trivial hr dX13_multiplies_95 hlk

def kfX13_findsBracket_l6    (kc : (knMem) → Option (knMem)) : Nat → Int → knMem → Option (knMem)
  | 0, _, _ => none
  | n + 1, x1, μ =>
    if 101 ≤ x1 then
     kc μ
    else
     knGd (0 ≤ x1 ∧ x1 < 101)
      (kfX13_findsBracket_l6   kc n (knW (x1 + 1)) (knUp μ 152 x1 0))

def kfX13_findsBracket_l41  (x1 : Int) (μ : knMem) (kc : (Int) → Option (knMem)) : Nat → Int → Int → Option (knMem)
  | 0, _, _ => none
  | n + 1, x2, x3 =>
    if (μ 142 8) ≤ x3 then
     kc x2
    else
     knGd (0 ≤ x3 ∧ x3 < 7)
      (kfX13_findsBracket_l41  x1 μ kc n (knW (x2 + (if (knAnd (knShr x1 x3) 1) = (μ 149 x3) then 1 else -1 : Int))) (knW (x3 + 1)))

def kfX13_findsBracket_l79  (x1 : Int) (x2 : Int)  (kc : (knMem) → Option (knMem)) : Nat → Int → knMem → Option (knMem)
  | 0, _, _ => none
  | n + 1, x3, μ =>
    if 101 ≤ x3 then
     kc μ
    else
     knGd (0 ≤ x3 ∧ x3 < 101)
      (kfX13_findsBracket_l79  x1 x2 kc n (knW (x3 + 1)) (knUp μ 154 x3 (if x3 = (knW (50 + x2)) then 1 else 0 : Int)))

def kfX13_findsBracket_l116  (x1 : Int)  (kc : (knMem) → Option (knMem)) : Nat → Int → knMem → Option (knMem)
  | 0, _, _ => none
  | n + 1, x3, μ =>
    if x3 ≤ 1 then
     kc μ
    else
     Option.bind (kfX13_multiplies  μ) (fun q29 =>
      kfX13_findsBracket_l116  x1 kc n (knW (x3 + (-1))) q29)

def kfX13_findsBracket_l133  (x1 : Int)  (kc : (knMem) → Option (knMem)) : Nat → Int → knMem → Option (knMem)
  | 0, _, _ => none
  | n + 1, x3, μ =>
    if 101 ≤ x3 then
     kc μ
    else
     knGd (0 ≤ x3 ∧ x3 < 101)
      (kfX13_findsBracket_l133  x1 kc n (knW (x3 + 1)) (knUp μ 152 x3 (knW ((μ 152 x3) + (μ 154 x3)))))

def kfX13_findsBracket_l27    (kc : (knMem) → Option (knMem)) : Nat → Int → knMem → Option (knMem)
  | 0, _, _ => none
  | n + 1, x1, μ =>
    if (knShl 1 (μ 142 8)) ≤ x1 then
     kc μ
    else
     kfX13_findsBracket_l41 x1 μ (fun w17 =>
      kfX13_findsBracket_l79 x1 w17  (fun w24 =>
       Option.bind (kfX13_loopsOf x1 w24) (fun q25 =>
        kfX13_findsBracket_l116 x1  (fun w32 =>
         kfX13_findsBracket_l133 x1  (fun w37 =>
          kfX13_findsBracket_l27   kc n (knW (x1 + 1)) w37) knF 0 w32) knF q25.1 q25.2)) knF 0 μ) knF 0 0

def kfX13_findsBracket  (μ : knMem) : Option (knMem) :=
 Option.bind (kfX13_loads  μ) (fun q1 =>
  kfX13_findsBracket_l6   (fun w6 =>
   kfX13_findsBracket_l27   (fun w58 =>
    some w58) knF 0 w6) knF 0 q1)

theorem knWvX13_findsBracket : knWv yX13_findsBracket cX13_findsBracket 4 none 0 := ⟨(knGm 1902 (by decide +kernel) rfl), (knGm 124 (by decide +kernel) rfl), (knGm 1901 (by decide +kernel) rfl), (knGm 83 (by decide +kernel) rfl), by decide +kernel, by decide +kernel, by decide +kernel⟩
set_option maxHeartbeats 4000000 in
set_option maxRecDepth 100000 in
theorem kfX13_findsBracket_l6_ok {q : knMem} {kc : (knMem) → Option (knMem)} {G : knGT} {p : Program} {l : Launch} {e : Env} {s : State} {m : MethodId} {args : Array Value} {below : List Frame} {meth : Method} {c : Code} (X : knX p m c cX13_findsBracket 4 s args yX13_findsBracket.cls) (K : knK G s s.heap) (hr : meth.sig.returnType = none) (hlk : meth.locks = false)    (hk : ∀ (μ1 : knMem), kc μ1 = some q → knJ G p l e { frames := 3, cells := 0, slots := 0, locals := 73 } s m args below meth c 4 0 0 (MQ below (knPo G True none q) args s 0 0 (knA G)) 25 [(0, knO G 142)] [] μ1) : ∀ (n : Nat) (x1 : Int) (hx1 : knC x1) (μ : knMem), kfX13_findsBracket_l6   kc n x1 μ = some q → knJ G p l e { frames := 3, cells := 0, slots := 0, locals := 73 } s m args below meth c 4 0 0 (MQ below (knPo G True none q) args s 0 0 (knA G)) 6 [(0, knO G 142), (1, knV x1)] [] μ := by
  intro n
  induction n with
  | zero => intro x1 hx1 μ hf; cases hf
  | succ n ih =>
    intro x1 hx1 μ hf
    unfold kfX13_findsBracket_l6 at hf
    refine kj_iloadn X 1 dX13_findsBracket_6 rfl ?_
    refine kj_bipush X (n := 101) dX13_findsBracket_7 rfl ?_
    refine kj_ic_ge X (tgt := 25) dX13_findsBracket_9 (by decide) hx1 (show knC (101) from ⟨by omega, by omega⟩) (fun h4 => ?_) (fun h4 => ?_)
    · replace hf := knIp hf h4
      refine kj_sub (L' := [(0, knO G 142)]) [0] rfl ?_
      exact hk _ hf
    · replace hf := knIq hf h4
      refine kj_aloadn X 0 dX13_findsBracket_12 rfl ?_
      refine kj_geto (k := 14) (o2 := 152) X K kdc_142 (by decide) (knEnt_10 kdc_142) rfl (by decide) knInX13 (knGm 1518 (by decide +kernel) rfl) rfl rfl dX13_findsBracket_13 ?_
      refine kj_iloadn X 1 dX13_findsBracket_16 rfl ?_
      refine kj_iconst X dX13_findsBracket_17 ?_
      obtain ⟨h5, hf⟩ := knGd_inv hf
      refine kj_iast X K kdc_152 hx1 (show knC (0) from ⟨by omega, by omega⟩) lnc_152 h5 dX13_findsBracket_18 ?_
      refine kj_iinc X 1 (L' := [(1, knV (knW (x1 + 1))), (0, knO G 142)]) dX13_findsBracket_19 rfl (by decide) rfl ?_
      refine kj_goto X (tgt := 6) dX13_findsBracket_22 (by decide) ?_
      refine kj_sub (L' := [(0, knO G 142), (1, knV (knW (x1 + 1)))]) [1, 0] rfl ?_
      exact ih _ (knCw _) _ hf

set_option maxHeartbeats 4000000 in
set_option maxRecDepth 100000 in
theorem kfX13_findsBracket_l41_ok {q : knMem} {kc : (Int) → Option (knMem)} {G : knGT} {p : Program} {l : Launch} {e : Env} {s : State} {m : MethodId} {args : Array Value} {below : List Frame} {meth : Method} {c : Code} (X : knX p m c cX13_findsBracket 4 s args yX13_findsBracket.cls) (K : knK G s s.heap) (hr : meth.sig.returnType = none) (hlk : meth.locks = false) (x1 : Int) (hx1 : knC x1) (μ : knMem) (hk : ∀ (y2 : Int) (hy2 : knC y2), kc y2 = some q → knJ G p l e { frames := 3, cells := 0, slots := 0, locals := 73 } s m args below meth c 4 0 0 (MQ below (knPo G True none q) args s 0 0 (knA G)) 77 [(0, knO G 142), (1, knV x1), (2, knV y2)] [] μ) : ∀ (n : Nat) (x2 : Int) (hx2 : knC x2) (x3 : Int) (hx3 : knC x3) , kfX13_findsBracket_l41  x1 μ kc n x2 x3 = some q → knJ G p l e { frames := 3, cells := 0, slots := 0, locals := 73 } s m args below meth c 4 0 0 (MQ below (knPo G True none q) args s 0 0 (knA G)) 41 [(0, knO G 142), (1, knV x1), (2, knV x2), (3, knV x3)] [] μ := by
  intro n
  induction n with
  | zero => intro x2 hx2 x3 hx3 hf; cases hf
  | succ n ih =>
    intro x2 hx2 x3 hx3 hf
    unfold kfX13_findsBracket_l41 at hf
    refine kj_iloadn X 3 dX13_findsBracket_41 rfl ?_
    refine kj_aloadn X 0 dX13_findsBracket_42 rfl ?_
    refine kj_geti (k := 8) (ki := 8) X K rfl kdc_142 (by decide) (knEnt_10 kdc_142) rfl (by decide) knInX13 (knGm 1512 (by decide +kernel) rfl) rfl rfl dX13_findsBracket_43 (fun h9 => ?_)
    refine kj_ic_ge X (tgt := 77) dX13_findsBracket_46 (by decide) hx3 h9 (fun h10 => ?_) (fun h10 => ?_)
    · replace hf := knIp hf h10
      refine kj_sub (L' := [(0, knO G 142), (1, knV x1), (2, knV x2)]) [0, 1, 2] rfl ?_
      exact hk _ hx2 hf
    · replace hf := knIq hf h10
      refine kj_iloadn X 2 dX13_findsBracket_49 rfl ?_
      refine kj_iloadn X 1 dX13_findsBracket_50 rfl ?_
      refine kj_iloadn X 3 dX13_findsBracket_51 rfl ?_
      refine kj_ishr X dX13_findsBracket_52 ?_
      refine kj_iconst X dX13_findsBracket_53 ?_
      refine kj_iand X dX13_findsBracket_54 ?_
      refine kj_aloadn X 0 dX13_findsBracket_55 rfl ?_
      refine kj_geto (k := 11) (o2 := 149) X K kdc_142 (by decide) (knEnt_10 kdc_142) rfl (by decide) knInX13 (knGm 1515 (by decide +kernel) rfl) rfl rfl dX13_findsBracket_56 ?_
      refine kj_iloadn X 3 dX13_findsBracket_59 rfl ?_
      obtain ⟨h11, hf⟩ := knGd_inv hf
      refine kj_iald X K kdc_149 hx3 lnc_149 h11 dX13_findsBracket_60 (fun h12 => ?_)
      have j14 : ∀ (t14_0 : Int) (et14_0 : t14_0 = (if (knAnd (knShr x1 x3) 1) = (μ 149 x3) then 1 else -1 : Int)) (ht14_0 : knC t14_0), knJ G p l e { frames := 3, cells := 0, slots := 0, locals := 73 } s m args below meth c 4 0 0 (MQ below (knPo G True none q) args s 0 0 (knA G)) 69 [(0, knO G 142), (1, knV x1), (3, knV x3)] [knV t14_0, knV x2] μ := by
        intro t14_0 et14_0 ht14_0
        subst et14_0
        refine kj_iadd X dX13_findsBracket_69 ?_
        refine kj_istoren X (L' := [(2, knV (knW (x2 + (if (knAnd (knShr x1 x3) 1) = (μ 149 x3) then 1 else -1 : Int)))), (0, knO G 142), (1, knV x1), (3, knV x3)]) dX13_findsBracket_70 (by decide) rfl ?_
        refine kj_iinc X 3 (L' := [(3, knV (knW (x3 + 1))), (2, knV (knW (x2 + (if (knAnd (knShr x1 x3) 1) = (μ 149 x3) then 1 else -1 : Int)))), (0, knO G 142), (1, knV x1)]) dX13_findsBracket_71 rfl (by decide) rfl ?_
        refine kj_goto X (tgt := 41) dX13_findsBracket_74 (by decide) ?_
        refine kj_sub (L' := [(0, knO G 142), (1, knV x1), (2, knV (knW (x2 + (if (knAnd (knShr x1 x3) 1) = (μ 149 x3) then 1 else -1 : Int)))), (3, knV (knW (x3 + 1)))]) [2, 3, 1, 0] rfl ?_
        exact ih _ (knCw _) _ (knCw _)  hf
      refine kj_ic_ne X (tgt := 68) dX13_findsBracket_61 (by decide) (knC_and _ _) h12 (fun h16 => ?_) (fun h16 => ?_)
      · refine kj_iconst X dX13_findsBracket_68 ?_
        refine kj_sub (L' := [(0, knO G 142), (1, knV x1), (3, knV x3)]) [0, 1, 3] rfl ?_
        exact j14 (-1) (by rw [if_neg h16]) (show knC (-1) from ⟨by omega, by omega⟩)
      · refine kj_iconst X dX13_findsBracket_64 ?_
        refine kj_goto X (tgt := 69) dX13_findsBracket_65 (by decide) ?_
        refine kj_sub (L' := [(0, knO G 142), (1, knV x1), (3, knV x3)]) [0, 1, 3] rfl ?_
        exact j14 1 (by rw [if_pos h16]) (show knC (1) from ⟨by omega, by omega⟩)

set_option maxHeartbeats 4000000 in
set_option maxRecDepth 100000 in
theorem kfX13_findsBracket_l79_ok {q : knMem} {kc : (knMem) → Option (knMem)} {G : knGT} {p : Program} {l : Launch} {e : Env} {s : State} {m : MethodId} {args : Array Value} {below : List Frame} {meth : Method} {c : Code} (X : knX p m c cX13_findsBracket 4 s args yX13_findsBracket.cls) (K : knK G s s.heap) (hr : meth.sig.returnType = none) (hlk : meth.locks = false) (x1 : Int) (x2 : Int) (hx1 : knC x1) (hx2 : knC x2)  (hk : ∀ (μ1 : knMem), kc μ1 = some q → knJ G p l e { frames := 3, cells := 0, slots := 0, locals := 73 } s m args below meth c 4 0 0 (MQ below (knPo G True none q) args s 0 0 (knA G)) 110 [(0, knO G 142), (1, knV x1)] [] μ1) : ∀ (n : Nat) (x3 : Int) (hx3 : knC x3) (μ : knMem), kfX13_findsBracket_l79  x1 x2 kc n x3 μ = some q → knJ G p l e { frames := 3, cells := 0, slots := 0, locals := 73 } s m args below meth c 4 0 0 (MQ below (knPo G True none q) args s 0 0 (knA G)) 79 [(0, knO G 142), (1, knV x1), (2, knV x2), (3, knV x3)] [] μ := by
  intro n
  induction n with
  | zero => intro x3 hx3 μ hf; cases hf
  | succ n ih =>
    intro x3 hx3 μ hf
    unfold kfX13_findsBracket_l79 at hf
    refine kj_iloadn X 3 dX13_findsBracket_79 rfl ?_
    refine kj_bipush X (n := 101) dX13_findsBracket_80 rfl ?_
    refine kj_ic_ge X (tgt := 110) dX13_findsBracket_82 (by decide) hx3 (show knC (101) from ⟨by omega, by omega⟩) (fun h18 => ?_) (fun h18 => ?_)
    · replace hf := knIp hf h18
      refine kj_sub (L' := [(0, knO G 142), (1, knV x1)]) [0, 1] rfl ?_
      exact hk _ hf
    · replace hf := knIq hf h18
      refine kj_aloadn X 0 dX13_findsBracket_85 rfl ?_
      refine kj_geto (k := 16) (o2 := 154) X K kdc_142 (by decide) (knEnt_10 kdc_142) rfl (by decide) knInX13 (knGm 1520 (by decide +kernel) rfl) rfl rfl dX13_findsBracket_86 ?_
      refine kj_iloadn X 3 dX13_findsBracket_89 rfl ?_
      refine kj_iloadn X 3 dX13_findsBracket_90 rfl ?_
      refine kj_bipush X (n := 50) dX13_findsBracket_91 rfl ?_
      refine kj_iloadn X 2 dX13_findsBracket_93 rfl ?_
      refine kj_iadd X dX13_findsBracket_94 ?_
      have j20 : ∀ (t20_0 : Int) (et20_0 : t20_0 = (if x3 = (knW (50 + x2)) then 1 else 0 : Int)) (ht20_0 : knZ t20_0), knJ G p l e { frames := 3, cells := 0, slots := 0, locals := 73 } s m args below meth c 4 0 0 (MQ below (knPo G True none q) args s 0 0 (knA G)) 103 [(0, knO G 142), (1, knV x1), (2, knV x2), (3, knV x3)] [knV t20_0, knV x3, knO G 154] μ := by
        intro t20_0 et20_0 ht20_0
        subst et20_0
        obtain ⟨h22, hf⟩ := knGd_inv hf
        refine kj_iast X K kdc_154 hx3 (knZ_c ht20_0) lnc_154 h22 dX13_findsBracket_103 ?_
        refine kj_iinc X 3 (L' := [(3, knV (knW (x3 + 1))), (0, knO G 142), (1, knV x1), (2, knV x2)]) dX13_findsBracket_104 rfl (by decide) rfl ?_
        refine kj_goto X (tgt := 79) dX13_findsBracket_107 (by decide) ?_
        refine kj_sub (L' := [(0, knO G 142), (1, knV x1), (2, knV x2), (3, knV (knW (x3 + 1)))]) [1, 2, 3, 0] rfl ?_
        exact ih _ (knCw _) _ hf
      refine kj_ic_ne X (tgt := 102) dX13_findsBracket_95 (by decide) hx3 (knCw _) (fun h23 => ?_) (fun h23 => ?_)
      · refine kj_iconst X dX13_findsBracket_102 ?_
        refine kj_sub (L' := [(0, knO G 142), (1, knV x1), (2, knV x2), (3, knV x3)]) [0, 1, 2, 3] rfl ?_
        exact j20 0 (by rw [if_neg h23]) (Or.inl rfl)
      · refine kj_iconst X dX13_findsBracket_98 ?_
        refine kj_goto X (tgt := 103) dX13_findsBracket_99 (by decide) ?_
        refine kj_sub (L' := [(0, knO G 142), (1, knV x1), (2, knV x2), (3, knV x3)]) [0, 1, 2, 3] rfl ?_
        exact j20 1 (by rw [if_pos h23]) (Or.inr rfl)

set_option maxHeartbeats 4000000 in
set_option maxRecDepth 100000 in
theorem kfX13_findsBracket_l116_ok {q : knMem} {kc : (knMem) → Option (knMem)} {G : knGT} {p : Program} {l : Launch} {e : Env} {s : State} {m : MethodId} {args : Array Value} {below : List Frame} {meth : Method} {c : Code} (X : knX p m c cX13_findsBracket 4 s args yX13_findsBracket.cls) (K : knK G s s.heap) (hr : meth.sig.returnType = none) (hlk : meth.locks = false) (x1 : Int) (hx1 : knC x1)  (hk : ∀ (μ1 : knMem), kc μ1 = some q → knJ G p l e { frames := 3, cells := 0, slots := 0, locals := 73 } s m args below meth c 4 0 0 (MQ below (knPo G True none q) args s 0 0 (knA G)) 131 [(0, knO G 142), (1, knV x1)] [] μ1) : ∀ (n : Nat) (x3 : Int) (hx3 : knC x3) (μ : knMem), kfX13_findsBracket_l116  x1 kc n x3 μ = some q → knJ G p l e { frames := 3, cells := 0, slots := 0, locals := 73 } s m args below meth c 4 0 0 (MQ below (knPo G True none q) args s 0 0 (knA G)) 116 [(0, knO G 142), (1, knV x1), (3, knV x3)] [] μ := by
  intro n
  induction n with
  | zero => intro x3 hx3 μ hf; cases hf
  | succ n ih =>
    intro x3 hx3 μ hf
    unfold kfX13_findsBracket_l116 at hf
    refine kj_iloadn X 2 dX13_findsBracket_116 rfl ?_
    refine kj_iconst X dX13_findsBracket_117 ?_
    refine kj_ic_le X (tgt := 131) dX13_findsBracket_118 (by decide) hx3 (show knC (1) from ⟨by omega, by omega⟩) (fun h28 => ?_) (fun h28 => ?_)
    · replace hf := knIp hf h28
      refine kj_sub (L' := [(0, knO G 142), (1, knV x1)]) [0, 1] rfl ?_
      exact hk _ hf
    · replace hf := knIq hf h28
      refine kj_aloadn X 0 dX13_findsBracket_121 rfl ?_
      obtain ⟨q29, h30, hf⟩ := knBd_inv hf
      refine kj_callV (As := []) (rest := []) X K (kcX13_multiplies l  h30) knWvX13_multiplies (knGm 1903 (by decide +kernel) rfl) (by decide) (knKd_in kdc_142 (by decide)) (knEnt_10 kdc_142) rfl rfl rfl (Nat.le_of_ble_eq_true rfl) (by decide) dX13_findsBracket_122 rfl (fun h31 => ?_)
      refine kj_iinc X 2 (L' := [(3, knV (knW (x3 + (-1)))), (0, knO G 142), (1, knV x1)]) dX13_findsBracket_125 rfl (by decide) rfl ?_
      refine kj_goto X (tgt := 116) dX13_findsBracket_128 (by decide) ?_
      refine kj_sub (L' := [(0, knO G 142), (1, knV x1), (3, knV (knW (x3 + (-1))))]) [1, 2, 0] rfl ?_
      exact ih _ (knCw _) _ hf

set_option maxHeartbeats 4000000 in
set_option maxRecDepth 100000 in
theorem kfX13_findsBracket_l133_ok {q : knMem} {kc : (knMem) → Option (knMem)} {G : knGT} {p : Program} {l : Launch} {e : Env} {s : State} {m : MethodId} {args : Array Value} {below : List Frame} {meth : Method} {c : Code} (X : knX p m c cX13_findsBracket 4 s args yX13_findsBracket.cls) (K : knK G s s.heap) (hr : meth.sig.returnType = none) (hlk : meth.locks = false) (x1 : Int) (hx1 : knC x1)  (hk : ∀ (μ1 : knMem), kc μ1 = some q → knJ G p l e { frames := 3, cells := 0, slots := 0, locals := 73 } s m args below meth c 4 0 0 (MQ below (knPo G True none q) args s 0 0 (knA G)) 160 [(0, knO G 142), (1, knV x1)] [] μ1) : ∀ (n : Nat) (x3 : Int) (hx3 : knC x3) (μ : knMem), kfX13_findsBracket_l133  x1 kc n x3 μ = some q → knJ G p l e { frames := 3, cells := 0, slots := 0, locals := 73 } s m args below meth c 4 0 0 (MQ below (knPo G True none q) args s 0 0 (knA G)) 133 [(0, knO G 142), (1, knV x1), (3, knV x3)] [] μ := by
  intro n
  induction n with
  | zero => intro x3 hx3 μ hf; cases hf
  | succ n ih =>
    intro x3 hx3 μ hf
    unfold kfX13_findsBracket_l133 at hf
    refine kj_iloadn X 2 dX13_findsBracket_133 rfl ?_
    refine kj_bipush X (n := 101) dX13_findsBracket_134 rfl ?_
    refine kj_ic_ge X (tgt := 160) dX13_findsBracket_136 (by decide) hx3 (show knC (101) from ⟨by omega, by omega⟩) (fun h33 => ?_) (fun h33 => ?_)
    · replace hf := knIp hf h33
      refine kj_sub (L' := [(0, knO G 142), (1, knV x1)]) [0, 1] rfl ?_
      exact hk _ hf
    · replace hf := knIq hf h33
      refine kj_aloadn X 0 dX13_findsBracket_139 rfl ?_
      refine kj_geto (k := 14) (o2 := 152) X K kdc_142 (by decide) (knEnt_10 kdc_142) rfl (by decide) knInX13 (knGm 1518 (by decide +kernel) rfl) rfl rfl dX13_findsBracket_140 ?_
      refine kj_iloadn X 2 dX13_findsBracket_143 rfl ?_
      refine kj_dup2 X dX13_findsBracket_144 rfl rfl ?_
      obtain ⟨h34, hf⟩ := knGd_inv hf
      refine kj_iald X K kdc_152 hx3 lnc_152 h34 dX13_findsBracket_145 (fun h35 => ?_)
      refine kj_aloadn X 0 dX13_findsBracket_146 rfl ?_
      refine kj_geto (k := 16) (o2 := 154) X K kdc_142 (by decide) (knEnt_10 kdc_142) rfl (by decide) knInX13 (knGm 1520 (by decide +kernel) rfl) rfl rfl dX13_findsBracket_147 ?_
      refine kj_iloadn X 2 dX13_findsBracket_150 rfl ?_
      refine kj_iald X K kdc_154 hx3 lnc_154 h34 dX13_findsBracket_151 (fun h36 => ?_)
      refine kj_iadd X dX13_findsBracket_152 ?_
      refine kj_iast X K kdc_152 hx3 (knCw _) lnc_152 h34 dX13_findsBracket_153 ?_
      refine kj_iinc X 2 (L' := [(3, knV (knW (x3 + 1))), (0, knO G 142), (1, knV x1)]) dX13_findsBracket_154 rfl (by decide) rfl ?_
      refine kj_goto X (tgt := 133) dX13_findsBracket_157 (by decide) ?_
      refine kj_sub (L' := [(0, knO G 142), (1, knV x1), (3, knV (knW (x3 + 1)))]) [1, 2, 0] rfl ?_
      exact ih _ (knCw _) _ hf

set_option maxHeartbeats 4000000 in
set_option maxRecDepth 100000 in
theorem kfX13_findsBracket_l27_ok {q : knMem} {kc : (knMem) → Option (knMem)} {G : knGT} {p : Program} {l : Launch} {e : Env} {s : State} {m : MethodId} {args : Array Value} {below : List Frame} {meth : Method} {c : Code} (X : knX p m c cX13_findsBracket 4 s args yX13_findsBracket.cls) (K : knK G s s.heap) (hr : meth.sig.returnType = none) (hlk : meth.locks = false)    (hk : ∀ (μ1 : knMem), kc μ1 = some q → knJ G p l e { frames := 3, cells := 0, slots := 0, locals := 73 } s m args below meth c 4 0 0 (MQ below (knPo G True none q) args s 0 0 (knA G)) 166 [] [] μ1) : ∀ (n : Nat) (x1 : Int) (hx1 : knC x1) (μ : knMem), kfX13_findsBracket_l27   kc n x1 μ = some q → knJ G p l e { frames := 3, cells := 0, slots := 0, locals := 73 } s m args below meth c 4 0 0 (MQ below (knPo G True none q) args s 0 0 (knA G)) 27 [(0, knO G 142), (1, knV x1)] [] μ := by
  intro n
  induction n with
  | zero => intro x1 hx1 μ hf; cases hf
  | succ n ih =>
    intro x1 hx1 μ hf
    unfold kfX13_findsBracket_l27 at hf
    refine kj_iloadn X 1 dX13_findsBracket_27 rfl ?_
    refine kj_iconst X dX13_findsBracket_28 ?_
    refine kj_aloadn X 0 dX13_findsBracket_29 rfl ?_
    refine kj_geti (k := 8) (ki := 8) X K rfl kdc_142 (by decide) (knEnt_10 kdc_142) rfl (by decide) knInX13 (knGm 1512 (by decide +kernel) rfl) rfl rfl dX13_findsBracket_30 (fun h7 => ?_)
    refine kj_ishl X dX13_findsBracket_33 ?_
    refine kj_ic_ge X (tgt := 166) dX13_findsBracket_34 (by decide) hx1 (knC_shl _ _) (fun h8 => ?_) (fun h8 => ?_)
    · replace hf := knIp hf h8
      refine kj_sub (L' := []) [] rfl ?_
      exact hk _ hf
    · replace hf := knIq hf h8
      refine kj_iconst X dX13_findsBracket_37 ?_
      refine kj_istoren X (L' := [(2, knV 0), (0, knO G 142), (1, knV x1)]) dX13_findsBracket_38 (by decide) rfl ?_
      refine kj_iconst X dX13_findsBracket_39 ?_
      refine kj_istoren X (L' := [(3, knV 0), (2, knV 0), (0, knO G 142), (1, knV x1)]) dX13_findsBracket_40 (by decide) rfl ?_
      refine kj_sub (L' := [(0, knO G 142), (1, knV x1), (2, knV 0), (3, knV 0)]) [2, 3, 1, 0] rfl ?_
      refine kfX13_findsBracket_l41_ok X K hr hlk x1 hx1 μ ?_ knF _ (show knC (0) from ⟨by omega, by omega⟩) _ (show knC (0) from ⟨by omega, by omega⟩)  hf
      intro w17_0 hw17_0
      intro hf
      refine kj_iconst X dX13_findsBracket_77 ?_
      refine kj_istoren X (L' := [(3, knV 0), (0, knO G 142), (1, knV x1), (2, knV w17_0)]) dX13_findsBracket_78 (by decide) rfl ?_
      refine kj_sub (L' := [(0, knO G 142), (1, knV x1), (2, knV w17_0), (3, knV 0)]) [1, 2, 3, 0] rfl ?_
      refine kfX13_findsBracket_l79_ok X K hr hlk x1 w17_0 hx1 hw17_0  ?_ knF _ (show knC (0) from ⟨by omega, by omega⟩) _ hf
      intro w45_m
      intro hf
      refine kj_aloadn X 0 dX13_findsBracket_110 rfl ?_
      refine kj_iloadn X 1 dX13_findsBracket_111 rfl ?_
      obtain ⟨q52, h53, hf⟩ := knBd_inv hf
      refine kj_callV (As := [knV x1]) (rest := []) X K (kcX13_loopsOf l hx1 h53) knWvX13_loopsOf (knGm 1880 (by decide +kernel) rfl) (by decide) (knKd_in kdc_142 (by decide)) (knEnt_10 kdc_142) rfl rfl rfl (Nat.le_of_ble_eq_true rfl) (by decide) dX13_findsBracket_112 rfl (fun h54 => ?_)
      refine kj_istoren X (L' := [(3, knV q52.1), (0, knO G 142), (1, knV x1)]) dX13_findsBracket_115 (by decide) rfl ?_
      refine kj_sub (L' := [(0, knO G 142), (1, knV x1), (3, knV q52.1)]) [1, 2, 0] rfl ?_
      refine kfX13_findsBracket_l116_ok X K hr hlk x1 hx1  ?_ knF _ h54 _ hf
      intro w55_m
      intro hf
      refine kj_iconst X dX13_findsBracket_131 ?_
      refine kj_istoren X (L' := [(3, knV 0), (0, knO G 142), (1, knV x1)]) dX13_findsBracket_132 (by decide) rfl ?_
      refine kj_sub (L' := [(0, knO G 142), (1, knV x1), (3, knV 0)]) [1, 2, 0] rfl ?_
      refine kfX13_findsBracket_l133_ok X K hr hlk x1 hx1  ?_ knF _ (show knC (0) from ⟨by omega, by omega⟩) _ hf
      intro w57_m
      intro hf
      refine kj_iinc X 1 (L' := [(1, knV (knW (x1 + 1))), (0, knO G 142)]) dX13_findsBracket_160 rfl (by decide) rfl ?_
      refine kj_goto X (tgt := 27) dX13_findsBracket_163 (by decide) ?_
      refine kj_sub (L' := [(0, knO G 142), (1, knV (knW (x1 + 1)))]) [1, 0] rfl ?_
      exact ih _ (knCw _) _ hf

set_option maxHeartbeats 4000000 in
set_option maxRecDepth 100000 in
theorem kcX13_findsBracket {G : knGT} (l : Launch)   {μ : knMem} {q : knMem} (hf : kfX13_findsBracket  μ = some q) : knC0 G l yX13_findsBracket cX13_findsBracket 4 none 3 73 [knO G 142] μ True none q := by
  unfold kfX13_findsBracket at hf
  refine kn_ofJ (plainFor_of_name (by decide)) (Nat.le_of_ble_eq_true rfl) (L := [(0, knO G 142)]) rfl ?_
  intro p e s m args below meth c X K hr hlk
  refine kj_aloadn X 0 dX13_findsBracket_0 rfl ?_
  obtain ⟨q1, h2, hf⟩ := knBd_inv hf
  refine kj_callV (As := []) (rest := []) X K (kcX13_loads l  h2) knWvX13_loads (knGm 1624 (by decide +kernel) rfl) (by decide) (knKd_in kdc_142 (by decide)) (knEnt_10 kdc_142) rfl rfl rfl (Nat.le_of_ble_eq_true rfl) (by decide) dX13_findsBracket_1 rfl (fun h3 => ?_)
  refine kj_iconst X dX13_findsBracket_4 ?_
  refine kj_istoren X (L' := [(1, knV 0), (0, knO G 142)]) dX13_findsBracket_5 (by decide) rfl ?_
  refine kj_sub (L' := [(0, knO G 142), (1, knV 0)]) [1, 0] rfl ?_
  refine kfX13_findsBracket_l6_ok X K hr hlk    ?_ knF _ (show knC (0) from ⟨by omega, by omega⟩) _ hf
  intro w6_m
  intro hf
  refine kj_iconst X dX13_findsBracket_25 ?_
  refine kj_istoren X (L' := [(1, knV 0), (0, knO G 142)]) dX13_findsBracket_26 (by decide) rfl ?_
  refine kj_sub (L' := [(0, knO G 142), (1, knV 0)]) [1, 0] rfl ?_
  refine kfX13_findsBracket_l27_ok X K hr hlk    ?_ knF _ (show knC (0) from ⟨by omega, by omega⟩) _ hf
  intro w59_m
  intro hf
  cases hf
  exact kj_vret X trivial hr dX13_findsBracket_166 hlk

def kfX13_findsNormal_l13  (x1 : Int)  (kc : (knMem) → Option (knMem)) : Nat → Int → knMem → Option (knMem)
  | 0, _, _ => none
  | n + 1, x2, μ =>
    if 101 ≤ x2 then
     kc μ
    else
     Option.bind (kfX13_isBetween (knW (x2 + x1)) 0 100 μ) (fun q8 =>
      Option.bind (α := Int)
       (if q8 = 0 then
        some 0
       else
        knGd (0 ≤ (knW (x2 + x1)) ∧ (knW (x2 + x1)) < 101)
         (some (μ 152 (knW (x2 + x1)))))
       (fun q14 =>
       Option.bind (kfX13_turns  μ) (fun q15 =>
        knGd (0 ≤ x2 ∧ x2 < 101)
         (kfX13_findsNormal_l13  x1 kc n (knW (x2 + 1)) (knUp μ 153 x2 (if (knRem q15 2) = 0 then q14 else (knW (-q14)) : Int))))))

def kfX13_findsNormal  (μ : knMem) : Option (knMem) :=
 Option.bind (kfX13_findsBracket  μ) (fun q1 =>
  Option.bind (kfX13_turns  q1) (fun q4 =>
   kfX13_findsNormal_l13 (knW (3 * q4))  (fun w35 =>
    some w35) knF 0 q1))

theorem knWvX13_findsNormal : knWv yX13_findsNormal cX13_findsNormal 5 none 0 := ⟨(knGm 1919 (by decide +kernel) rfl), (knGm 124 (by decide +kernel) rfl), (knGm 1918 (by decide +kernel) rfl), (knGm 85 (by decide +kernel) rfl), by decide +kernel, by decide +kernel, by decide +kernel⟩
set_option maxHeartbeats 4000000 in
set_option maxRecDepth 100000 in
theorem kfX13_findsNormal_l13_ok {q : knMem} {kc : (knMem) → Option (knMem)} {G : knGT} {p : Program} {l : Launch} {e : Env} {s : State} {m : MethodId} {args : Array Value} {below : List Frame} {meth : Method} {c : Code} (X : knX p m c cX13_findsNormal 5 s args yX13_findsNormal.cls) (K : knK G s s.heap) (hr : meth.sig.returnType = none) (hlk : meth.locks = false) (x1 : Int) (hx1 : knC x1)  (hk : ∀ (μ1 : knMem), kc μ1 = some q → knJ G p l e { frames := 4, cells := 0, slots := 0, locals := 96 } s m args below meth c 5 0 0 (MQ below (knPo G True none q) args s 0 0 (knA G)) 74 [] [] μ1) : ∀ (n : Nat) (x2 : Int) (hx2 : knC x2) (μ : knMem), kfX13_findsNormal_l13  x1 kc n x2 μ = some q → knJ G p l e { frames := 4, cells := 0, slots := 0, locals := 96 } s m args below meth c 5 0 0 (MQ below (knPo G True none q) args s 0 0 (knA G)) 13 [(0, knO G 142), (1, knV x1), (2, knV x2)] [] μ := by
  intro n
  induction n with
  | zero => intro x2 hx2 μ hf; cases hf
  | succ n ih =>
    intro x2 hx2 μ hf
    unfold kfX13_findsNormal_l13 at hf
    refine kj_iloadn X 2 dX13_findsNormal_13 rfl ?_
    refine kj_bipush X (n := 101) dX13_findsNormal_14 rfl ?_
    refine kj_ic_ge X (tgt := 74) dX13_findsNormal_16 (by decide) hx2 (show knC (101) from ⟨by omega, by omega⟩) (fun h7 => ?_) (fun h7 => ?_)
    · replace hf := knIp hf h7
      refine kj_sub (L' := []) [] rfl ?_
      exact hk _ hf
    · replace hf := knIq hf h7
      refine kj_iloadn X 2 dX13_findsNormal_19 rfl ?_
      refine kj_iloadn X 1 dX13_findsNormal_20 rfl ?_
      refine kj_iadd X dX13_findsNormal_21 ?_
      refine kj_istoren X (L' := [(3, knV (knW (x2 + x1))), (0, knO G 142), (1, knV x1), (2, knV x2)]) dX13_findsNormal_22 (by decide) rfl ?_
      refine kj_iloadn X 0 dX13_findsNormal_23 rfl ?_
      refine kj_iconst X dX13_findsNormal_24 ?_
      refine kj_bipush X (n := 100) dX13_findsNormal_25 rfl ?_
      obtain ⟨q8, h9, hf⟩ := knBd_inv hf
      refine kj_callS (As := [knV (knW (x2 + x1)), knV 0, knV 100]) (rest := []) X K (kcX13_isBetween l (knCw _) (show knC (0) from ⟨by omega, by omega⟩) (show knC (100) from ⟨by omega, by omega⟩) h9) knWkX13_isBetween (knGm 1601 (by decide +kernel) rfl) (by decide)  rfl (Nat.le_of_ble_eq_true rfl) (by decide) dX13_findsNormal_27 rfl (fun h10 => ?_)
      have j14 : ∀ (t14_0 : Int) (ht14_0 : knC t14_0), (fun q14 =>
       Option.bind (kfX13_turns  μ) (fun q15 =>
        knGd (0 ≤ x2 ∧ x2 < 101)
         (kfX13_findsNormal_l13  x1 kc n (knW (x2 + 1)) (knUp μ 153 x2 (if (knRem q15 2) = 0 then q14 else (knW (-q14)) : Int))))) t14_0 = some q → knJ G p l e { frames := 4, cells := 0, slots := 0, locals := 96 } s m args below meth c 5 0 0 (MQ below (knPo G True none q) args s 0 0 (knA G)) 43 [(0, knO G 142), (1, knV x1), (2, knV x2)] [knV t14_0] μ := by
        intro t14_0 ht14_0
        intro hf
        refine kj_istore X (L' := [(4, knV t14_0), (0, knO G 142), (1, knV x1), (2, knV x2)]) dX13_findsNormal_43 (by decide) rfl ?_
        refine kj_aloadn X 1 dX13_findsNormal_45 rfl ?_
        refine kj_geto (k := 15) (o2 := 153) X K kdc_142 (by decide) (knEnt_10 kdc_142) rfl (by decide) knInX13 (knGm 1519 (by decide +kernel) rfl) rfl rfl dX13_findsNormal_46 ?_
        refine kj_iloadn X 3 dX13_findsNormal_49 rfl ?_
        refine kj_aloadn X 1 dX13_findsNormal_50 rfl ?_
        obtain ⟨q23, h24, hf⟩ := knBd_inv hf
        refine kj_callV (As := []) (rest := [knV x2, knO G 153]) X K (kcX13_turns l  h24) knWvX13_turns (knGm 1724 (by decide +kernel) rfl) (by decide) (knKd_in kdc_142 (by decide)) (knEnt_10 kdc_142) rfl rfl rfl (Nat.le_of_ble_eq_true rfl) (by decide) dX13_findsNormal_51 rfl (fun h25 => ?_)
        refine kj_iconst X dX13_findsNormal_54 ?_
        refine kj_irem X dX13_findsNormal_55 (show knC (2) from ⟨by omega, by omega⟩) (by decide) ?_
        have j27 : ∀ (t27_0 : Int) (et27_0 : t27_0 = (if (knRem q23 2) = 0 then t14_0 else (knW (-t14_0)) : Int)) (ht27_0 : knC t27_0), knJ G p l e { frames := 4, cells := 0, slots := 0, locals := 96 } s m args below meth c 5 0 0 (MQ below (knPo G True none q) args s 0 0 (knA G)) 67 [(0, knO G 142), (1, knV x1), (2, knV x2)] [knV t27_0, knV x2, knO G 153] μ := by
          intro t27_0 et27_0 ht27_0
          subst et27_0
          obtain ⟨h29, hf⟩ := knGd_inv hf
          refine kj_iast X K kdc_153 hx2 ht27_0 lnc_153 h29 dX13_findsNormal_67 ?_
          refine kj_iinc X 2 (L' := [(2, knV (knW (x2 + 1))), (0, knO G 142), (1, knV x1)]) dX13_findsNormal_68 rfl (by decide) rfl ?_
          refine kj_goto X (tgt := 13) dX13_findsNormal_71 (by decide) ?_
          refine kj_sub (L' := [(0, knO G 142), (1, knV x1), (2, knV (knW (x2 + 1)))]) [1, 2, 0] rfl ?_
          exact ih _ (knCw _) _ hf
        refine kj_if_ne X (tgt := 64) dX13_findsNormal_56 (by decide) (knC_rem _ _) (fun h30 => ?_) (fun h30 => ?_)
        · refine kj_iload X 0 dX13_findsNormal_64 rfl ?_
          refine kj_ineg X dX13_findsNormal_66 ?_
          refine kj_sub (L' := [(0, knO G 142), (1, knV x1), (2, knV x2)]) [1, 2, 3] rfl ?_
          exact j27 (knW (-t14_0)) (by rw [if_neg h30]) (knCw _)
        · refine kj_iload X 0 dX13_findsNormal_59 rfl ?_
          refine kj_goto X (tgt := 67) dX13_findsNormal_61 (by decide) ?_
          refine kj_sub (L' := [(0, knO G 142), (1, knV x1), (2, knV x2)]) [1, 2, 3] rfl ?_
          exact j27 t14_0 (by rw [if_pos h30]) ht14_0
      obtain ⟨b31, hb31, hf⟩ := knBd_inv hf
      refine kj_if_eq X (tgt := 42) dX13_findsNormal_30 (by decide) (knZ_c h10) (fun h32 => ?_) (fun h32 => ?_)
      · replace hb31 := knIp hb31 h32
        refine kj_iconst X dX13_findsNormal_42 ?_
        cases hb31
        refine kj_sub (L' := [(0, knO G 142), (1, knV x1), (2, knV x2)]) [1, 2, 3] rfl ?_
        exact j14 _ (show knC (0) from ⟨by omega, by omega⟩) hf
      · replace hb31 := knIq hb31 h32
        refine kj_aloadn X 1 dX13_findsNormal_33 rfl ?_
        refine kj_geto (k := 14) (o2 := 152) X K kdc_142 (by decide) (knEnt_10 kdc_142) rfl (by decide) knInX13 (knGm 1518 (by decide +kernel) rfl) rfl rfl dX13_findsNormal_34 ?_
        refine kj_iloadn X 0 dX13_findsNormal_37 rfl ?_
        obtain ⟨h33, hb31⟩ := knGd_inv hb31
        refine kj_iald X K kdc_152 (knCw _) lnc_152 h33 dX13_findsNormal_38 (fun h34 => ?_)
        refine kj_goto X (tgt := 43) dX13_findsNormal_39 (by decide) ?_
        cases hb31
        refine kj_sub (L' := [(0, knO G 142), (1, knV x1), (2, knV x2)]) [1, 2, 3] rfl ?_
        exact j14 _ h34 hf

set_option maxHeartbeats 4000000 in
set_option maxRecDepth 100000 in
theorem kcX13_findsNormal {G : knGT} (l : Launch)   {μ : knMem} {q : knMem} (hf : kfX13_findsNormal  μ = some q) : knC0 G l yX13_findsNormal cX13_findsNormal 5 none 4 96 [knO G 142] μ True none q := by
  unfold kfX13_findsNormal at hf
  refine kn_ofJ (plainFor_of_name (by decide)) (Nat.le_of_ble_eq_true rfl) (L := [(0, knO G 142)]) rfl ?_
  intro p e s m args below meth c X K hr hlk
  refine kj_aloadn X 0 dX13_findsNormal_0 rfl ?_
  obtain ⟨q1, h2, hf⟩ := knBd_inv hf
  refine kj_callV (As := []) (rest := []) X K (kcX13_findsBracket l  h2) knWvX13_findsBracket (knGm 1899 (by decide +kernel) rfl) (by decide) (knKd_in kdc_142 (by decide)) (knEnt_10 kdc_142) rfl rfl rfl (Nat.le_of_ble_eq_true rfl) (by decide) dX13_findsNormal_1 rfl (fun h3 => ?_)
  refine kj_iconst X dX13_findsNormal_4 ?_
  refine kj_aloadn X 0 dX13_findsNormal_5 rfl ?_
  obtain ⟨q4, h5, hf⟩ := knBd_inv hf
  refine kj_callV (As := []) (rest := [knV 3]) X K (kcX13_turns l  h5) knWvX13_turns (knGm 1724 (by decide +kernel) rfl) (by decide) (knKd_in kdc_142 (by decide)) (knEnt_10 kdc_142) rfl rfl rfl (Nat.le_of_ble_eq_true rfl) (by decide) dX13_findsNormal_6 rfl (fun h6 => ?_)
  refine kj_imul X dX13_findsNormal_9 ?_
  refine kj_istoren X (L' := [(1, knV (knW (3 * q4))), (0, knO G 142)]) dX13_findsNormal_10 (by decide) rfl ?_
  refine kj_iconst X dX13_findsNormal_11 ?_
  refine kj_istoren X (L' := [(2, knV 0), (1, knV (knW (3 * q4))), (0, knO G 142)]) dX13_findsNormal_12 (by decide) rfl ?_
  refine kj_sub (L' := [(0, knO G 142), (1, knV (knW (3 * q4))), (2, knV 0)]) [2, 1, 0] rfl ?_
  refine kfX13_findsNormal_l13_ok X K hr hlk (knW (3 * q4)) (knCw _)  ?_ knF _ (show knC (0) from ⟨by omega, by omega⟩) _ hf
  intro w35_m
  intro hf
  cases hf
  exact kj_vret X trivial hr dX13_findsNormal_74 hlk

def kfX13_isExponent (a0 : Int) (μ : knMem) : Option (Int) :=
 Option.bind (kfX13_isBetween a0 (-50) 50 μ) (fun q1 =>
  some q1)

theorem knWkX13_isExponent : knWk yX13_isExponent cX13_isExponent 1 (some .boolean) 1 := ⟨(knGm 1898 (by decide +kernel) rfl), (knGm 124 (by decide +kernel) rfl), (knGm 1897 (by decide +kernel) rfl), by decide +kernel, by decide +kernel, by decide +kernel⟩
set_option maxHeartbeats 4000000 in
set_option maxRecDepth 100000 in
theorem kcX13_isExponent {G : knGT} (l : Launch) {a0 : Int} (ha0 : knC a0) {μ : knMem} {q : Int} (hf : kfX13_isExponent a0 μ = some q) : knC0 G l yX13_isExponent cX13_isExponent 1 (some .boolean) 1 22 [knV a0] μ (knZ q) (some (knV q)) μ := by
  unfold kfX13_isExponent at hf
  refine kn_ofJ (plainFor_of_name (by decide)) (Nat.le_of_ble_eq_true rfl) (L := [(0, knV a0)]) rfl ?_
  intro p e s m args below meth c X K hr hlk
  refine kj_iloadn X 0 dX13_isExponent_0 rfl ?_
  refine kj_bipush X (n := (-50)) dX13_isExponent_1 rfl ?_
  refine kj_bipush X (n := 50) dX13_isExponent_3 rfl ?_
  obtain ⟨q1, h2, hf⟩ := knBd_inv hf
  refine kj_callS (As := [knV a0, knV (-50), knV 50]) (rest := []) X K (kcX13_isBetween l ha0 (show knC (-50) from ⟨by omega, by omega⟩) (show knC (50) from ⟨by omega, by omega⟩) h2) knWkX13_isBetween (knGm 1601 (by decide +kernel) rfl) (by decide)  rfl (Nat.le_of_ble_eq_true rfl) (by decide) dX13_isExponent_5 rfl (fun h3 => ?_)
  cases hf
  exact kj_zret X h3 hr (kn_nb h3) dX13_isExponent_8 hlk

def kfX13_bracketCoefficient (a1 : Int) (μ : knMem) : Option (Int × knMem) :=
 Option.bind (kfX13_isExponent a1 (knUp μ 142 0 0)) (fun q1 =>
  if q1 = 0 then
   Option.bind (kfX13_fails 1 (knUp μ 142 0 0)) (fun q10 =>
    some (q10.1, q10.2))
  else
   Option.bind (kfX13_findsBracket  (knUp μ 142 0 0)) (fun q5 =>
    knGd (0 ≤ (knW (50 + a1)) ∧ (knW (50 + a1)) < 101)
     (some ((q5 152 (knW (50 + a1))), q5))))

theorem knWvX13_bracketCoefficient : knWv yX13_bracketCoefficient cX13_bracketCoefficient 2 (some .int) 1 := ⟨(knGm 1895 (by decide +kernel) rfl), (knGm 124 (by decide +kernel) rfl), (knGm 1893 (by decide +kernel) rfl), (knGm 1894 (by decide +kernel) rfl), by decide +kernel, by decide +kernel, by decide +kernel⟩
set_option maxHeartbeats 4000000 in
set_option maxRecDepth 100000 in
theorem kcX13_bracketCoefficient {G : knGT} (l : Launch) {a1 : Int} (ha1 : knC a1) {μ : knMem} {q : Int × knMem} (hf : kfX13_bracketCoefficient a1 μ = some q) : knC0 G l yX13_bracketCoefficient cX13_bracketCoefficient 2 (some .int) 4 96 [knO G 142, knV a1] μ (knC q.1) (some (knV q.1)) q.2 := by
  unfold kfX13_bracketCoefficient at hf
  refine kn_ofJ (plainFor_of_name (by decide)) (Nat.le_of_ble_eq_true rfl) (L := [(0, knO G 142), (1, knV a1)]) rfl ?_
  intro p e s m args below meth c X K hr hlk
  refine kj_aloadn X 0 dX13_bracketCoefficient_0 rfl ?_
  refine kj_iconst X dX13_bracketCoefficient_1 ?_
  refine kj_putf (k := 0) (ki := 0) (x := 0) (ty := .int) X K rfl (knKd_in kdc_142 (by decide)) (knEnt_10 kdc_142) rfl (by decide) knInX13 tyX13_ok nmX13 (knGm 1504 (by decide +kernel) rfl) rfl rfl (by decide +kernel) rfl rfl (by simp) (by rw [knEnt_10 kdc_142, knUp_row]; rfl) (fun _ => (show knC (0) from ⟨by omega, by omega⟩)) (fun h => by rw [kdc_142] at h; cases h) (fun h => by rw [kdc_142] at h; cases h) dX13_bracketCoefficient_2 ?_
  refine kj_iloadn X 1 dX13_bracketCoefficient_5 rfl ?_
  obtain ⟨q1, h2, hf⟩ := knBd_inv hf
  refine kj_callS (As := [knV a1]) (rest := []) X K (kcX13_isExponent l ha1 h2) knWkX13_isExponent (knGm 1896 (by decide +kernel) rfl) (by decide)  rfl (Nat.le_of_ble_eq_true rfl) (by decide) dX13_bracketCoefficient_6 rfl (fun h3 => ?_)
  refine kj_if_ne X (tgt := 18) dX13_bracketCoefficient_9 (by decide) (knZ_c h3) (fun h4 => ?_) (fun h4 => ?_)
  · replace hf := knIq hf h4
    refine kj_aloadn X 0 dX13_bracketCoefficient_18 rfl ?_
    obtain ⟨q5, h6, hf⟩ := knBd_inv hf
    refine kj_callV (As := []) (rest := []) X K (kcX13_findsBracket l  h6) knWvX13_findsBracket (knGm 1899 (by decide +kernel) rfl) (by decide) (knKd_in kdc_142 (by decide)) (knEnt_10 kdc_142) rfl rfl rfl (Nat.le_of_ble_eq_true rfl) (by decide) dX13_bracketCoefficient_19 rfl (fun h7 => ?_)
    refine kj_aloadn X 0 dX13_bracketCoefficient_22 rfl ?_
    refine kj_geto (k := 14) (o2 := 152) X K kdc_142 (by decide) (knEnt_10 kdc_142) rfl (by decide) knInX13 (knGm 1518 (by decide +kernel) rfl) rfl rfl dX13_bracketCoefficient_23 ?_
    refine kj_bipush X (n := 50) dX13_bracketCoefficient_26 rfl ?_
    refine kj_iloadn X 1 dX13_bracketCoefficient_28 rfl ?_
    refine kj_iadd X dX13_bracketCoefficient_29 ?_
    obtain ⟨h8, hf⟩ := knGd_inv hf
    refine kj_iald X K kdc_152 (knCw _) lnc_152 h8 dX13_bracketCoefficient_30 (fun h9 => ?_)
    cases hf
    exact kj_iret X h9 hr dX13_bracketCoefficient_31 hlk
  · replace hf := knIp hf h4
    refine kj_aloadn X 0 dX13_bracketCoefficient_12 rfl ?_
    refine kj_iconst X dX13_bracketCoefficient_13 ?_
    obtain ⟨q10, h11, hf⟩ := knBd_inv hf
    refine kj_callV (As := [knV 1]) (rest := []) X K (kcX13_fails l (show knC (1) from ⟨by omega, by omega⟩) h11) knWvX13_fails (knGm 1604 (by decide +kernel) rfl) (by decide) (knKd_in kdc_142 (by decide)) (knEnt_10 kdc_142) rfl rfl rfl (Nat.le_of_ble_eq_true rfl) (by decide) dX13_bracketCoefficient_14 rfl (fun h12 => ?_)
    cases hf
    exact kj_iret X h12 hr dX13_bracketCoefficient_17 hlk

def kfX13_bracketCoefficientByResolving (a1 : Int) (μ : knMem) : Option (Int × knMem) :=
 Option.bind (kfX13_bracketCoefficient a1 μ) (fun q1 =>
  some (q1.1, q1.2))

theorem knWvX13_bracketCoefficientByResolving : knWv yX13_bracketCoefficientByResolving cX13_bracketCoefficientByResolving 2 (some .int) 1 := ⟨(knGm 1910 (by decide +kernel) rfl), (knGm 124 (by decide +kernel) rfl), (knGm 1908 (by decide +kernel) rfl), (knGm 1909 (by decide +kernel) rfl), by decide +kernel, by decide +kernel, by decide +kernel⟩
set_option maxHeartbeats 4000000 in
set_option maxRecDepth 100000 in
theorem kcX13_bracketCoefficientByResolving {G : knGT} (l : Launch) {a1 : Int} (ha1 : knC a1) {μ : knMem} {q : Int × knMem} (hf : kfX13_bracketCoefficientByResolving a1 μ = some q) : knC0 G l yX13_bracketCoefficientByResolving cX13_bracketCoefficientByResolving 2 (some .int) 5 117 [knO G 142, knV a1] μ (knC q.1) (some (knV q.1)) q.2 := by
  unfold kfX13_bracketCoefficientByResolving at hf
  refine kn_ofJ (plainFor_of_name (by decide)) (Nat.le_of_ble_eq_true rfl) (L := [(0, knO G 142), (1, knV a1)]) rfl ?_
  intro p e s m args below meth c X K hr hlk
  refine kj_aloadn X 0 dX13_bracketCoefficientByResolving_0 rfl ?_
  refine kj_iloadn X 1 dX13_bracketCoefficientByResolving_1 rfl ?_
  obtain ⟨q1, h2, hf⟩ := knBd_inv hf
  refine kj_callV (As := [knV a1]) (rest := []) X K (kcX13_bracketCoefficient l ha1 h2) knWvX13_bracketCoefficient (knGm 1911 (by decide +kernel) rfl) (by decide) (knKd_in kdc_142 (by decide)) (knEnt_10 kdc_142) rfl rfl rfl (Nat.le_of_ble_eq_true rfl) (by decide) dX13_bracketCoefficientByResolving_2 rfl (fun h3 => ?_)
  cases hf
  exact kj_iret X h3 hr dX13_bracketCoefficientByResolving_5 hlk

