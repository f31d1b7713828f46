/-! The eleven constructors. -/
def kiF_3 (G : knGT) (N : Nat) : va_E := .inr (3, [.ref (knN0 G + (N + 0)), .ref (knN0 G + (N + 1)), .ref (knN0 G + (N + 2)), .int 0])
def kiN_3 (G : knGT) (N : Nat) : List va_E := [.inl (knCy G 0, 7, .inl (fun _ => 0))] ++ ([.inl (knCy G 0, 7, .inl (fun _ => 0))] ++ ([.inl (knCy G 1, 7, .inl (fun _ => 0))]))
theorem kiW_3 : knWi9 yX5_init cX5_init 1 := ⟨(knGm 164 (by decide +kernel) rfl), (knGm 116 (by decide +kernel) rfl), (knGm 163 (by decide +kernel) rfl), rfl, by decide +kernel, by decide +kernel, by decide +kernel⟩
set_option maxHeartbeats 4000000 in
set_option maxRecDepth 100000 in
theorem kiCC_3 {G : knGT} (l : Launch) : kiCC G l yX5_init cX5_init 1 2 60 3 21 3 [.null, .null, .null, .int 0] (kiF_3 G) (kiN_3 G) := by
  intro cs a ha
  have hla := (List.getElem?_eq_some_iff.mp ha).1
  refine ki_ofJ (by decide) (Nat.le_of_ble_eq_true rfl) rfl ?_
  intro p e s m args below meth c X KI hr hlk hnm
  refine kiN_0 ha ?_
  refine ki_aload X 0 dX5_init_0 rfl ?_
  refine ki_obj X (knGm 165 (by decide +kernel) rfl) (knGm 152 (by decide +kernel) rfl) (knGm 153 (by decide +kernel) rfl) (by decide) dX5_init_1 ?_
  refine ki_aload X 0 dX5_init_4 rfl ?_
  refine ki_bipush X (n := 7) dX5_init_5 rfl ?_
  refine kiN_newa X KI 0 (N := 7) (a0 := (7, .inl (fun _ => 0))) (by decide) rfl rfl (knGm 191 (by decide +kernel) rfl) (fun _ => rfl) rfl (by decide) (by decide) (by decide) dX5_init_7 ?_
  refine kiN_putF X KI hla rfl knInX5 tX5 tyX5_ok nmX5 rfl 0 (by decide) (knGm 166 (by decide +kernel) rfl) rfl rfl hnm rfl (ty := (.array .int)) rfl rfl rfl (Nat.le_of_ble_eq_true rfl) dX5_init_9 ?_
  refine ki_aload X 0 dX5_init_12 rfl ?_
  refine ki_bipush X (n := 7) dX5_init_13 rfl ?_
  refine kiN_newa X KI 0 (N := 7) (a0 := (7, .inl (fun _ => 0))) (by decide) rfl rfl (knGm 191 (by decide +kernel) rfl) (fun _ => rfl) rfl (by decide) (by decide) (by decide) dX5_init_15 ?_
  refine kiN_putF X KI hla rfl knInX5 tX5 tyX5_ok nmX5 rfl 1 (by decide) (knGm 170 (by decide +kernel) rfl) rfl rfl hnm rfl (ty := (.array .int)) rfl rfl rfl (Nat.le_of_ble_eq_true rfl) dX5_init_17 ?_
  refine ki_aload X 0 dX5_init_20 rfl ?_
  refine ki_bipush X (n := 7) dX5_init_21 rfl ?_
  refine kiN_newa X KI 1 (N := 7) (a0 := (7, .inl (fun _ => 0))) (by decide) rfl rfl (knGm 192 (by decide +kernel) rfl) (fun _ => rfl) rfl (by decide) (by decide) (by decide) dX5_init_23 ?_
  refine kiN_putF X KI hla rfl knInX5 tX5 tyX5_ok nmX5 rfl 2 (by decide) (knGm 174 (by decide +kernel) rfl) rfl rfl hnm rfl (ty := (.array .boolean)) rfl rfl rfl (Nat.le_of_ble_eq_true rfl) dX5_init_25 ?_
  exact ki_vret X hr dX5_init_28 hlk
def kiF_0 (G : knGT) (N : Nat) : va_E := .inr (0, [.ref (knN0 G + (N + 0)), .ref (knN0 G + (N + 1)), .ref (knN0 G + (N + 2)), .int 0, .int 0])
def kiN_0 (G : knGT) (N : Nat) : List va_E := [.inl (knCy G 0, 4, .inl (fun _ => 0))] ++ ([.inl (knCy G 0, 4, .inl (fun _ => 0))] ++ ([.inl (knCy G 0, 4, .inl (fun _ => 0))]))
theorem kiW_0 : knWi9 yX1_init cX1_init 1 := ⟨(knGm 197 (by decide +kernel) rfl), (knGm 117 (by decide +kernel) rfl), (knGm 196 (by decide +kernel) rfl), rfl, by decide +kernel, by decide +kernel, by decide +kernel⟩
set_option maxHeartbeats 4000000 in
set_option maxRecDepth 100000 in
theorem kiCC_0 {G : knGT} (l : Launch) : kiCC G l yX1_init cX1_init 1 2 60 3 12 0 [.null, .null, .null, .int 0, .int 0] (kiF_0 G) (kiN_0 G) := by
  intro cs a ha
  have hla := (List.getElem?_eq_some_iff.mp ha).1
  refine ki_ofJ (by decide) (Nat.le_of_ble_eq_true rfl) rfl ?_
  intro p e s m args below meth c X KI hr hlk hnm
  refine kiN_0 ha ?_
  refine ki_aload X 0 dX1_init_0 rfl ?_
  refine ki_obj X (knGm 198 (by decide +kernel) rfl) (knGm 152 (by decide +kernel) rfl) (knGm 153 (by decide +kernel) rfl) (by decide) dX1_init_1 ?_
  refine ki_aload X 0 dX1_init_4 rfl ?_
  refine ki_iconst X dX1_init_5 ?_
  refine kiN_newa X KI 0 (N := 4) (a0 := (4, .inl (fun _ => 0))) (by decide) rfl rfl (knGm 191 (by decide +kernel) rfl) (fun _ => rfl) rfl (by decide) (by decide) (by decide) dX1_init_6 ?_
  refine kiN_putF X KI hla rfl knInX1 tX1 tyX1_ok nmX1 rfl 0 (by decide) (knGm 199 (by decide +kernel) rfl) rfl rfl hnm rfl (ty := (.array .int)) rfl rfl rfl (Nat.le_of_ble_eq_true rfl) dX1_init_8 ?_
  refine ki_aload X 0 dX1_init_11 rfl ?_
  refine ki_iconst X dX1_init_12 ?_
  refine kiN_newa X KI 0 (N := 4) (a0 := (4, .inl (fun _ => 0))) (by decide) rfl rfl (knGm 191 (by decide +kernel) rfl) (fun _ => rfl) rfl (by decide) (by decide) (by decide) dX1_init_13 ?_
  refine kiN_putF X KI hla rfl knInX1 tX1 tyX1_ok nmX1 rfl 1 (by decide) (knGm 201 (by decide +kernel) rfl) rfl rfl hnm rfl (ty := (.array .int)) rfl rfl rfl (Nat.le_of_ble_eq_true rfl) dX1_init_15 ?_
  refine ki_aload X 0 dX1_init_18 rfl ?_
  refine ki_iconst X dX1_init_19 ?_
  refine kiN_newa X KI 0 (N := 4) (a0 := (4, .inl (fun _ => 0))) (by decide) rfl rfl (knGm 191 (by decide +kernel) rfl) (fun _ => rfl) rfl (by decide) (by decide) (by decide) dX1_init_20 ?_
  refine kiN_putF X KI hla rfl knInX1 tX1 tyX1_ok nmX1 rfl 2 (by decide) (knGm 203 (by decide +kernel) rfl) rfl rfl hnm rfl (ty := (.array .int)) rfl rfl rfl (Nat.le_of_ble_eq_true rfl) dX1_init_22 ?_
  exact ki_vret X hr dX1_init_25 hlk
def kiF_7 (G : knGT) (N : Nat) : va_E := .inr (7, [.ref (knN0 G + (N + 0)), .ref (knN0 G + (N + 4))])
def kiN_7 (G : knGT) (N : Nat) : List va_E := [kiF_3 G (N + 1)] ++ (kiN_3 G (N + 1) ++ ([kiF_0 G (N + 5)] ++ (kiN_0 G (N + 5))))
theorem kiW_7 : knWi9 yX10_init cX10_init 1 := ⟨(knGm 158 (by decide +kernel) rfl), (knGm 115 (by decide +kernel) rfl), (knGm 157 (by decide +kernel) rfl), rfl, by decide +kernel, by decide +kernel, by decide +kernel⟩
set_option maxHeartbeats 4000000 in
set_option maxRecDepth 100000 in
theorem kiCC_7 {G : knGT} (l : Launch) : kiCC G l yX10_init cX10_init 1 3 80 8 42 7 [.null, .null] (kiF_7 G) (kiN_7 G) := by
  intro cs a ha
  have hla := (List.getElem?_eq_some_iff.mp ha).1
  refine ki_ofJ (by decide) (Nat.le_of_ble_eq_true rfl) rfl ?_
  intro p e s m args below meth c X KI hr hlk hnm
  refine kiN_0 ha ?_
  refine ki_aload X 0 dX10_init_0 rfl ?_
  refine ki_obj X (knGm 159 (by decide +kernel) rfl) (knGm 152 (by decide +kernel) rfl) (knGm 153 (by decide +kernel) rfl) (by decide) dX10_init_1 ?_
  refine ki_aload X 0 dX10_init_4 rfl ?_
  refine kiN_new X KI (C := "KnotLaboratory$Diagram") (N := 4) (ci := 3) (fs := [.null, .null, .null, .int 0]) knInX5 tX5 tyX5_ok (knGm 160 (by decide +kernel) rfl) (knGm 161 (by decide +kernel) rfl) (knGm 116 (by decide +kernel) rfl) rfl (fun j hj => by rcases (show j = 0 ∨ j = 1 ∨ j = 2 ∨ j = 3 by omega) with rfl | rfl | rfl | rfl <;> rfl) (by decide) dX10_init_5 ?_
  refine ki_dup X rfl dX10_init_8 ?_
  refine kiN_call X KI (i := 0) (kiCC_3 l) rfl kiW_3 (Or.inr (knBm 162 (by decide +kernel) rfl)) (by decide) (Nat.le_of_ble_eq_true rfl) (by decide) dX10_init_9 ?_
  refine kiN_putF X KI hla rfl knInX10 tX10 tyX10_ok nmX10 rfl 0 (by decide) (knGm 220 (by decide +kernel) rfl) rfl rfl hnm rfl (ty := (.object "KnotLaboratory$Diagram")) rfl rfl rfl (Nat.le_of_ble_eq_true rfl) dX10_init_12 ?_
  refine ki_aload X 0 dX10_init_15 rfl ?_
  refine kiN_new X KI (C := "KnotLaboratory$Bets") (N := 5) (ci := 0) (fs := [.null, .null, .null, .int 0, .int 0]) knInX1 tX1 tyX1_ok (knGm 193 (by decide +kernel) rfl) (knGm 194 (by decide +kernel) rfl) (knGm 117 (by decide +kernel) rfl) rfl (fun j hj => by rcases (show j = 0 ∨ j = 1 ∨ j = 2 ∨ j = 3 ∨ j = 4 by omega) with rfl | rfl | rfl | rfl | rfl <;> rfl) (by decide) dX10_init_16 ?_
  refine ki_dup X rfl dX10_init_19 ?_
  refine kiN_call X KI (i := 4) (kiCC_0 l) rfl kiW_0 (Or.inr (knBm 195 (by decide +kernel) rfl)) (by decide) (Nat.le_of_ble_eq_true rfl) (by decide) dX10_init_20 ?_
  refine kiN_putF X KI hla rfl knInX10 tX10 tyX10_ok nmX10 rfl 1 (by decide) (knGm 222 (by decide +kernel) rfl) rfl rfl hnm rfl (ty := (.object "KnotLaboratory$Bets")) rfl rfl rfl (Nat.le_of_ble_eq_true rfl) dX10_init_23 ?_
  exact ki_vret X hr dX10_init_26 hlk
def kiF_4 (G : knGT) (N : Nat) : va_E := .inr (4, [.ref (knN0 G + (N + 0)), .int 0, .int 0])
def kiN_4 (G : knGT) (N : Nat) : List va_E := [.inl (knCy G 3, 9, .inr (.inr (.inr (.inr (va_up (va_up (va_up (va_up (va_up (va_up (va_up (va_up (va_up (fun _ => none) 0 (some (knN0 G + (N + 1)))) 1 (some (knN0 G + (N + 10)))) 2 (some (knN0 G + (N + 19)))) 3 (some (knN0 G + (N + 28)))) 4 (some (knN0 G + (N + 37)))) 5 (some (knN0 G + (N + 46)))) 6 (some (knN0 G + (N + 55)))) 7 (some (knN0 G + (N + 64)))) 8 (some (knN0 G + (N + 73))))))))] ++ ([kiF_7 G (N + 2)] ++ (kiN_7 G (N + 2) ++ ([kiF_7 G (N + 11)] ++ (kiN_7 G (N + 11) ++ ([kiF_7 G (N + 20)] ++ (kiN_7 G (N + 20) ++ ([kiF_7 G (N + 29)] ++ (kiN_7 G (N + 29) ++ ([kiF_7 G (N + 38)] ++ (kiN_7 G (N + 38) ++ ([kiF_7 G (N + 47)] ++ (kiN_7 G (N + 47) ++ ([kiF_7 G (N + 56)] ++ (kiN_7 G (N + 56) ++ ([kiF_7 G (N + 65)] ++ (kiN_7 G (N + 65) ++ ([kiF_7 G (N + 74)] ++ (kiN_7 G (N + 74)))))))))))))))))))
theorem kiW_4 : knWi9 yX6_init cX6_init 2 := ⟨(knGm 235 (by decide +kernel) rfl), (knGm 118 (by decide +kernel) rfl), (knGm 234 (by decide +kernel) rfl), rfl, by decide +kernel, by decide +kernel, by decide +kernel⟩
set_option maxHeartbeats 4000000 in
set_option maxRecDepth 100000 in
theorem kiCC_4 {G : knGT} (l : Launch) : kiCC G l yX6_init cX6_init 2 4 100 82 405 4 [.null, .int 0, .int 0] (kiF_4 G) (kiN_4 G) := by
  intro cs a ha
  have hla := (List.getElem?_eq_some_iff.mp ha).1
  refine ki_ofJ (by decide) (Nat.le_of_ble_eq_true rfl) rfl ?_
  intro p e s m args below meth c X KI hr hlk hnm
  refine kiN_0 ha ?_
  refine ki_aload X 0 dX6_init_0 rfl ?_
  refine ki_obj X (knGm 236 (by decide +kernel) rfl) (knGm 152 (by decide +kernel) rfl) (knGm 153 (by decide +kernel) rfl) (by decide) dX6_init_1 ?_
  refine ki_aload X 0 dX6_init_4 rfl ?_
  refine ki_bipush X (n := 9) dX6_init_5 rfl ?_
  refine kiN_anew X KI (knGm 237 (by decide +kernel) rfl) (N := 9) rfl (by decide) (by decide) dX6_init_7 ?_
  refine kiN_putF X KI hla rfl knInX6 tX6 tyX6_ok nmX6 rfl 0 (by decide) (knGm 240 (by decide +kernel) rfl) rfl rfl hnm rfl (ty := (.array (.object "KnotLaboratory$State"))) rfl rfl rfl (Nat.le_of_ble_eq_true rfl) dX6_init_10 ?_
  refine ki_iconst X dX6_init_13 ?_
  refine ki_istore X (L' := [(1, knV 0), (0, .ref (knN0 G + a))]) dX6_init_14 (by decide) rfl ?_
  refine ki_iload X 0 dX6_init_15 rfl ?_
  refine ki_bipush X (n := 9) dX6_init_16 rfl ?_
  refine ki_ic_ge X (x := 0) (y := 9) (tgt := 40) dX6_init_18 (by decide) (show knC 0 from ⟨by omega, by omega⟩) (show knC 9 from ⟨by omega, by omega⟩) (fun h => absurd h (by decide)) (fun _ => ?_)
  refine ki_aload X 1 dX6_init_21 rfl ?_
  refine kiN_getA X KI hla rfl knInX6 rfl 0 (by decide) (knGm 240 (by decide +kernel) rfl) rfl rfl dX6_init_22 ?_
  refine ki_iload X 0 dX6_init_25 rfl ?_
  refine kiN_new X KI (C := "KnotLaboratory$State") (N := 2) (ci := 7) (fs := [.null, .null]) knInX10 tX10 tyX10_ok (knGm 237 (by decide +kernel) rfl) (knGm 155 (by decide +kernel) rfl) (knGm 115 (by decide +kernel) rfl) rfl (fun j hj => by rcases (show j = 0 ∨ j = 1 by omega) with rfl | rfl <;> rfl) (by decide) dX6_init_26 ?_
  refine ki_dup X rfl dX6_init_29 ?_
  refine kiN_call X KI (i := 1) (kiCC_7 l) rfl kiW_7 (Or.inr (knBm 239 (by decide +kernel) rfl)) (by decide) (Nat.le_of_ble_eq_true rfl) (by decide) dX6_init_30 ?_
  refine kiN_aast X KI (q0 := 0) (qk := 1) (ci := 7) rfl rfl rfl rfl (i := 0) (show knC 0 from ⟨by omega, by omega⟩) (by decide) dX6_init_33 ?_
  refine ki_iinc X 0 (L' := [(1, knV 1), (0, .ref (knN0 G + a))]) dX6_init_34 rfl (by decide) rfl ?_
  refine ki_goto X (tgt := 15) dX6_init_37 (by decide) ?_
  refine ki_iload X 0 dX6_init_15 rfl ?_
  refine ki_bipush X (n := 9) dX6_init_16 rfl ?_
  refine ki_ic_ge X (x := 1) (y := 9) (tgt := 40) dX6_init_18 (by decide) (show knC 1 from ⟨by omega, by omega⟩) (show knC 9 from ⟨by omega, by omega⟩) (fun h => absurd h (by decide)) (fun _ => ?_)
  refine ki_aload X 1 dX6_init_21 rfl ?_
  refine kiN_getA X KI hla rfl knInX6 rfl 0 (by decide) (knGm 240 (by decide +kernel) rfl) rfl rfl dX6_init_22 ?_
  refine ki_iload X 0 dX6_init_25 rfl ?_
  refine kiN_new X KI (C := "KnotLaboratory$State") (N := 2) (ci := 7) (fs := [.null, .null]) knInX10 tX10 tyX10_ok (knGm 237 (by decide +kernel) rfl) (knGm 155 (by decide +kernel) rfl) (knGm 115 (by decide +kernel) rfl) rfl (fun j hj => by rcases (show j = 0 ∨ j = 1 by omega) with rfl | rfl <;> rfl) (by decide) dX6_init_26 ?_
  refine ki_dup X rfl dX6_init_29 ?_
  refine kiN_call X KI (i := 10) (kiCC_7 l) rfl kiW_7 (Or.inr (knBm 239 (by decide +kernel) rfl)) (by decide) (Nat.le_of_ble_eq_true rfl) (by decide) dX6_init_30 ?_
  refine kiN_aast X KI (q0 := 0) (qk := 10) (ci := 7) rfl rfl rfl rfl (i := 1) (show knC 1 from ⟨by omega, by omega⟩) (by decide) dX6_init_33 ?_
  refine ki_iinc X 0 (L' := [(1, knV 2), (0, .ref (knN0 G + a))]) dX6_init_34 rfl (by decide) rfl ?_
  refine ki_goto X (tgt := 15) dX6_init_37 (by decide) ?_
  refine ki_iload X 0 dX6_init_15 rfl ?_
  refine ki_bipush X (n := 9) dX6_init_16 rfl ?_
  refine ki_ic_ge X (x := 2) (y := 9) (tgt := 40) dX6_init_18 (by decide) (show knC 2 from ⟨by omega, by omega⟩) (show knC 9 from ⟨by omega, by omega⟩) (fun h => absurd h (by decide)) (fun _ => ?_)
  refine ki_aload X 1 dX6_init_21 rfl ?_
  refine kiN_getA X KI hla rfl knInX6 rfl 0 (by decide) (knGm 240 (by decide +kernel) rfl) rfl rfl dX6_init_22 ?_
  refine ki_iload X 0 dX6_init_25 rfl ?_
  refine kiN_new X KI (C := "KnotLaboratory$State") (N := 2) (ci := 7) (fs := [.null, .null]) knInX10 tX10 tyX10_ok (knGm 237 (by decide +kernel) rfl) (knGm 155 (by decide +kernel) rfl) (knGm 115 (by decide +kernel) rfl) rfl (fun j hj => by rcases (show j = 0 ∨ j = 1 by omega) with rfl | rfl <;> rfl) (by decide) dX6_init_26 ?_
  refine ki_dup X rfl dX6_init_29 ?_
  refine kiN_call X KI (i := 19) (kiCC_7 l) rfl kiW_7 (Or.inr (knBm 239 (by decide +kernel) rfl)) (by decide) (Nat.le_of_ble_eq_true rfl) (by decide) dX6_init_30 ?_
  refine kiN_aast X KI (q0 := 0) (qk := 19) (ci := 7) rfl rfl rfl rfl (i := 2) (show knC 2 from ⟨by omega, by omega⟩) (by decide) dX6_init_33 ?_
  refine ki_iinc X 0 (L' := [(1, knV 3), (0, .ref (knN0 G + a))]) dX6_init_34 rfl (by decide) rfl ?_
  refine ki_goto X (tgt := 15) dX6_init_37 (by decide) ?_
  refine ki_iload X 0 dX6_init_15 rfl ?_
  refine ki_bipush X (n := 9) dX6_init_16 rfl ?_
  refine ki_ic_ge X (x := 3) (y := 9) (tgt := 40) dX6_init_18 (by decide) (show knC 3 from ⟨by omega, by omega⟩) (show knC 9 from ⟨by omega, by omega⟩) (fun h => absurd h (by decide)) (fun _ => ?_)
  refine ki_aload X 1 dX6_init_21 rfl ?_
  refine kiN_getA X KI hla rfl knInX6 rfl 0 (by decide) (knGm 240 (by decide +kernel) rfl) rfl rfl dX6_init_22 ?_
  refine ki_iload X 0 dX6_init_25 rfl ?_
  refine kiN_new X KI (C := "KnotLaboratory$State") (N := 2) (ci := 7) (fs := [.null, .null]) knInX10 tX10 tyX10_ok (knGm 237 (by decide +kernel) rfl) (knGm 155 (by decide +kernel) rfl) (knGm 115 (by decide +kernel) rfl) rfl (fun j hj => by rcases (show j = 0 ∨ j = 1 by omega) with rfl | rfl <;> rfl) (by decide) dX6_init_26 ?_
  refine ki_dup X rfl dX6_init_29 ?_
  refine kiN_call X KI (i := 28) (kiCC_7 l) rfl kiW_7 (Or.inr (knBm 239 (by decide +kernel) rfl)) (by decide) (Nat.le_of_ble_eq_true rfl) (by decide) dX6_init_30 ?_
  refine kiN_aast X KI (q0 := 0) (qk := 28) (ci := 7) rfl rfl rfl rfl (i := 3) (show knC 3 from ⟨by omega, by omega⟩) (by decide) dX6_init_33 ?_
  refine ki_iinc X 0 (L' := [(1, knV 4), (0, .ref (knN0 G + a))]) dX6_init_34 rfl (by decide) rfl ?_
  refine ki_goto X (tgt := 15) dX6_init_37 (by decide) ?_
  refine ki_iload X 0 dX6_init_15 rfl ?_
  refine ki_bipush X (n := 9) dX6_init_16 rfl ?_
  refine ki_ic_ge X (x := 4) (y := 9) (tgt := 40) dX6_init_18 (by decide) (show knC 4 from ⟨by omega, by omega⟩) (show knC 9 from ⟨by omega, by omega⟩) (fun h => absurd h (by decide)) (fun _ => ?_)
  refine ki_aload X 1 dX6_init_21 rfl ?_
  refine kiN_getA X KI hla rfl knInX6 rfl 0 (by decide) (knGm 240 (by decide +kernel) rfl) rfl rfl dX6_init_22 ?_
  refine ki_iload X 0 dX6_init_25 rfl ?_
  refine kiN_new X KI (C := "KnotLaboratory$State") (N := 2) (ci := 7) (fs := [.null, .null]) knInX10 tX10 tyX10_ok (knGm 237 (by decide +kernel) rfl) (knGm 155 (by decide +kernel) rfl) (knGm 115 (by decide +kernel) rfl) rfl (fun j hj => by rcases (show j = 0 ∨ j = 1 by omega) with rfl | rfl <;> rfl) (by decide) dX6_init_26 ?_
  refine ki_dup X rfl dX6_init_29 ?_
  refine kiN_call X KI (i := 37) (kiCC_7 l) rfl kiW_7 (Or.inr (knBm 239 (by decide +kernel) rfl)) (by decide) (Nat.le_of_ble_eq_true rfl) (by decide) dX6_init_30 ?_
  refine kiN_aast X KI (q0 := 0) (qk := 37) (ci := 7) rfl rfl rfl rfl (i := 4) (show knC 4 from ⟨by omega, by omega⟩) (by decide) dX6_init_33 ?_
  refine ki_iinc X 0 (L' := [(1, knV 5), (0, .ref (knN0 G + a))]) dX6_init_34 rfl (by decide) rfl ?_
  refine ki_goto X (tgt := 15) dX6_init_37 (by decide) ?_
  refine ki_iload X 0 dX6_init_15 rfl ?_
  refine ki_bipush X (n := 9) dX6_init_16 rfl ?_
  refine ki_ic_ge X (x := 5) (y := 9) (tgt := 40) dX6_init_18 (by decide) (show knC 5 from ⟨by omega, by omega⟩) (show knC 9 from ⟨by omega, by omega⟩) (fun h => absurd h (by decide)) (fun _ => ?_)
  refine ki_aload X 1 dX6_init_21 rfl ?_
  refine kiN_getA X KI hla rfl knInX6 rfl 0 (by decide) (knGm 240 (by decide +kernel) rfl) rfl rfl dX6_init_22 ?_
  refine ki_iload X 0 dX6_init_25 rfl ?_
  refine kiN_new X KI (C := "KnotLaboratory$State") (N := 2) (ci := 7) (fs := [.null, .null]) knInX10 tX10 tyX10_ok (knGm 237 (by decide +kernel) rfl) (knGm 155 (by decide +kernel) rfl) (knGm 115 (by decide +kernel) rfl) rfl (fun j hj => by rcases (show j = 0 ∨ j = 1 by omega) with rfl | rfl <;> rfl) (by decide) dX6_init_26 ?_
  refine ki_dup X rfl dX6_init_29 ?_
  refine kiN_call X KI (i := 46) (kiCC_7 l) rfl kiW_7 (Or.inr (knBm 239 (by decide +kernel) rfl)) (by decide) (Nat.le_of_ble_eq_true rfl) (by decide) dX6_init_30 ?_
  refine kiN_aast X KI (q0 := 0) (qk := 46) (ci := 7) rfl rfl rfl rfl (i := 5) (show knC 5 from ⟨by omega, by omega⟩) (by decide) dX6_init_33 ?_
  refine ki_iinc X 0 (L' := [(1, knV 6), (0, .ref (knN0 G + a))]) dX6_init_34 rfl (by decide) rfl ?_
  refine ki_goto X (tgt := 15) dX6_init_37 (by decide) ?_
  refine ki_iload X 0 dX6_init_15 rfl ?_
  refine ki_bipush X (n := 9) dX6_init_16 rfl ?_
  refine ki_ic_ge X (x := 6) (y := 9) (tgt := 40) dX6_init_18 (by decide) (show knC 6 from ⟨by omega, by omega⟩) (show knC 9 from ⟨by omega, by omega⟩) (fun h => absurd h (by decide)) (fun _ => ?_)
  refine ki_aload X 1 dX6_init_21 rfl ?_
  refine kiN_getA X KI hla rfl knInX6 rfl 0 (by decide) (knGm 240 (by decide +kernel) rfl) rfl rfl dX6_init_22 ?_
  refine ki_iload X 0 dX6_init_25 rfl ?_
  refine kiN_new X KI (C := "KnotLaboratory$State") (N := 2) (ci := 7) (fs := [.null, .null]) knInX10 tX10 tyX10_ok (knGm 237 (by decide +kernel) rfl) (knGm 155 (by decide +kernel) rfl) (knGm 115 (by decide +kernel) rfl) rfl (fun j hj => by rcases (show j = 0 ∨ j = 1 by omega) with rfl | rfl <;> rfl) (by decide) dX6_init_26 ?_
  refine ki_dup X rfl dX6_init_29 ?_
  refine kiN_call X KI (i := 55) (kiCC_7 l) rfl kiW_7 (Or.inr (knBm 239 (by decide +kernel) rfl)) (by decide) (Nat.le_of_ble_eq_true rfl) (by decide) dX6_init_30 ?_
  refine kiN_aast X KI (q0 := 0) (qk := 55) (ci := 7) rfl rfl rfl rfl (i := 6) (show knC 6 from ⟨by omega, by omega⟩) (by decide) dX6_init_33 ?_
  refine ki_iinc X 0 (L' := [(1, knV 7), (0, .ref (knN0 G + a))]) dX6_init_34 rfl (by decide) rfl ?_
  refine ki_goto X (tgt := 15) dX6_init_37 (by decide) ?_
  refine ki_iload X 0 dX6_init_15 rfl ?_
  refine ki_bipush X (n := 9) dX6_init_16 rfl ?_
  refine ki_ic_ge X (x := 7) (y := 9) (tgt := 40) dX6_init_18 (by decide) (show knC 7 from ⟨by omega, by omega⟩) (show knC 9 from ⟨by omega, by omega⟩) (fun h => absurd h (by decide)) (fun _ => ?_)
  refine ki_aload X 1 dX6_init_21 rfl ?_
  refine kiN_getA X KI hla rfl knInX6 rfl 0 (by decide) (knGm 240 (by decide +kernel) rfl) rfl rfl dX6_init_22 ?_
  refine ki_iload X 0 dX6_init_25 rfl ?_
  refine kiN_new X KI (C := "KnotLaboratory$State") (N := 2) (ci := 7) (fs := [.null, .null]) knInX10 tX10 tyX10_ok (knGm 237 (by decide +kernel) rfl) (knGm 155 (by decide +kernel) rfl) (knGm 115 (by decide +kernel) rfl) rfl (fun j hj => by rcases (show j = 0 ∨ j = 1 by omega) with rfl | rfl <;> rfl) (by decide) dX6_init_26 ?_
  refine ki_dup X rfl dX6_init_29 ?_
  refine kiN_call X KI (i := 64) (kiCC_7 l) rfl kiW_7 (Or.inr (knBm 239 (by decide +kernel) rfl)) (by decide) (Nat.le_of_ble_eq_true rfl) (by decide) dX6_init_30 ?_
  refine kiN_aast X KI (q0 := 0) (qk := 64) (ci := 7) rfl rfl rfl rfl (i := 7) (show knC 7 from ⟨by omega, by omega⟩) (by decide) dX6_init_33 ?_
  refine ki_iinc X 0 (L' := [(1, knV 8), (0, .ref (knN0 G + a))]) dX6_init_34 rfl (by decide) rfl ?_
  refine ki_goto X (tgt := 15) dX6_init_37 (by decide) ?_
  refine ki_iload X 0 dX6_init_15 rfl ?_
  refine ki_bipush X (n := 9) dX6_init_16 rfl ?_
  refine ki_ic_ge X (x := 8) (y := 9) (tgt := 40) dX6_init_18 (by decide) (show knC 8 from ⟨by omega, by omega⟩) (show knC 9 from ⟨by omega, by omega⟩) (fun h => absurd h (by decide)) (fun _ => ?_)
  refine ki_aload X 1 dX6_init_21 rfl ?_
  refine kiN_getA X KI hla rfl knInX6 rfl 0 (by decide) (knGm 240 (by decide +kernel) rfl) rfl rfl dX6_init_22 ?_
  refine ki_iload X 0 dX6_init_25 rfl ?_
  refine kiN_new X KI (C := "KnotLaboratory$State") (N := 2) (ci := 7) (fs := [.null, .null]) knInX10 tX10 tyX10_ok (knGm 237 (by decide +kernel) rfl) (knGm 155 (by decide +kernel) rfl) (knGm 115 (by decide +kernel) rfl) rfl (fun j hj => by rcases (show j = 0 ∨ j = 1 by omega) with rfl | rfl <;> rfl) (by decide) dX6_init_26 ?_
  refine ki_dup X rfl dX6_init_29 ?_
  refine kiN_call X KI (i := 73) (kiCC_7 l) rfl kiW_7 (Or.inr (knBm 239 (by decide +kernel) rfl)) (by decide) (Nat.le_of_ble_eq_true rfl) (by decide) dX6_init_30 ?_
  refine kiN_aast X KI (q0 := 0) (qk := 73) (ci := 7) rfl rfl rfl rfl (i := 8) (show knC 8 from ⟨by omega, by omega⟩) (by decide) dX6_init_33 ?_
  refine ki_iinc X 0 (L' := [(1, knV 9), (0, .ref (knN0 G + a))]) dX6_init_34 rfl (by decide) rfl ?_
  refine ki_goto X (tgt := 15) dX6_init_37 (by decide) ?_
  refine ki_iload X 0 dX6_init_15 rfl ?_
  refine ki_bipush X (n := 9) dX6_init_16 rfl ?_
  refine ki_ic_ge X (x := 9) (y := 9) (tgt := 40) dX6_init_18 (by decide) (show knC 9 from ⟨by omega, by omega⟩) (show knC 9 from ⟨by omega, by omega⟩) (fun _ => ?_) (fun h => absurd (show (9 : Int) ≤ 9 by decide) h)
  exact ki_vret X hr dX6_init_40 hlk
def kiF_2 (G : knGT) (N : Nat) : va_E := .inr (2, [.ref (knN0 G + (N + 0)), .ref (knN0 G + (N + 1)), .ref (knN0 G + (N + 2)), .ref (knN0 G + (N + 3)), .ref (knN0 G + (N + 11)), .int 0])
def kiN_2 (G : knGT) (N : Nat) : List va_E := [.inl (knCy G 0, 7, .inl (fun _ => 0))] ++ ([.inl (knCy G 0, 7, .inl (fun _ => 0))] ++ ([.inl (knCy G 0, 7, .inl (fun _ => 0))] ++ ([.inl (knCy G 4, 7, .inr (.inr (.inr (.inr (fun i => if i < 7 then some (knN0 G + (N + 3) + 1 + i) else none)))))] ++ (List.replicate 7 (.inl (knCy G 0, 7, .inl (fun _ => 0))) ++ ([.inl (knCy G 0, 7, .inl (fun _ => 0))])))))
theorem kiW_2 : knWi9 yX3_init cX3_init 1 := ⟨(knGm 255 (by decide +kernel) rfl), (knGm 119 (by decide +kernel) rfl), (knGm 254 (by decide +kernel) rfl), rfl, by decide +kernel, by decide +kernel, by decide +kernel⟩
set_option maxHeartbeats 4000000 in
set_option maxRecDepth 100000 in
theorem kiCC_2 {G : knGT} (l : Launch) : kiCC G l yX3_init cX3_init 1 2 60 12 84 2 [.null, .null, .null, .null, .null, .int 0] (kiF_2 G) (kiN_2 G) := by
  intro cs a ha
  have hla := (List.getElem?_eq_some_iff.mp ha).1
  refine ki_ofJ (by decide) (Nat.le_of_ble_eq_true rfl) rfl ?_
  intro p e s m args below meth c X KI hr hlk hnm
  refine kiN_0 ha ?_
  refine ki_aload X 0 dX3_init_0 rfl ?_
  refine ki_obj X (knGm 256 (by decide +kernel) rfl) (knGm 152 (by decide +kernel) rfl) (knGm 153 (by decide +kernel) rfl) (by decide) dX3_init_1 ?_
  refine ki_aload X 0 dX3_init_4 rfl ?_
  refine ki_bipush X (n := 7) dX3_init_5 rfl ?_
  refine kiN_newa X KI 0 (N := 7) (a0 := (7, .inl (fun _ => 0))) (by decide) rfl rfl (knGm 191 (by decide +kernel) rfl) (fun _ => rfl) rfl (by decide) (by decide) (by decide) dX3_init_7 ?_
  refine kiN_putF X KI hla rfl knInX3 tX3 tyX3_ok nmX3 rfl 0 (by decide) (knGm 259 (by decide +kernel) rfl) rfl rfl hnm rfl (ty := (.array .int)) rfl rfl rfl (Nat.le_of_ble_eq_true rfl) dX3_init_9 ?_
  refine ki_aload X 0 dX3_init_12 rfl ?_
  refine ki_bipush X (n := 7) dX3_init_13 rfl ?_
  refine kiN_newa X KI 0 (N := 7) (a0 := (7, .inl (fun _ => 0))) (by decide) rfl rfl (knGm 191 (by decide +kernel) rfl) (fun _ => rfl) rfl (by decide) (by decide) (by decide) dX3_init_15 ?_
  refine kiN_putF X KI hla rfl knInX3 tX3 tyX3_ok nmX3 rfl 1 (by decide) (knGm 260 (by decide +kernel) rfl) rfl rfl hnm rfl (ty := (.array .int)) rfl rfl rfl (Nat.le_of_ble_eq_true rfl) dX3_init_17 ?_
  refine ki_aload X 0 dX3_init_20 rfl ?_
  refine ki_bipush X (n := 7) dX3_init_21 rfl ?_
  refine kiN_newa X KI 0 (N := 7) (a0 := (7, .inl (fun _ => 0))) (by decide) rfl rfl (knGm 191 (by decide +kernel) rfl) (fun _ => rfl) rfl (by decide) (by decide) (by decide) dX3_init_23 ?_
  refine kiN_putF X KI hla rfl knInX3 tX3 tyX3_ok nmX3 rfl 2 (by decide) (knGm 261 (by decide +kernel) rfl) rfl rfl hnm rfl (ty := (.array .int)) rfl rfl rfl (Nat.le_of_ble_eq_true rfl) dX3_init_25 ?_
  refine ki_aload X 0 dX3_init_28 rfl ?_
  refine ki_bipush X (n := 7) dX3_init_29 rfl ?_
  refine ki_bipush X (n := 7) dX3_init_31 rfl ?_
  refine kiN_mna X KI (knGm 257 (by decide +kernel) rfl) (knGm 191 (by decide +kernel) rfl) (N := 7) (K := 7) rfl rfl (by decide) (by decide) (by decide) dX3_init_33 ?_
  refine kiN_putF X KI hla rfl knInX3 tX3 tyX3_ok nmX3 rfl 3 (by decide) (knGm 262 (by decide +kernel) rfl) rfl rfl hnm rfl (ty := (.array (.array .int))) rfl rfl rfl (Nat.le_of_ble_eq_true rfl) dX3_init_37 ?_
  refine ki_aload X 0 dX3_init_40 rfl ?_
  refine ki_bipush X (n := 7) dX3_init_41 rfl ?_
  refine kiN_newa X KI 0 (N := 7) (a0 := (7, .inl (fun _ => 0))) (by decide) rfl rfl (knGm 191 (by decide +kernel) rfl) (fun _ => rfl) rfl (by decide) (by decide) (by decide) dX3_init_43 ?_
  refine kiN_putF X KI hla rfl knInX3 tX3 tyX3_ok nmX3 rfl 4 (by decide) (knGm 263 (by decide +kernel) rfl) rfl rfl hnm rfl (ty := (.array .int)) rfl rfl rfl (Nat.le_of_ble_eq_true rfl) dX3_init_45 ?_
  exact ki_vret X hr dX3_init_48 hlk
def kiF_1 (G : knGT) (N : Nat) : va_E := .inr (1, [.ref (knN0 G + (N + 0)), .ref (knN0 G + (N + 1)), .ref (knN0 G + (N + 2)), .ref (knN0 G + (N + 3))])
def kiN_1 (G : knGT) (N : Nat) : List va_E := [.inl (knCy G 0, 101, .inl (fun _ => 0))] ++ ([.inl (knCy G 0, 101, .inl (fun _ => 0))] ++ ([.inl (knCy G 0, 101, .inl (fun _ => 0))] ++ ([.inl (knCy G 4, 8, .inr (.inr (.inr (.inr (fun i => if i < 8 then some (knN0 G + (N + 3) + 1 + i) else none)))))] ++ (List.replicate 8 (.inl (knCy G 0, 14, .inl (fun _ => 0)))))))
theorem kiW_1 : knWi9 yX2_init cX2_init 1 := ⟨(knGm 282 (by decide +kernel) rfl), (knGm 120 (by decide +kernel) rfl), (knGm 281 (by decide +kernel) rfl), rfl, by decide +kernel, by decide +kernel, by decide +kernel⟩
set_option maxHeartbeats 4000000 in
set_option maxRecDepth 100000 in
theorem kiCC_1 {G : knGT} (l : Launch) : kiCC G l yX2_init cX2_init 1 2 60 12 423 1 [.null, .null, .null, .null] (kiF_1 G) (kiN_1 G) := by
  intro cs a ha
  have hla := (List.getElem?_eq_some_iff.mp ha).1
  refine ki_ofJ (by decide) (Nat.le_of_ble_eq_true rfl) rfl ?_
  intro p e s m args below meth c X KI hr hlk hnm
  refine kiN_0 ha ?_
  refine ki_aload X 0 dX2_init_0 rfl ?_
  refine ki_obj X (knGm 283 (by decide +kernel) rfl) (knGm 152 (by decide +kernel) rfl) (knGm 153 (by decide +kernel) rfl) (by decide) dX2_init_1 ?_
  refine ki_aload X 0 dX2_init_4 rfl ?_
  refine ki_bipush X (n := 101) dX2_init_5 rfl ?_
  refine kiN_newa X KI 0 (N := 101) (a0 := (101, .inl (fun _ => 0))) (by decide) rfl rfl (knGm 191 (by decide +kernel) rfl) (fun _ => rfl) rfl (by decide) (by decide) (by decide) dX2_init_7 ?_
  refine kiN_putF X KI hla rfl knInX2 tX2 tyX2_ok nmX2 rfl 0 (by decide) (knGm 285 (by decide +kernel) rfl) rfl rfl hnm rfl (ty := (.array .int)) rfl rfl rfl (Nat.le_of_ble_eq_true rfl) dX2_init_9 ?_
  refine ki_aload X 0 dX2_init_12 rfl ?_
  refine ki_bipush X (n := 101) dX2_init_13 rfl ?_
  refine kiN_newa X KI 0 (N := 101) (a0 := (101, .inl (fun _ => 0))) (by decide) rfl rfl (knGm 191 (by decide +kernel) rfl) (fun _ => rfl) rfl (by decide) (by decide) (by decide) dX2_init_15 ?_
  refine kiN_putF X KI hla rfl knInX2 tX2 tyX2_ok nmX2 rfl 1 (by decide) (knGm 287 (by decide +kernel) rfl) rfl rfl hnm rfl (ty := (.array .int)) rfl rfl rfl (Nat.le_of_ble_eq_true rfl) dX2_init_17 ?_
  refine ki_aload X 0 dX2_init_20 rfl ?_
  refine ki_bipush X (n := 101) dX2_init_21 rfl ?_
  refine kiN_newa X KI 0 (N := 101) (a0 := (101, .inl (fun _ => 0))) (by decide) rfl rfl (knGm 191 (by decide +kernel) rfl) (fun _ => rfl) rfl (by decide) (by decide) (by decide) dX2_init_23 ?_
  refine kiN_putF X KI hla rfl knInX2 tX2 tyX2_ok nmX2 rfl 2 (by decide) (knGm 289 (by decide +kernel) rfl) rfl rfl hnm rfl (ty := (.array .int)) rfl rfl rfl (Nat.le_of_ble_eq_true rfl) dX2_init_25 ?_
  refine ki_aload X 0 dX2_init_28 rfl ?_
  refine ki_bipush X (n := 8) dX2_init_29 rfl ?_
  refine ki_bipush X (n := 14) dX2_init_31 rfl ?_
  refine kiN_mna X KI (knGm 284 (by decide +kernel) rfl) (knGm 191 (by decide +kernel) rfl) (N := 8) (K := 14) rfl rfl (by decide) (by decide) (by decide) dX2_init_33 ?_
  refine kiN_putF X KI hla rfl knInX2 tX2 tyX2_ok nmX2 rfl 3 (by decide) (knGm 291 (by decide +kernel) rfl) rfl rfl hnm rfl (ty := (.array (.array .int))) rfl rfl rfl (Nat.le_of_ble_eq_true rfl) dX2_init_37 ?_
  exact ki_vret X hr dX2_init_40 hlk
def kiF_8 (G : knGT) (N : Nat) : va_E := .inr (8, [.ref (knN0 G + (N + 0)), .int 0])
def kiN_8 (G : knGT) (N : Nat) : List va_E := [kiF_3 G (N + 1)] ++ (kiN_3 G (N + 1))
theorem kiW_8 : knWi9 yX11_init cX11_init 1 := ⟨(knGm 305 (by decide +kernel) rfl), (knGm 121 (by decide +kernel) rfl), (knGm 304 (by decide +kernel) rfl), rfl, by decide +kernel, by decide +kernel, by decide +kernel⟩
set_option maxHeartbeats 4000000 in
set_option maxRecDepth 100000 in
theorem kiCC_8 {G : knGT} (l : Launch) : kiCC G l yX11_init cX11_init 1 3 80 4 25 8 [.null, .int 0] (kiF_8 G) (kiN_8 G) := by
  intro cs a ha
  have hla := (List.getElem?_eq_some_iff.mp ha).1
  refine ki_ofJ (by decide) (Nat.le_of_ble_eq_true rfl) rfl ?_
  intro p e s m args below meth c X KI hr hlk hnm
  refine kiN_0 ha ?_
  refine ki_aload X 0 dX11_init_0 rfl ?_
  refine ki_obj X (knGm 306 (by decide +kernel) rfl) (knGm 152 (by decide +kernel) rfl) (knGm 153 (by decide +kernel) rfl) (by decide) dX11_init_1 ?_
  refine ki_aload X 0 dX11_init_4 rfl ?_
  refine kiN_new X KI (C := "KnotLaboratory$Diagram") (N := 4) (ci := 3) (fs := [.null, .null, .null, .int 0]) knInX5 tX5 tyX5_ok (knGm 307 (by decide +kernel) rfl) (knGm 161 (by decide +kernel) rfl) (knGm 116 (by decide +kernel) rfl) rfl (fun j hj => by rcases (show j = 0 ∨ j = 1 ∨ j = 2 ∨ j = 3 by omega) with rfl | rfl | rfl | rfl <;> rfl) (by decide) dX11_init_5 ?_
  refine ki_dup X rfl dX11_init_8 ?_
  refine kiN_call X KI (i := 0) (kiCC_3 l) rfl kiW_3 (Or.inr (knBm 308 (by decide +kernel) rfl)) (by decide) (Nat.le_of_ble_eq_true rfl) (by decide) dX11_init_9 ?_
  refine kiN_putF X KI hla rfl knInX11 tX11 tyX11_ok nmX11 rfl 0 (by decide) (knGm 309 (by decide +kernel) rfl) rfl rfl hnm rfl (ty := (.object "KnotLaboratory$Diagram")) rfl rfl rfl (Nat.le_of_ble_eq_true rfl) dX11_init_12 ?_
  exact ki_vret X hr dX11_init_15 hlk
def kiF_6 (G : knGT) (N : Nat) : va_E := .inr (6, [.ref (knN0 G + (N + 0)), .ref (knN0 G + (N + 1)), .int 0, .null, .int 0, .int 0])
def kiN_6 (G : knGT) (N : Nat) : List va_E := [.inl (knCy G 2, 60, .inl (fun _ => 0))] ++ ([.inl (knCy G 0, 4, .inl (fun _ => 0))])
theorem kiW_6 : knWi9 yX9_init cX9_init 1 := ⟨(knGm 321 (by decide +kernel) rfl), (knGm 122 (by decide +kernel) rfl), (knGm 320 (by decide +kernel) rfl), rfl, by decide +kernel, by decide +kernel, by decide +kernel⟩
set_option maxHeartbeats 4000000 in
set_option maxRecDepth 100000 in
theorem kiCC_6 {G : knGT} (l : Launch) : kiCC G l yX9_init cX9_init 1 2 60 2 64 6 [.null, .null, .int 0, .null, .int 0, .int 0] (kiF_6 G) (kiN_6 G) := by
  intro cs a ha
  have hla := (List.getElem?_eq_some_iff.mp ha).1
  refine ki_ofJ (by decide) (Nat.le_of_ble_eq_true rfl) rfl ?_
  intro p e s m args below meth c X KI hr hlk hnm
  refine kiN_0 ha ?_
  refine ki_aload X 0 dX9_init_0 rfl ?_
  refine ki_obj X (knGm 322 (by decide +kernel) rfl) (knGm 152 (by decide +kernel) rfl) (knGm 153 (by decide +kernel) rfl) (by decide) dX9_init_1 ?_
  refine ki_aload X 0 dX9_init_4 rfl ?_
  refine ki_bipush X (n := 60) dX9_init_5 rfl ?_
  refine kiN_newa X KI 2 (N := 60) (a0 := (60, .inl (fun _ => 0))) (by decide) rfl rfl (knGm 345 (by decide +kernel) rfl) (fun _ => rfl) rfl (by decide) (by decide) (by decide) dX9_init_7 ?_
  refine kiN_putF X KI hla rfl knInX9 tX9 tyX9_ok nmX9 rfl 0 (by decide) (knGm 323 (by decide +kernel) rfl) rfl rfl hnm rfl (ty := (.array .char)) rfl rfl rfl (Nat.le_of_ble_eq_true rfl) dX9_init_9 ?_
  refine ki_aload X 0 dX9_init_12 rfl ?_
  refine ki_iconst X dX9_init_13 ?_
  refine kiN_newa X KI 0 (N := 4) (a0 := (4, .inl (fun _ => 0))) (by decide) rfl rfl (knGm 191 (by decide +kernel) rfl) (fun _ => rfl) rfl (by decide) (by decide) (by decide) dX9_init_14 ?_
  refine kiN_putF X KI hla rfl knInX9 tX9 tyX9_ok nmX9 rfl 1 (by decide) (knGm 324 (by decide +kernel) rfl) rfl rfl hnm rfl (ty := (.array .int)) rfl rfl rfl (Nat.le_of_ble_eq_true rfl) dX9_init_16 ?_
  exact ki_vret X hr dX9_init_19 hlk
def kiF_5 (G : knGT) (N : Nat) : va_E := .inr (5, [.ref (knN0 G + (N + 0)), .int 0])
def kiN_5 (G : knGT) (N : Nat) : List va_E := [.inl (knCy G 2, 256, .inl (fun _ => 0))]
theorem kiW_5 : knWi9 yX7_init cX7_init 1 := ⟨(knGm 350 (by decide +kernel) rfl), (knGm 123 (by decide +kernel) rfl), (knGm 349 (by decide +kernel) rfl), rfl, by decide +kernel, by decide +kernel, by decide +kernel⟩
set_option maxHeartbeats 4000000 in
set_option maxRecDepth 100000 in
theorem kiCC_5 {G : knGT} (l : Launch) : kiCC G l yX7_init cX7_init 1 2 60 1 256 5 [.null, .int 0] (kiF_5 G) (kiN_5 G) := by
  intro cs a ha
  have hla := (List.getElem?_eq_some_iff.mp ha).1
  refine ki_ofJ (by decide) (Nat.le_of_ble_eq_true rfl) rfl ?_
  intro p e s m args below meth c X KI hr hlk hnm
  refine kiN_0 ha ?_
  refine ki_aload X 0 dX7_init_0 rfl ?_
  refine ki_obj X (knGm 351 (by decide +kernel) rfl) (knGm 152 (by decide +kernel) rfl) (knGm 153 (by decide +kernel) rfl) (by decide) dX7_init_1 ?_
  refine ki_aload X 0 dX7_init_4 rfl ?_
  refine ki_sipush X (n := 256) dX7_init_5 rfl ?_
  refine kiN_newa X KI 2 (N := 256) (a0 := (256, .inl (fun _ => 0))) (by decide) rfl rfl (knGm 345 (by decide +kernel) rfl) (fun _ => rfl) rfl (by decide) (by decide) (by decide) dX7_init_8 ?_
  refine kiN_putF X KI hla rfl knInX7 tX7 tyX7_ok nmX7 rfl 0 (by decide) (knGm 352 (by decide +kernel) rfl) rfl rfl hnm rfl (ty := (.array .char)) rfl rfl rfl (Nat.le_of_ble_eq_true rfl) dX7_init_10 ?_
  exact ki_vret X hr dX7_init_13 hlk
def kiF_9 (G : knGT) (N : Nat) : va_E := .inr (9, [.ref (knN0 G + (N + 0)), .ref (knN0 G + (N + 1)), .ref (knN0 G + (N + 5)), .ref (knN0 G + (N + 9)), .ref (knN0 G + (N + 18)), .ref (knN0 G + (N + 22)), .ref (knN0 G + (N + 105)), .ref (knN0 G + (N + 118)), .ref (knN0 G + (N + 131)), .ref (knN0 G + (N + 136)), .ref (knN0 G + (N + 139)), .int 0, .int (-1), .int (-1)])
def kiN_9 (G : knGT) (N : Nat) : List va_E := [kiF_7 G (N + 1)] ++ (kiN_7 G (N + 1) ++ ([kiF_7 G (N + 10)] ++ (kiN_7 G (N + 10) ++ ([kiF_3 G (N + 19)] ++ (kiN_3 G (N + 19) ++ ([kiF_4 G (N + 23)] ++ (kiN_4 G (N + 23) ++ ([kiF_2 G (N + 106)] ++ (kiN_2 G (N + 106) ++ ([kiF_1 G (N + 119)] ++ (kiN_1 G (N + 119) ++ ([kiF_8 G (N + 132)] ++ (kiN_8 G (N + 132) ++ ([kiF_6 G (N + 137)] ++ (kiN_6 G (N + 137) ++ ([kiF_5 G (N + 140)] ++ (kiN_5 G (N + 140))))))))))))))))))
theorem kiW_9 : knWi9 yX12_init cX12_init 1 := ⟨(knGm 150 (by decide +kernel) rfl), (knGm 114 (by decide +kernel) rfl), (knGm 149 (by decide +kernel) rfl), rfl, by decide +kernel, by decide +kernel, by decide +kernel⟩
set_option maxHeartbeats 4000000 in
set_option maxRecDepth 100000 in
theorem kiCC_9 {G : knGT} (l : Launch) : kiCC G l yX12_init cX12_init 1 5 121 141 1393 9 [.null, .null, .null, .null, .null, .null, .null, .null, .null, .null, .null, .int 0, .int 0, .int 0] (kiF_9 G) (kiN_9 G) := by
  intro cs a ha
  have hla := (List.getElem?_eq_some_iff.mp ha).1
  refine ki_ofJ (by decide) (Nat.le_of_ble_eq_true rfl) rfl ?_
  intro p e s m args below meth c X KI hr hlk hnm
  refine kiN_0 ha ?_
  refine ki_aload X 0 dX12_init_0 rfl ?_
  refine ki_obj X (knGm 151 (by decide +kernel) rfl) (knGm 152 (by decide +kernel) rfl) (knGm 153 (by decide +kernel) rfl) (by decide) dX12_init_1 ?_
  refine ki_aload X 0 dX12_init_4 rfl ?_
  refine kiN_new X KI (C := "KnotLaboratory$State") (N := 2) (ci := 7) (fs := [.null, .null]) knInX10 tX10 tyX10_ok (knGm 154 (by decide +kernel) rfl) (knGm 155 (by decide +kernel) rfl) (knGm 115 (by decide +kernel) rfl) rfl (fun j hj => by rcases (show j = 0 ∨ j = 1 by omega) with rfl | rfl <;> rfl) (by decide) dX12_init_5 ?_
  refine ki_dup X rfl dX12_init_8 ?_
  refine kiN_call X KI (i := 0) (kiCC_7 l) rfl kiW_7 (Or.inr (knBm 156 (by decide +kernel) rfl)) (by decide) (Nat.le_of_ble_eq_true rfl) (by decide) dX12_init_9 ?_
  refine kiN_putF X KI hla rfl knInX12 tX12 tyX12_ok nmX12 rfl 0 (by decide) (knGm 361 (by decide +kernel) rfl) rfl rfl hnm rfl (ty := (.object "KnotLaboratory$State")) rfl rfl rfl (Nat.le_of_ble_eq_true rfl) dX12_init_12 ?_
  refine ki_aload X 0 dX12_init_15 rfl ?_
  refine ki_aload X 0 dX12_init_16 rfl ?_
  refine kiN_getA X KI hla rfl knInX12 rfl 0 (by decide) (knGm 361 (by decide +kernel) rfl) rfl rfl dX12_init_17 ?_
  refine kiN_get X KI (i := 0) (ci := 7) rfl knInX10 rfl 0 (by decide) (knGm 221 (by decide +kernel) rfl) rfl rfl dX12_init_20 ?_
  refine kiN_putF X KI hla rfl knInX12 tX12 tyX12_ok nmX12 rfl 1 (by decide) (knGm 362 (by decide +kernel) rfl) rfl rfl hnm rfl (ty := (.object "KnotLaboratory$Diagram")) rfl rfl rfl (Nat.le_of_ble_eq_true rfl) dX12_init_23 ?_
  refine ki_aload X 0 dX12_init_26 rfl ?_
  refine ki_aload X 0 dX12_init_27 rfl ?_
  refine kiN_getA X KI hla rfl knInX12 rfl 0 (by decide) (knGm 361 (by decide +kernel) rfl) rfl rfl dX12_init_28 ?_
  refine kiN_get X KI (i := 0) (ci := 7) rfl knInX10 rfl 1 (by decide) (knGm 223 (by decide +kernel) rfl) rfl rfl dX12_init_31 ?_
  refine kiN_putF X KI hla rfl knInX12 tX12 tyX12_ok nmX12 rfl 2 (by decide) (knGm 363 (by decide +kernel) rfl) rfl rfl hnm rfl (ty := (.object "KnotLaboratory$Bets")) rfl rfl rfl (Nat.le_of_ble_eq_true rfl) dX12_init_34 ?_
  refine ki_aload X 0 dX12_init_37 rfl ?_
  refine kiN_new X KI (C := "KnotLaboratory$State") (N := 2) (ci := 7) (fs := [.null, .null]) knInX10 tX10 tyX10_ok (knGm 154 (by decide +kernel) rfl) (knGm 155 (by decide +kernel) rfl) (knGm 115 (by decide +kernel) rfl) rfl (fun j hj => by rcases (show j = 0 ∨ j = 1 by omega) with rfl | rfl <;> rfl) (by decide) dX12_init_38 ?_
  refine ki_dup X rfl dX12_init_41 ?_
  refine kiN_call X KI (i := 9) (kiCC_7 l) rfl kiW_7 (Or.inr (knBm 156 (by decide +kernel) rfl)) (by decide) (Nat.le_of_ble_eq_true rfl) (by decide) dX12_init_42 ?_
  refine kiN_putF X KI hla rfl knInX12 tX12 tyX12_ok nmX12 rfl 3 (by decide) (knGm 364 (by decide +kernel) rfl) rfl rfl hnm rfl (ty := (.object "KnotLaboratory$State")) rfl rfl rfl (Nat.le_of_ble_eq_true rfl) dX12_init_45 ?_
  refine ki_aload X 0 dX12_init_48 rfl ?_
  refine kiN_new X KI (C := "KnotLaboratory$Diagram") (N := 4) (ci := 3) (fs := [.null, .null, .null, .int 0]) knInX5 tX5 tyX5_ok (knGm 229 (by decide +kernel) rfl) (knGm 161 (by decide +kernel) rfl) (knGm 116 (by decide +kernel) rfl) rfl (fun j hj => by rcases (show j = 0 ∨ j = 1 ∨ j = 2 ∨ j = 3 by omega) with rfl | rfl | rfl | rfl <;> rfl) (by decide) dX12_init_49 ?_
  refine ki_dup X rfl dX12_init_52 ?_
  refine kiN_call X KI (i := 18) (kiCC_3 l) rfl kiW_3 (Or.inr (knBm 230 (by decide +kernel) rfl)) (by decide) (Nat.le_of_ble_eq_true rfl) (by decide) dX12_init_53 ?_
  refine kiN_putF X KI hla rfl knInX12 tX12 tyX12_ok nmX12 rfl 4 (by decide) (knGm 365 (by decide +kernel) rfl) rfl rfl hnm rfl (ty := (.object "KnotLaboratory$Diagram")) rfl rfl rfl (Nat.le_of_ble_eq_true rfl) dX12_init_56 ?_
  refine ki_aload X 0 dX12_init_59 rfl ?_
  refine kiN_new X KI (C := "KnotLaboratory$History") (N := 3) (ci := 4) (fs := [.null, .int 0, .int 0]) knInX6 tX6 tyX6_ok (knGm 231 (by decide +kernel) rfl) (knGm 232 (by decide +kernel) rfl) (knGm 118 (by decide +kernel) rfl) rfl (fun j hj => by rcases (show j = 0 ∨ j = 1 ∨ j = 2 by omega) with rfl | rfl | rfl <;> rfl) (by decide) dX12_init_60 ?_
  refine ki_dup X rfl dX12_init_63 ?_
  refine kiN_call X KI (i := 22) (kiCC_4 l) rfl kiW_4 (Or.inl (knGm 233 (by decide +kernel) rfl)) (by decide) (Nat.le_of_ble_eq_true rfl) (by decide) dX12_init_64 ?_
  refine kiN_putF X KI hla rfl knInX12 tX12 tyX12_ok nmX12 rfl 5 (by decide) (knGm 366 (by decide +kernel) rfl) rfl rfl hnm rfl (ty := (.object "KnotLaboratory$History")) rfl rfl rfl (Nat.le_of_ble_eq_true rfl) dX12_init_67 ?_
  refine ki_aload X 0 dX12_init_70 rfl ?_
  refine kiN_new X KI (C := "KnotLaboratory$Colouring") (N := 6) (ci := 2) (fs := [.null, .null, .null, .null, .null, .int 0]) knInX3 tX3 tyX3_ok (knGm 251 (by decide +kernel) rfl) (knGm 252 (by decide +kernel) rfl) (knGm 119 (by decide +kernel) rfl) rfl (fun j hj => by rcases (show j = 0 ∨ j = 1 ∨ j = 2 ∨ j = 3 ∨ j = 4 ∨ j = 5 by omega) with rfl | rfl | rfl | rfl | rfl | rfl <;> rfl) (by decide) dX12_init_71 ?_
  refine ki_dup X rfl dX12_init_74 ?_
  refine kiN_call X KI (i := 105) (kiCC_2 l) rfl kiW_2 (Or.inr (knBm 253 (by decide +kernel) rfl)) (by decide) (Nat.le_of_ble_eq_true rfl) (by decide) dX12_init_75 ?_
  refine kiN_putF X KI hla rfl knInX12 tX12 tyX12_ok nmX12 rfl 6 (by decide) (knGm 367 (by decide +kernel) rfl) rfl rfl hnm rfl (ty := (.object "KnotLaboratory$Colouring")) rfl rfl rfl (Nat.le_of_ble_eq_true rfl) dX12_init_78 ?_
  refine ki_aload X 0 dX12_init_81 rfl ?_
  refine kiN_new X KI (C := "KnotLaboratory$Bracket") (N := 4) (ci := 1) (fs := [.null, .null, .null, .null]) knInX2 tX2 tyX2_ok (knGm 278 (by decide +kernel) rfl) (knGm 279 (by decide +kernel) rfl) (knGm 120 (by decide +kernel) rfl) rfl (fun j hj => by rcases (show j = 0 ∨ j = 1 ∨ j = 2 ∨ j = 3 by omega) with rfl | rfl | rfl | rfl <;> rfl) (by decide) dX12_init_82 ?_
  refine ki_dup X rfl dX12_init_85 ?_
  refine kiN_call X KI (i := 118) (kiCC_1 l) rfl kiW_1 (Or.inr (knBm 280 (by decide +kernel) rfl)) (by decide) (Nat.le_of_ble_eq_true rfl) (by decide) dX12_init_86 ?_
  refine kiN_putF X KI hla rfl knInX12 tX12 tyX12_ok nmX12 rfl 7 (by decide) (knGm 368 (by decide +kernel) rfl) rfl rfl hnm rfl (ty := (.object "KnotLaboratory$Bracket")) rfl rfl rfl (Nat.le_of_ble_eq_true rfl) dX12_init_89 ?_
  refine ki_aload X 0 dX12_init_92 rfl ?_
  refine kiN_new X KI (C := "KnotLaboratory$SwitchSearch") (N := 2) (ci := 8) (fs := [.null, .int 0]) knInX11 tX11 tyX11_ok (knGm 301 (by decide +kernel) rfl) (knGm 302 (by decide +kernel) rfl) (knGm 121 (by decide +kernel) rfl) rfl (fun j hj => by rcases (show j = 0 ∨ j = 1 by omega) with rfl | rfl <;> rfl) (by decide) dX12_init_93 ?_
  refine ki_dup X rfl dX12_init_96 ?_
  refine kiN_call X KI (i := 131) (kiCC_8 l) rfl kiW_8 (Or.inr (knBm 303 (by decide +kernel) rfl)) (by decide) (Nat.le_of_ble_eq_true rfl) (by decide) dX12_init_97 ?_
  refine kiN_putF X KI hla rfl knInX12 tX12 tyX12_ok nmX12 rfl 8 (by decide) (knGm 369 (by decide +kernel) rfl) rfl rfl hnm rfl (ty := (.object "KnotLaboratory$SwitchSearch")) rfl rfl rfl (Nat.le_of_ble_eq_true rfl) dX12_init_100 ?_
  refine ki_aload X 0 dX12_init_103 rfl ?_
  refine kiN_new X KI (C := "KnotLaboratory$Script") (N := 6) (ci := 6) (fs := [.null, .null, .int 0, .null, .int 0, .int 0]) knInX9 tX9 tyX9_ok (knGm 317 (by decide +kernel) rfl) (knGm 318 (by decide +kernel) rfl) (knGm 122 (by decide +kernel) rfl) rfl (fun j hj => by rcases (show j = 0 ∨ j = 1 ∨ j = 2 ∨ j = 3 ∨ j = 4 ∨ j = 5 by omega) with rfl | rfl | rfl | rfl | rfl | rfl <;> rfl) (by decide) dX12_init_104 ?_
  refine ki_dup X rfl dX12_init_107 ?_
  refine kiN_call X KI (i := 136) (kiCC_6 l) rfl kiW_6 (Or.inr (knBm 319 (by decide +kernel) rfl)) (by decide) (Nat.le_of_ble_eq_true rfl) (by decide) dX12_init_108 ?_
  refine kiN_putF X KI hla rfl knInX12 tX12 tyX12_ok nmX12 rfl 9 (by decide) (knGm 370 (by decide +kernel) rfl) rfl rfl hnm rfl (ty := (.object "KnotLaboratory$Script")) rfl rfl rfl (Nat.le_of_ble_eq_true rfl) dX12_init_111 ?_
  refine ki_aload X 0 dX12_init_114 rfl ?_
  refine kiN_new X KI (C := "KnotLaboratory$Output") (N := 2) (ci := 5) (fs := [.null, .int 0]) knInX7 tX7 tyX7_ok (knGm 346 (by decide +kernel) rfl) (knGm 347 (by decide +kernel) rfl) (knGm 123 (by decide +kernel) rfl) rfl (fun j hj => by rcases (show j = 0 ∨ j = 1 by omega) with rfl | rfl <;> rfl) (by decide) dX12_init_115 ?_
  refine ki_dup X rfl dX12_init_118 ?_
  refine kiN_call X KI (i := 139) (kiCC_5 l) rfl kiW_5 (Or.inr (knBm 348 (by decide +kernel) rfl)) (by decide) (Nat.le_of_ble_eq_true rfl) (by decide) dX12_init_119 ?_
  refine kiN_putF X KI hla rfl knInX12 tX12 tyX12_ok nmX12 rfl 10 (by decide) (knGm 371 (by decide +kernel) rfl) rfl rfl hnm rfl (ty := (.object "KnotLaboratory$Output")) rfl rfl rfl (Nat.le_of_ble_eq_true rfl) dX12_init_122 ?_
  refine ki_aload X 0 dX12_init_125 rfl ?_
  refine ki_iconst X dX12_init_126 ?_
  refine kiN_put X KI hla rfl knInX12 tX12 tyX12_ok nmX12 rfl 12 (by decide) (knGm 373 (by decide +kernel) rfl) rfl rfl (ty := .int) rfl rfl rfl (Nat.le_of_ble_eq_true rfl) dX12_init_127 ?_
  refine ki_aload X 0 dX12_init_130 rfl ?_
  refine ki_iconst X dX12_init_131 ?_
  refine kiN_put X KI hla rfl knInX12 tX12 tyX12_ok nmX12 rfl 13 (by decide) (knGm 374 (by decide +kernel) rfl) rfl rfl (ty := .int) rfl rfl rfl (Nat.le_of_ble_eq_true rfl) dX12_init_132 ?_
  exact ki_vret X hr dX12_init_135 hlk
def kiF_10 (G : knGT) (N : Nat) : va_E := .inr (10, [.int 0, .ref (knN0 G + (N + 0)), .ref (knN0 G + (N + 1)), .ref (knN0 G + (N + 2)), .ref (knN0 G + (N + 3)), .int 0, .int 0, .int 0, .int 0, .ref (knN0 G + (N + 4)), .ref (knN0 G + (N + 5)), .ref (knN0 G + (N + 6)), .ref (knN0 G + (N + 7)), .ref (knN0 G + (N + 8)), .ref (knN0 G + (N + 9)), .ref (knN0 G + (N + 10)), .ref (knN0 G + (N + 11)), .ref (knN0 G + (N + 12)), .ref (knN0 G + (N + 13)), .int 0, .ref (knN0 G + (N + 14)), .int 0, .int 0, .int (-1), .int (-1), .ref (knN0 G + (N + 15)), .int 0, .int 0])
def kiN_10 (G : knGT) (N : Nat) : List va_E := [.inl (knCy G 0, 50, .inl (fun _ => 0))] ++ ([.inl (knCy G 0, 400, .inl (fun _ => 0))] ++ ([.inl (knCy G 0, 50, .inl (fun _ => 0))] ++ ([.inl (knCy G 0, 50, .inl (fun _ => 0))] ++ ([.inl (knCy G 0, 14, .inl (fun _ => 0))] ++ ([.inl (knCy G 0, 14, .inl (fun _ => 0))] ++ ([.inl (knCy G 0, 7, .inl (fun _ => 0))] ++ ([.inl (knCy G 0, 49, .inl (fun _ => 0))] ++ ([.inl (knCy G 0, 14, .inl (fun _ => 0))] ++ ([.inl (knCy G 0, 101, .inl (fun _ => 0))] ++ ([.inl (knCy G 0, 101, .inl (fun _ => 0))] ++ ([.inl (knCy G 0, 101, .inl (fun _ => 0))] ++ ([.inl (knCy G 0, 101, .inl (fun _ => 0))] ++ ([.inl (knCy G 2, 300, .inl (fun _ => 0))] ++ ([.inl (knCy G 2, 60, .inl (fun _ => 0))] ++ ([.inl (knCy G 0, 4, .inl (fun _ => 0))])))))))))))))))
theorem kiW_10 : knWi9 yX13_init cX13_init 1 := ⟨(knGm 1502 (by decide +kernel) rfl), (knGm 124 (by decide +kernel) rfl), (knGm 1501 (by decide +kernel) rfl), rfl, by decide +kernel, by decide +kernel, by decide +kernel⟩
set_option maxHeartbeats 4000000 in
set_option maxRecDepth 100000 in
theorem kiCC_10 {G : knGT} (l : Launch) : kiCC G l yX13_init cX13_init 1 2 60 16 1416 10 [.int 0, .null, .null, .null, .null, .int 0, .int 0, .int 0, .int 0, .null, .null, .null, .null, .null, .null, .null, .null, .null, .null, .int 0, .null, .int 0, .int 0, .int 0, .int 0, .null, .int 0, .int 0] (kiF_10 G) (kiN_10 G) := by
  intro cs a ha
  have hla := (List.getElem?_eq_some_iff.mp ha).1
  refine ki_ofJ (by decide) (Nat.le_of_ble_eq_true rfl) rfl ?_
  intro p e s m args below meth c X KI hr hlk hnm
  refine kiN_0 ha ?_
  refine ki_aload X 0 dX13_init_0 rfl ?_
  refine ki_obj X (knGm 1503 (by decide +kernel) rfl) (knGm 152 (by decide +kernel) rfl) (knGm 153 (by decide +kernel) rfl) (by decide) dX13_init_1 ?_
  refine ki_aload X 0 dX13_init_4 rfl ?_
  refine ki_bipush X (n := 50) dX13_init_5 rfl ?_
  refine kiN_newa X KI 0 (N := 50) (a0 := (50, .inl (fun _ => 0))) (by decide) rfl rfl (knGm 191 (by decide +kernel) rfl) (fun _ => rfl) rfl (by decide) (by decide) (by decide) dX13_init_7 ?_
  refine kiN_putF X KI hla rfl knInX13 tX13 tyX13_ok nmX13 rfl 1 (by decide) (knGm 1505 (by decide +kernel) rfl) rfl rfl hnm rfl (ty := (.array .int)) rfl rfl rfl (Nat.le_of_ble_eq_true rfl) dX13_init_9 ?_
  refine ki_aload X 0 dX13_init_12 rfl ?_
  refine ki_sipush X (n := 400) dX13_init_13 rfl ?_
  refine kiN_newa X KI 0 (N := 400) (a0 := (400, .inl (fun _ => 0))) (by decide) rfl rfl (knGm 191 (by decide +kernel) rfl) (fun _ => rfl) rfl (by decide) (by decide) (by decide) dX13_init_16 ?_
  refine kiN_putF X KI hla rfl knInX13 tX13 tyX13_ok nmX13 rfl 2 (by decide) (knGm 1506 (by decide +kernel) rfl) rfl rfl hnm rfl (ty := (.array .int)) rfl rfl rfl (Nat.le_of_ble_eq_true rfl) dX13_init_18 ?_
  refine ki_aload X 0 dX13_init_21 rfl ?_
  refine ki_bipush X (n := 50) dX13_init_22 rfl ?_
  refine kiN_newa X KI 0 (N := 50) (a0 := (50, .inl (fun _ => 0))) (by decide) rfl rfl (knGm 191 (by decide +kernel) rfl) (fun _ => rfl) rfl (by decide) (by decide) (by decide) dX13_init_24 ?_
  refine kiN_putF X KI hla rfl knInX13 tX13 tyX13_ok nmX13 rfl 3 (by decide) (knGm 1507 (by decide +kernel) rfl) rfl rfl hnm rfl (ty := (.array .int)) rfl rfl rfl (Nat.le_of_ble_eq_true rfl) dX13_init_26 ?_
  refine ki_aload X 0 dX13_init_29 rfl ?_
  refine ki_bipush X (n := 50) dX13_init_30 rfl ?_
  refine kiN_newa X KI 0 (N := 50) (a0 := (50, .inl (fun _ => 0))) (by decide) rfl rfl (knGm 191 (by decide +kernel) rfl) (fun _ => rfl) rfl (by decide) (by decide) (by decide) dX13_init_32 ?_
  refine kiN_putF X KI hla rfl knInX13 tX13 tyX13_ok nmX13 rfl 4 (by decide) (knGm 1508 (by decide +kernel) rfl) rfl rfl hnm rfl (ty := (.array .int)) rfl rfl rfl (Nat.le_of_ble_eq_true rfl) dX13_init_34 ?_
  refine ki_aload X 0 dX13_init_37 rfl ?_
  refine ki_bipush X (n := 14) dX13_init_38 rfl ?_
  refine kiN_newa X KI 0 (N := 14) (a0 := (14, .inl (fun _ => 0))) (by decide) rfl rfl (knGm 191 (by decide +kernel) rfl) (fun _ => rfl) rfl (by decide) (by decide) (by decide) dX13_init_40 ?_
  refine kiN_putF X KI hla rfl knInX13 tX13 tyX13_ok nmX13 rfl 9 (by decide) (knGm 1513 (by decide +kernel) rfl) rfl rfl hnm rfl (ty := (.array .int)) rfl rfl rfl (Nat.le_of_ble_eq_true rfl) dX13_init_42 ?_
  refine ki_aload X 0 dX13_init_45 rfl ?_
  refine ki_bipush X (n := 14) dX13_init_46 rfl ?_
  refine kiN_newa X KI 0 (N := 14) (a0 := (14, .inl (fun _ => 0))) (by decide) rfl rfl (knGm 191 (by decide +kernel) rfl) (fun _ => rfl) rfl (by decide) (by decide) (by decide) dX13_init_48 ?_
  refine kiN_putF X KI hla rfl knInX13 tX13 tyX13_ok nmX13 rfl 10 (by decide) (knGm 1514 (by decide +kernel) rfl) rfl rfl hnm rfl (ty := (.array .int)) rfl rfl rfl (Nat.le_of_ble_eq_true rfl) dX13_init_50 ?_
  refine ki_aload X 0 dX13_init_53 rfl ?_
  refine ki_bipush X (n := 7) dX13_init_54 rfl ?_
  refine kiN_newa X KI 0 (N := 7) (a0 := (7, .inl (fun _ => 0))) (by decide) rfl rfl (knGm 191 (by decide +kernel) rfl) (fun _ => rfl) rfl (by decide) (by decide) (by decide) dX13_init_56 ?_
  refine kiN_putF X KI hla rfl knInX13 tX13 tyX13_ok nmX13 rfl 11 (by decide) (knGm 1515 (by decide +kernel) rfl) rfl rfl hnm rfl (ty := (.array .int)) rfl rfl rfl (Nat.le_of_ble_eq_true rfl) dX13_init_58 ?_
  refine ki_aload X 0 dX13_init_61 rfl ?_
  refine ki_bipush X (n := 49) dX13_init_62 rfl ?_
  refine kiN_newa X KI 0 (N := 49) (a0 := (49, .inl (fun _ => 0))) (by decide) rfl rfl (knGm 191 (by decide +kernel) rfl) (fun _ => rfl) rfl (by decide) (by decide) (by decide) dX13_init_64 ?_
  refine kiN_putF X KI hla rfl knInX13 tX13 tyX13_ok nmX13 rfl 12 (by decide) (knGm 1516 (by decide +kernel) rfl) rfl rfl hnm rfl (ty := (.array .int)) rfl rfl rfl (Nat.le_of_ble_eq_true rfl) dX13_init_66 ?_
  refine ki_aload X 0 dX13_init_69 rfl ?_
  refine ki_bipush X (n := 14) dX13_init_70 rfl ?_
  refine kiN_newa X KI 0 (N := 14) (a0 := (14, .inl (fun _ => 0))) (by decide) rfl rfl (knGm 191 (by decide +kernel) rfl) (fun _ => rfl) rfl (by decide) (by decide) (by decide) dX13_init_72 ?_
  refine kiN_putF X KI hla rfl knInX13 tX13 tyX13_ok nmX13 rfl 13 (by decide) (knGm 1517 (by decide +kernel) rfl) rfl rfl hnm rfl (ty := (.array .int)) rfl rfl rfl (Nat.le_of_ble_eq_true rfl) dX13_init_74 ?_
  refine ki_aload X 0 dX13_init_77 rfl ?_
  refine ki_bipush X (n := 101) dX13_init_78 rfl ?_
  refine kiN_newa X KI 0 (N := 101) (a0 := (101, .inl (fun _ => 0))) (by decide) rfl rfl (knGm 191 (by decide +kernel) rfl) (fun _ => rfl) rfl (by decide) (by decide) (by decide) dX13_init_80 ?_
  refine kiN_putF X KI hla rfl knInX13 tX13 tyX13_ok nmX13 rfl 14 (by decide) (knGm 1518 (by decide +kernel) rfl) rfl rfl hnm rfl (ty := (.array .int)) rfl rfl rfl (Nat.le_of_ble_eq_true rfl) dX13_init_82 ?_
  refine ki_aload X 0 dX13_init_85 rfl ?_
  refine ki_bipush X (n := 101) dX13_init_86 rfl ?_
  refine kiN_newa X KI 0 (N := 101) (a0 := (101, .inl (fun _ => 0))) (by decide) rfl rfl (knGm 191 (by decide +kernel) rfl) (fun _ => rfl) rfl (by decide) (by decide) (by decide) dX13_init_88 ?_
  refine kiN_putF X KI hla rfl knInX13 tX13 tyX13_ok nmX13 rfl 15 (by decide) (knGm 1519 (by decide +kernel) rfl) rfl rfl hnm rfl (ty := (.array .int)) rfl rfl rfl (Nat.le_of_ble_eq_true rfl) dX13_init_90 ?_
  refine ki_aload X 0 dX13_init_93 rfl ?_
  refine ki_bipush X (n := 101) dX13_init_94 rfl ?_
  refine kiN_newa X KI 0 (N := 101) (a0 := (101, .inl (fun _ => 0))) (by decide) rfl rfl (knGm 191 (by decide +kernel) rfl) (fun _ => rfl) rfl (by decide) (by decide) (by decide) dX13_init_96 ?_
  refine kiN_putF X KI hla rfl knInX13 tX13 tyX13_ok nmX13 rfl 16 (by decide) (knGm 1520 (by decide +kernel) rfl) rfl rfl hnm rfl (ty := (.array .int)) rfl rfl rfl (Nat.le_of_ble_eq_true rfl) dX13_init_98 ?_
  refine ki_aload X 0 dX13_init_101 rfl ?_
  refine ki_bipush X (n := 101) dX13_init_102 rfl ?_
  refine kiN_newa X KI 0 (N := 101) (a0 := (101, .inl (fun _ => 0))) (by decide) rfl rfl (knGm 191 (by decide +kernel) rfl) (fun _ => rfl) rfl (by decide) (by decide) (by decide) dX13_init_104 ?_
  refine kiN_putF X KI hla rfl knInX13 tX13 tyX13_ok nmX13 rfl 17 (by decide) (knGm 1521 (by decide +kernel) rfl) rfl rfl hnm rfl (ty := (.array .int)) rfl rfl rfl (Nat.le_of_ble_eq_true rfl) dX13_init_106 ?_
  refine ki_aload X 0 dX13_init_109 rfl ?_
  refine ki_sipush X (n := 300) dX13_init_110 rfl ?_
  refine kiN_newa X KI 2 (N := 300) (a0 := (300, .inl (fun _ => 0))) (by decide) rfl rfl (knGm 345 (by decide +kernel) rfl) (fun _ => rfl) rfl (by decide) (by decide) (by decide) dX13_init_113 ?_
  refine kiN_putF X KI hla rfl knInX13 tX13 tyX13_ok nmX13 rfl 18 (by decide) (knGm 1522 (by decide +kernel) rfl) rfl rfl hnm rfl (ty := (.array .char)) rfl rfl rfl (Nat.le_of_ble_eq_true rfl) dX13_init_115 ?_
  refine ki_aload X 0 dX13_init_118 rfl ?_
  refine ki_bipush X (n := 60) dX13_init_119 rfl ?_
  refine kiN_newa X KI 2 (N := 60) (a0 := (60, .inl (fun _ => 0))) (by decide) rfl rfl (knGm 345 (by decide +kernel) rfl) (fun _ => rfl) rfl (by decide) (by decide) (by decide) dX13_init_121 ?_
  refine kiN_putF X KI hla rfl knInX13 tX13 tyX13_ok nmX13 rfl 20 (by decide) (knGm 1524 (by decide +kernel) rfl) rfl rfl hnm rfl (ty := (.array .char)) rfl rfl rfl (Nat.le_of_ble_eq_true rfl) dX13_init_123 ?_
  refine ki_aload X 0 dX13_init_126 rfl ?_
  refine ki_iconst X dX13_init_127 ?_
  refine kiN_put X KI hla rfl knInX13 tX13 tyX13_ok nmX13 rfl 23 (by decide) (knGm 1527 (by decide +kernel) rfl) rfl rfl (ty := .int) rfl rfl rfl (Nat.le_of_ble_eq_true rfl) dX13_init_128 ?_
  refine ki_aload X 0 dX13_init_131 rfl ?_
  refine ki_iconst X dX13_init_132 ?_
  refine kiN_put X KI hla rfl knInX13 tX13 tyX13_ok nmX13 rfl 24 (by decide) (knGm 1528 (by decide +kernel) rfl) rfl rfl (ty := .int) rfl rfl rfl (Nat.le_of_ble_eq_true rfl) dX13_init_133 ?_
  refine ki_aload X 0 dX13_init_136 rfl ?_
  refine ki_iconst X dX13_init_137 ?_
  refine kiN_newa X KI 0 (N := 4) (a0 := (4, .inl (fun _ => 0))) (by decide) rfl rfl (knGm 191 (by decide +kernel) rfl) (fun _ => rfl) rfl (by decide) (by decide) (by decide) dX13_init_138 ?_
  refine kiN_putF X KI hla rfl knInX13 tX13 tyX13_ok nmX13 rfl 25 (by decide) (knGm 1529 (by decide +kernel) rfl) rfl rfl hnm rfl (ty := (.array .int)) rfl rfl rfl (Nat.le_of_ble_eq_true rfl) dX13_init_140 ?_
  exact ki_vret X hr dX13_init_143 hlk
