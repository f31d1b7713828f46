/-! The constructors. -/
def kiF_3 (G : knGT) (N : Nat) : va_E := .inr (3, [.ref (knN0 G + (N + 0)), .ref (knN0 G + (N + 1)), .ref (knN0 G + (N + 2)), .int 0])
def kiNw_3 (G : knGT) (N : Nat) : List va_E := [.inl (knCy G 0, 7, .inl (fun _ => 0))] ++ ([.inl (knCy G 0, 7, .inl (fun _ => 0))] ++ ([.inl (knCy G 1, 7, .inl (fun _ => 0))]))
theorem kiW_3 : knWi9 yX5_init cX5_init 1 := ⟨(knGm 164 (by decide +kernel) rfl), (knGm 116 (by decide +kernel) rfl), (knGm 163 (by decide +kernel) rfl), rfl, by decide +kernel, by decide +kernel, by decide +kernel⟩
set_option maxHeartbeats 4000000 in
set_option maxRecDepth 100000 in
theorem kiCC_3 {G : knGT} (l : Launch) : kiCC G l yX5_init cX5_init 1 2 60 3 21 3 [.null, .null, .null, .int 0] (kiF_3 G) (kiNw_3 G) := by
  intro cs a ha
  have hla := (List.getElem?_eq_some_iff.mp ha).1
  refine ki_ofJ (by decide) (Nat.le_of_ble_eq_true rfl) rfl ?_
  intro p e s m args below meth c X KI hr hlk hnm
  refine kiN_0 ha ?_
  refine ki_aload X 0 dX5_init_0 rfl ?_
  refine ki_obj X (knGm 165 (by decide +kernel) rfl) (knGm 152 (by decide +kernel) rfl) (knGm 153 (by decide +kernel) rfl) (by decide) dX5_init_1 ?_
  refine ki_aload X 0 dX5_init_4 rfl ?_
  refine ki_bipush X (n := 7) dX5_init_5 rfl ?_
  refine kiN_newa X KI 0 (atype := .int) (ty := .int) (N := 7) (a0 := (7, .inl (fun _ => 0))) (by decide) rfl rfl (knGm 191 (by decide +kernel) rfl) (fun _ => rfl) rfl (by decide) (by decide) (by decide) dX5_init_7 ?_
  refine kiN_putF X KI hla rfl knInX5 tyX5 tyX5_ok nmX5 rfl 0 (by decide) (knGm 166 (by decide +kernel) rfl) rfl rfl hnm rfl (ty := (.array .int)) rfl rfl rfl (Nat.le_of_ble_eq_true rfl) dX5_init_9 ?_
  refine ki_aload X 0 dX5_init_12 rfl ?_
  refine ki_bipush X (n := 7) dX5_init_13 rfl ?_
  refine kiN_newa X KI 0 (atype := .int) (ty := .int) (N := 7) (a0 := (7, .inl (fun _ => 0))) (by decide) rfl rfl (knGm 191 (by decide +kernel) rfl) (fun _ => rfl) rfl (by decide) (by decide) (by decide) dX5_init_15 ?_
  refine kiN_putF X KI hla rfl knInX5 tyX5 tyX5_ok nmX5 rfl 1 (by decide) (knGm 170 (by decide +kernel) rfl) rfl rfl hnm rfl (ty := (.array .int)) rfl rfl rfl (Nat.le_of_ble_eq_true rfl) dX5_init_17 ?_
  refine ki_aload X 0 dX5_init_20 rfl ?_
  refine ki_bipush X (n := 7) dX5_init_21 rfl ?_
  refine kiN_newa X KI 1 (atype := .boolean) (ty := .boolean) (N := 7) (a0 := (7, .inl (fun _ => 0))) (by decide) rfl rfl (knGm 192 (by decide +kernel) rfl) (fun _ => rfl) rfl (by decide) (by decide) (by decide) dX5_init_23 ?_
  refine kiN_putF X KI hla rfl knInX5 tyX5 tyX5_ok nmX5 rfl 2 (by decide) (knGm 174 (by decide +kernel) rfl) rfl rfl hnm rfl (ty := (.array .boolean)) rfl rfl rfl (Nat.le_of_ble_eq_true rfl) dX5_init_25 ?_
  exact ki_vret X hr dX5_init_28 hlk
def kiF_0 (G : knGT) (N : Nat) : va_E := .inr (0, [.ref (knN0 G + (N + 0)), .ref (knN0 G + (N + 1)), .ref (knN0 G + (N + 2)), .int 0, .int 0])
def kiNw_0 (G : knGT) (N : Nat) : List va_E := [.inl (knCy G 0, 4, .inl (fun _ => 0))] ++ ([.inl (knCy G 0, 4, .inl (fun _ => 0))] ++ ([.inl (knCy G 0, 4, .inl (fun _ => 0))]))
theorem kiW_0 : knWi9 yX1_init cX1_init 1 := ⟨(knGm 197 (by decide +kernel) rfl), (knGm 117 (by decide +kernel) rfl), (knGm 196 (by decide +kernel) rfl), rfl, by decide +kernel, by decide +kernel, by decide +kernel⟩
set_option maxHeartbeats 4000000 in
set_option maxRecDepth 100000 in
theorem kiCC_0 {G : knGT} (l : Launch) : kiCC G l yX1_init cX1_init 1 2 60 3 12 0 [.null, .null, .null, .int 0, .int 0] (kiF_0 G) (kiNw_0 G) := by
  intro cs a ha
  have hla := (List.getElem?_eq_some_iff.mp ha).1
  refine ki_ofJ (by decide) (Nat.le_of_ble_eq_true rfl) rfl ?_
  intro p e s m args below meth c X KI hr hlk hnm
  refine kiN_0 ha ?_
  refine ki_aload X 0 dX1_init_0 rfl ?_
  refine ki_obj X (knGm 198 (by decide +kernel) rfl) (knGm 152 (by decide +kernel) rfl) (knGm 153 (by decide +kernel) rfl) (by decide) dX1_init_1 ?_
  refine ki_aload X 0 dX1_init_4 rfl ?_
  refine ki_iconst X dX1_init_5 ?_
  refine kiN_newa X KI 0 (atype := .int) (ty := .int) (N := 4) (a0 := (4, .inl (fun _ => 0))) (by decide) rfl rfl (knGm 191 (by decide +kernel) rfl) (fun _ => rfl) rfl (by decide) (by decide) (by decide) dX1_init_6 ?_
  refine kiN_putF X KI hla rfl knInX1 tyX1 tyX1_ok nmX1 rfl 0 (by decide) (knGm 199 (by decide +kernel) rfl) rfl rfl hnm rfl (ty := (.array .int)) rfl rfl rfl (Nat.le_of_ble_eq_true rfl) dX1_init_8 ?_
  refine ki_aload X 0 dX1_init_11 rfl ?_
  refine ki_iconst X dX1_init_12 ?_
  refine kiN_newa X KI 0 (atype := .int) (ty := .int) (N := 4) (a0 := (4, .inl (fun _ => 0))) (by decide) rfl rfl (knGm 191 (by decide +kernel) rfl) (fun _ => rfl) rfl (by decide) (by decide) (by decide) dX1_init_13 ?_
  refine kiN_putF X KI hla rfl knInX1 tyX1 tyX1_ok nmX1 rfl 1 (by decide) (knGm 201 (by decide +kernel) rfl) rfl rfl hnm rfl (ty := (.array .int)) rfl rfl rfl (Nat.le_of_ble_eq_true rfl) dX1_init_15 ?_
  refine ki_aload X 0 dX1_init_18 rfl ?_
  refine ki_iconst X dX1_init_19 ?_
  refine kiN_newa X KI 0 (atype := .int) (ty := .int) (N := 4) (a0 := (4, .inl (fun _ => 0))) (by decide) rfl rfl (knGm 191 (by decide +kernel) rfl) (fun _ => rfl) rfl (by decide) (by decide) (by decide) dX1_init_20 ?_
  refine kiN_putF X KI hla rfl knInX1 tyX1 tyX1_ok nmX1 rfl 2 (by decide) (knGm 203 (by decide +kernel) rfl) rfl rfl hnm rfl (ty := (.array .int)) rfl rfl rfl (Nat.le_of_ble_eq_true rfl) dX1_init_22 ?_
  exact ki_vret X hr dX1_init_25 hlk
def kiF_7 (G : knGT) (N : Nat) : va_E := .inr (7, [.ref (knN0 G + (N + 0)), .ref (knN0 G + (N + 4))])
def kiNw_7 (G : knGT) (N : Nat) : List va_E := [kiF_3 G (N + 1)] ++ (kiNw_3 G (N + 1) ++ ([kiF_0 G (N + 5)] ++ (kiNw_0 G (N + 5))))
theorem kiW_7 : knWi9 yX10_init cX10_init 1 := ⟨(knGm 158 (by decide +kernel) rfl), (knGm 115 (by decide +kernel) rfl), (knGm 157 (by decide +kernel) rfl), rfl, by decide +kernel, by decide +kernel, by decide +kernel⟩
set_option maxHeartbeats 4000000 in
set_option maxRecDepth 100000 in
theorem kiCC_7 {G : knGT} (l : Launch) : kiCC G l yX10_init cX10_init 1 3 80 8 42 7 [.null, .null] (kiF_7 G) (kiNw_7 G) := by
  intro cs a ha
  have hla := (List.getElem?_eq_some_iff.mp ha).1
  refine ki_ofJ (by decide) (Nat.le_of_ble_eq_true rfl) rfl ?_
  intro p e s m args below meth c X KI hr hlk hnm
  refine kiN_0 ha ?_
  refine ki_aload X 0 dX10_init_0 rfl ?_
  refine ki_obj X (knGm 159 (by decide +kernel) rfl) (knGm 152 (by decide +kernel) rfl) (knGm 153 (by decide +kernel) rfl) (by decide) dX10_init_1 ?_
  refine ki_aload X 0 dX10_init_4 rfl ?_
  refine kiN_new X KI (C := "KnotLaboratory$Diagram") (N := 4) (ci := 3) (fs := [.null, .null, .null, .int 0]) knInX5 tyX5 tyX5_ok (knGm 160 (by decide +kernel) rfl) (knGm 161 (by decide +kernel) rfl) (knGm 116 (by decide +kernel) rfl) rfl (fun j hj => by rcases (show j = 0 ∨ j = 1 ∨ j = 2 ∨ j = 3 by omega) with rfl | rfl | rfl | rfl <;> rfl) (by decide) dX10_init_5 ?_
  refine ki_dup X rfl dX10_init_8 ?_
  refine kiN_call X KI (i := 0) (kiCC_3 l) rfl kiW_3 (Or.inr (knBm 162 (by decide +kernel) rfl)) (by decide) (Nat.le_of_ble_eq_true rfl) (by decide) dX10_init_9 ?_
  refine kiN_putF X KI hla rfl knInX10 tyX10 tyX10_ok nmX10 rfl 0 (by decide) (knGm 220 (by decide +kernel) rfl) rfl rfl hnm rfl (ty := (.object "KnotLaboratory$Diagram")) rfl rfl rfl (Nat.le_of_ble_eq_true rfl) dX10_init_12 ?_
  refine ki_aload X 0 dX10_init_15 rfl ?_
  refine kiN_new X KI (C := "KnotLaboratory$Bets") (N := 5) (ci := 0) (fs := [.null, .null, .null, .int 0, .int 0]) knInX1 tyX1 tyX1_ok (knGm 193 (by decide +kernel) rfl) (knGm 194 (by decide +kernel) rfl) (knGm 117 (by decide +kernel) rfl) rfl (fun j hj => by rcases (show j = 0 ∨ j = 1 ∨ j = 2 ∨ j = 3 ∨ j = 4 by omega) with rfl | rfl | rfl | rfl | rfl <;> rfl) (by decide) dX10_init_16 ?_
  refine ki_dup X rfl dX10_init_19 ?_
  refine kiN_call X KI (i := 4) (kiCC_0 l) rfl kiW_0 (Or.inr (knBm 195 (by decide +kernel) rfl)) (by decide) (Nat.le_of_ble_eq_true rfl) (by decide) dX10_init_20 ?_
  refine kiN_putF X KI hla rfl knInX10 tyX10 tyX10_ok nmX10 rfl 1 (by decide) (knGm 222 (by decide +kernel) rfl) rfl rfl hnm rfl (ty := (.object "KnotLaboratory$Bets")) rfl rfl rfl (Nat.le_of_ble_eq_true rfl) dX10_init_23 ?_
  exact ki_vret X hr dX10_init_26 hlk
