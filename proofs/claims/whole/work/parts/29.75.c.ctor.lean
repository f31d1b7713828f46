/-! The constructors. -/
def kiF_2 (G : knGT) (N : Nat) : va_E := .inr (2, [.ref (knN0 G + (N + 0)), .ref (knN0 G + (N + 1)), .ref (knN0 G + (N + 2)), .ref (knN0 G + (N + 3)), .ref (knN0 G + (N + 11)), .int 0])
def kiNw_2 (G : knGT) (N : Nat) : List va_E := [.inl (knCy G 0, 7, .inl (fun _ => 0))] ++ ([.inl (knCy G 0, 7, .inl (fun _ => 0))] ++ ([.inl (knCy G 0, 7, .inl (fun _ => 0))] ++ ([.inl (knCy G 4, 7, .inr (.inr (.inr (.inr (fun i => if i < 7 then some (knN0 G + (N + 3) + 1 + i) else none)))))] ++ (List.replicate 7 (.inl (knCy G 0, 7, .inl (fun _ => 0))) ++ ([.inl (knCy G 0, 7, .inl (fun _ => 0))])))))
theorem kiW_2 : knWi9 yX3_init cX3_init 1 := ⟨(knGm 255 (by decide +kernel) rfl), (knGm 119 (by decide +kernel) rfl), (knGm 254 (by decide +kernel) rfl), rfl, by decide +kernel, by decide +kernel, by decide +kernel⟩
set_option maxHeartbeats 4000000 in
set_option maxRecDepth 100000 in
theorem kiCC_2 {G : knGT} (l : Launch) : kiCC G l yX3_init cX3_init 1 2 60 12 84 2 [.null, .null, .null, .null, .null, .int 0] (kiF_2 G) (kiNw_2 G) := by
  intro cs a ha
  have hla := (List.getElem?_eq_some_iff.mp ha).1
  refine ki_ofJ (by decide) (Nat.le_of_ble_eq_true rfl) rfl ?_
  intro p e s m args below meth c X KI hr hlk hnm
  refine kiN_0 ha ?_
  refine ki_aload X 0 dX3_init_0 rfl ?_
  refine ki_obj X (knGm 256 (by decide +kernel) rfl) (knGm 152 (by decide +kernel) rfl) (knGm 153 (by decide +kernel) rfl) (by decide) dX3_init_1 ?_
  refine ki_aload X 0 dX3_init_4 rfl ?_
  refine ki_bipush X (n := 7) dX3_init_5 rfl ?_
  refine kiN_newa X KI 0 (atype := .int) (ty := .int) (N := 7) (a0 := (7, .inl (fun _ => 0))) (by decide) rfl rfl (knGm 191 (by decide +kernel) rfl) (fun _ => rfl) rfl (by decide) (by decide) (by decide) dX3_init_7 ?_
  refine kiN_putF X KI hla rfl knInX3 tyX3 tyX3_ok nmX3 rfl 0 (by decide) (knGm 259 (by decide +kernel) rfl) rfl rfl hnm rfl (ty := (.array .int)) rfl rfl rfl (Nat.le_of_ble_eq_true rfl) dX3_init_9 ?_
  refine ki_aload X 0 dX3_init_12 rfl ?_
  refine ki_bipush X (n := 7) dX3_init_13 rfl ?_
  refine kiN_newa X KI 0 (atype := .int) (ty := .int) (N := 7) (a0 := (7, .inl (fun _ => 0))) (by decide) rfl rfl (knGm 191 (by decide +kernel) rfl) (fun _ => rfl) rfl (by decide) (by decide) (by decide) dX3_init_15 ?_
  refine kiN_putF X KI hla rfl knInX3 tyX3 tyX3_ok nmX3 rfl 1 (by decide) (knGm 260 (by decide +kernel) rfl) rfl rfl hnm rfl (ty := (.array .int)) rfl rfl rfl (Nat.le_of_ble_eq_true rfl) dX3_init_17 ?_
  refine ki_aload X 0 dX3_init_20 rfl ?_
  refine ki_bipush X (n := 7) dX3_init_21 rfl ?_
  refine kiN_newa X KI 0 (atype := .int) (ty := .int) (N := 7) (a0 := (7, .inl (fun _ => 0))) (by decide) rfl rfl (knGm 191 (by decide +kernel) rfl) (fun _ => rfl) rfl (by decide) (by decide) (by decide) dX3_init_23 ?_
  refine kiN_putF X KI hla rfl knInX3 tyX3 tyX3_ok nmX3 rfl 2 (by decide) (knGm 261 (by decide +kernel) rfl) rfl rfl hnm rfl (ty := (.array .int)) rfl rfl rfl (Nat.le_of_ble_eq_true rfl) dX3_init_25 ?_
  refine ki_aload X 0 dX3_init_28 rfl ?_
  refine ki_bipush X (n := 7) dX3_init_29 rfl ?_
  refine ki_bipush X (n := 7) dX3_init_31 rfl ?_
  refine kiN_mna X KI (knGm 257 (by decide +kernel) rfl) (knGm 191 (by decide +kernel) rfl) (N := 7) (K := 7) rfl rfl (by decide) (by decide) (by decide) dX3_init_33 ?_
  refine kiN_putF X KI hla rfl knInX3 tyX3 tyX3_ok nmX3 rfl 3 (by decide) (knGm 262 (by decide +kernel) rfl) rfl rfl hnm rfl (ty := (.array (.array .int))) rfl rfl rfl (Nat.le_of_ble_eq_true rfl) dX3_init_37 ?_
  refine ki_aload X 0 dX3_init_40 rfl ?_
  refine ki_bipush X (n := 7) dX3_init_41 rfl ?_
  refine kiN_newa X KI 0 (atype := .int) (ty := .int) (N := 7) (a0 := (7, .inl (fun _ => 0))) (by decide) rfl rfl (knGm 191 (by decide +kernel) rfl) (fun _ => rfl) rfl (by decide) (by decide) (by decide) dX3_init_43 ?_
  refine kiN_putF X KI hla rfl knInX3 tyX3 tyX3_ok nmX3 rfl 4 (by decide) (knGm 263 (by decide +kernel) rfl) rfl rfl hnm rfl (ty := (.array .int)) rfl rfl rfl (Nat.le_of_ble_eq_true rfl) dX3_init_45 ?_
  exact ki_vret X hr dX3_init_48 hlk
def kiF_1 (G : knGT) (N : Nat) : va_E := .inr (1, [.ref (knN0 G + (N + 0)), .ref (knN0 G + (N + 1)), .ref (knN0 G + (N + 2)), .ref (knN0 G + (N + 3))])
def kiNw_1 (G : knGT) (N : Nat) : List va_E := [.inl (knCy G 0, 101, .inl (fun _ => 0))] ++ ([.inl (knCy G 0, 101, .inl (fun _ => 0))] ++ ([.inl (knCy G 0, 101, .inl (fun _ => 0))] ++ ([.inl (knCy G 4, 8, .inr (.inr (.inr (.inr (fun i => if i < 8 then some (knN0 G + (N + 3) + 1 + i) else none)))))] ++ (List.replicate 8 (.inl (knCy G 0, 14, .inl (fun _ => 0)))))))
theorem kiW_1 : knWi9 yX2_init cX2_init 1 := ⟨(knGm 282 (by decide +kernel) rfl), (knGm 120 (by decide +kernel) rfl), (knGm 281 (by decide +kernel) rfl), rfl, by decide +kernel, by decide +kernel, by decide +kernel⟩
set_option maxHeartbeats 4000000 in
set_option maxRecDepth 100000 in
theorem kiCC_1 {G : knGT} (l : Launch) : kiCC G l yX2_init cX2_init 1 2 60 12 423 1 [.null, .null, .null, .null] (kiF_1 G) (kiNw_1 G) := by
  intro cs a ha
  have hla := (List.getElem?_eq_some_iff.mp ha).1
  refine ki_ofJ (by decide) (Nat.le_of_ble_eq_true rfl) rfl ?_
  intro p e s m args below meth c X KI hr hlk hnm
  refine kiN_0 ha ?_
  refine ki_aload X 0 dX2_init_0 rfl ?_
  refine ki_obj X (knGm 283 (by decide +kernel) rfl) (knGm 152 (by decide +kernel) rfl) (knGm 153 (by decide +kernel) rfl) (by decide) dX2_init_1 ?_
  refine ki_aload X 0 dX2_init_4 rfl ?_
  refine ki_bipush X (n := 101) dX2_init_5 rfl ?_
  refine kiN_newa X KI 0 (atype := .int) (ty := .int) (N := 101) (a0 := (101, .inl (fun _ => 0))) (by decide) rfl rfl (knGm 191 (by decide +kernel) rfl) (fun _ => rfl) rfl (by decide) (by decide) (by decide) dX2_init_7 ?_
  refine kiN_putF X KI hla rfl knInX2 tyX2 tyX2_ok nmX2 rfl 0 (by decide) (knGm 285 (by decide +kernel) rfl) rfl rfl hnm rfl (ty := (.array .int)) rfl rfl rfl (Nat.le_of_ble_eq_true rfl) dX2_init_9 ?_
  refine ki_aload X 0 dX2_init_12 rfl ?_
  refine ki_bipush X (n := 101) dX2_init_13 rfl ?_
  refine kiN_newa X KI 0 (atype := .int) (ty := .int) (N := 101) (a0 := (101, .inl (fun _ => 0))) (by decide) rfl rfl (knGm 191 (by decide +kernel) rfl) (fun _ => rfl) rfl (by decide) (by decide) (by decide) dX2_init_15 ?_
  refine kiN_putF X KI hla rfl knInX2 tyX2 tyX2_ok nmX2 rfl 1 (by decide) (knGm 287 (by decide +kernel) rfl) rfl rfl hnm rfl (ty := (.array .int)) rfl rfl rfl (Nat.le_of_ble_eq_true rfl) dX2_init_17 ?_
  refine ki_aload X 0 dX2_init_20 rfl ?_
  refine ki_bipush X (n := 101) dX2_init_21 rfl ?_
  refine kiN_newa X KI 0 (atype := .int) (ty := .int) (N := 101) (a0 := (101, .inl (fun _ => 0))) (by decide) rfl rfl (knGm 191 (by decide +kernel) rfl) (fun _ => rfl) rfl (by decide) (by decide) (by decide) dX2_init_23 ?_
  refine kiN_putF X KI hla rfl knInX2 tyX2 tyX2_ok nmX2 rfl 2 (by decide) (knGm 289 (by decide +kernel) rfl) rfl rfl hnm rfl (ty := (.array .int)) rfl rfl rfl (Nat.le_of_ble_eq_true rfl) dX2_init_25 ?_
  refine ki_aload X 0 dX2_init_28 rfl ?_
  refine ki_bipush X (n := 8) dX2_init_29 rfl ?_
  refine ki_bipush X (n := 14) dX2_init_31 rfl ?_
  refine kiN_mna X KI (knGm 284 (by decide +kernel) rfl) (knGm 191 (by decide +kernel) rfl) (N := 8) (K := 14) rfl rfl (by decide) (by decide) (by decide) dX2_init_33 ?_
  refine kiN_putF X KI hla rfl knInX2 tyX2 tyX2_ok nmX2 rfl 3 (by decide) (knGm 291 (by decide +kernel) rfl) rfl rfl hnm rfl (ty := (.array (.array .int))) rfl rfl rfl (Nat.le_of_ble_eq_true rfl) dX2_init_37 ?_
  exact ki_vret X hr dX2_init_40 hlk
