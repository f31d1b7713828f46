/-! The constructors. -/
def kiF_10 (G : knGT) (N : Nat) : va_E := .inr (10, [.int 0, .ref (knN0 G + (N + 0)), .ref (knN0 G + (N + 1)), .ref (knN0 G + (N + 2)), .ref (knN0 G + (N + 3)), .int 0, .int 0, .int 0, .int 0, .ref (knN0 G + (N + 4)), .ref (knN0 G + (N + 5)), .ref (knN0 G + (N + 6)), .ref (knN0 G + (N + 7)), .ref (knN0 G + (N + 8)), .ref (knN0 G + (N + 9)), .ref (knN0 G + (N + 10)), .ref (knN0 G + (N + 11)), .ref (knN0 G + (N + 12)), .ref (knN0 G + (N + 13)), .int 0, .ref (knN0 G + (N + 14)), .int 0, .int 0, .int (-1), .int (-1), .ref (knN0 G + (N + 15)), .int 0, .int 0])
def kiNw_10 (G : knGT) (N : Nat) : List va_E := [.inl (knCy G 0, 50, .inl (fun _ => 0))] ++ ([.inl (knCy G 0, 400, .inl (fun _ => 0))] ++ ([.inl (knCy G 0, 50, .inl (fun _ => 0))] ++ ([.inl (knCy G 0, 50, .inl (fun _ => 0))] ++ ([.inl (knCy G 0, 14, .inl (fun _ => 0))] ++ ([.inl (knCy G 0, 14, .inl (fun _ => 0))] ++ ([.inl (knCy G 0, 7, .inl (fun _ => 0))] ++ ([.inl (knCy G 0, 49, .inl (fun _ => 0))] ++ ([.inl (knCy G 0, 14, .inl (fun _ => 0))] ++ ([.inl (knCy G 0, 101, .inl (fun _ => 0))] ++ ([.inl (knCy G 0, 101, .inl (fun _ => 0))] ++ ([.inl (knCy G 0, 101, .inl (fun _ => 0))] ++ ([.inl (knCy G 0, 101, .inl (fun _ => 0))] ++ ([.inl (knCy G 2, 300, .inl (fun _ => 0))] ++ ([.inl (knCy G 2, 60, .inl (fun _ => 0))] ++ ([.inl (knCy G 0, 4, .inl (fun _ => 0))])))))))))))))))
theorem kiW_10 : knWi9 yX13_init cX13_init 1 := ⟨(knGm 1502 (by decide +kernel) rfl), (knGm 124 (by decide +kernel) rfl), (knGm 1501 (by decide +kernel) rfl), rfl, by decide +kernel, by decide +kernel, by decide +kernel⟩
set_option maxHeartbeats 4000000 in
set_option maxRecDepth 100000 in
theorem kiCC_10 {G : knGT} (l : Launch) : kiCC G l yX13_init cX13_init 1 2 60 16 1416 10 [.int 0, .null, .null, .null, .null, .int 0, .int 0, .int 0, .int 0, .null, .null, .null, .null, .null, .null, .null, .null, .null, .null, .int 0, .null, .int 0, .int 0, .int 0, .int 0, .null, .int 0, .int 0] (kiF_10 G) (kiNw_10 G) := by
  intro cs a ha
  have hla := (List.getElem?_eq_some_iff.mp ha).1
  refine ki_ofJ (by decide) (Nat.le_of_ble_eq_true rfl) rfl ?_
  intro p e s m args below meth c X KI hr hlk hnm
  refine kiN_0 ha ?_
  refine ki_aload X 0 dX13_init_0 rfl ?_
  refine ki_obj X (knGm 1503 (by decide +kernel) rfl) (knGm 152 (by decide +kernel) rfl) (knGm 153 (by decide +kernel) rfl) (by decide) dX13_init_1 ?_
  refine ki_aload X 0 dX13_init_4 rfl ?_
  refine ki_bipush X (n := 50) dX13_init_5 rfl ?_
  refine kiN_newa X KI 0 (atype := .int) (ty := .int) (N := 50) (a0 := (50, .inl (fun _ => 0))) (by decide) rfl rfl (knGm 191 (by decide +kernel) rfl) (fun _ => rfl) rfl (by decide) (by decide) (by decide) dX13_init_7 ?_
  refine kiN_putF X KI hla rfl knInX13 tyX13 tyX13_ok nmX13 rfl 1 (by decide) (knGm 1505 (by decide +kernel) rfl) rfl rfl hnm rfl (ty := (.array .int)) rfl rfl rfl (Nat.le_of_ble_eq_true rfl) dX13_init_9 ?_
  refine ki_aload X 0 dX13_init_12 rfl ?_
  refine ki_sipush X (n := 400) dX13_init_13 rfl ?_
  refine kiN_newa X KI 0 (atype := .int) (ty := .int) (N := 400) (a0 := (400, .inl (fun _ => 0))) (by decide) rfl rfl (knGm 191 (by decide +kernel) rfl) (fun _ => rfl) rfl (by decide) (by decide) (by decide) dX13_init_16 ?_
  refine kiN_putF X KI hla rfl knInX13 tyX13 tyX13_ok nmX13 rfl 2 (by decide) (knGm 1506 (by decide +kernel) rfl) rfl rfl hnm rfl (ty := (.array .int)) rfl rfl rfl (Nat.le_of_ble_eq_true rfl) dX13_init_18 ?_
  refine ki_aload X 0 dX13_init_21 rfl ?_
  refine ki_bipush X (n := 50) dX13_init_22 rfl ?_
  refine kiN_newa X KI 0 (atype := .int) (ty := .int) (N := 50) (a0 := (50, .inl (fun _ => 0))) (by decide) rfl rfl (knGm 191 (by decide +kernel) rfl) (fun _ => rfl) rfl (by decide) (by decide) (by decide) dX13_init_24 ?_
  refine kiN_putF X KI hla rfl knInX13 tyX13 tyX13_ok nmX13 rfl 3 (by decide) (knGm 1507 (by decide +kernel) rfl) rfl rfl hnm rfl (ty := (.array .int)) rfl rfl rfl (Nat.le_of_ble_eq_true rfl) dX13_init_26 ?_
  refine ki_aload X 0 dX13_init_29 rfl ?_
  refine ki_bipush X (n := 50) dX13_init_30 rfl ?_
  refine kiN_newa X KI 0 (atype := .int) (ty := .int) (N := 50) (a0 := (50, .inl (fun _ => 0))) (by decide) rfl rfl (knGm 191 (by decide +kernel) rfl) (fun _ => rfl) rfl (by decide) (by decide) (by decide) dX13_init_32 ?_
  refine kiN_putF X KI hla rfl knInX13 tyX13 tyX13_ok nmX13 rfl 4 (by decide) (knGm 1508 (by decide +kernel) rfl) rfl rfl hnm rfl (ty := (.array .int)) rfl rfl rfl (Nat.le_of_ble_eq_true rfl) dX13_init_34 ?_
  refine ki_aload X 0 dX13_init_37 rfl ?_
  refine ki_bipush X (n := 14) dX13_init_38 rfl ?_
  refine kiN_newa X KI 0 (atype := .int) (ty := .int) (N := 14) (a0 := (14, .inl (fun _ => 0))) (by decide) rfl rfl (knGm 191 (by decide +kernel) rfl) (fun _ => rfl) rfl (by decide) (by decide) (by decide) dX13_init_40 ?_
  refine kiN_putF X KI hla rfl knInX13 tyX13 tyX13_ok nmX13 rfl 9 (by decide) (knGm 1513 (by decide +kernel) rfl) rfl rfl hnm rfl (ty := (.array .int)) rfl rfl rfl (Nat.le_of_ble_eq_true rfl) dX13_init_42 ?_
  refine ki_aload X 0 dX13_init_45 rfl ?_
  refine ki_bipush X (n := 14) dX13_init_46 rfl ?_
  refine kiN_newa X KI 0 (atype := .int) (ty := .int) (N := 14) (a0 := (14, .inl (fun _ => 0))) (by decide) rfl rfl (knGm 191 (by decide +kernel) rfl) (fun _ => rfl) rfl (by decide) (by decide) (by decide) dX13_init_48 ?_
  refine kiN_putF X KI hla rfl knInX13 tyX13 tyX13_ok nmX13 rfl 10 (by decide) (knGm 1514 (by decide +kernel) rfl) rfl rfl hnm rfl (ty := (.array .int)) rfl rfl rfl (Nat.le_of_ble_eq_true rfl) dX13_init_50 ?_
  refine ki_aload X 0 dX13_init_53 rfl ?_
  refine ki_bipush X (n := 7) dX13_init_54 rfl ?_
  refine kiN_newa X KI 0 (atype := .int) (ty := .int) (N := 7) (a0 := (7, .inl (fun _ => 0))) (by decide) rfl rfl (knGm 191 (by decide +kernel) rfl) (fun _ => rfl) rfl (by decide) (by decide) (by decide) dX13_init_56 ?_
  refine kiN_putF X KI hla rfl knInX13 tyX13 tyX13_ok nmX13 rfl 11 (by decide) (knGm 1515 (by decide +kernel) rfl) rfl rfl hnm rfl (ty := (.array .int)) rfl rfl rfl (Nat.le_of_ble_eq_true rfl) dX13_init_58 ?_
  refine ki_aload X 0 dX13_init_61 rfl ?_
  refine ki_bipush X (n := 49) dX13_init_62 rfl ?_
  refine kiN_newa X KI 0 (atype := .int) (ty := .int) (N := 49) (a0 := (49, .inl (fun _ => 0))) (by decide) rfl rfl (knGm 191 (by decide +kernel) rfl) (fun _ => rfl) rfl (by decide) (by decide) (by decide) dX13_init_64 ?_
  refine kiN_putF X KI hla rfl knInX13 tyX13 tyX13_ok nmX13 rfl 12 (by decide) (knGm 1516 (by decide +kernel) rfl) rfl rfl hnm rfl (ty := (.array .int)) rfl rfl rfl (Nat.le_of_ble_eq_true rfl) dX13_init_66 ?_
  refine ki_aload X 0 dX13_init_69 rfl ?_
  refine ki_bipush X (n := 14) dX13_init_70 rfl ?_
  refine kiN_newa X KI 0 (atype := .int) (ty := .int) (N := 14) (a0 := (14, .inl (fun _ => 0))) (by decide) rfl rfl (knGm 191 (by decide +kernel) rfl) (fun _ => rfl) rfl (by decide) (by decide) (by decide) dX13_init_72 ?_
  refine kiN_putF X KI hla rfl knInX13 tyX13 tyX13_ok nmX13 rfl 13 (by decide) (knGm 1517 (by decide +kernel) rfl) rfl rfl hnm rfl (ty := (.array .int)) rfl rfl rfl (Nat.le_of_ble_eq_true rfl) dX13_init_74 ?_
  refine ki_aload X 0 dX13_init_77 rfl ?_
  refine ki_bipush X (n := 101) dX13_init_78 rfl ?_
  refine kiN_newa X KI 0 (atype := .int) (ty := .int) (N := 101) (a0 := (101, .inl (fun _ => 0))) (by decide) rfl rfl (knGm 191 (by decide +kernel) rfl) (fun _ => rfl) rfl (by decide) (by decide) (by decide) dX13_init_80 ?_
  refine kiN_putF X KI hla rfl knInX13 tyX13 tyX13_ok nmX13 rfl 14 (by decide) (knGm 1518 (by decide +kernel) rfl) rfl rfl hnm rfl (ty := (.array .int)) rfl rfl rfl (Nat.le_of_ble_eq_true rfl) dX13_init_82 ?_
  refine ki_aload X 0 dX13_init_85 rfl ?_
  refine ki_bipush X (n := 101) dX13_init_86 rfl ?_
  refine kiN_newa X KI 0 (atype := .int) (ty := .int) (N := 101) (a0 := (101, .inl (fun _ => 0))) (by decide) rfl rfl (knGm 191 (by decide +kernel) rfl) (fun _ => rfl) rfl (by decide) (by decide) (by decide) dX13_init_88 ?_
  refine kiN_putF X KI hla rfl knInX13 tyX13 tyX13_ok nmX13 rfl 15 (by decide) (knGm 1519 (by decide +kernel) rfl) rfl rfl hnm rfl (ty := (.array .int)) rfl rfl rfl (Nat.le_of_ble_eq_true rfl) dX13_init_90 ?_
  refine ki_aload X 0 dX13_init_93 rfl ?_
  refine ki_bipush X (n := 101) dX13_init_94 rfl ?_
  refine kiN_newa X KI 0 (atype := .int) (ty := .int) (N := 101) (a0 := (101, .inl (fun _ => 0))) (by decide) rfl rfl (knGm 191 (by decide +kernel) rfl) (fun _ => rfl) rfl (by decide) (by decide) (by decide) dX13_init_96 ?_
  refine kiN_putF X KI hla rfl knInX13 tyX13 tyX13_ok nmX13 rfl 16 (by decide) (knGm 1520 (by decide +kernel) rfl) rfl rfl hnm rfl (ty := (.array .int)) rfl rfl rfl (Nat.le_of_ble_eq_true rfl) dX13_init_98 ?_
  refine ki_aload X 0 dX13_init_101 rfl ?_
  refine ki_bipush X (n := 101) dX13_init_102 rfl ?_
  refine kiN_newa X KI 0 (atype := .int) (ty := .int) (N := 101) (a0 := (101, .inl (fun _ => 0))) (by decide) rfl rfl (knGm 191 (by decide +kernel) rfl) (fun _ => rfl) rfl (by decide) (by decide) (by decide) dX13_init_104 ?_
  refine kiN_putF X KI hla rfl knInX13 tyX13 tyX13_ok nmX13 rfl 17 (by decide) (knGm 1521 (by decide +kernel) rfl) rfl rfl hnm rfl (ty := (.array .int)) rfl rfl rfl (Nat.le_of_ble_eq_true rfl) dX13_init_106 ?_
  refine ki_aload X 0 dX13_init_109 rfl ?_
  refine ki_sipush X (n := 300) dX13_init_110 rfl ?_
  refine kiN_newa X KI 2 (atype := .char) (ty := .char) (N := 300) (a0 := (300, .inl (fun _ => 0))) (by decide) rfl rfl (knGm 345 (by decide +kernel) rfl) (fun _ => rfl) rfl (by decide) (by decide) (by decide) dX13_init_113 ?_
  refine kiN_putF X KI hla rfl knInX13 tyX13 tyX13_ok nmX13 rfl 18 (by decide) (knGm 1522 (by decide +kernel) rfl) rfl rfl hnm rfl (ty := (.array .char)) rfl rfl rfl (Nat.le_of_ble_eq_true rfl) dX13_init_115 ?_
  refine ki_aload X 0 dX13_init_118 rfl ?_
  refine ki_bipush X (n := 60) dX13_init_119 rfl ?_
  refine kiN_newa X KI 2 (atype := .char) (ty := .char) (N := 60) (a0 := (60, .inl (fun _ => 0))) (by decide) rfl rfl (knGm 345 (by decide +kernel) rfl) (fun _ => rfl) rfl (by decide) (by decide) (by decide) dX13_init_121 ?_
  refine kiN_putF X KI hla rfl knInX13 tyX13 tyX13_ok nmX13 rfl 20 (by decide) (knGm 1524 (by decide +kernel) rfl) rfl rfl hnm rfl (ty := (.array .char)) rfl rfl rfl (Nat.le_of_ble_eq_true rfl) dX13_init_123 ?_
  refine ki_aload X 0 dX13_init_126 rfl ?_
  refine ki_iconst X dX13_init_127 ?_
  refine kiN_put X KI hla rfl knInX13 tyX13 tyX13_ok nmX13 rfl 23 (by decide) (knGm 1527 (by decide +kernel) rfl) rfl rfl (ty := .int) rfl rfl rfl (Nat.le_of_ble_eq_true rfl) dX13_init_128 ?_
  refine ki_aload X 0 dX13_init_131 rfl ?_
  refine ki_iconst X dX13_init_132 ?_
  refine kiN_put X KI hla rfl knInX13 tyX13 tyX13_ok nmX13 rfl 24 (by decide) (knGm 1528 (by decide +kernel) rfl) rfl rfl (ty := .int) rfl rfl rfl (Nat.le_of_ble_eq_true rfl) dX13_init_133 ?_
  refine ki_aload X 0 dX13_init_136 rfl ?_
  refine ki_iconst X dX13_init_137 ?_
  refine kiN_newa X KI 0 (atype := .int) (ty := .int) (N := 4) (a0 := (4, .inl (fun _ => 0))) (by decide) rfl rfl (knGm 191 (by decide +kernel) rfl) (fun _ => rfl) rfl (by decide) (by decide) (by decide) dX13_init_138 ?_
  refine kiN_putF X KI hla rfl knInX13 tyX13 tyX13_ok nmX13 rfl 25 (by decide) (knGm 1529 (by decide +kernel) rfl) rfl rfl hnm rfl (ty := (.array .int)) rfl rfl rfl (Nat.le_of_ble_eq_true rfl) dX13_init_140 ?_
  exact ki_vret X hr dX13_init_143 hlk
