/-! The constructors. -/
def kiF_9 (G : knGT) (N : Nat) : va_E := .inr (9, [.ref (knN0 G + (N + 0)), .ref (knN0 G + (N + 1)), .ref (knN0 G + (N + 5)), .ref (knN0 G + (N + 9)), .ref (knN0 G + (N + 18)), .ref (knN0 G + (N + 22)), .ref (knN0 G + (N + 105)), .ref (knN0 G + (N + 118)), .ref (knN0 G + (N + 131)), .ref (knN0 G + (N + 136)), .ref (knN0 G + (N + 139)), .int 0, .int (-1), .int (-1)])
def kiP0 (_ : knGT) (_ : Nat) : List va_E := []
theorem kiP0_len (G : knGT) (N : Nat) : (kiP0 G N).length = 0 := rfl
theorem kiAt {P : List va_E} {x : va_E} {n : Nat} (h : P.length = n) : (P ++ [x])[n]? = some x := by subst h; rw [List.getElem?_append_right (Nat.le_refl _), Nat.sub_self]; rfl
theorem kiLen {P : List va_E} {x : va_E} {n m : Nat} (h : P.length = n) (hm : n + 1 = m) : (P ++ [x]).length = m := by rw [List.length_append, h, ← hm]; rfl
theorem kiLfill {P zs : List va_E} {x y : va_E} {n : Nat} (h : P.length = n) : (P ++ [x]).set n y ++ zs = P ++ (y :: zs) := by subst h; rw [List.set_append_right _ _ (Nat.le_refl _), Nat.sub_self, List.append_assoc]; rfl
def kiP1 (G : knGT) (N : Nat) : List va_E := kiP0 G N ++ (kiF_7 G (N + 1) :: kiNw_7 G (N + 1))
theorem kiP1_eq (G : knGT) (N : Nat) : kiP0 G N ++ (kiF_7 G (N + 1) :: kiNw_7 G (N + 1)) = kiP1 G N := rfl
theorem kiP1_len (G : knGT) (N : Nat) : (kiP1 G N).length = 9 := by rw [kiP1, List.length_append, kiP0_len]; rfl
def kiP2 (G : knGT) (N : Nat) : List va_E := kiP1 G N ++ (kiF_7 G (N + 10) :: kiNw_7 G (N + 10))
theorem kiP2_eq (G : knGT) (N : Nat) : kiP1 G N ++ (kiF_7 G (N + 10) :: kiNw_7 G (N + 10)) = kiP2 G N := rfl
theorem kiP2_len (G : knGT) (N : Nat) : (kiP2 G N).length = 18 := by rw [kiP2, List.length_append, kiP1_len]; rfl
def kiP3 (G : knGT) (N : Nat) : List va_E := kiP2 G N ++ (kiF_3 G (N + 19) :: kiNw_3 G (N + 19))
theorem kiP3_eq (G : knGT) (N : Nat) : kiP2 G N ++ (kiF_3 G (N + 19) :: kiNw_3 G (N + 19)) = kiP3 G N := rfl
theorem kiP3_len (G : knGT) (N : Nat) : (kiP3 G N).length = 22 := by rw [kiP3, List.length_append, kiP2_len]; rfl
def kiP4 (G : knGT) (N : Nat) : List va_E := kiP3 G N ++ (kiF_4 G (N + 23) :: kiNw_4 G (N + 23))
theorem kiP4_eq (G : knGT) (N : Nat) : kiP3 G N ++ (kiF_4 G (N + 23) :: kiNw_4 G (N + 23)) = kiP4 G N := rfl
theorem kiP4_len (G : knGT) (N : Nat) : (kiP4 G N).length = 105 := by rw [kiP4, List.length_append, kiP3_len]; rfl
def kiP5 (G : knGT) (N : Nat) : List va_E := kiP4 G N ++ (kiF_2 G (N + 106) :: kiNw_2 G (N + 106))
theorem kiP5_eq (G : knGT) (N : Nat) : kiP4 G N ++ (kiF_2 G (N + 106) :: kiNw_2 G (N + 106)) = kiP5 G N := rfl
theorem kiP5_len (G : knGT) (N : Nat) : (kiP5 G N).length = 118 := by rw [kiP5, List.length_append, kiP4_len]; rfl
def kiP6 (G : knGT) (N : Nat) : List va_E := kiP5 G N ++ (kiF_1 G (N + 119) :: kiNw_1 G (N + 119))
theorem kiP6_eq (G : knGT) (N : Nat) : kiP5 G N ++ (kiF_1 G (N + 119) :: kiNw_1 G (N + 119)) = kiP6 G N := rfl
theorem kiP6_len (G : knGT) (N : Nat) : (kiP6 G N).length = 131 := by rw [kiP6, List.length_append, kiP5_len]; rfl
def kiP7 (G : knGT) (N : Nat) : List va_E := kiP6 G N ++ (kiF_8 G (N + 132) :: kiNw_8 G (N + 132))
theorem kiP7_eq (G : knGT) (N : Nat) : kiP6 G N ++ (kiF_8 G (N + 132) :: kiNw_8 G (N + 132)) = kiP7 G N := rfl
theorem kiP7_len (G : knGT) (N : Nat) : (kiP7 G N).length = 136 := by rw [kiP7, List.length_append, kiP6_len]; rfl
def kiP8 (G : knGT) (N : Nat) : List va_E := kiP7 G N ++ (kiF_6 G (N + 137) :: kiNw_6 G (N + 137))
theorem kiP8_eq (G : knGT) (N : Nat) : kiP7 G N ++ (kiF_6 G (N + 137) :: kiNw_6 G (N + 137)) = kiP8 G N := rfl
theorem kiP8_len (G : knGT) (N : Nat) : (kiP8 G N).length = 139 := by rw [kiP8, List.length_append, kiP7_len]; rfl
def kiP9 (G : knGT) (N : Nat) : List va_E := kiP8 G N ++ (kiF_5 G (N + 140) :: kiNw_5 G (N + 140))
theorem kiP9_eq (G : knGT) (N : Nat) : kiP8 G N ++ (kiF_5 G (N + 140) :: kiNw_5 G (N + 140)) = kiP9 G N := rfl
theorem kiP9_len (G : knGT) (N : Nat) : (kiP9 G N).length = 141 := by rw [kiP9, List.length_append, kiP8_len]; rfl
def kiNw_9 (G : knGT) (N : Nat) : List va_E := kiP9 G N
theorem kiW_9 : knWi9 yX12_init cX12_init 1 := ⟨(knGm 150 (by decide +kernel) rfl), (knGm 114 (by decide +kernel) rfl), (knGm 149 (by decide +kernel) rfl), rfl, by decide +kernel, by decide +kernel, by decide +kernel⟩
set_option maxHeartbeats 4000000 in
set_option maxRecDepth 100000 in
theorem kiCC_9 {G : knGT} (l : Launch) : kiCC G l yX12_init cX12_init 1 5 121 141 1393 9 [.null, .null, .null, .null, .null, .null, .null, .null, .null, .null, .null, .int 0, .int 0, .int 0] (kiF_9 G) (kiNw_9 G) := by
  intro cs a ha
  have hla := (List.getElem?_eq_some_iff.mp ha).1
  refine ki_ofJ (by decide) (Nat.le_of_ble_eq_true rfl) rfl ?_
  intro p e s m args below meth c X KI hr hlk hnm
  refine kiN_0 ha ?_
  rw [show ([] : List va_E) = kiP0 G cs.length from rfl]
  refine ki_aload X 0 dX12_init_0 rfl ?_
  refine ki_obj X (knGm 151 (by decide +kernel) rfl) (knGm 152 (by decide +kernel) rfl) (knGm 153 (by decide +kernel) rfl) (by decide) dX12_init_1 ?_
  refine ki_aload X 0 dX12_init_4 rfl ?_
  refine kiN_new X KI (C := "KnotLaboratory$State") (N := 2) (ci := 7) (fs := [.null, .null]) knInX10 tyX10 tyX10_ok (knGm 154 (by decide +kernel) rfl) (knGm 155 (by decide +kernel) rfl) (knGm 115 (by decide +kernel) rfl) rfl (fun j hj => by rcases (show j = 0 ∨ j = 1 by omega) with rfl | rfl <;> rfl) (by decide) dX12_init_5 ?_
  rw [kiP0_len]
  refine ki_dup X rfl dX12_init_8 ?_
  refine kiN_call X KI (i := 0) (kiCC_7 l) (kiAt (kiP0_len G cs.length)) kiW_7 (Or.inr (knBm 156 (by decide +kernel) rfl)) (by decide) (Nat.le_of_ble_eq_true rfl) (by decide) dX12_init_9 ?_
  rw [kiLen (m := 1) (kiP0_len G cs.length) rfl, kiLfill (kiP0_len G cs.length), kiP1_eq]
  refine kiN_putF X KI hla rfl knInX12 tyX12 tyX12_ok nmX12 rfl 0 (by decide) (knGm 361 (by decide +kernel) rfl) rfl rfl hnm rfl (ty := (.object "KnotLaboratory$State")) rfl rfl rfl (Nat.le_of_ble_eq_true rfl) dX12_init_12 ?_
  refine ki_aload X 0 dX12_init_15 rfl ?_
  refine ki_aload X 0 dX12_init_16 rfl ?_
  refine kiN_getA X KI hla rfl knInX12 rfl 0 (by decide) (knGm 361 (by decide +kernel) rfl) rfl rfl dX12_init_17 ?_
  refine kiN_get X KI (i := 0) (ci := 7) rfl knInX10 rfl 0 (by decide) (knGm 221 (by decide +kernel) rfl) rfl rfl dX12_init_20 ?_
  refine kiN_putF X KI hla rfl knInX12 tyX12 tyX12_ok nmX12 rfl 1 (by decide) (knGm 362 (by decide +kernel) rfl) rfl rfl hnm rfl (ty := (.object "KnotLaboratory$Diagram")) rfl rfl rfl (Nat.le_of_ble_eq_true rfl) dX12_init_23 ?_
  refine ki_aload X 0 dX12_init_26 rfl ?_
  refine ki_aload X 0 dX12_init_27 rfl ?_
  refine kiN_getA X KI hla rfl knInX12 rfl 0 (by decide) (knGm 361 (by decide +kernel) rfl) rfl rfl dX12_init_28 ?_
  refine kiN_get X KI (i := 0) (ci := 7) rfl knInX10 rfl 1 (by decide) (knGm 223 (by decide +kernel) rfl) rfl rfl dX12_init_31 ?_
  refine kiN_putF X KI hla rfl knInX12 tyX12 tyX12_ok nmX12 rfl 2 (by decide) (knGm 363 (by decide +kernel) rfl) rfl rfl hnm rfl (ty := (.object "KnotLaboratory$Bets")) rfl rfl rfl (Nat.le_of_ble_eq_true rfl) dX12_init_34 ?_
  refine ki_aload X 0 dX12_init_37 rfl ?_
  refine kiN_new X KI (C := "KnotLaboratory$State") (N := 2) (ci := 7) (fs := [.null, .null]) knInX10 tyX10 tyX10_ok (knGm 154 (by decide +kernel) rfl) (knGm 155 (by decide +kernel) rfl) (knGm 115 (by decide +kernel) rfl) rfl (fun j hj => by rcases (show j = 0 ∨ j = 1 by omega) with rfl | rfl <;> rfl) (by decide) dX12_init_38 ?_
  rw [kiP1_len]
  refine ki_dup X rfl dX12_init_41 ?_
  refine kiN_call X KI (i := 9) (kiCC_7 l) (kiAt (kiP1_len G cs.length)) kiW_7 (Or.inr (knBm 156 (by decide +kernel) rfl)) (by decide) (Nat.le_of_ble_eq_true rfl) (by decide) dX12_init_42 ?_
  rw [kiLen (m := 10) (kiP1_len G cs.length) rfl, kiLfill (kiP1_len G cs.length), kiP2_eq]
  refine kiN_putF X KI hla rfl knInX12 tyX12 tyX12_ok nmX12 rfl 3 (by decide) (knGm 364 (by decide +kernel) rfl) rfl rfl hnm rfl (ty := (.object "KnotLaboratory$State")) rfl rfl rfl (Nat.le_of_ble_eq_true rfl) dX12_init_45 ?_
  refine ki_aload X 0 dX12_init_48 rfl ?_
  refine kiN_new X KI (C := "KnotLaboratory$Diagram") (N := 4) (ci := 3) (fs := [.null, .null, .null, .int 0]) knInX5 tyX5 tyX5_ok (knGm 229 (by decide +kernel) rfl) (knGm 161 (by decide +kernel) rfl) (knGm 116 (by decide +kernel) rfl) rfl (fun j hj => by rcases (show j = 0 ∨ j = 1 ∨ j = 2 ∨ j = 3 by omega) with rfl | rfl | rfl | rfl <;> rfl) (by decide) dX12_init_49 ?_
  rw [kiP2_len]
  refine ki_dup X rfl dX12_init_52 ?_
  refine kiN_call X KI (i := 18) (kiCC_3 l) (kiAt (kiP2_len G cs.length)) kiW_3 (Or.inr (knBm 230 (by decide +kernel) rfl)) (by decide) (Nat.le_of_ble_eq_true rfl) (by decide) dX12_init_53 ?_
  rw [kiLen (m := 19) (kiP2_len G cs.length) rfl, kiLfill (kiP2_len G cs.length), kiP3_eq]
  refine kiN_putF X KI hla rfl knInX12 tyX12 tyX12_ok nmX12 rfl 4 (by decide) (knGm 365 (by decide +kernel) rfl) rfl rfl hnm rfl (ty := (.object "KnotLaboratory$Diagram")) rfl rfl rfl (Nat.le_of_ble_eq_true rfl) dX12_init_56 ?_
  refine ki_aload X 0 dX12_init_59 rfl ?_
  refine kiN_new X KI (C := "KnotLaboratory$History") (N := 3) (ci := 4) (fs := [.null, .int 0, .int 0]) knInX6 tyX6 tyX6_ok (knGm 231 (by decide +kernel) rfl) (knGm 232 (by decide +kernel) rfl) (knGm 118 (by decide +kernel) rfl) rfl (fun j hj => by rcases (show j = 0 ∨ j = 1 ∨ j = 2 by omega) with rfl | rfl | rfl <;> rfl) (by decide) dX12_init_60 ?_
  rw [kiP3_len]
  refine ki_dup X rfl dX12_init_63 ?_
  refine kiN_call X KI (i := 22) (kiCC_4 l) (kiAt (kiP3_len G cs.length)) kiW_4 (Or.inl (knGm 233 (by decide +kernel) rfl)) (by decide) (Nat.le_of_ble_eq_true rfl) (by decide) dX12_init_64 ?_
  rw [kiLen (m := 23) (kiP3_len G cs.length) rfl, kiLfill (kiP3_len G cs.length), kiP4_eq]
  refine kiN_putF X KI hla rfl knInX12 tyX12 tyX12_ok nmX12 rfl 5 (by decide) (knGm 366 (by decide +kernel) rfl) rfl rfl hnm rfl (ty := (.object "KnotLaboratory$History")) rfl rfl rfl (Nat.le_of_ble_eq_true rfl) dX12_init_67 ?_
  refine ki_aload X 0 dX12_init_70 rfl ?_
  refine kiN_new X KI (C := "KnotLaboratory$Colouring") (N := 6) (ci := 2) (fs := [.null, .null, .null, .null, .null, .int 0]) knInX3 tyX3 tyX3_ok (knGm 251 (by decide +kernel) rfl) (knGm 252 (by decide +kernel) rfl) (knGm 119 (by decide +kernel) rfl) rfl (fun j hj => by rcases (show j = 0 ∨ j = 1 ∨ j = 2 ∨ j = 3 ∨ j = 4 ∨ j = 5 by omega) with rfl | rfl | rfl | rfl | rfl | rfl <;> rfl) (by decide) dX12_init_71 ?_
  rw [kiP4_len]
  refine ki_dup X rfl dX12_init_74 ?_
  refine kiN_call X KI (i := 105) (kiCC_2 l) (kiAt (kiP4_len G cs.length)) kiW_2 (Or.inr (knBm 253 (by decide +kernel) rfl)) (by decide) (Nat.le_of_ble_eq_true rfl) (by decide) dX12_init_75 ?_
  rw [kiLen (m := 106) (kiP4_len G cs.length) rfl, kiLfill (kiP4_len G cs.length), kiP5_eq]
  refine kiN_putF X KI hla rfl knInX12 tyX12 tyX12_ok nmX12 rfl 6 (by decide) (knGm 367 (by decide +kernel) rfl) rfl rfl hnm rfl (ty := (.object "KnotLaboratory$Colouring")) rfl rfl rfl (Nat.le_of_ble_eq_true rfl) dX12_init_78 ?_
  refine ki_aload X 0 dX12_init_81 rfl ?_
  refine kiN_new X KI (C := "KnotLaboratory$Bracket") (N := 4) (ci := 1) (fs := [.null, .null, .null, .null]) knInX2 tyX2 tyX2_ok (knGm 278 (by decide +kernel) rfl) (knGm 279 (by decide +kernel) rfl) (knGm 120 (by decide +kernel) rfl) rfl (fun j hj => by rcases (show j = 0 ∨ j = 1 ∨ j = 2 ∨ j = 3 by omega) with rfl | rfl | rfl | rfl <;> rfl) (by decide) dX12_init_82 ?_
  rw [kiP5_len]
  refine ki_dup X rfl dX12_init_85 ?_
  refine kiN_call X KI (i := 118) (kiCC_1 l) (kiAt (kiP5_len G cs.length)) kiW_1 (Or.inr (knBm 280 (by decide +kernel) rfl)) (by decide) (Nat.le_of_ble_eq_true rfl) (by decide) dX12_init_86 ?_
  rw [kiLen (m := 119) (kiP5_len G cs.length) rfl, kiLfill (kiP5_len G cs.length), kiP6_eq]
  refine kiN_putF X KI hla rfl knInX12 tyX12 tyX12_ok nmX12 rfl 7 (by decide) (knGm 368 (by decide +kernel) rfl) rfl rfl hnm rfl (ty := (.object "KnotLaboratory$Bracket")) rfl rfl rfl (Nat.le_of_ble_eq_true rfl) dX12_init_89 ?_
  refine ki_aload X 0 dX12_init_92 rfl ?_
  refine kiN_new X KI (C := "KnotLaboratory$SwitchSearch") (N := 2) (ci := 8) (fs := [.null, .int 0]) knInX11 tyX11 tyX11_ok (knGm 301 (by decide +kernel) rfl) (knGm 302 (by decide +kernel) rfl) (knGm 121 (by decide +kernel) rfl) rfl (fun j hj => by rcases (show j = 0 ∨ j = 1 by omega) with rfl | rfl <;> rfl) (by decide) dX12_init_93 ?_
  rw [kiP6_len]
  refine ki_dup X rfl dX12_init_96 ?_
  refine kiN_call X KI (i := 131) (kiCC_8 l) (kiAt (kiP6_len G cs.length)) kiW_8 (Or.inr (knBm 303 (by decide +kernel) rfl)) (by decide) (Nat.le_of_ble_eq_true rfl) (by decide) dX12_init_97 ?_
  rw [kiLen (m := 132) (kiP6_len G cs.length) rfl, kiLfill (kiP6_len G cs.length), kiP7_eq]
  refine kiN_putF X KI hla rfl knInX12 tyX12 tyX12_ok nmX12 rfl 8 (by decide) (knGm 369 (by decide +kernel) rfl) rfl rfl hnm rfl (ty := (.object "KnotLaboratory$SwitchSearch")) rfl rfl rfl (Nat.le_of_ble_eq_true rfl) dX12_init_100 ?_
  refine ki_aload X 0 dX12_init_103 rfl ?_
  refine kiN_new X KI (C := "KnotLaboratory$Script") (N := 6) (ci := 6) (fs := [.null, .null, .int 0, .null, .int 0, .int 0]) knInX9 tyX9 tyX9_ok (knGm 317 (by decide +kernel) rfl) (knGm 318 (by decide +kernel) rfl) (knGm 122 (by decide +kernel) rfl) rfl (fun j hj => by rcases (show j = 0 ∨ j = 1 ∨ j = 2 ∨ j = 3 ∨ j = 4 ∨ j = 5 by omega) with rfl | rfl | rfl | rfl | rfl | rfl <;> rfl) (by decide) dX12_init_104 ?_
  rw [kiP7_len]
  refine ki_dup X rfl dX12_init_107 ?_
  refine kiN_call X KI (i := 136) (kiCC_6 l) (kiAt (kiP7_len G cs.length)) kiW_6 (Or.inr (knBm 319 (by decide +kernel) rfl)) (by decide) (Nat.le_of_ble_eq_true rfl) (by decide) dX12_init_108 ?_
  rw [kiLen (m := 137) (kiP7_len G cs.length) rfl, kiLfill (kiP7_len G cs.length), kiP8_eq]
  refine kiN_putF X KI hla rfl knInX12 tyX12 tyX12_ok nmX12 rfl 9 (by decide) (knGm 370 (by decide +kernel) rfl) rfl rfl hnm rfl (ty := (.object "KnotLaboratory$Script")) rfl rfl rfl (Nat.le_of_ble_eq_true rfl) dX12_init_111 ?_
  refine ki_aload X 0 dX12_init_114 rfl ?_
  refine kiN_new X KI (C := "KnotLaboratory$Output") (N := 2) (ci := 5) (fs := [.null, .int 0]) knInX7 tyX7 tyX7_ok (knGm 346 (by decide +kernel) rfl) (knGm 347 (by decide +kernel) rfl) (knGm 123 (by decide +kernel) rfl) rfl (fun j hj => by rcases (show j = 0 ∨ j = 1 by omega) with rfl | rfl <;> rfl) (by decide) dX12_init_115 ?_
  rw [kiP8_len]
  refine ki_dup X rfl dX12_init_118 ?_
  refine kiN_call X KI (i := 139) (kiCC_5 l) (kiAt (kiP8_len G cs.length)) kiW_5 (Or.inr (knBm 348 (by decide +kernel) rfl)) (by decide) (Nat.le_of_ble_eq_true rfl) (by decide) dX12_init_119 ?_
  rw [kiLen (m := 140) (kiP8_len G cs.length) rfl, kiLfill (kiP8_len G cs.length), kiP9_eq]
  refine kiN_putF X KI hla rfl knInX12 tyX12 tyX12_ok nmX12 rfl 10 (by decide) (knGm 371 (by decide +kernel) rfl) rfl rfl hnm rfl (ty := (.object "KnotLaboratory$Output")) rfl rfl rfl (Nat.le_of_ble_eq_true rfl) dX12_init_122 ?_
  refine ki_aload X 0 dX12_init_125 rfl ?_
  refine ki_iconst X dX12_init_126 ?_
  refine kiN_put X KI hla rfl knInX12 tyX12 tyX12_ok nmX12 rfl 12 (by decide) (knGm 373 (by decide +kernel) rfl) rfl rfl (ty := .int) rfl rfl rfl (Nat.le_of_ble_eq_true rfl) dX12_init_127 ?_
  refine ki_aload X 0 dX12_init_130 rfl ?_
  refine ki_iconst X dX12_init_131 ?_
  refine kiN_put X KI hla rfl knInX12 tyX12 tyX12_ok nmX12 rfl 13 (by decide) (knGm 374 (by decide +kernel) rfl) rfl rfl (ty := .int) rfl rfl rfl (Nat.le_of_ble_eq_true rfl) dX12_init_132 ?_
  exact ki_vret X hr dX12_init_135 hlk
