/-! The constructors. -/
def kiF_8 (G : knGT) (N : Nat) : va_E := .inr (8, [.ref (knN0 G + (N + 0)), .int 0])
def kiNw_8 (G : knGT) (N : Nat) : List va_E := [kiF_3 G (N + 1)] ++ (kiNw_3 G (N + 1))
theorem kiW_8 : knWi9 yX11_init cX11_init 1 := ⟨(knGm 305 (by decide +kernel) rfl), (knGm 121 (by decide +kernel) rfl), (knGm 304 (by decide +kernel) rfl), rfl, by decide +kernel, by decide +kernel, by decide +kernel⟩
set_option maxHeartbeats 4000000 in
set_option maxRecDepth 100000 in
theorem kiCC_8 {G : knGT} (l : Launch) : kiCC G l yX11_init cX11_init 1 3 80 4 25 8 [.null, .int 0] (kiF_8 G) (kiNw_8 G) := by
  intro cs a ha
  have hla := (List.getElem?_eq_some_iff.mp ha).1
  refine ki_ofJ (by decide) (Nat.le_of_ble_eq_true rfl) rfl ?_
  intro p e s m args below meth c X KI hr hlk hnm
  refine kiN_0 ha ?_
  refine ki_aload X 0 dX11_init_0 rfl ?_
  refine ki_obj X (knGm 306 (by decide +kernel) rfl) (knGm 152 (by decide +kernel) rfl) (knGm 153 (by decide +kernel) rfl) (by decide) dX11_init_1 ?_
  refine ki_aload X 0 dX11_init_4 rfl ?_
  refine kiN_new X KI (C := "KnotLaboratory$Diagram") (N := 4) (ci := 3) (fs := [.null, .null, .null, .int 0]) knInX5 tyX5 tyX5_ok (knGm 307 (by decide +kernel) rfl) (knGm 161 (by decide +kernel) rfl) (knGm 116 (by decide +kernel) rfl) rfl (fun j hj => by rcases (show j = 0 ∨ j = 1 ∨ j = 2 ∨ j = 3 by omega) with rfl | rfl | rfl | rfl <;> rfl) (by decide) dX11_init_5 ?_
  refine ki_dup X rfl dX11_init_8 ?_
  refine kiN_call X KI (i := 0) (kiCC_3 l) rfl kiW_3 (Or.inr (knBm 308 (by decide +kernel) rfl)) (by decide) (Nat.le_of_ble_eq_true rfl) (by decide) dX11_init_9 ?_
  refine kiN_putF X KI hla rfl knInX11 tyX11 tyX11_ok nmX11 rfl 0 (by decide) (knGm 309 (by decide +kernel) rfl) rfl rfl hnm rfl (ty := (.object "KnotLaboratory$Diagram")) rfl rfl rfl (Nat.le_of_ble_eq_true rfl) dX11_init_12 ?_
  exact ki_vret X hr dX11_init_15 hlk
def kiF_6 (G : knGT) (N : Nat) : va_E := .inr (6, [.ref (knN0 G + (N + 0)), .ref (knN0 G + (N + 1)), .int 0, .null, .int 0, .int 0])
def kiNw_6 (G : knGT) (N : Nat) : List va_E := [.inl (knCy G 2, 60, .inl (fun _ => 0))] ++ ([.inl (knCy G 0, 4, .inl (fun _ => 0))])
theorem kiW_6 : knWi9 yX9_init cX9_init 1 := ⟨(knGm 321 (by decide +kernel) rfl), (knGm 122 (by decide +kernel) rfl), (knGm 320 (by decide +kernel) rfl), rfl, by decide +kernel, by decide +kernel, by decide +kernel⟩
set_option maxHeartbeats 4000000 in
set_option maxRecDepth 100000 in
theorem kiCC_6 {G : knGT} (l : Launch) : kiCC G l yX9_init cX9_init 1 2 60 2 64 6 [.null, .null, .int 0, .null, .int 0, .int 0] (kiF_6 G) (kiNw_6 G) := by
  intro cs a ha
  have hla := (List.getElem?_eq_some_iff.mp ha).1
  refine ki_ofJ (by decide) (Nat.le_of_ble_eq_true rfl) rfl ?_
  intro p e s m args below meth c X KI hr hlk hnm
  refine kiN_0 ha ?_
  refine ki_aload X 0 dX9_init_0 rfl ?_
  refine ki_obj X (knGm 322 (by decide +kernel) rfl) (knGm 152 (by decide +kernel) rfl) (knGm 153 (by decide +kernel) rfl) (by decide) dX9_init_1 ?_
  refine ki_aload X 0 dX9_init_4 rfl ?_
  refine ki_bipush X (n := 60) dX9_init_5 rfl ?_
  refine kiN_newa X KI 2 (atype := .char) (ty := .char) (N := 60) (a0 := (60, .inl (fun _ => 0))) (by decide) rfl rfl (knGm 345 (by decide +kernel) rfl) (fun _ => rfl) rfl (by decide) (by decide) (by decide) dX9_init_7 ?_
  refine kiN_putF X KI hla rfl knInX9 tyX9 tyX9_ok nmX9 rfl 0 (by decide) (knGm 323 (by decide +kernel) rfl) rfl rfl hnm rfl (ty := (.array .char)) rfl rfl rfl (Nat.le_of_ble_eq_true rfl) dX9_init_9 ?_
  refine ki_aload X 0 dX9_init_12 rfl ?_
  refine ki_iconst X dX9_init_13 ?_
  refine kiN_newa X KI 0 (atype := .int) (ty := .int) (N := 4) (a0 := (4, .inl (fun _ => 0))) (by decide) rfl rfl (knGm 191 (by decide +kernel) rfl) (fun _ => rfl) rfl (by decide) (by decide) (by decide) dX9_init_14 ?_
  refine kiN_putF X KI hla rfl knInX9 tyX9 tyX9_ok nmX9 rfl 1 (by decide) (knGm 324 (by decide +kernel) rfl) rfl rfl hnm rfl (ty := (.array .int)) rfl rfl rfl (Nat.le_of_ble_eq_true rfl) dX9_init_16 ?_
  exact ki_vret X hr dX9_init_19 hlk
def kiF_5 (G : knGT) (N : Nat) : va_E := .inr (5, [.ref (knN0 G + (N + 0)), .int 0])
def kiNw_5 (G : knGT) (N : Nat) : List va_E := [.inl (knCy G 2, 256, .inl (fun _ => 0))]
theorem kiW_5 : knWi9 yX7_init cX7_init 1 := ⟨(knGm 350 (by decide +kernel) rfl), (knGm 123 (by decide +kernel) rfl), (knGm 349 (by decide +kernel) rfl), rfl, by decide +kernel, by decide +kernel, by decide +kernel⟩
set_option maxHeartbeats 4000000 in
set_option maxRecDepth 100000 in
theorem kiCC_5 {G : knGT} (l : Launch) : kiCC G l yX7_init cX7_init 1 2 60 1 256 5 [.null, .int 0] (kiF_5 G) (kiNw_5 G) := by
  intro cs a ha
  have hla := (List.getElem?_eq_some_iff.mp ha).1
  refine ki_ofJ (by decide) (Nat.le_of_ble_eq_true rfl) rfl ?_
  intro p e s m args below meth c X KI hr hlk hnm
  refine kiN_0 ha ?_
  refine ki_aload X 0 dX7_init_0 rfl ?_
  refine ki_obj X (knGm 351 (by decide +kernel) rfl) (knGm 152 (by decide +kernel) rfl) (knGm 153 (by decide +kernel) rfl) (by decide) dX7_init_1 ?_
  refine ki_aload X 0 dX7_init_4 rfl ?_
  refine ki_sipush X (n := 256) dX7_init_5 rfl ?_
  refine kiN_newa X KI 2 (atype := .char) (ty := .char) (N := 256) (a0 := (256, .inl (fun _ => 0))) (by decide) rfl rfl (knGm 345 (by decide +kernel) rfl) (fun _ => rfl) rfl (by decide) (by decide) (by decide) dX7_init_8 ?_
  refine kiN_putF X KI hla rfl knInX7 tyX7 tyX7_ok nmX7 rfl 0 (by decide) (knGm 352 (by decide +kernel) rfl) rfl rfl hnm rfl (ty := (.array .char)) rfl rfl rfl (Nat.le_of_ble_eq_true rfl) dX7_init_10 ?_
  exact ki_vret X hr dX7_init_13 hlk
