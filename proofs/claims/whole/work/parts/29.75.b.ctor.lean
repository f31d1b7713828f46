/-! The constructors: the history's loop. -/
def kiHa (G : knGT) (N : Nat) : Nat → Nat → Option Nat
  | 0 => fun _ => none
  | k + 1 => va_up (kiHa G N k) k (some (knN0 G + (N + (9 * k + 1))))
def kiHb (G : knGT) (N : Nat) : Nat → List va_E
  | 0 => []
  | k + 1 => kiHb G N k ++ (kiF_7 G (N + (9 * k + 2)) :: kiNw_7 G (N + (9 * k + 2)))
def kiHx (G : knGT) (N k : Nat) : List va_E := .inl (knCy G 3, 9, .inr (.inr (.inr (.inr (kiHa G N k))))) :: kiHb G N k
theorem kiHb_len (G : knGT) (N : Nat) : ∀ k, (kiHb G N k).length = 9 * k
  | 0 => rfl
  | k + 1 => by rw [kiHb, List.length_append, kiHb_len G N k]; show 9 * k + 9 = _; omega
theorem kiHx_len (G : knGT) (N k : Nat) : (kiHx G N k).length = 9 * k + 1 := by
  show (kiHb G N k).length + 1 = _
  rw [kiHb_len]
theorem kiHx_fill (G : knGT) (N k : Nat) (x y : va_E) (zs : List va_E) : (kiHx G N k ++ [x]).set (9 * k + 1) y ++ zs = kiHx G N k ++ (y :: zs) := by
  rw [← kiHx_len G N k, List.set_append_right _ _ (Nat.le_refl _), Nat.sub_self, List.append_assoc]
  rfl
theorem kiHx_set0 (G : knGT) (N k : Nat) : (kiHx G N k ++ (kiF_7 G (N + (9 * k + 2)) :: kiNw_7 G (N + (9 * k + 2)))).set 0 (.inl (knCy G 3, 9, .inr (.inr (.inr (.inr (va_up (kiHa G N k) k (some (knN0 G + (N + (9 * k + 1)))))))))) = kiHx G N (k + 1) := rfl
def kiF_4 (G : knGT) (N : Nat) : va_E := .inr (4, [.ref (knN0 G + (N + 0)), .int 0, .int 0])
def kiNw_4 (G : knGT) (N : Nat) : List va_E := kiHx G N 9
theorem kiW_4 : knWi9 yX6_init cX6_init 2 := ⟨(knGm 235 (by decide +kernel) rfl), (knGm 118 (by decide +kernel) rfl), (knGm 234 (by decide +kernel) rfl), rfl, by decide +kernel, by decide +kernel, by decide +kernel⟩
set_option maxHeartbeats 4000000 in
set_option maxRecDepth 100000 in
theorem kiCC_4 {G : knGT} (l : Launch) : kiCC G l yX6_init cX6_init 2 4 100 82 405 4 [.null, .int 0, .int 0] (kiF_4 G) (kiNw_4 G) := by
  intro cs a ha
  have hla := (List.getElem?_eq_some_iff.mp ha).1
  refine ki_ofJ (by decide) (Nat.le_of_ble_eq_true rfl) rfl ?_
  intro p e s m args below meth c X KI hr hlk hnm
  have loop : ∀ (n k : Nat), k + n = 9 → kiJ G p l e { frames := 4, cells := 82, slots := 405, locals := 100 } s m args below meth c 2 (1 + 9 * k) (9 + 44 * k) (MQ below (kiPo G (cs.set a (kiF_4 G cs.length) ++ kiNw_4 G cs.length)) args s 82 405 (knA G)) 15 [(1, knV (k : Int)), (0, .ref (knN0 G + a))] [] (cs.set a (kiF_4 G cs.length) ++ kiHx G cs.length k) := by
    intro n
    induction n with
    | zero =>
      intro k hk
      have hk9 : k = 9 := by omega
      subst hk9
      refine ki_iload X 0 dX6_init_15 rfl ?_
      refine ki_bipush X (n := 9) dX6_init_16 rfl ?_
      refine ki_ic_ge X (x := ((9 : Nat) : Int)) (y := 9) (tgt := 40) dX6_init_18 (by decide) (show knC ((9 : Nat) : Int) from ⟨by omega, by omega⟩) (show knC 9 from ⟨by omega, by omega⟩) (fun _ => ?_) (fun h => absurd (show (9 : Int) ≤ ((9 : Nat) : Int) by decide) h)
      exact ki_vret X hr dX6_init_40 hlk
    | succ n ih =>
      intro k hk
      refine ki_iload X 0 dX6_init_15 rfl ?_
      refine ki_bipush X (n := 9) dX6_init_16 rfl ?_
      refine ki_ic_ge X (x := (k : Int)) (y := 9) (tgt := 40) dX6_init_18 (by decide) (show knC (k : Int) from ⟨by omega, by omega⟩) (show knC 9 from ⟨by omega, by omega⟩) (fun h => absurd h (by omega)) (fun _ => ?_)
      refine ki_aload X 1 dX6_init_21 rfl ?_
      refine kiN_getA X KI hla rfl knInX6 rfl 0 (by decide) (knGm 240 (by decide +kernel) rfl) rfl rfl dX6_init_22 ?_
      refine ki_iload X 0 dX6_init_25 rfl ?_
      refine kiN_new X KI (C := "KnotLaboratory$State") (N := 2) (ci := 7) (fs := [.null, .null]) knInX10 tyX10 tyX10_ok (knGm 237 (by decide +kernel) rfl) (knGm 155 (by decide +kernel) rfl) (knGm 115 (by decide +kernel) rfl) rfl (fun j hj => by rcases (show j = 0 ∨ j = 1 by omega) with rfl | rfl <;> rfl) ⟨by show 1 + 9 * k + 1 ≤ 82; omega, by show 9 + 44 * k + 2 ≤ 405; omega⟩ dX6_init_26 ?_
      rw [kiHx_len]
      refine ki_dup X rfl dX6_init_29 ?_
      refine kiN_call X KI (i := 9 * k + 1) (kiCC_7 l) (by rw [← kiHx_len G cs.length k, List.getElem?_append_right (Nat.le_refl _), Nat.sub_self]; rfl) kiW_7 (Or.inr (knBm 239 (by decide +kernel) rfl)) (by decide) (Nat.le_of_ble_eq_true rfl) ⟨by show 1 + 9 * k + 1 + 8 ≤ 82; omega, by show 9 + 44 * k + 2 + 42 ≤ 405; omega⟩ dX6_init_30 ?_
      rw [show (kiHx G cs.length k ++ [(.inr (7, [.null, .null]) : va_E)]).length = 9 * k + 2 from by rw [List.length_append, kiHx_len]; rfl, kiHx_fill]
      refine kiN_aast X KI (q0 := 0) (qk := 9 * k + 1) (ci := 7) (f := kiHa G cs.length k) rfl (by rw [← kiHx_len G cs.length k, List.getElem?_append_right (Nat.le_refl _), Nat.sub_self]; rfl) rfl rfl (i := (k : Int)) (show knC (k : Int) from ⟨by omega, by omega⟩) ⟨by omega, by omega⟩ dX6_init_33 ?_
      rw [Int.toNat_natCast, kiHx_set0]
      refine ki_iinc X 0 (L' := [(1, knV (knW ((k : Int) + 1))), (0, .ref (knN0 G + a))]) dX6_init_34 rfl (by decide) rfl ?_
      rw [knW_id (by omega), show ((k : Int) + 1) = ((k + 1 : Nat) : Int) by omega, show 1 + 9 * k + 1 + 8 = 1 + 9 * (k + 1) by omega, show 9 + 44 * k + 2 + 42 = 9 + 44 * (k + 1) by omega]
      refine ki_goto X (tgt := 15) dX6_init_37 (by decide) ?_
      exact ih (k + 1) (by omega)
  refine kiN_0 ha ?_
  refine ki_aload X 0 dX6_init_0 rfl ?_
  refine ki_obj X (knGm 236 (by decide +kernel) rfl) (knGm 152 (by decide +kernel) rfl) (knGm 153 (by decide +kernel) rfl) (by decide) dX6_init_1 ?_
  refine ki_aload X 0 dX6_init_4 rfl ?_
  refine ki_bipush X (n := 9) dX6_init_5 rfl ?_
  refine kiN_anew X KI (knGm 237 (by decide +kernel) rfl) (N := 9) rfl (by decide) (by decide) dX6_init_7 ?_
  refine kiN_putF X KI hla rfl knInX6 tyX6 tyX6_ok nmX6 rfl 0 (by decide) (knGm 240 (by decide +kernel) rfl) rfl rfl hnm rfl (ty := (.array (.object "KnotLaboratory$State"))) rfl rfl rfl (Nat.le_of_ble_eq_true rfl) dX6_init_10 ?_
  refine ki_iconst X dX6_init_13 ?_
  refine ki_istore X (L' := [(1, knV 0), (0, .ref (knN0 G + a))]) dX6_init_14 (by decide) rfl ?_
  exact loop 9 0 rfl
