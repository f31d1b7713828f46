/-- a text's length, its signs -/
def knSln (x : Int) : Int := ((knSl.getD x.toNat 0 : Nat) : Int)
def knSch (x i : Int) : Int := knI2c (knAnd (((knSb.getD x.toNat []).getD i.toNat 0).toInt) 255)
theorem knSl_all : ∀ n : Nat, n < 19 → knSl.getD n 0 < 100 := by decide +kernel
theorem knC_sln (x : Int) : knC (knSln x) := by
  unfold knSln
  have h : knSl.getD x.toNat 0 < 100 := by
    by_cases h : x.toNat < 19
    · exact knSl_all _ h
    · have h1 : knSl.length = 19 := by decide +kernel
      rw [List.getD_eq_getElem?_getD, List.getElem?_eq_none (show knSl.length ≤ x.toNat by omega)]
      decide
  constructor <;> omega
theorem knH_sch (x i : Int) : knH (knSch x i) := knH_i2c _
section KNS
variable {G : knGT} {p : Program} {l : Launch} {e : Env} {R : Room} {s : State} {m : MethodId} {args : Array Value} {below : List Frame} {meth : Method} {c : Code} {nL cells slots : Nat} {Q : State → Prop}
variable {cc : ByteArray} {own : String} {pc : Nat} {L : List (Nat × Value)} {st : List Value} {μ : knMem}
/-- a constant's field, a static -/
theorem kj_gof (X : knX p m c cc nL s args own) {o n d : String} {v : Value} {q index : Nat} (hE : va_OF o n d v q (knA G) s s.heap) (hlink : Cond.fieldLink own index o n d ∈ knGW) (hd : decode cc pc = .ok (.getfield index, 3)) (kk : knJ G p l e R s m args below meth c nL cells slots Q (pc + 3) L (v :: st) μ) : knJ G p l e R s m args below meth c nL cells slots Q pc L (.ref q :: st) μ :=
  fun H locs ls hP hS hL => vk_getf X.1 X.2.1 hE hS X.2.2.2.1 (X.2.2.2.2 _ hlink) (fun _ h => h) hd (kk H locs ls hP hS hL)
theorem kj_gst (X : knX p m c cc nL s args own) {C n d : String} {v : Value} {index : Nat} (hZ : va_Z C n d v (knA G) s s.heap) (hlink : Cond.fieldLink own index C n d ∈ knGW) (hd : decode cc pc = .ok (.getstatic index, 3)) (kk : knJ G p l e R s m args below meth c nL cells slots Q (pc + 3) L (v :: st) μ) : knJ G p l e R s m args below meth c nL cells slots Q pc L st μ :=
  fun H locs ls hP hS hL => va_gets X.1 X.2.1 hZ hS X.2.2.2.1 (X.2.2.2.2 _ hlink) (fun _ h => h) hd (kk H locs ls hP hS hL)
/-- a method of a constant -/
theorem kj_callO (X : knX p m c cc nL s args own) (K : knK G s s.heap) {y : MethodName} {b : ByteArray} {mL index n fr lo q : Nat} {ret : Option FieldType} {As rest : List Value} {C : Prop} {r : Option Value} {μ' : knMem}
    (hO : va_O y.cls q (knA G) s s.heap) (hM : knC0 G l y b mL ret fr lo (.ref q :: As) μ C r μ') (hw : knWv y b mL ret n) (hl : Cond.methodLink own index y ∈ knGW)
    (hR : fr + 1 ≤ R.frames ∧ 8 + (mL + 11) + lo ≤ R.locals) (hn : As.length = n) (hW : (rest.map fun v => v.category).sum ≤ 8) (hcs : cells ≤ R.cells ∧ slots ≤ R.slots) (d : decode cc pc = .ok (.invokevirtual index, 3)) {st : List Value} (hst : st = As.reverse ++ .ref q :: rest)
    (kk : C → knJ G p l e R s m args below meth c nL cells slots Q (pc + 3) L (r.toList ++ rest) μ') : knJ G p l e R s m args below meth c nL cells slots Q pc L st μ := by
  intro H locs ls hP hS hL
  subst hst
  refine kn_run (va_runV (As := As) (rest := rest) ⟨X.1, X.2.1, X.2.2.1, X.2.2.2.1, X.2.2.2.2⟩ hM ⟨kn_cb X hw.1 hw.2.1 hl hw.2.2.2.2 hR, X.2.2.2.2 _ hw.2.2.1, X.2.2.2.2 _ hw.2.2.2.1⟩ ⟨knPc_blind G _ μ, ?_, kn_pre K hP hS⟩ rfl hn hL.1 rfl (lv_room hW) d hcs) hS hL kk
  obtain ⟨cell, h1, h2, h3, h4⟩ := hO.kept hS.2.1
  exact ⟨cell, h1, h2, h3⟩
end KNS
theorem kc_ordinal {G : knGT} (l : Launch) {x : Int} (hx : 0 ≤ x ∧ x < 12) {μ : knMem} : knC0 G l yJx29ce0_ordinal_8abf5 cJx29ce0_ordinal_8abf5 1 (some .int) 0 0 [.ref (knCm G x.toNat)] μ (knC x) (some (knV x)) μ := by
  refine kn_ofJ kn_pf13 (Nat.le_of_ble_eq_true rfl) (L := [(0, .ref (knCm G x.toNat))]) rfl ?_
  intro p e s m args below meth c X K hr hlk
  refine kj_aloadn X 0 dJx29ce0_ordinal_8abf5_0 rfl ?_
  refine kj_gof X ((K.2.2.2.2.2.1.1 x.toNat (by show x.toNat < 12; omega)).2.2 _ List.mem_cons_self) (knGm 2183 (by decide +kernel) rfl) dJx29ce0_ordinal_8abf5_1 ?_
  have : ([0, 1, 2, 3, 4, 5, 6, 7, 8, 9, 10, 11] : List Int32).getD x.toNat 0 = Int32.ofInt x := by
    obtain ⟨k, rfl⟩ := Int.eq_ofNat_of_zero_le hx.1
    have hk : k < 12 := by omega
    revert hk k
    intro k
    have h9 : ∀ k : Nat, k < 12 → ([0, 1, 2, 3, 4, 5, 6, 7, 8, 9, 10, 11] : List Int32).getD k 0 = Int32.ofInt (k : Int) := by decide +kernel
    intro _ hk
    exact h9 k hk
  rw [this]
  exact kj_iret X (v := x) ⟨by omega, by omega⟩ hr dJx29ce0_ordinal_8abf5_4 hlk
theorem kn_Stv {G : knGT} {s : State} (K : knK G s s.heap) {x : Int} (hx : 0 ≤ x ∧ x < 19) : va_O "java/lang/String" (knTx G x.toNat) (knA G) s s.heap ∧ va_OF "java/lang/String" "coder" "B" (.int 0) (knTx G x.toNat) (knA G) s s.heap ∧ va_OF "java/lang/String" "value" "[B" (.ref (knTb G x.toNat)) (knTx G x.toNat) (knA G) s s.heap ∧ va_T .byte (knTb G x.toNat) (knSl.getD x.toNat 0) (fun j => .int ((knSb.getD x.toNat []).getD j 0)) (knA G) s s.heap :=
  (K.2.2.2.2.2.2.2.2.2.1 x.toNat (by omega)).1 0 (by decide)
theorem kc_coder {G : knGT} (l : Launch) {x : Int} (hx : 0 ≤ x ∧ x < 19) {μ : knMem} : knC0 G l yJ0_coder_7d493 cJ0_coder_7d493 1 (some .byte) 0 0 [.ref (knTx G x.toNat)] μ True (some (knV 0)) μ := by
  refine kn_ofJ kn_pf10 (Nat.le_of_ble_eq_true rfl) (L := [(0, .ref (knTx G x.toNat))]) rfl ?_
  intro p e s m args below meth c X K hr hlk
  refine kj_gst X K.2.2.2.2.2.2.2.2.2.2.1.1 (knGm 1349 (by decide +kernel) rfl) dJ0_coder_7d493_0 ?_
  refine kj_if_eq (x := 1) X (tgt := 13) dJ0_coder_7d493_3 (by decide) ⟨by omega, by omega⟩ (fun h => absurd h (by decide)) (fun _ => ?_)
  refine kj_aloadn X 0 dJ0_coder_7d493_6 rfl ?_
  refine kj_gof X (kn_Stv K hx).2.1 (knGm 2181 (by decide +kernel) rfl) dJ0_coder_7d493_7 ?_
  refine kj_goto X (tgt := 14) dJ0_coder_7d493_10 (by decide) ?_
  exact kj_zret X (v := 0) trivial hr rfl dJ0_coder_7d493_14 hlk
theorem kc_isLatin1 {G : knGT} (l : Launch) {x : Int} (hx : 0 ≤ x ∧ x < 19) {μ : knMem} : knC0 G l yJ0_isLatin1_aae02 cJ0_isLatin1_aae02 1 (some .boolean) 0 0 [.ref (knTx G x.toNat)] μ True (some (knV 1)) μ := by
  refine kn_ofJ kn_pf11 (Nat.le_of_ble_eq_true rfl) (L := [(0, .ref (knTx G x.toNat))]) rfl ?_
  intro p e s m args below meth c X K hr hlk
  refine kj_gst X K.2.2.2.2.2.2.2.2.2.2.1.1 (knGm 1349 (by decide +kernel) rfl) dJ0_isLatin1_aae02_0 ?_
  refine kj_if_eq (x := 1) X (tgt := 17) dJ0_isLatin1_aae02_3 (by decide) ⟨by omega, by omega⟩ (fun h => absurd h (by decide)) (fun _ => ?_)
  refine kj_aloadn X 0 dJ0_isLatin1_aae02_6 rfl ?_
  refine kj_gof X (kn_Stv K hx).2.1 (knGm 2181 (by decide +kernel) rfl) dJ0_isLatin1_aae02_7 ?_
  refine kj_if_ne (x := 0) X (tgt := 17) dJ0_isLatin1_aae02_10 (by decide) ⟨by omega, by omega⟩ (fun h => absurd rfl h) (fun _ => ?_)
  refine kj_iconst X dJ0_isLatin1_aae02_13 ?_
  refine kj_goto X (tgt := 18) dJ0_isLatin1_aae02_14 (by decide) ?_
  exact kj_zret X (v := 1) trivial hr rfl dJ0_isLatin1_aae02_18 hlk
theorem knWvJ0_coder_7d493 : knWv yJ0_coder_7d493 cJ0_coder_7d493 1 (some .byte) 0 := ⟨(knGm 1348 (by decide +kernel) rfl), (knGm 130 (by decide +kernel) rfl), (knGm 1346 (by decide +kernel) rfl), (knGm 1347 (by decide +kernel) rfl), by decide +kernel, by decide +kernel, by decide +kernel⟩
theorem knWvJ0_isLatin1_aae02 : knWv yJ0_isLatin1_aae02 cJ0_isLatin1_aae02 1 (some .boolean) 0 := ⟨(knGm 1358 (by decide +kernel) rfl), (knGm 130 (by decide +kernel) rfl), (knGm 1356 (by decide +kernel) rfl), (knGm 1357 (by decide +kernel) rfl), by decide +kernel, by decide +kernel, by decide +kernel⟩
theorem knWvJ0_length_8abf5 : knWv yJ0_length_8abf5 cJ0_length_8abf5 1 (some .int) 0 := ⟨(knGm 1344 (by decide +kernel) rfl), (knGm 130 (by decide +kernel) rfl), (knGm 1342 (by decide +kernel) rfl), (knGm 1343 (by decide +kernel) rfl), by decide +kernel, by decide +kernel, by decide +kernel⟩
theorem knWvJ0_charAt_5068e : knWv yJ0_charAt_5068e cJ0_charAt_5068e 2 (some .char) 1 := ⟨(knGm 1354 (by decide +kernel) rfl), (knGm 130 (by decide +kernel) rfl), (knGm 1352 (by decide +kernel) rfl), (knGm 1353 (by decide +kernel) rfl), by decide +kernel, by decide +kernel, by decide +kernel⟩
theorem knWkJ1_charAt_3b067 : knWk yJ1_charAt_3b067 cJ1_charAt_3b067 2 (some .char) 2 := ⟨(knGm 1361 (by decide +kernel) rfl), (knGm 142 (by decide +kernel) rfl), (knGm 1360 (by decide +kernel) rfl), by decide +kernel, by decide +kernel, by decide +kernel⟩
theorem knWkJ0_checkIndex_df160 : knWk yJ0_checkIndex_df160 cJ0_checkIndex_df160 2 none 2 := ⟨(knGm 1364 (by decide +kernel) rfl), (knGm 130 (by decide +kernel) rfl), (knGm 1363 (by decide +kernel) rfl), by decide +kernel, by decide +kernel, by decide +kernel⟩
theorem knWkJ3_checkIndex_8e157 : knWk yJ3_checkIndex_8e157 cJ3_checkIndex_8e157 3 (some .int) 3 := ⟨(knGm 1369 (by decide +kernel) rfl), (knGm 143 (by decide +kernel) rfl), (knGm 1368 (by decide +kernel) rfl), by decide +kernel, by decide +kernel, by decide +kernel⟩
section KNS2
variable {G : knGT} {p : Program} {l : Launch} {e : Env} {R : Room} {s : State} {m : MethodId} {args : Array Value} {below : List Frame} {meth : Method} {c : Code} {nL cells slots : Nat} {Q : State → Prop}
variable {cc : ByteArray} {own : String} {pc : Nat} {L : List (Nat × Value)} {st : List Value} {μ : knMem}
theorem kj_tlen (X : knX p m c cc nL s args own) (K : knK G s s.heap) {x : Int} (hx : 0 ≤ x ∧ x < 19) (d : decode cc pc = .ok (.arraylength, 1)) (kk : knJ G p l e R s m args below meth c nL cells slots Q (pc + 1) L (knV (knSln x) :: st) μ) : knJ G p l e R s m args below meth c nL cells slots Q pc L (.ref (knTb G x.toNat) :: st) μ :=
  fun H locs ls hP hS hL => va_tlen X.1 X.2.1 (kn_Stv K hx).2.2.2 hS (v := Int32.ofInt (knSln x)) rfl d (kk H locs ls hP hS hL)
theorem kj_tb (X : knX p m c cc nL s args own) (K : knK G s s.heap) {x i : Int} (hx : 0 ≤ x ∧ x < 19) (hi : knC i) (hin : 0 ≤ i ∧ i < knSln x) (d : decode cc pc = .ok (.baload, 1)) (kk : knJ G p l e R s m args below meth c nL cells slots Q (pc + 1) L (knV (((knSb.getD x.toNat []).getD i.toNat 0).toInt) :: st) μ) : knJ G p l e R s m args below meth c nL cells slots Q pc L (knV i :: .ref (knTb G x.toNat) :: st) μ := by
  intro H locs ls hP hS hL
  refine va_tb X.1 X.2.1 (kn_Stv K hx).2.2.2 hS (kn_in hi hin.1 (by have := hin.2; unfold knSln at this; exact this)) (v := knV (((knSb.getD x.toNat []).getD i.toNat 0).toInt)) ?_ d (kk H locs ls hP hS hL)
  rw [kn_clamp hi]
  unfold knV
  rw [Int32.ofInt_toInt]
end KNS2
theorem kc_length {G : knGT} (l : Launch) {x : Int} (hx : 0 ≤ x ∧ x < 19) {μ : knMem} : knC0 G l yJ0_length_8abf5 cJ0_length_8abf5 1 (some .int) 1 20 [.ref (knTx G x.toNat)] μ True (some (knV (knSln x))) μ := by
  refine kn_ofJ kn_pf7 (Nat.le_of_ble_eq_true rfl) (L := [(0, .ref (knTx G x.toNat))]) rfl ?_
  intro p e s m args below meth c X K hr hlk
  refine kj_aloadn X 0 dJ0_length_8abf5_0 rfl ?_
  refine kj_gof X (kn_Stv K hx).2.2.1 (knGm 2180 (by decide +kernel) rfl) dJ0_length_8abf5_1 ?_
  refine kj_tlen X K hx dJ0_length_8abf5_4 ?_
  refine kj_aloadn X 0 dJ0_length_8abf5_5 rfl ?_
  refine kj_callO (As := []) (rest := [knV (knSln x)]) X K (kn_Stv K hx).1 (kc_coder l hx) knWvJ0_coder_7d493 (knGm 1345 (by decide +kernel) rfl) (by decide) rfl (Nat.le_of_ble_eq_true rfl) (by decide) dJ0_length_8abf5_6 rfl (fun _ => ?_)
  refine kj_ishr X dJ0_length_8abf5_9 ?_
  have h9 : knShr (knSln x) 0 = knSln x := by
    show ((Int32.ofInt (knSln x)) >>> ((Int32.ofInt 0) &&& 31)).toInt = _
    rw [show (Int32.ofInt 0) &&& 31 = 0 from rfl]
    rw [Int32.shiftRight_zero]
    exact knTI (knC_sln x)
  rw [h9]
  exact kj_iret X (v := knSln x) trivial hr dJ0_length_8abf5_10 hlk
theorem kc_preCheck {G : knGT} (l : Launch) {i n : Int} {v : Value} (hv : v = .null ∨ ∃ a, v = .ref a) (hi : knC i) (hn : knC n) (hin : 0 ≤ i ∧ i < n) {μ : knMem} : knC0 G l yJ3_checkIndex_8e157 cJ3_checkIndex_8e157 3 (some .int) 0 0 [knV i, knV n, v] μ True (some (knV i)) μ := by
  have hc : v.category = 1 := by rcases hv with rfl | ⟨a, rfl⟩ <;> rfl
  refine kn_ofJ kn_pf14 (by rcases hv with rfl | ⟨a, rfl⟩ <;> exact Nat.le_of_ble_eq_true rfl) (L := [(0, knV i), (1, knV n), (2, v)]) (by rcases hv with rfl | ⟨a, rfl⟩ <;> rfl) ?_
  intro p e s m args below meth c X K hr hlk
  refine kj_iloadn X 0 dJ3_checkIndex_8e157_0 rfl ?_
  refine kj_if_lt X (tgt := 9) dJ3_checkIndex_8e157_1 (by decide) hi (fun h => absurd hin.1 (by omega)) (fun _ => ?_)
  refine kj_iloadn X 0 dJ3_checkIndex_8e157_4 rfl ?_
  refine kj_iloadn X 1 dJ3_checkIndex_8e157_5 rfl ?_
  refine kj_ic_lt X (tgt := 16) dJ3_checkIndex_8e157_6 (by decide) hi hn (fun _ => ?_) (fun h => absurd hin.2 h)
  refine kj_iloadn X 0 dJ3_checkIndex_8e157_16 rfl ?_
  exact kj_iret X (v := i) trivial hr dJ3_checkIndex_8e157_17 hlk
theorem kc_strCheck {G : knGT} (l : Launch) {i n : Int} (hi : knC i) (hn : knC n) (hin : 0 ≤ i ∧ i < n) {μ : knMem} : knC0 G l yJ0_checkIndex_df160 cJ0_checkIndex_df160 2 none 1 22 [knV i, knV n] μ True none μ := by
  refine kn_ofJ kn_pf12 (Nat.le_of_ble_eq_true rfl) (L := [(0, knV i), (1, knV n)]) rfl ?_
  intro p e s m args below meth c X K hr hlk
  refine kj_iloadn X 0 dJ0_checkIndex_df160_0 rfl ?_
  refine kj_iloadn X 1 dJ0_checkIndex_df160_1 rfl ?_
  have hz := K.2.2.2.2.2.2.2.2.2.2.1.2.1
  obtain ⟨v, hv, hZ⟩ : ∃ v : Value, (v = .null ∨ ∃ a, v = .ref a) ∧ va_Z "jdk/internal/util/Preconditions" "SIOOBE_FORMATTER" "Ljava/util/function/BiFunction;" v (knA G) s s.heap := by
    rcases hz with h | ⟨t, h⟩
    · exact ⟨_, Or.inl rfl, h⟩
    · exact ⟨_, Or.inr ⟨t, rfl⟩, h⟩
  refine kj_gst X hZ (knGm 1365 (by decide +kernel) rfl) dJ0_checkIndex_df160_2 ?_
  refine kj_callS (As := [knV i, knV n, v]) (rest := []) X K (kc_preCheck l hv hi hn hin) knWkJ3_checkIndex_8e157 (knGm 1367 (by decide +kernel) rfl) (by decide) rfl (Nat.le_of_ble_eq_true rfl) (by decide) dJ0_checkIndex_df160_5 rfl (fun _ => ?_)
  refine kj_pop X dJ0_checkIndex_df160_8 rfl ?_
  exact kj_vret X trivial hr dJ0_checkIndex_df160_9 hlk
theorem kc_latinAt {G : knGT} (l : Launch) {x i : Int} (hx : 0 ≤ x ∧ x < 19) (hi : knC i) (hin : 0 ≤ i ∧ i < knSln x) {μ : knMem} : knC0 G l yJ1_charAt_3b067 cJ1_charAt_3b067 2 (some .char) 2 43 [.ref (knTb G x.toNat), knV i] μ True (some (knV (knSch x i))) μ := by
  refine kn_ofJ kn_pf9 (Nat.le_of_ble_eq_true rfl) (L := [(0, .ref (knTb G x.toNat)), (1, knV i)]) rfl ?_
  intro p e s m args below meth c X K hr hlk
  refine kj_iloadn X 1 dJ1_charAt_3b067_0 rfl ?_
  refine kj_aloadn X 0 dJ1_charAt_3b067_1 rfl ?_
  refine kj_tlen X K hx dJ1_charAt_3b067_2 ?_
  refine kj_callS (As := [knV i, knV (knSln x)]) (rest := []) X K (kc_strCheck l hi (knC_sln x) hin) knWkJ0_checkIndex_df160 (knGm 1362 (by decide +kernel) rfl) (by decide) rfl (Nat.le_of_ble_eq_true rfl) (by decide) dJ1_charAt_3b067_3 rfl (fun _ => ?_)
  refine kj_aloadn X 0 dJ1_charAt_3b067_6 rfl ?_
  refine kj_iloadn X 1 dJ1_charAt_3b067_7 rfl ?_
  refine kj_tb X K hx hi hin dJ1_charAt_3b067_8 ?_
  refine kj_sipush X (n := 255) dJ1_charAt_3b067_9 rfl ?_
  refine kj_iand X dJ1_charAt_3b067_12 ?_
  refine kj_i2c X dJ1_charAt_3b067_13 ?_
  exact kj_zret X (v := knSch x i) trivial hr (kn_nc (knH_sch x i)) dJ1_charAt_3b067_14 hlk
theorem kc_charAt {G : knGT} (l : Launch) {x i : Int} (hx : 0 ≤ x ∧ x < 19) (hi : knC i) (hin : 0 ≤ i ∧ i < knSln x) {μ : knMem} : knC0 G l yJ0_charAt_5068e cJ0_charAt_5068e 2 (some .char) 3 64 [.ref (knTx G x.toNat), knV i] μ True (some (knV (knSch x i))) μ := by
  refine kn_ofJ kn_pf8 (Nat.le_of_ble_eq_true rfl) (L := [(0, .ref (knTx G x.toNat)), (1, knV i)]) rfl ?_
  intro p e s m args below meth c X K hr hlk
  refine kj_aloadn X 0 dJ0_charAt_5068e_0 rfl ?_
  refine kj_callO (As := []) (rest := []) X K (kn_Stv K hx).1 (kc_isLatin1 l hx) knWvJ0_isLatin1_aae02 (knGm 1355 (by decide +kernel) rfl) (by decide) rfl (Nat.le_of_ble_eq_true rfl) (by decide) dJ0_charAt_5068e_1 rfl (fun _ => ?_)
  refine kj_if_eq (x := 1) X (tgt := 16) dJ0_charAt_5068e_4 (by decide) ⟨by omega, by omega⟩ (fun h => absurd h (by decide)) (fun _ => ?_)
  refine kj_aloadn X 0 dJ0_charAt_5068e_7 rfl ?_
  refine kj_gof X (kn_Stv K hx).2.2.1 (knGm 2180 (by decide +kernel) rfl) dJ0_charAt_5068e_8 ?_
  refine kj_iloadn X 1 dJ0_charAt_5068e_11 rfl ?_
  refine kj_callS (As := [.ref (knTb G x.toNat), knV i]) (rest := []) X K (kc_latinAt l hx hi hin) knWkJ1_charAt_3b067 (knGm 1359 (by decide +kernel) rfl) (by decide) rfl (Nat.le_of_ble_eq_true rfl) (by decide) dJ0_charAt_5068e_12 rfl (fun _ => ?_)
  exact kj_zret X (v := knSch x i) trivial hr (kn_nc (knH_sch x i)) dJ0_charAt_5068e_15 hlk
section KNS3
variable {G : knGT} {p : Program} {l : Launch} {e : Env} {R : Room} {s : State} {m : MethodId} {args : Array Value} {below : List Frame} {meth : Method} {c : Code} {nL cells slots : Nat} {Q : State → Prop}
variable {cc : ByteArray} {own : String} {pc : Nat} {L : List (Nat × Value)} {st : List Value} {μ : knMem}
theorem kj_slen (X : knX p m c cc nL s args own) (K : knK G s s.heap) {index : Nat} {x : Int} {rest : List Value} (hx : 0 ≤ x ∧ x < 19) (hl : Cond.methodLink own index yJ0_length_8abf5 ∈ knGW) (hW : (rest.map fun v => v.category).sum ≤ 8) (hR : (3 ≤ R.frames ∧ 100 ≤ R.locals) ∧ cells ≤ R.cells ∧ slots ≤ R.slots) (d : decode cc pc = .ok (.invokevirtual index, 3)) (kk : knJ G p l e R s m args below meth c nL cells slots Q (pc + 3) L (knV (knSln x) :: rest) μ) : knJ G p l e R s m args below meth c nL cells slots Q pc L (knTv G x :: rest) μ :=
  kj_callO (As := []) (rest := rest) X K (kn_Stv K hx).1 (kc_length l hx) knWvJ0_length_8abf5 hl ⟨by have := hR.1.1; omega, by have := hR.1.2; omega⟩ rfl hW hR.2 d rfl (fun _ => kk)
theorem kj_schar (X : knX p m c cc nL s args own) (K : knK G s s.heap) {index : Nat} {x i : Int} {rest : List Value} (hx : 0 ≤ x ∧ x < 19) (hi : knC i) (hin : 0 ≤ i ∧ i < knSln x) (hl : Cond.methodLink own index yJ0_charAt_5068e ∈ knGW) (hW : (rest.map fun v => v.category).sum ≤ 8) (hR : (5 ≤ R.frames ∧ 100 ≤ R.locals) ∧ cells ≤ R.cells ∧ slots ≤ R.slots) (d : decode cc pc = .ok (.invokevirtual index, 3)) (kk : knJ G p l e R s m args below meth c nL cells slots Q (pc + 3) L (knV (knSch x i) :: rest) μ) : knJ G p l e R s m args below meth c nL cells slots Q pc L (knV i :: knTv G x :: rest) μ :=
  kj_callO (As := [knV i]) (rest := rest) X K (kn_Stv K hx).1 (kc_charAt l hx hi hin) knWvJ0_charAt_5068e hl ⟨by have := hR.1.1; omega, by have := hR.1.2; omega⟩ rfl hW hR.2 d rfl (fun _ => kk)
theorem kj_ord (X : knX p m c cc nL s args own) (K : knK G s s.heap) {index : Nat} {x : Int} {rest : List Value} (hx : 0 ≤ x ∧ x < 12) (hl : Cond.methodLink own index ⟨RX4, "ordinal", "()I"⟩ ∈ knGW) (hW : (rest.map fun v => v.category).sum ≤ 8) (hR : (3 ≤ R.frames ∧ 100 ≤ R.locals) ∧ cells ≤ R.cells ∧ slots ≤ R.slots) (d : decode cc pc = .ok (.invokevirtual index, 3)) (kk : knJ G p l e R s m args below meth c nL cells slots Q (pc + 3) L (knV x :: rest) μ) : knJ G p l e R s m args below meth c nL cells slots Q pc L (knCo G x :: rest) μ := by
  intro H locs ls hP hS hL
  rw [kn_coR (by omega)]
  have hO := (K.2.2.2.2.2.1.1 x.toNat (by show x.toNat < 12; omega)).2.1
  have hg : GoodIn knGW (va_wsU own index RX4 "java/lang/Enum" ⟨RX4, "ordinal", "()I"⟩ yJx29ce0_ordinal_8abf5 (Cond.code yJx29ce0_ordinal_8abf5 cJx29ce0_ordinal_8abf5 1 (some .int) :: knGW)) := by
    intro w hw
    rcases List.mem_append.mp hw with h | h
    · simp only [List.mem_cons, List.not_mem_nil, or_false] at h
      rcases h with rfl | rfl | rfl | rfl | rfl
      · exact knGW_good _ hl
      · exact knGW_good _ (knGm 1446 (by decide +kernel) rfl)
      · exact knGW_good _ (knGm 1448 (by decide +kernel) rfl)
      · exact knGW_good _ (knGm 1449 (by decide +kernel) rfl)
      · exact knGW_good _ (knGm 131 (by decide +kernel) rfl)
    · rcases List.mem_cons.mp h with rfl | h
      · exact knGW_good _ (knGm 1450 (by decide +kernel) rfl)
      · exact knGW_good _ h
  refine kn_run (va_runU (As := []) (rest := rest) (C := RX4) ⟨X.1, X.2.1, X.2.2.1, X.2.2.2.1, X.2.2.2.2⟩ (kc_ordinal l hx) (va_cwU (rm := { frames := 0, cells := 0, slots := 0, locals := 0 }) 0 X.2.2.2.2 hg rfl rfl rfl rfl (by decide +kernel) ⟨by have := hR.1.1; show 0 + 1 ≤ _; omega, by have := hR.1.2; show 8 + (1 + 11) + 0 ≤ _; omega⟩) ⟨knPc_blind G _ μ, ?_, kn_pre K hP hS⟩ rfl rfl hL.1 rfl (lv_room hW) d hR.2) hS hL (fun _ => kk)
  obtain ⟨cell, h1, h2, h3, h4⟩ := hO.kept hS.2.1
  exact ⟨cell, h1, h2, h3⟩
end KNS3
