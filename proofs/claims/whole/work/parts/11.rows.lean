/-! A judgement over the memory: the machine, in this method, at pc with these locals and this stack, over any heap that holds μ, comes to Q. Its rows, an instruction each. -/
abbrev knX (p : Program) (m : MethodId) (c : Code) (cc : ByteArray) (nL : Nat) (s : State) (args : Array Value) (own : String) : Prop := CallFix p m c cc nL s args knGW own
def knJ (G : knGT) (p : Program) (l : Launch) (e : Env) (R : Room) (s : State) (m : MethodId) (args : Array Value) (below : List Frame) (meth : Method) (c : Code) (nL cells slots : Nat) (Q : State → Prop) (pc : Nat) (L : List (Nat × Value)) (st : List Value) (μ : knMem) : Prop :=
  ∀ (H : Heap) (locs : List Loc) (ls : Array Slot), knP G μ H → va_S (knA G) s.heap H locs → lv_has ls nL L → W p l e R s m args below meth c H locs cells slots Q (F0 m pc ls st)
theorem knEnt_0 {G : knGT} {r : Int → Int} {o : Int} (h : knKd o = 0) : knEnt G r o = .inr (0, [knO G (o + 1), knO G (o + 2), knO G (o + 3), knV (r 3), knV (r 4)]) := by simp only [knEnt, h]
theorem knEnt_1 {G : knGT} {r : Int → Int} {o : Int} (h : knKd o = 1) : knEnt G r o = .inr (1, [knO G (o + 1), knO G (o + 2), knO G (o + 3), knO G (o + 4)]) := by simp only [knEnt, h]
theorem knEnt_2 {G : knGT} {r : Int → Int} {o : Int} (h : knKd o = 2) : knEnt G r o = .inr (2, [knO G (o + 1), knO G (o + 2), knO G (o + 3), knO G (o + 4), knO G (o + 12), knV (r 5)]) := by simp only [knEnt, h]
theorem knEnt_3 {G : knGT} {r : Int → Int} {o : Int} (h : knKd o = 3) : knEnt G r o = .inr (3, [knO G (o + 1), knO G (o + 2), knO G (o + 3), knV (r 3)]) := by simp only [knEnt, h]
theorem knEnt_4 {G : knGT} {r : Int → Int} {o : Int} (h : knKd o = 4) : knEnt G r o = .inr (4, [knO G (o + 1), knV (r 1), knV (r 2)]) := by simp only [knEnt, h]
theorem knEnt_5 {G : knGT} {r : Int → Int} {o : Int} (h : knKd o = 5) : knEnt G r o = .inr (5, [knO G (o + 1), knV (r 1)]) := by simp only [knEnt, h]
theorem knEnt_6 {G : knGT} {r : Int → Int} {o : Int} (h : knKd o = 6) : knEnt G r o = .inr (6, [knO G (o + 1), knO G (o + 2), knV (r 2), knCo G (r 3), knV (r 4), knV (r 5)]) := by simp only [knEnt, h]
theorem knEnt_7 {G : knGT} {r : Int → Int} {o : Int} (h : knKd o = 7) : knEnt G r o = .inr (7, [knO G (o + 1), knO G (o + 5)]) := by simp only [knEnt, h]
theorem knEnt_8 {G : knGT} {r : Int → Int} {o : Int} (h : knKd o = 8) : knEnt G r o = .inr (8, [knO G (o + 1), knV (r 1)]) := by simp only [knEnt, h]
theorem knEnt_9 {G : knGT} {r : Int → Int} {o : Int} (h : knKd o = 9) : knEnt G r o = .inr (9, [knO G 1, knO G 2, knO G 6, knO G 10, knO G 19, knO G 23, knO G 106, knO G 119, knO G 132, knO G 137, knO G 140, knV (r 11), knV (r 12), knV (r 13)]) := by simp only [knEnt, h]
theorem knEnt_10 {G : knGT} {r : Int → Int} {o : Int} (h : knKd o = 10) : knEnt G r o = .inr (10, [knV (r 0), knO G 143, knO G 144, knO G 145, knO G 146, knV (r 5), knV (r 6), knV (r 7), knV (r 8), knO G 147, knO G 148, knO G 149, knO G 150, knO G 151, knO G 152, knO G 153, knO G 154, knO G 155, knO G 156, knV (r 19), knO G 157, knV (r 21), knV (r 22), knV (r 23), knV (r 24), knO G 158, knV (r 26), knV (r 27)]) := by simp only [knEnt, h]
theorem knEnt_20 {G : knGT} {r : Int → Int} {o : Int} (h : knKd o = 20) : knEnt G r o = .inl (knCy G 0, (knLL.getD o.toNat 0), .inl (fun j => Int32.ofInt (r j))) := by simp only [knEnt, h]
theorem knEnt_21 {G : knGT} {r : Int → Int} {o : Int} (h : knKd o = 21) : knEnt G r o = .inl (knCy G 1, (knLL.getD o.toNat 0), .inl (fun j => Int32.ofInt (r j))) := by simp only [knEnt, h]
theorem knEnt_22 {G : knGT} {r : Int → Int} {o : Int} (h : knKd o = 22) : knEnt G r o = .inl (knCy G 2, (knLL.getD o.toNat 0), .inl (fun j => Int32.ofInt (r j))) := by simp only [knEnt, h]
theorem knEnt_23 {G : knGT} {r : Int → Int} {o : Int} (h : knKd o = 23) : knEnt G r o = .inl (knCy G 3, 9, .inr (.inr (.inr (.inr (fun j => some (knAd G (25 + 9 * (j : Int)))))))) := by simp only [knEnt, h]
theorem knEnt_24 {G : knGT} {r : Int → Int} {o : Int} (h : knKd o = 24) : knEnt G r o = .inl (knCy G 4, (knLL.getD o.toNat 0), .inr (.inr (.inr (.inr (fun j => some (knAd G (o + 1 + (j : Int)))))))) := by simp only [knEnt, h]
theorem knEnt_25 {G : knGT} {r : Int → Int} {o : Int} (h : knKd o = 25) : knEnt G r o = .inl (knCy G 5, 1, .inr (.inl (fun j => Int64.ofInt (r j)))) := by simp only [knEnt, h]
/-- by counting: a fact of every object -/
theorem knAll {P : Int → Prop} {n : Nat} (h : ∀ k : Nat, k < n → P (k : Int)) {o : Int} (h0 : 0 ≤ o) (h1 : o < (n : Int)) : P o := by
  have := h o.toNat (by omega)
  rwa [Int.toNat_of_nonneg h0] at this
theorem knKd_in {o : Int} {k : Nat} (h : knKd o = k) (hk : k ≠ 99) : knIn o := by
  unfold knKd at h
  by_cases h0 : 0 ≤ o
  · rw [if_pos h0] at h
    refine ⟨h0, ?_⟩
    by_cases h1 : o < 161
    · exact h1
    · exfalso
      have : knKL.getD o.toNat 99 = 99 := by
        rw [List.getD_eq_getElem?_getD, List.getElem?_eq_none (by show knKL.length ≤ o.toNat; have : knKL.length = 161 := by decide +kernel
                                                                  omega)]
        rfl
      rw [this] at h; exact hk h.symm
  · rw [if_neg h0] at h; exact absurd h.symm hk
theorem knKd_nat (k : Nat) : knKd (k : Int) = knKL.getD k 99 := by
  unfold knKd
  rw [if_pos (by omega), Int.toNat_natCast]
theorem knLn_nat (k : Nat) : knLn (k : Int) = ((knLL.getD k 0 : Nat) : Int) := by unfold knLn; rw [Int.toNat_natCast]
theorem knTab3 : ∀ k : Nat, k < 161 → knKL.getD k 99 = 3 → (knKL.getD (k + 1) 99 = 20 ∧ knKL.getD (k + 2) 99 = 20 ∧ knKL.getD (k + 3) 99 = 21) ∧ (knLL.getD (k + 1) 0 = 7 ∧ knLL.getD (k + 2) 0 = 7 ∧ knLL.getD (k + 3) 0 = 7) := by decide +kernel
theorem knTab0 : ∀ k : Nat, k < 161 → knKL.getD k 99 = 0 → (knKL.getD (k + 1) 99 = 20 ∧ knKL.getD (k + 2) 99 = 20 ∧ knKL.getD (k + 3) 99 = 20) ∧ (knLL.getD (k + 1) 0 = 4 ∧ knLL.getD (k + 2) 0 = 4 ∧ knLL.getD (k + 3) 0 = 4) := by decide +kernel
theorem knTab7 : ∀ k : Nat, k < 161 → knKL.getD k 99 = 7 → knKL.getD (k + 1) 99 = 3 ∧ knKL.getD (k + 5) 99 = 0 := by decide +kernel
theorem knD3 {o : Int} (h : knKd o = 3) : (knKd (o + 1) = 20 ∧ knKd (o + 2) = 20 ∧ knKd (o + 3) = 21) ∧ (knLn (o + 1) = 7 ∧ knLn (o + 2) = 7 ∧ knLn (o + 3) = 7) := by
  obtain ⟨h0, h1⟩ := knKd_in h (by decide)
  obtain ⟨k, rfl⟩ := Int.eq_ofNat_of_zero_le h0
  have e : ∀ j : Nat, ((k : Int) + (j : Int)) = ((k + j : Nat) : Int) := fun j => by omega
  have := knTab3 k (by omega) (by rw [← knKd_nat]; exact h)
  rw [show ((k : Int) + 1) = ((k + 1 : Nat) : Int) from e 1, show ((k : Int) + 2) = ((k + 2 : Nat) : Int) from e 2, show ((k : Int) + 3) = ((k + 3 : Nat) : Int) from e 3]
  simp only [knKd_nat, knLn_nat]
  refine ⟨this.1, ?_, ?_, ?_⟩ <;> (have := this.2; omega)
theorem knD0 {o : Int} (h : knKd o = 0) : (knKd (o + 1) = 20 ∧ knKd (o + 2) = 20 ∧ knKd (o + 3) = 20) ∧ (knLn (o + 1) = 4 ∧ knLn (o + 2) = 4 ∧ knLn (o + 3) = 4) := by
  obtain ⟨h0, h1⟩ := knKd_in h (by decide)
  obtain ⟨k, rfl⟩ := Int.eq_ofNat_of_zero_le h0
  have e : ∀ j : Nat, ((k : Int) + (j : Int)) = ((k + j : Nat) : Int) := fun j => by omega
  have := knTab0 k (by omega) (by rw [← knKd_nat]; exact h)
  rw [show ((k : Int) + 1) = ((k + 1 : Nat) : Int) from e 1, show ((k : Int) + 2) = ((k + 2 : Nat) : Int) from e 2, show ((k : Int) + 3) = ((k + 3 : Nat) : Int) from e 3]
  simp only [knKd_nat, knLn_nat]
  refine ⟨this.1, ?_, ?_, ?_⟩ <;> (have := this.2; omega)
theorem knD7 {o : Int} (h : knKd o = 7) : knKd (o + 1) = 3 ∧ knKd (o + 5) = 0 := by
  obtain ⟨h0, h1⟩ := knKd_in h (by decide)
  obtain ⟨k, rfl⟩ := Int.eq_ofNat_of_zero_le h0
  have e : ∀ j : Nat, ((k : Int) + (j : Int)) = ((k + j : Nat) : Int) := fun j => by omega
  have := knTab7 k (by omega) (by rw [← knKd_nat]; exact h)
  rw [show ((k : Int) + 1) = ((k + 1 : Nat) : Int) from e 1, show ((k : Int) + 5) = ((k + 5 : Nat) : Int) from e 5]
  simp only [knKd_nat]
  exact this
/-- the rows of an outer array -/
theorem knSlots {i : Int} (h : 0 ≤ i ∧ i < 9) : knKd (25 + 9 * i) = 7 := by
  refine knAll (P := fun i => knKd (25 + 9 * i) = 7) (n := 9) ?_ h.1 (by have := h.2; omega)
  decide +kernel
theorem knRows {i : Int} (h : 0 ≤ i ∧ i < 7) : knKd (111 + i) = 20 ∧ knLn (111 + i) = 7 := by
  refine knAll (P := fun i => knKd (111 + i) = 20 ∧ knLn (111 + i) = 7) (n := 7) ?_ h.1 (by have := h.2; omega)
  decide +kernel
theorem knJoined {i : Int} (h : 0 ≤ i ∧ i < 8) : knKd (124 + i) = 20 ∧ knLn (124 + i) = 14 := by
  refine knAll (P := fun i => knKd (124 + i) = 20 ∧ knLn (124 + i) = 14) (n := 8) ?_ h.1 (by have := h.2; omega)
  decide +kernel
section KNJ
variable {G : knGT} {p : Program} {l : Launch} {e : Env} {R : Room} {s : State} {m : MethodId} {args : Array Value} {below : List Frame} {meth : Method} {c : Code} {nL cells slots : Nat} {Q : State → Prop}
variable {cc : ByteArray} {own : String} {pc : Nat} {L : List (Nat × Value)} {st : List Value} {μ : knMem}
theorem kj_iload (X : knX p m c cc nL s args own) (i : Nat) {k : Nat} {x : Int} (d : decode cc pc = .ok (.iload k, 2)) (hl : L[i]? = some (k, knV x)) (kk : knJ G p l e R s m args below meth c nL cells slots Q (pc + 2) L (knV x :: st) μ) : knJ G p l e R s m args below meth c nL cells slots Q pc L st μ :=
  fun H locs ls hP hS hL => lv_iload X.1 X.2.1 d (lv_at hL i hl) (kk H locs ls hP hS hL)
theorem kj_iloadn (X : knX p m c cc nL s args own) (i : Nat) {k : Fin 4} {x : Int} (d : decode cc pc = .ok (.iload_n k, 1)) (hl : L[i]? = some ((k : Nat), knV x)) (kk : knJ G p l e R s m args below meth c nL cells slots Q (pc + 1) L (knV x :: st) μ) : knJ G p l e R s m args below meth c nL cells slots Q pc L st μ :=
  fun H locs ls hP hS hL => lv_iload_n X.1 X.2.1 d rfl (lv_at hL i hl) (kk H locs ls hP hS hL)
theorem kj_aload (X : knX p m c cc nL s args own) (i : Nat) {k : Nat} {x : Nat} (d : decode cc pc = .ok (.aload k, 2)) (hl : L[i]? = some (k, Value.ref x)) (kk : knJ G p l e R s m args below meth c nL cells slots Q (pc + 2) L (Value.ref x :: st) μ) : knJ G p l e R s m args below meth c nL cells slots Q pc L st μ :=
  fun H locs ls hP hS hL => lv_aload X.1 X.2.1 d (lv_at hL i hl) (kk H locs ls hP hS hL)
theorem kj_aloadn (X : knX p m c cc nL s args own) (i : Nat) {k : Fin 4} {x : Nat} (d : decode cc pc = .ok (.aload_n k, 1)) (hl : L[i]? = some ((k : Nat), Value.ref x)) (kk : knJ G p l e R s m args below meth c nL cells slots Q (pc + 1) L (Value.ref x :: st) μ) : knJ G p l e R s m args below meth c nL cells slots Q pc L st μ :=
  fun H locs ls hP hS hL => lv_aload_n X.1 X.2.1 d rfl (lv_at hL i hl) (kk H locs ls hP hS hL)
theorem kj_istore (X : knX p m c cc nL s args own) {k : Nat} {x : Int} {L' : List (Nat × Value)} (d : decode cc pc = .ok (.istore k, 2)) (hn : k < nL) (hl : (k, knV x) :: L.filter (fun q => !(q.1 == k) && !(q.1 + 1 == k && q.2.category == 2)) = L') (kk : knJ G p l e R s m args below meth c nL cells slots Q (pc + 2) L' st μ) : knJ G p l e R s m args below meth c nL cells slots Q pc L (knV x :: st) μ :=
  fun H locs ls hP hS hL => lv_istore X.1 X.2.1 d hL hn hl (fun ls' hL' => kk H locs ls' hP hS hL')
theorem kj_istoren (X : knX p m c cc nL s args own) {k : Fin 4} {x : Int} {L' : List (Nat × Value)} (d : decode cc pc = .ok (.istore_n k, 1)) (hn : (k : Nat) < nL) (hl : ((k : Nat), knV x) :: L.filter (fun q => !(q.1 == (k : Nat)) && !(q.1 + 1 == (k : Nat) && q.2.category == 2)) = L') (kk : knJ G p l e R s m args below meth c nL cells slots Q (pc + 1) L' st μ) : knJ G p l e R s m args below meth c nL cells slots Q pc L (knV x :: st) μ :=
  fun H locs ls hP hS hL => lv_istore_n X.1 X.2.1 d rfl hL hn hl (fun ls' hL' => kk H locs ls' hP hS hL')
theorem kj_astore (X : knX p m c cc nL s args own) {k : Nat} {x : Nat} {L' : List (Nat × Value)} (d : decode cc pc = .ok (.astore k, 2)) (hn : k < nL) (hl : (k, Value.ref x) :: L.filter (fun q => !(q.1 == k) && !(q.1 + 1 == k && q.2.category == 2)) = L') (kk : knJ G p l e R s m args below meth c nL cells slots Q (pc + 2) L' st μ) : knJ G p l e R s m args below meth c nL cells slots Q pc L (Value.ref x :: st) μ :=
  fun H locs ls hP hS hL => lv_astore X.1 X.2.1 d hL hn hl (fun ls' hL' => kk H locs ls' hP hS hL')
theorem kj_astoren (X : knX p m c cc nL s args own) {k : Fin 4} {x : Nat} {L' : List (Nat × Value)} (d : decode cc pc = .ok (.astore_n k, 1)) (hn : (k : Nat) < nL) (hl : ((k : Nat), Value.ref x) :: L.filter (fun q => !(q.1 == (k : Nat)) && !(q.1 + 1 == (k : Nat) && q.2.category == 2)) = L') (kk : knJ G p l e R s m args below meth c nL cells slots Q (pc + 1) L' st μ) : knJ G p l e R s m args below meth c nL cells slots Q pc L (Value.ref x :: st) μ :=
  fun H locs ls hP hS hL => lv_astore_n X.1 X.2.1 d rfl hL hn hl (fun ls' hL' => kk H locs ls' hP hS hL')
theorem kj_iinc (X : knX p m c cc nL s args own) (i : Nat) {k : Nat} {n x : Int} {L' : List (Nat × Value)} (d : decode cc pc = .ok (.iinc k n, 3)) (hi : L[i]? = some (k, knV x)) (hn : k < nL) (hl : (k, knV (knW (x + n))) :: L.filter (fun q => !(q.1 == k) && !(q.1 + 1 == k && q.2.category == 2)) = L') (kk : knJ G p l e R s m args below meth c nL cells slots Q (pc + 3) L' st μ) : knJ G p l e R s m args below meth c nL cells slots Q pc L st μ :=
  fun H locs ls hP hS hL => lv_iinc (v := Int32.ofInt (knW (x + n))) X.1 X.2.1 d hL hi (by rw [knOw, Int32.ofInt_add]) hn hl (fun ls' hL' => kk H locs ls' hP hS hL')
theorem kj_iconst (X : knX p m c cc nL s args own) {n : Int} (d : decode cc pc = .ok (.iconst n, 1)) (kk : knJ G p l e R s m args below meth c nL cells slots Q (pc + 1) L (knV n :: st) μ) : knJ G p l e R s m args below meth c nL cells slots Q pc L st μ :=
  fun H locs ls hP hS hL => lv_iconst X.1 X.2.1 d rfl (kk H locs ls hP hS hL)
theorem kj_bipush (X : knX p m c cc nL s args own) {n : Int} (d : decode cc pc = .ok (.bipush n, 2)) (hv : (Int8.ofInt n).toInt32 = Int32.ofInt n) (kk : knJ G p l e R s m args below meth c nL cells slots Q (pc + 2) L (knV n :: st) μ) : knJ G p l e R s m args below meth c nL cells slots Q pc L st μ :=
  fun H locs ls hP hS hL => lv_bipush X.1 X.2.1 d hv (kk H locs ls hP hS hL)
theorem kj_sipush (X : knX p m c cc nL s args own) {n : Int} (d : decode cc pc = .ok (.sipush n, 3)) (hv : (Int16.ofInt n).toInt32 = Int32.ofInt n) (kk : knJ G p l e R s m args below meth c nL cells slots Q (pc + 3) L (knV n :: st) μ) : knJ G p l e R s m args below meth c nL cells slots Q pc L st μ :=
  fun H locs ls hP hS hL => lv_sipush X.1 X.2.1 d hv (kk H locs ls hP hS hL)
theorem kj_ldc (X : knX p m c cc nL s args own) {n : Int} {index : Nat} (hc : Cond.constant own index (Int32.ofInt n) ∈ knGW) (d : decode cc pc = .ok (.ldc index, 2)) (kk : knJ G p l e R s m args below meth c nL cells slots Q (pc + 2) L (knV n :: st) μ) : knJ G p l e R s m args below meth c nL cells slots Q pc L st μ :=
  fun H locs ls hP hS hL => lv_ldc X.1 X.2.1 X.2.2.2.1 (X.2.2.2.2 _ hc) d (kk H locs ls hP hS hL)
theorem kj_iadd (X : knX p m c cc nL s args own) {x y : Int} (d : decode cc pc = .ok (.iadd, 1)) (kk : knJ G p l e R s m args below meth c nL cells slots Q (pc + 1) L (knV (knW (x + y)) :: st) μ) : knJ G p l e R s m args below meth c nL cells slots Q pc L (knV y :: knV x :: st) μ :=
  fun H locs ls hP hS hL => lv_iadd X.1 X.2.1 d (by have := kk H locs ls hP hS hL; unfold knV at this; rwa [knOw, Int32.ofInt_add] at this)
theorem kj_isub (X : knX p m c cc nL s args own) {x y : Int} (d : decode cc pc = .ok (.isub, 1)) (kk : knJ G p l e R s m args below meth c nL cells slots Q (pc + 1) L (knV (knW (x - y)) :: st) μ) : knJ G p l e R s m args below meth c nL cells slots Q pc L (knV y :: knV x :: st) μ :=
  fun H locs ls hP hS hL => lv_isub X.1 X.2.1 d (by have := kk H locs ls hP hS hL; unfold knV at this; rwa [knOw, Int32.ofInt_sub] at this)
theorem kj_imul (X : knX p m c cc nL s args own) {x y : Int} (d : decode cc pc = .ok (.imul, 1)) (kk : knJ G p l e R s m args below meth c nL cells slots Q (pc + 1) L (knV (knW (x * y)) :: st) μ) : knJ G p l e R s m args below meth c nL cells slots Q pc L (knV y :: knV x :: st) μ :=
  fun H locs ls hP hS hL => lv_imul X.1 X.2.1 d (by have := kk H locs ls hP hS hL; unfold knV at this; rwa [knOw, Int32.ofInt_mul] at this)
theorem kj_ineg (X : knX p m c cc nL s args own) {x : Int} (d : decode cc pc = .ok (.ineg, 1)) (kk : knJ G p l e R s m args below meth c nL cells slots Q (pc + 1) L (knV (knW (-x)) :: st) μ) : knJ G p l e R s m args below meth c nL cells slots Q pc L (knV x :: st) μ :=
  fun H locs ls hP hS hL => lv_ineg X.1 X.2.1 d (by have := kk H locs ls hP hS hL; unfold knV at this; rwa [knOw, Int32.ofInt_neg] at this)
theorem kj_idiv (X : knX p m c cc nL s args own) {x y : Int} (d : decode cc pc = .ok (.idiv, 1)) (hy : knC y) (h0 : y ≠ 0) (kk : knJ G p l e R s m args below meth c nL cells slots Q (pc + 1) L (knV (knDiv x y) :: st) μ) : knJ G p l e R s m args below meth c nL cells slots Q pc L (knV y :: knV x :: st) μ :=
  fun H locs ls hP hS hL => lv_idiv X.1 X.2.1 d (fun h => h0 ((kn_eq hy ⟨by omega, by omega⟩).mp h)) (by have := kk H locs ls hP hS hL; unfold knV knDiv at this; rwa [Int32.ofInt_toInt] at this)
theorem kj_irem (X : knX p m c cc nL s args own) {x y : Int} (d : decode cc pc = .ok (.irem, 1)) (hy : knC y) (h0 : y ≠ 0) (kk : knJ G p l e R s m args below meth c nL cells slots Q (pc + 1) L (knV (knRem x y) :: st) μ) : knJ G p l e R s m args below meth c nL cells slots Q pc L (knV y :: knV x :: st) μ :=
  fun H locs ls hP hS hL => lv_irem X.1 X.2.1 d (fun h => h0 ((kn_eq hy ⟨by omega, by omega⟩).mp h)) (by have := kk H locs ls hP hS hL; unfold knV knRem at this; rwa [Int32.ofInt_toInt] at this)
theorem kj_ishl (X : knX p m c cc nL s args own) {x y : Int} (d : decode cc pc = .ok (.ishl, 1)) (kk : knJ G p l e R s m args below meth c nL cells slots Q (pc + 1) L (knV (knShl x y) :: st) μ) : knJ G p l e R s m args below meth c nL cells slots Q pc L (knV y :: knV x :: st) μ :=
  fun H locs ls hP hS hL => lv_ishl X.1 X.2.1 d (by have := kk H locs ls hP hS hL; unfold knV knShl at this; rwa [Int32.ofInt_toInt] at this)
theorem kj_ishr (X : knX p m c cc nL s args own) {x y : Int} (d : decode cc pc = .ok (.ishr, 1)) (kk : knJ G p l e R s m args below meth c nL cells slots Q (pc + 1) L (knV (knShr x y) :: st) μ) : knJ G p l e R s m args below meth c nL cells slots Q pc L (knV y :: knV x :: st) μ :=
  fun H locs ls hP hS hL => lv_ishr X.1 X.2.1 d (by have := kk H locs ls hP hS hL; unfold knV knShr at this; rwa [Int32.ofInt_toInt] at this)
theorem kj_iand (X : knX p m c cc nL s args own) {x y : Int} (d : decode cc pc = .ok (.iand, 1)) (kk : knJ G p l e R s m args below meth c nL cells slots Q (pc + 1) L (knV (knAnd x y) :: st) μ) : knJ G p l e R s m args below meth c nL cells slots Q pc L (knV y :: knV x :: st) μ :=
  fun H locs ls hP hS hL => lv_iand X.1 X.2.1 d (by have := kk H locs ls hP hS hL; unfold knV knAnd at this; rwa [Int32.ofInt_toInt] at this)
theorem kj_ior (X : knX p m c cc nL s args own) {x y : Int} (d : decode cc pc = .ok (.ior, 1)) (kk : knJ G p l e R s m args below meth c nL cells slots Q (pc + 1) L (knV (knOr x y) :: st) μ) : knJ G p l e R s m args below meth c nL cells slots Q pc L (knV y :: knV x :: st) μ :=
  fun H locs ls hP hS hL => lv_ior X.1 X.2.1 d (by have := kk H locs ls hP hS hL; unfold knV knOr at this; rwa [Int32.ofInt_toInt] at this)
theorem kj_i2c (X : knX p m c cc nL s args own) {x : Int} (d : decode cc pc = .ok (.i2c, 1)) (kk : knJ G p l e R s m args below meth c nL cells slots Q (pc + 1) L (knV (knI2c x) :: st) μ) : knJ G p l e R s m args below meth c nL cells slots Q pc L (knV x :: st) μ :=
  fun H locs ls hP hS hL => lv_i2c X.1 X.2.1 d (Int32.ofInt_toInt _).symm (kk H locs ls hP hS hL)
theorem kj_dup (X : knX p m c cc nL s args own) {v : Value} (d : decode cc pc = .ok (.dup, 1)) (hv : v.category = 1) (kk : knJ G p l e R s m args below meth c nL cells slots Q (pc + 1) L (v :: v :: st) μ) : knJ G p l e R s m args below meth c nL cells slots Q pc L (v :: st) μ :=
  fun H locs ls hP hS hL => lv_dup X.1 X.2.1 d hv (kk H locs ls hP hS hL)
theorem kj_pop (X : knX p m c cc nL s args own) {v : Value} (d : decode cc pc = .ok (.pop, 1)) (hv : v.category = 1) (kk : knJ G p l e R s m args below meth c nL cells slots Q (pc + 1) L st μ) : knJ G p l e R s m args below meth c nL cells slots Q pc L (v :: st) μ :=
  fun H locs ls hP hS hL => lv_pop X.1 X.2.1 d hv (kk H locs ls hP hS hL)
theorem kj_goto (X : knX p m c cc nL s args own) {off : Int} {tgt : Nat} (d : decode cc pc = .ok (.goto off, 3)) (ht : (pc : Int) + off = (tgt : Int)) (kk : knJ G p l e R s m args below meth c nL cells slots Q tgt L st μ) : knJ G p l e R s m args below meth c nL cells slots Q pc L st μ :=
  fun H locs ls hP hS hL => lv_goto X.1 X.2.1 d ht (kk H locs ls hP hS hL)
theorem kj_if_eq (X : knX p m c cc nL s args own) {x : Int} {off : Int} {tgt : Nat} (d : decode cc pc = .ok (.ifCond .eq off, 3)) (ht : (pc : Int) + off = (tgt : Int)) (hx : knC x) (kt : x = 0 → knJ G p l e R s m args below meth c nL cells slots Q tgt L st μ) (kf : ¬ x = 0 → knJ G p l e R s m args below meth c nL cells slots Q (pc + 3) L st μ) : knJ G p l e R s m args below meth c nL cells slots Q pc L (knV x :: st) μ :=
  fun H locs ls hP hS hL => lv_if_eq X.1 X.2.1 d ht (fun h => kt ((kn_eq hx ⟨by omega, by omega⟩).mp h) H locs ls hP hS hL) (fun h => kf (fun h9 => h ((kn_eq hx ⟨by omega, by omega⟩).mpr h9)) H locs ls hP hS hL)
theorem kj_if_ne (X : knX p m c cc nL s args own) {x : Int} {off : Int} {tgt : Nat} (d : decode cc pc = .ok (.ifCond .ne off, 3)) (ht : (pc : Int) + off = (tgt : Int)) (hx : knC x) (kt : ¬ x = 0 → knJ G p l e R s m args below meth c nL cells slots Q tgt L st μ) (kf : x = 0 → knJ G p l e R s m args below meth c nL cells slots Q (pc + 3) L st μ) : knJ G p l e R s m args below meth c nL cells slots Q pc L (knV x :: st) μ :=
  fun H locs ls hP hS hL => lv_if_ne X.1 X.2.1 d ht (fun h => kt (fun h9 => h ((kn_eq hx ⟨by omega, by omega⟩).mpr h9)) H locs ls hP hS hL) (fun h => kf ((kn_eq hx ⟨by omega, by omega⟩).mp h) H locs ls hP hS hL)
theorem kj_if_lt (X : knX p m c cc nL s args own) {x : Int} {off : Int} {tgt : Nat} (d : decode cc pc = .ok (.ifCond .lt off, 3)) (ht : (pc : Int) + off = (tgt : Int)) (hx : knC x) (kt : x < 0 → knJ G p l e R s m args below meth c nL cells slots Q tgt L st μ) (kf : ¬ x < 0 → knJ G p l e R s m args below meth c nL cells slots Q (pc + 3) L st μ) : knJ G p l e R s m args below meth c nL cells slots Q pc L (knV x :: st) μ :=
  fun H locs ls hP hS hL => lv_if_lt X.1 X.2.1 d ht (fun h => kt ((kn_lt hx ⟨by omega, by omega⟩).mp h) H locs ls hP hS hL) (fun h => kf (fun h9 => h ((kn_lt hx ⟨by omega, by omega⟩).mpr h9)) H locs ls hP hS hL)
theorem kj_if_ge (X : knX p m c cc nL s args own) {x : Int} {off : Int} {tgt : Nat} (d : decode cc pc = .ok (.ifCond .ge off, 3)) (ht : (pc : Int) + off = (tgt : Int)) (hx : knC x) (kt : 0 ≤ x → knJ G p l e R s m args below meth c nL cells slots Q tgt L st μ) (kf : ¬ 0 ≤ x → knJ G p l e R s m args below meth c nL cells slots Q (pc + 3) L st μ) : knJ G p l e R s m args below meth c nL cells slots Q pc L (knV x :: st) μ :=
  fun H locs ls hP hS hL => lv_if_ge X.1 X.2.1 d ht (fun h => kt ((kn_le ⟨by omega, by omega⟩ hx).mp h) H locs ls hP hS hL) (fun h => kf (fun h9 => h ((kn_le ⟨by omega, by omega⟩ hx).mpr h9)) H locs ls hP hS hL)
theorem kj_if_gt (X : knX p m c cc nL s args own) {x : Int} {off : Int} {tgt : Nat} (d : decode cc pc = .ok (.ifCond .gt off, 3)) (ht : (pc : Int) + off = (tgt : Int)) (hx : knC x) (kt : 0 < x → knJ G p l e R s m args below meth c nL cells slots Q tgt L st μ) (kf : ¬ 0 < x → knJ G p l e R s m args below meth c nL cells slots Q (pc + 3) L st μ) : knJ G p l e R s m args below meth c nL cells slots Q pc L (knV x :: st) μ :=
  fun H locs ls hP hS hL => lv_if_gt X.1 X.2.1 d ht (fun h => kt ((kn_lt ⟨by omega, by omega⟩ hx).mp h) H locs ls hP hS hL) (fun h => kf (fun h9 => h ((kn_lt ⟨by omega, by omega⟩ hx).mpr h9)) H locs ls hP hS hL)
theorem kj_if_le (X : knX p m c cc nL s args own) {x : Int} {off : Int} {tgt : Nat} (d : decode cc pc = .ok (.ifCond .le off, 3)) (ht : (pc : Int) + off = (tgt : Int)) (hx : knC x) (kt : x ≤ 0 → knJ G p l e R s m args below meth c nL cells slots Q tgt L st μ) (kf : ¬ x ≤ 0 → knJ G p l e R s m args below meth c nL cells slots Q (pc + 3) L st μ) : knJ G p l e R s m args below meth c nL cells slots Q pc L (knV x :: st) μ :=
  fun H locs ls hP hS hL => lv_if_le X.1 X.2.1 d ht (fun h => kt ((kn_le hx ⟨by omega, by omega⟩).mp h) H locs ls hP hS hL) (fun h => kf (fun h9 => h ((kn_le hx ⟨by omega, by omega⟩).mpr h9)) H locs ls hP hS hL)
theorem kj_ic_eq (X : knX p m c cc nL s args own) {x y : Int} {off : Int} {tgt : Nat} (d : decode cc pc = .ok (.if_icmp .eq off, 3)) (ht : (pc : Int) + off = (tgt : Int)) (hx : knC x) (hy : knC y) (kt : x = y → knJ G p l e R s m args below meth c nL cells slots Q tgt L st μ) (kf : ¬ x = y → knJ G p l e R s m args below meth c nL cells slots Q (pc + 3) L st μ) : knJ G p l e R s m args below meth c nL cells slots Q pc L (knV y :: knV x :: st) μ :=
  fun H locs ls hP hS hL => lv_icmp_eq X.1 X.2.1 d ht (fun h => kt ((kn_eq hx hy).mp h) H locs ls hP hS hL) (fun h => kf (fun h9 => h ((kn_eq hx hy).mpr h9)) H locs ls hP hS hL)
theorem kj_ic_ne (X : knX p m c cc nL s args own) {x y : Int} {off : Int} {tgt : Nat} (d : decode cc pc = .ok (.if_icmp .ne off, 3)) (ht : (pc : Int) + off = (tgt : Int)) (hx : knC x) (hy : knC y) (kt : ¬ x = y → knJ G p l e R s m args below meth c nL cells slots Q tgt L st μ) (kf : x = y → knJ G p l e R s m args below meth c nL cells slots Q (pc + 3) L st μ) : knJ G p l e R s m args below meth c nL cells slots Q pc L (knV y :: knV x :: st) μ :=
  fun H locs ls hP hS hL => lv_icmp_ne X.1 X.2.1 d ht (fun h => kt (fun h9 => h ((kn_eq hx hy).mpr h9)) H locs ls hP hS hL) (fun h => kf ((kn_eq hx hy).mp h) H locs ls hP hS hL)
theorem kj_ic_lt (X : knX p m c cc nL s args own) {x y : Int} {off : Int} {tgt : Nat} (d : decode cc pc = .ok (.if_icmp .lt off, 3)) (ht : (pc : Int) + off = (tgt : Int)) (hx : knC x) (hy : knC y) (kt : x < y → knJ G p l e R s m args below meth c nL cells slots Q tgt L st μ) (kf : ¬ x < y → knJ G p l e R s m args below meth c nL cells slots Q (pc + 3) L st μ) : knJ G p l e R s m args below meth c nL cells slots Q pc L (knV y :: knV x :: st) μ :=
  fun H locs ls hP hS hL => lv_icmp_lt X.1 X.2.1 d ht (fun h => kt ((kn_lt hx hy).mp h) H locs ls hP hS hL) (fun h => kf (fun h9 => h ((kn_lt hx hy).mpr h9)) H locs ls hP hS hL)
theorem kj_ic_ge (X : knX p m c cc nL s args own) {x y : Int} {off : Int} {tgt : Nat} (d : decode cc pc = .ok (.if_icmp .ge off, 3)) (ht : (pc : Int) + off = (tgt : Int)) (hx : knC x) (hy : knC y) (kt : y ≤ x → knJ G p l e R s m args below meth c nL cells slots Q tgt L st μ) (kf : ¬ y ≤ x → knJ G p l e R s m args below meth c nL cells slots Q (pc + 3) L st μ) : knJ G p l e R s m args below meth c nL cells slots Q pc L (knV y :: knV x :: st) μ :=
  fun H locs ls hP hS hL => lv_icmp_ge X.1 X.2.1 d ht (fun h => kt ((kn_le hy hx).mp h) H locs ls hP hS hL) (fun h => kf (fun h9 => h ((kn_le hy hx).mpr h9)) H locs ls hP hS hL)
theorem kj_ic_gt (X : knX p m c cc nL s args own) {x y : Int} {off : Int} {tgt : Nat} (d : decode cc pc = .ok (.if_icmp .gt off, 3)) (ht : (pc : Int) + off = (tgt : Int)) (hx : knC x) (hy : knC y) (kt : y < x → knJ G p l e R s m args below meth c nL cells slots Q tgt L st μ) (kf : ¬ y < x → knJ G p l e R s m args below meth c nL cells slots Q (pc + 3) L st μ) : knJ G p l e R s m args below meth c nL cells slots Q pc L (knV y :: knV x :: st) μ :=
  fun H locs ls hP hS hL => lv_icmp_gt X.1 X.2.1 d ht (fun h => kt ((kn_lt hy hx).mp h) H locs ls hP hS hL) (fun h => kf (fun h9 => h ((kn_lt hy hx).mpr h9)) H locs ls hP hS hL)
theorem kj_ic_le (X : knX p m c cc nL s args own) {x y : Int} {off : Int} {tgt : Nat} (d : decode cc pc = .ok (.if_icmp .le off, 3)) (ht : (pc : Int) + off = (tgt : Int)) (hx : knC x) (hy : knC y) (kt : x ≤ y → knJ G p l e R s m args below meth c nL cells slots Q tgt L st μ) (kf : ¬ x ≤ y → knJ G p l e R s m args below meth c nL cells slots Q (pc + 3) L st μ) : knJ G p l e R s m args below meth c nL cells slots Q pc L (knV y :: knV x :: st) μ :=
  fun H locs ls hP hS hL => lv_icmp_le X.1 X.2.1 d ht (fun h => kt ((kn_le hx hy).mp h) H locs ls hP hS hL) (fun h => kf (fun h9 => h ((kn_le hx hy).mpr h9)) H locs ls hP hS hL)
end KNJ
