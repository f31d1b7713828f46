section KNM
variable {G : knGT} {p : Program} {l : Launch} {e : Env} {R : Room} {s : State} {m : MethodId} {args : Array Value} {below : List Frame} {meth : Method} {c : Code} {nL cells slots : Nat} {Q : State → Prop}
variable {cc : ByteArray} {own : String} {pc : Nat} {L : List (Nat × Value)} {st : List Value} {μ : knMem}
theorem kn_cell {o : Int} (ho : knIn o) {en : va_E} (he : knEnt G (μ o) o = en) : (knWs G μ)[o.toNat]? = some (knAd G o, en) := by
  rw [knWs_at μ ho, he]
/-- any field, read -/
theorem kj_getf (X : knX p m c cc nL s args own) (K : knK G s s.heap) {ref C : String} {T : u_T} {N ci index k : Nat} {o : Int} {fs : List Value} {v : Value} (ho : knIn o) (he : knEnt G (μ o) o = .inr (ci, fs)) (hc : knCl[ci]? = some (C, T, N)) (hk : k < N) (hin : ∀ w ∈ u_ws C T N, w ∈ knGW)
    (hlink : Cond.fieldLink own index ref (T k).2.1 (T k).2.2.1 ∈ knGW) (href : (T k).1 = ref) (hv : fs[k]? = some v) (d : decode cc pc = .ok (.getfield index, 3)) (kk : knM μ → knJ G p l e R s m args below meth c nL cells slots Q (pc + 3) L (v :: st) μ) : knJ G p l e R s m args below meth c nL cells slots Q pc L (knO G o :: st) μ :=
  fun H locs ls hP hS hL => va_get (D := G.1) (ci := ci) (v := v) (C := C) (T := T) (N := N) X.1 X.2.1 X.2.2.2.2 hin X.2.2.2.1 K.1 hP.2 o.toNat (kn_cell ho he) hc k hk (X.2.2.2.2 _ hlink) (fun _ h => by rw [← href]; exact h) hv d (kk hP.1 H locs ls hP hS hL)
/-- an int field, written -/
theorem kj_putf (X : knX p m c cc nL s args own) (K : knK G s s.heap) {ref C : String} {T : u_T} {N ci index k : Nat} {o x ki : Int} (hki : (k : Int) = ki) {fs : List Value} {ty0 : Nat → FieldType} {ty : FieldType} (ho : knIn o) (he : knEnt G (μ o) o = .inr (ci, fs)) (hc : knCl[ci]? = some (C, T, N)) (hk : k < N) (hin : ∀ w ∈ u_ws C T N, w ∈ knGW)
    (hty : ∀ k, k < N → parseFieldDescriptor (T k).2.2.1 = some (ty0 k)) (hnm : ∀ a, a < N → ∀ b, b < N → a ≠ b → (T a).2.1 ≠ (T b).2.1)
    (hlink : Cond.fieldLink own index ref (T k).2.1 (T k).2.2.1 ∈ knGW) (href : (T k).1 = ref) (hfin : (T k).2.2.2 = false) (hd : parseFieldDescriptor (T k).2.2.1 = some ty) (hn : narrow ty (knV x) = knV x) (hfit : fits ty (knV x) = true) (hkl : k < fs.length)
    (hent : knEnt G (knUp μ o ki x o) o = .inr (ci, fs.set k (knV x))) (hcx : o ≠ 160 → knC x) (hz : knKd o = 21 → knZ x) (hh : knKd o = 22 → knH x) (d : decode cc pc = .ok (.putfield index, 3))
    (kk : knJ G p l e R s m args below meth c nL cells slots Q (pc + 3) L st (knUp μ o ki x)) : knJ G p l e R s m args below meth c nL cells slots Q pc L (knV x :: knO G o :: st) μ :=
  fun H locs ls hP hS hL => va_put (D := G.1) (ci := ci) (v := knV x) (ty := ty) (C := C) (T := T) (N := N) X.1 X.2.1 X.2.2.2.2 hin ty0 hty hnm X.2.2.2.1 K.1 hP.2 (K.D μ) hS o.toNat (kn_cell ho he) hc k hk (X.2.2.2.2 _ hlink) (fun _ h => by rw [← href]; exact h) hfin hd hn hfit hkl d
    (fun H1 locs1 hP1 _ hS1 => kk H1 locs1 ls ⟨knM_up hP.1 hcx hz hh, by rw [knWs_set ho hent.symm] at hP1; exact hP1⟩ hS1 hL)
/-- arrays -/
theorem kj_iald (X : knX p m c cc nL s args own) (K : knK G s s.heap) {a i : Int} (ha : knKd a = 20) (hi : knC i) {n : Int} (hlen : knLn a = n) (hin : 0 ≤ i ∧ i < n) (d : decode cc pc = .ok (.iaload, 1)) (kk : knC (μ a i) → knJ G p l e R s m args below meth c nL cells slots Q (pc + 1) L (knV (μ a i) :: st) μ) : knJ G p l e R s m args below meth c nL cells slots Q pc L (knV i :: knO G a :: st) μ := by
  intro H locs ls hP hS hL
  have h9 : a ≠ 160 := by rintro rfl; exact absurd ha (by decide)
  refine va_iald X.1 X.2.1 K.1 hP.2 a.toNat 0 (kn_cell (knKd_in ha (by decide)) (knEnt_20 ha)) rfl (kn_in hi hin.1 (by rw [← hlen] at hin; exact hin.2)) d ?_
  rw [kn_clamp hi, Int.toNat_of_nonneg hin.1]
  exact kk ((hP.1 a i).1 h9) H locs ls hP hS hL
theorem kj_zald (X : knX p m c cc nL s args own) (K : knK G s s.heap) {a i : Int} (ha : knKd a = 21) (hi : knC i) {n : Int} (hlen : knLn a = n) (hin : 0 ≤ i ∧ i < n) (d : decode cc pc = .ok (.baload, 1)) (kk : knZ (μ a i) → knJ G p l e R s m args below meth c nL cells slots Q (pc + 1) L (knV (μ a i) :: st) μ) : knJ G p l e R s m args below meth c nL cells slots Q pc L (knV i :: knO G a :: st) μ := by
  intro H locs ls hP hS hL
  refine va_zald X.1 X.2.1 K.1 hP.2 a.toNat 1 (kn_cell (knKd_in ha (by decide)) (knEnt_21 ha)) rfl (kn_in hi hin.1 (by rw [← hlen] at hin; exact hin.2)) d ?_
  rw [kn_clamp hi, Int.toNat_of_nonneg hin.1]
  exact kk ((hP.1 a i).2.1 ha) H locs ls hP hS hL
theorem kj_cald (X : knX p m c cc nL s args own) (K : knK G s s.heap) {a i : Int} (ha : knKd a = 22) (hi : knC i) {n : Int} (hlen : knLn a = n) (hin : 0 ≤ i ∧ i < n) (d : decode cc pc = .ok (.caload, 1)) (kk : knH (μ a i) → knJ G p l e R s m args below meth c nL cells slots Q (pc + 1) L (knV (μ a i) :: st) μ) : knJ G p l e R s m args below meth c nL cells slots Q pc L (knV i :: knO G a :: st) μ := by
  intro H locs ls hP hS hL
  refine va_cald X.1 X.2.1 K.1 hP.2 a.toNat 2 (kn_cell (knKd_in ha (by decide)) (knEnt_22 ha)) rfl (kn_in hi hin.1 (by rw [← hlen] at hin; exact hin.2)) d ?_
  rw [kn_clamp hi, Int.toNat_of_nonneg hin.1]
  exact kk ((hP.1 a i).2.2 ha) H locs ls hP hS hL
theorem kn_updI {r : Int → Int} {i v : Int} (hi : 0 ≤ i) : upd (fun j : Nat => Int32.ofInt (r j)) i.toNat (Int32.ofInt v) = fun j : Nat => Int32.ofInt ((fun q : Int => if q = i then v else r q) j) := by
  funext j
  unfold upd
  by_cases h : j = i.toNat
  · rw [if_pos h]; simp only; rw [if_pos (by omega)]
  · rw [if_neg h]; simp only; rw [if_neg (by omega)]
theorem kj_iast (X : knX p m c cc nL s args own) (K : knK G s s.heap) {a i x : Int} (ha : knKd a = 20) (hi : knC i) (hx : knC x) {n : Int} (hlen : knLn a = n) (hin : 0 ≤ i ∧ i < n) (d : decode cc pc = .ok (.iastore, 1)) (kk : knJ G p l e R s m args below meth c nL cells slots Q (pc + 1) L st (knUp μ a i x)) : knJ G p l e R s m args below meth c nL cells slots Q pc L (knV x :: knV i :: knO G a :: st) μ := by
  intro H locs ls hP hS hL
  have ho := knKd_in ha (by decide)
  refine va_iast X.1 X.2.1 K.1 hP.2 (K.D μ) hS a.toNat 0 (kn_cell ho (knEnt_20 ha)) rfl (kn_in hi hin.1 (by rw [← hlen] at hin; exact hin.2)) d (fun H1 locs1 hP1 _ hS1 => kk H1 locs1 ls ⟨knM_up hP.1 (fun _ => hx) (fun h => by rw [ha] at h; cases h) (fun h => by rw [ha] at h; cases h), ?_⟩ hS1 hL)
  rw [kn_clamp hi, kn_updI hin.1, knWs_set (k := i) (v := x) ho (by rw [knEnt_20 ha, knUp_row])] at hP1
  exact hP1
theorem kj_zast (X : knX p m c cc nL s args own) (K : knK G s s.heap) {a i x : Int} (ha : knKd a = 21) (hi : knC i) {n : Int} (hlen : knLn a = n) (hin : 0 ≤ i ∧ i < n) (d : decode cc pc = .ok (.bastore, 1)) (kk : knJ G p l e R s m args below meth c nL cells slots Q (pc + 1) L st (knUp μ a i (knNz x))) : knJ G p l e R s m args below meth c nL cells slots Q pc L (knV x :: knV i :: knO G a :: st) μ := by
  intro H locs ls hP hS hL
  have ho := knKd_in ha (by decide)
  refine va_zast X.1 X.2.1 K.1 hP.2 (K.D μ) hS a.toNat 1 (kn_cell ho (knEnt_21 ha)) rfl (kn_in hi hin.1 (by rw [← hlen] at hin; exact hin.2)) d (fun H1 locs1 hP1 _ hS1 => kk H1 locs1 ls ⟨knM_up hP.1 (fun _ => knC_nz x) (fun _ => knZ_nz x) (fun _ => knZ_h (knZ_nz x)), ?_⟩ hS1 hL)
  rw [kn_clamp hi, show vp_nar .boolean (Int32.ofInt x) = Int32.ofInt (knNz x) from (Int32.ofInt_toInt _).symm, kn_updI hin.1, knWs_set (k := i) (v := knNz x) ho (by rw [knEnt_21 ha, knUp_row])] at hP1
  exact hP1
theorem knH_nc (x : Int) : knH (knNc x) := by
  unfold knNc knH
  have h : vp_nar .char (Int32.ofInt x) = ((Int32.ofInt x).toUInt32 % 65536).toInt32 := rfl
  rw [h]
  have h1 : ((Int32.ofInt x).toUInt32 % 65536).toNat < 65536 := by
    rw [UInt32.toNat_mod]
    exact Nat.mod_lt _ (by decide)
  generalize (Int32.ofInt x).toUInt32 % 65536 = u at h1
  have h2 : u.toInt32.toInt = (u.toNat : Int) := by
    show u.toBitVec.toInt = _
    rw [BitVec.toInt_eq_toNat_of_lt]
    · rfl
    · show 2 * u.toNat < 2 ^ 32
      omega
  rw [h2]
  omega
theorem kj_cast (X : knX p m c cc nL s args own) (K : knK G s s.heap) {a i x : Int} (ha : knKd a = 22) (hi : knC i) {n : Int} (hlen : knLn a = n) (hin : 0 ≤ i ∧ i < n) (d : decode cc pc = .ok (.castore, 1)) (kk : knJ G p l e R s m args below meth c nL cells slots Q (pc + 1) L st (knUp μ a i (knNc x))) : knJ G p l e R s m args below meth c nL cells slots Q pc L (knV x :: knV i :: knO G a :: st) μ := by
  intro H locs ls hP hS hL
  have ho := knKd_in ha (by decide)
  refine va_cast X.1 X.2.1 K.1 hP.2 (K.D μ) hS a.toNat 2 (kn_cell ho (knEnt_22 ha)) rfl (kn_in hi hin.1 (by rw [← hlen] at hin; exact hin.2)) d (fun H1 locs1 hP1 _ hS1 => kk H1 locs1 ls ⟨knM_up hP.1 (fun _ => knC_nc x) (fun h => by rw [ha] at h; cases h) (fun _ => knH_nc x), ?_⟩ hS1 hL)
  rw [kn_clamp hi, show vp_nar .char (Int32.ofInt x) = Int32.ofInt (knNc x) from (Int32.ofInt_toInt _).symm, kn_updI hin.1, knWs_set (k := i) (v := knNc x) ho (by rw [knEnt_22 ha, knUp_row])] at hP1
  exact hP1
theorem kn_alen {a : Int} {t : Nat} {cA : ClassId} {f : (Nat → Int32) ⊕ (Nat → Int64) ⊕ (Nat → UInt32) ⊕ (Nat → UInt64) ⊕ (Nat → Option Nat)} (X : knX p m c cc nL s args own) (K : knK G s s.heap) (ho : knIn a) (he : knEnt G (μ a) a = .inl (cA, knLL.getD a.toNat 0, f)) {ty : FieldType} (ht : (knTys G)[t]? = some (cA, ty)) (d : decode cc pc = .ok (.arraylength, 1)) (kk : knJ G p l e R s m args below meth c nL cells slots Q (pc + 1) L (knV (knLn a) :: st) μ) : knJ G p l e R s m args below meth c nL cells slots Q pc L (knO G a :: st) μ := by
  intro H locs ls hP hS hL
  refine va_alen X.1 X.2.1 K.1 hP.2 a.toNat t (kn_cell ho he) ht (v := Int32.ofInt (knLn a)) ?_ d (kk H locs ls hP hS hL)
  rfl
theorem kj_alen20 (X : knX p m c cc nL s args own) (K : knK G s s.heap) {a : Int} (ha : knKd a = 20) (d : decode cc pc = .ok (.arraylength, 1)) (kk : knJ G p l e R s m args below meth c nL cells slots Q (pc + 1) L (knV (knLn a) :: st) μ) : knJ G p l e R s m args below meth c nL cells slots Q pc L (knO G a :: st) μ := kn_alen (t := 0) X K (knKd_in ha (by decide)) (knEnt_20 ha) rfl d kk
theorem kj_alen22 (X : knX p m c cc nL s args own) (K : knK G s s.heap) {a : Int} (ha : knKd a = 22) (d : decode cc pc = .ok (.arraylength, 1)) (kk : knJ G p l e R s m args below meth c nL cells slots Q (pc + 1) L (knV (knLn a) :: st) μ) : knJ G p l e R s m args below meth c nL cells slots Q pc L (knO G a :: st) μ := kn_alen (t := 2) X K (knKd_in ha (by decide)) (knEnt_22 ha) rfl d kk
theorem kj_ald23 (X : knX p m c cc nL s args own) (K : knK G s s.heap) {i : Int} (hi : knC i) (hin : 0 ≤ i ∧ i < 9) (d : decode cc pc = .ok (.aaload, 1)) (kk : knJ G p l e R s m args below meth c nL cells slots Q (pc + 1) L (knO G (25 + 9 * i) :: st) μ) : knJ G p l e R s m args below meth c nL cells slots Q pc L (knV i :: knO G 24 :: st) μ := by
  intro H locs ls hP hS hL
  refine va_aldq X.1 X.2.1 K.1 hP.2 (24 : Int).toNat 3 (kn_cell (o := 24) ⟨by omega, by omega⟩ (knEnt_23 (by decide))) rfl (kn_in (n := 9) hi hin.1 hin.2) d ?_
  rw [kn_clamp hi, Int.toNat_of_nonneg hin.1]
  exact kk H locs ls hP hS hL
theorem kj_ald24 (X : knX p m c cc nL s args own) (K : knK G s s.heap) {a i : Int} (ha : knKd a = 24) (hi : knC i) {n : Int} (hlen : knLn a = n) (hin : 0 ≤ i ∧ i < n) (d : decode cc pc = .ok (.aaload, 1)) (kk : knJ G p l e R s m args below meth c nL cells slots Q (pc + 1) L (knO G (a + 1 + i) :: st) μ) : knJ G p l e R s m args below meth c nL cells slots Q pc L (knV i :: knO G a :: st) μ := by
  intro H locs ls hP hS hL
  have hlt : (Int32.ofInt i).toNatClampNeg < knLL.getD a.toNat 0 := by rw [kn_clamp hi]; have := hin.2; rw [← hlen] at this; unfold knLn at this; omega
  refine W.aald (v := knO G (a + 1 + i)) (ty := .array .int) X.1 X.2.1 (hP.2 a.toNat _ (kn_cell (knKd_in ha (by decide)) (knEnt_24 ha))) ((K.1.2 4 _ rfl).1 _ (fun j => va_rf (some (knAd G (a + 1 + (j : Int)))))) rfl (fun q => by cases q) (by show ¬ (_ ∨ (arrV _ _ _).slots.size ≤ _); rw [arrV_size]; exact kn_in hi hin.1 (by rw [← hlen] at hin; exact hin.2)) (by show (arrV _ _ _).slots[_]? = _; rw [arrV_read _ _ hlt, kn_clamp hi]; show some (Value.ref (knAd G (a + 1 + ((i.toNat : Nat) : Int)))) = _; rw [Int.toNat_of_nonneg hin.1]; rfl) rfl rfl d (kk H locs ls hP hS hL)
/-- ends -/
def knPo (G : knGT) (C : Prop) (r : Option Value) (μ' : knMem) : Array Value → State → Outcome → State → Prop := fun _ st o t => (o = .returned r ∧ C) ∧ knP G μ' t.heap ∧ va_F (knA G) st t
theorem kj_iret (X : knX p m c cc nL s args own) {C : Prop} (hC : C) {v : Int} (hr : meth.sig.returnType = some .int) (d : decode cc pc = .ok (.ireturn, 1)) (hlocks : meth.locks = false) : knJ G p l e R s m args below meth c nL cells slots (MQ below (knPo G C (some (knV v)) μ) args s cells slots (knA G)) pc L [knV v] μ :=
  fun H locs ls hP hS hL => W.iret (v := Int32.ofInt v) X.1 X.2.1 hr (fun t ht _ => ⟨⟨rfl, hC⟩, by rw [ht]; exact hP, hS.F ht⟩) hS.2.2 d hlocks
theorem kj_zret (X : knX p m c cc nL s args own) {C : Prop} (hC : C) {v : Int} {ty : FieldType} (hr : meth.sig.returnType = some ty) (hn : narrow ty (knV v) = knV v) (d : decode cc pc = .ok (.ireturn, 1)) (hlocks : meth.locks = false) : knJ G p l e R s m args below meth c nL cells slots (MQ below (knPo G C (some (knV v)) μ) args s cells slots (knA G)) pc L [knV v] μ :=
  fun H locs ls hP hS hL => W.zret (v := Int32.ofInt v) X.1 X.2.1 hr hn (fun t ht _ => ⟨⟨rfl, hC⟩, by rw [ht]; exact hP, hS.F ht⟩) hS.2.2 d hlocks
theorem kj_vret (X : knX p m c cc nL s args own) {C : Prop} (hC : C) (hr : meth.sig.returnType = none) (d : decode cc pc = .ok (.return_, 1)) (hlocks : meth.locks = false) : knJ G p l e R s m args below meth c nL cells slots (MQ below (knPo G C none μ) args s cells slots (knA G)) pc L [] μ :=
  fun H locs ls hP hS hL => W.vret X.1 X.2.1 hr (fun t ht _ => ⟨⟨rfl, hC⟩, by rw [ht]; exact hP, hS.F ht⟩) hS.2.2 d hlocks
/-- an int field, read -/
theorem kn160 {o : Int} {k : Nat} (h : knKd o = k) (hk : k ≠ 26) : o ≠ 160 := by
  rintro rfl
  exact hk (h.symm.trans (by decide +kernel))
theorem kj_geti (X : knX p m c cc nL s args own) (K : knK G s s.heap) {ref C : String} {T : u_T} {N ci index k kd : Nat} {o ki : Int} (hki : (k : Int) = ki) {fs : List Value} (kp : knKd o = kd) (hkd : kd ≠ 99 ∧ kd ≠ 26) (he : knEnt G (μ o) o = .inr (ci, fs)) (hc : knCl[ci]? = some (C, T, N)) (hk : k < N) (hin : ∀ w ∈ u_ws C T N, w ∈ knGW)
    (hlink : Cond.fieldLink own index ref (T k).2.1 (T k).2.2.1 ∈ knGW) (href : (T k).1 = ref) (hv : fs[k]? = some (knV (μ o ki))) (d : decode cc pc = .ok (.getfield index, 3)) (kk : knC (μ o ki) → knJ G p l e R s m args below meth c nL cells slots Q (pc + 3) L (knV (μ o ki) :: st) μ) : knJ G p l e R s m args below meth c nL cells slots Q pc L (knO G o :: st) μ :=
  kj_getf X K (knKd_in kp hkd.1) he hc hk hin hlink href hv d (fun hm => kk ((hm o ki).1 (kn160 kp hkd.2)))
/-- a field of a constant shape, read: an object -/
theorem kj_geto (X : knX p m c cc nL s args own) (K : knK G s s.heap) {ref C : String} {T : u_T} {N ci index k kd : Nat} {o o2 : Int} {fs : List Value} (kp : knKd o = kd) (hkd : kd ≠ 99) (he : knEnt G (μ o) o = .inr (ci, fs)) (hc : knCl[ci]? = some (C, T, N)) (hk : k < N) (hin : ∀ w ∈ u_ws C T N, w ∈ knGW)
    (hlink : Cond.fieldLink own index ref (T k).2.1 (T k).2.2.1 ∈ knGW) (href : (T k).1 = ref) (hv : fs[k]? = some (knO G o2)) (d : decode cc pc = .ok (.getfield index, 3)) (kk : knJ G p l e R s m args below meth c nL cells slots Q (pc + 3) L (knO G o2 :: st) μ) : knJ G p l e R s m args below meth c nL cells slots Q pc L (knO G o :: st) μ :=
  kj_getf X K (knKd_in kp hkd) he hc hk hin hlink href hv d (fun _ => kk)
/-- fewer locals, in another order -/
theorem kj_sub {L' : List (Nat × Value)} (ks : List Nat) (h : lv_pick L ks = L') (kk : knJ G p l e R s m args below meth c nL cells slots Q pc L' st μ) : knJ G p l e R s m args below meth c nL cells slots Q pc L st μ :=
  fun H locs ls hP hS hL => kk H locs ls hP hS (lv_sub hL ks h)
end KNM
/-- what a function of the memory may run into: an index outside, no fuel left -/
def knGd {α : Type} (P : Prop) [Decidable P] (x : Option α) : Option α := if P then x else none
theorem knGd_inv {α : Type} {P : Prop} [Decidable P] {x : Option α} {r : α} (h : knGd P x = some r) : P ∧ x = some r := by
  unfold knGd at h
  by_cases hp : P
  · rw [if_pos hp] at h; exact ⟨hp, h⟩
  · rw [if_neg hp] at h; cases h
theorem knGd_pos {α : Type} {P : Prop} [Decidable P] {x : Option α} (h : P) : knGd P x = x := if_pos h
theorem knIp {α : Type} {P : Prop} [Decidable P] {a b r : α} (h : (if P then a else b) = r) (hp : P) : a = r := by rwa [if_pos hp] at h
theorem knIq {α : Type} {P : Prop} [Decidable P] {a b r : α} (h : (if P then a else b) = r) (hp : ¬ P) : b = r := by rwa [if_neg hp] at h
theorem knBd_inv {α β : Type} {x : Option α} {k : α → Option β} {r : β} (h : x.bind k = some r) : ∃ q, x = some q ∧ k q = some r := by
  cases x with
  | none => cases h
  | some q => exact ⟨q, rfl, h⟩
/-- how often a loop may turn, at the most -/
def knF : Nat := 4096
