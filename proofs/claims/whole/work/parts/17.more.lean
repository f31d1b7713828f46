def knXor (x y : Int) : Int := (Int32.ofInt x ^^^ Int32.ofInt y).toInt
def knUshr (x y : Int) : Int := ((Int32.ofInt x).toUInt32 >>> ((Int32.ofInt y).toUInt32 &&& Int32.toUInt32 31)).toInt32.toInt
theorem knC_xor (x y : Int) : knC (knXor x y) := knCt _
theorem knC_ushr (x y : Int) : knC (knUshr x y) := knCt _
theorem knC_lenAll : ∀ n : Nat, n < 161 → knLL.getD n 0 < 1000 := by decide +kernel
theorem knC_ln (a : Int) : knC (knLn a) := by
  unfold knLn
  have h : knLL.getD a.toNat 0 < 1000 := by
    by_cases h : a.toNat < 161
    · exact knC_lenAll _ h
    · rw [List.getD_eq_getElem?_getD, List.getElem?_eq_none (by have : knLL.length = 161 := by decide +kernel
                                                                omega)]
      decide
  constructor <;> omega
theorem knH_i2c (x : Int) : knH (knI2c x) := knH_nc x
theorem kn_fz {x : Int} (h : knZ x) : fits .boolean (knV x) = true := by rcases h with rfl | rfl <;> rfl
theorem kn_nc {x : Int} (h : knH x) : narrow .char (knV x) = knV x := by
  have h2 : (Int32.ofInt x).toUInt32.toNat = x.toNat := by
    have h3 : (Int32.ofInt x).toInt = x := knTI (knH_c h)
    have h4 : (Int32.ofInt x).toBitVec.toInt = x := h3
    show (Int32.ofInt x).toBitVec.toNat = x.toNat
    rw [BitVec.toInt_eq_toNat_cond] at h4
    have := h.1
    have := h.2
    have := (Int32.ofInt x).toBitVec.isLt
    split at h4 <;> omega
  show Value.int (((Int32.ofInt x).toUInt32 % 65536).toInt32) = Value.int (Int32.ofInt x)
  congr 1
  have : (Int32.ofInt x).toUInt32 % 65536 = (Int32.ofInt x).toUInt32 := by
    apply UInt32.toNat.inj
    rw [UInt32.toNat_mod, h2]
    have := h.1
    have := h.2
    show x.toNat % 65536 = x.toNat
    omega
  rw [this]
  rfl
theorem knCo_or (G : knGT) (x : Int) : knCo G x = .null ∨ ∃ a, knCo G x = .ref a := by
  unfold knCo
  by_cases h : x < 0
  · rw [if_pos h]; exact Or.inl rfl
  · rw [if_neg h]; exact Or.inr ⟨_, rfl⟩
/-- a Command's word, its form: which text -/
def knWd (x : Int) : Int := ((knWi.getD x.toNat 0 : Nat) : Int)
def knFm (x : Int) : Int := ((knFi.getD x.toNat 0 : Nat) : Int)
theorem knWi_all : ∀ n : Nat, n < 12 → knWi.getD n 0 < 19 ∧ knFi.getD n 0 < 19 := by decide +kernel
theorem knWi_any (n : Nat) : knWi.getD n 0 < 19 ∧ knFi.getD n 0 < 19 := by
  by_cases h : n < 12
  · exact knWi_all n h
  · have h1 : knWi.length = 12 := by decide +kernel
    have h2 : knFi.length = 12 := by decide +kernel
    rw [List.getD_eq_getElem?_getD, List.getD_eq_getElem?_getD, List.getElem?_eq_none (show knWi.length ≤ n by omega), List.getElem?_eq_none (show knFi.length ≤ n by omega)]
    decide
theorem knWd_in (x : Int) : 0 ≤ knWd x ∧ knWd x < 19 := by
  have := (knWi_any x.toNat).1
  unfold knWd
  omega
theorem knFm_in (x : Int) : 0 ≤ knFm x ∧ knFm x < 19 := by
  have := (knWi_any x.toNat).2
  unfold knFm
  omega
/-- a part of a row copied over the start of another -/
def knCopy (μ : knMem) (a b n : Int) : knMem := fun p => if p = b then (fun i => if 0 ≤ i ∧ i < n then μ a i else μ p i) else μ p
section KNR
variable {G : knGT} {p : Program} {l : Launch} {e : Env} {R : Room} {s : State} {m : MethodId} {args : Array Value} {below : List Frame} {meth : Method} {c : Code} {nL cells slots : Nat} {Q : State → Prop}
variable {cc : ByteArray} {own : String} {pc : Nat} {L : List (Nat × Value)} {st : List Value} {μ : knMem}
theorem kj_dup2 (X : knX p m c cc nL s args own) {v w : Value} (d : decode cc pc = .ok (.dup2, 1)) (hv : v.category = 1) (hw : w.category = 1) (kk : knJ G p l e R s m args below meth c nL cells slots Q (pc + 1) L (v :: w :: v :: w :: st) μ) : knJ G p l e R s m args below meth c nL cells slots Q pc L (v :: w :: st) μ :=
  fun H locs ls hP hS hL => lv_dup2_11 X.1 X.2.1 d hv hw (kk H locs ls hP hS hL)
theorem kj_ldcw (X : knX p m c cc nL s args own) {n : Int} {index : Nat} (hc : Cond.constant own index (Int32.ofInt n) ∈ knGW) (d : decode cc pc = .ok (.ldc_w index, 3)) (kk : knJ G p l e R s m args below meth c nL cells slots Q (pc + 3) L (knV n :: st) μ) : knJ G p l e R s m args below meth c nL cells slots Q pc L st μ :=
  fun H locs ls hP hS hL => lv_ldcw X.1 X.2.1 X.2.2.2.1 (X.2.2.2.2 _ hc) d (kk H locs ls hP hS hL)
theorem kj_ixor (X : knX p m c cc nL s args own) {x y : Int} (d : decode cc pc = .ok (.ixor, 1)) (kk : knJ G p l e R s m args below meth c nL cells slots Q (pc + 1) L (knV (knXor x y) :: st) μ) : knJ G p l e R s m args below meth c nL cells slots Q pc L (knV y :: knV x :: st) μ :=
  fun H locs ls hP hS hL => lv_ixor X.1 X.2.1 d (by have := kk H locs ls hP hS hL; unfold knV knXor at this; rwa [Int32.ofInt_toInt] at this)
theorem kj_iushr (X : knX p m c cc nL s args own) {x y : Int} (d : decode cc pc = .ok (.iushr, 1)) (kk : knJ G p l e R s m args below meth c nL cells slots Q (pc + 1) L (knV (knUshr x y) :: st) μ) : knJ G p l e R s m args below meth c nL cells slots Q pc L (knV y :: knV x :: st) μ :=
  fun H locs ls hP hS hL => lv_iushr X.1 X.2.1 d (Int32.ofInt_toInt _).symm (kk H locs ls hP hS hL)
/-- Refusal's constants -/
theorem kj_refusal (X : knX p m c cc nL s args own) (K : knK G s s.heap) {i index : Nat} (hi : i < 6) (hlink : Cond.fieldLink own index RX8 (knRfN.getD i "") "LKnotLaboratory$Refusal;" ∈ knGW) (d : decode cc pc = .ok (.getstatic index, 3)) (kk : knJ G p l e R s m args below meth c nL cells slots Q (pc + 3) L (knRf G (i : Int) :: st) μ) : knJ G p l e R s m args below meth c nL cells slots Q pc L st μ := by
  intro H locs ls hP hS hL
  refine va_gets X.1 X.2.1 (v := knRf G (i : Int)) (K.2.2.2.2.1.1 i hi).1 hS X.2.2.2.1 (X.2.2.2.2 _ hlink) (fun _ h => h) d (kk H locs ls hP hS hL)
theorem kn_ac (K : knK G s s.heap) {x y : Int} (hx : 0 ≤ x ∧ x < 6) (hy : 0 ≤ y ∧ y < 6) : some (knR G x.toNat) = some (knR G y.toNat) ↔ x = y := by
  constructor
  · intro h
    have := K.2.2.2.2.1.2 x.toNat y.toNat (by show x.toNat < 6; omega) (by show y.toNat < 6; omega) (Option.some.inj h)
    omega
  · rintro rfl; rfl
theorem kj_ac_eq (X : knX p m c cc nL s args own) (K : knK G s s.heap) {x y : Int} {off : Int} {tgt : Nat} (d : decode cc pc = .ok (.if_acmp .eq off, 3)) (ht : (pc : Int) + off = (tgt : Int)) (hx : 0 ≤ x ∧ x < 6) (hy : 0 ≤ y ∧ y < 6) (kt : x = y → knJ G p l e R s m args below meth c nL cells slots Q tgt L st μ) (kf : ¬ x = y → knJ G p l e R s m args below meth c nL cells slots Q (pc + 3) L st μ) : knJ G p l e R s m args below meth c nL cells slots Q pc L (knRf G y :: knRf G x :: st) μ :=
  fun H locs ls hP hS hL => lv_acmp_eq (rx := some (knR G x.toNat)) (ry := some (knR G y.toNat)) X.1 X.2.1 d ht (fun h => kt ((kn_ac K hx hy).mp h) H locs ls hP hS hL) (fun h => kf (fun h9 => h ((kn_ac K hx hy).mpr h9)) H locs ls hP hS hL)
theorem kj_ac_ne (X : knX p m c cc nL s args own) (K : knK G s s.heap) {x y : Int} {off : Int} {tgt : Nat} (d : decode cc pc = .ok (.if_acmp .ne off, 3)) (ht : (pc : Int) + off = (tgt : Int)) (hx : 0 ≤ x ∧ x < 6) (hy : 0 ≤ y ∧ y < 6) (kt : ¬ x = y → knJ G p l e R s m args below meth c nL cells slots Q tgt L st μ) (kf : x = y → knJ G p l e R s m args below meth c nL cells slots Q (pc + 3) L st μ) : knJ G p l e R s m args below meth c nL cells slots Q pc L (knRf G y :: knRf G x :: st) μ :=
  fun H locs ls hP hS hL => lv_acmp_ne (rx := some (knR G x.toNat)) (ry := some (knR G y.toNat)) X.1 X.2.1 d ht (fun h => kt (fun h9 => h ((kn_ac K hx hy).mpr h9)) H locs ls hP hS hL) (fun h => kf ((kn_ac K hx hy).mp h) H locs ls hP hS hL)
/-- a Command or null -/
theorem kn_coN {x : Int} (h : x < 0) : knCo G x = .null := if_pos h
theorem kn_coR {x : Int} (h : ¬ x < 0) : knCo G x = .ref (knCm G x.toNat) := if_neg h
theorem kj_null (X : knX p m c cc nL s args own) (d : decode cc pc = .ok (.aconst_null, 1)) (kk : knJ G p l e R s m args below meth c nL cells slots Q (pc + 1) L (knCo G (-1) :: st) μ) : knJ G p l e R s m args below meth c nL cells slots Q pc L st μ :=
  fun H locs ls hP hS hL => lv_null X.1 X.2.1 d (kk H locs ls hP hS hL)
theorem kj_aloadnC (X : knX p m c cc nL s args own) (i : Nat) {k : Fin 4} {x : Int} (d : decode cc pc = .ok (.aload_n k, 1)) (hl : L[i]? = some ((k : Nat), knCo G x)) (kk : knJ G p l e R s m args below meth c nL cells slots Q (pc + 1) L (knCo G x :: st) μ) : knJ G p l e R s m args below meth c nL cells slots Q pc L st μ := by
  intro H locs ls hP hS hL
  have h9 := kk H locs ls hP hS hL
  by_cases h : x < 0
  · rw [kn_coN h] at h9 hl; exact lv_aload_nN X.1 X.2.1 d rfl (lv_at hL i hl) h9
  · rw [kn_coR h] at h9 hl; exact lv_aload_n X.1 X.2.1 d rfl (lv_at hL i hl) h9
theorem kj_ifnonnull (X : knX p m c cc nL s args own) {x : Int} {off : Int} {tgt : Nat} (d : decode cc pc = .ok (.ifnonnull off, 3)) (ht : (pc : Int) + off = (tgt : Int)) (hx : -1 ≤ x ∧ x < 12) (kt : ¬ x < 0 → knJ G p l e R s m args below meth c nL cells slots Q tgt L st μ) (kf : x < 0 → knJ G p l e R s m args below meth c nL cells slots Q (pc + 3) L st μ) : knJ G p l e R s m args below meth c nL cells slots Q pc L (knCo G x :: st) μ := by
  intro H locs ls hP hS hL
  by_cases h : x < 0
  · rw [kn_coN h]; exact lv_ifnonnullN X.1 X.2.1 d (kf h H locs ls hP hS hL)
  · rw [kn_coR h]; exact lv_ifnonnull X.1 X.2.1 d ht (kt h H locs ls hP hS hL)
theorem kj_aret (X : knX p m c cc nL s args own) {C : Prop} (hC : C) {v : Value} {rt : FieldType} (hr : meth.sig.returnType = some rt) (hrt : (∃ n, rt = .object n) ∨ ∃ t, rt = .array t) (hv : v = .null ∨ ∃ a, v = .ref a) (d : decode cc pc = .ok (.areturn, 1)) (hlocks : meth.locks = false) : knJ G p l e R s m args below meth c nL cells slots (MQ below (knPo G C (some v) μ) args s cells slots (knA G)) pc L [v] μ :=
  fun H locs ls hP hS hL => W.aret (v := v) X.1 X.2.1 hr hrt hv (fun t ht _ => ⟨⟨rfl, hC⟩, by rw [ht]; exact hP, hS.F ht⟩) hS.2.2 d hlocks
theorem kj_cmd_word (X : knX p m c cc nL s args own) (K : knK G s s.heap) {x : Int} (hx : 0 ≤ x ∧ x < 12) (how : own = RX9) (d : decode cc pc = .ok (.getfield 67, 3)) (kk : knJ G p l e R s m args below meth c nL cells slots Q (pc + 3) L (knTv G (knWd x) :: st) μ) : knJ G p l e R s m args below meth c nL cells slots Q pc L (knCo G x :: st) μ := by
  intro H locs ls hP hS hL
  subst how
  rw [kn_coR (by omega)]
  obtain ⟨cf, k, fi, f, cell, h1, h2, h3, h4, h5, h6⟩ := (K.2.2.2.2.2.2.2.2.1.1 x.toNat (by omega)).kept hS.2.1
  exact va_Wgetf X.1 X.2.1 (own := RX9) (ref := RX4) (host := "KnotLaboratory") X.2.2.2.1 (va_Nw.use rfl (K.2.2.2.2.2.2.2.2.2.2.2.2.2 (.fieldLinkNest RX9 67 RX4 "word" "Ljava/lang/String;" "KnotLaboratory") (knBm 2179 (by decide +kernel) rfl))) h1 h2 h3 h4 (v := knTv G (knWd x)) h5 rfl rfl d (kk H locs ls hP hS hL)
theorem kj_cmd_form (X : knX p m c cc nL s args own) (K : knK G s s.heap) {x : Int} (hx : 0 ≤ x ∧ x < 12) (how : own = RX9) (d : decode cc pc = .ok (.getfield 45, 3)) (kk : knJ G p l e R s m args below meth c nL cells slots Q (pc + 3) L (knTv G (knFm x) :: st) μ) : knJ G p l e R s m args below meth c nL cells slots Q pc L (knCo G x :: st) μ := by
  intro H locs ls hP hS hL
  subst how
  rw [kn_coR (by omega)]
  obtain ⟨cf, k, fi, f, cell, h1, h2, h3, h4, h5, h6⟩ := (K.2.2.2.2.2.2.2.2.1.2 x.toNat (by omega)).kept hS.2.1
  exact va_Wgetf X.1 X.2.1 (own := RX9) (ref := RX4) (host := "KnotLaboratory") X.2.2.2.1 (va_Nw.use rfl (K.2.2.2.2.2.2.2.2.2.2.2.2.2 (.fieldLinkNest RX9 45 RX4 "form" "Ljava/lang/String;" "KnotLaboratory") (knBm 2182 (by decide +kernel) rfl))) h1 h2 h3 h4 (v := knTv G (knFm x)) h5 rfl rfl d (kk H locs ls hP hS hL)
/-- COMMANDS, the switch table -/
def knCt_ (G : knGT) : Value := .ref (knTc G)
def knSm_ (G : knGT) : Value := .ref (knTs G)
theorem kj_cmds (X : knX p m c cc nL s args own) (K : knK G s s.heap) {index : Nat} (hlink : Cond.fieldLink own index RX9 "COMMANDS" "[LKnotLaboratory$Command;" ∈ knGW) (d : decode cc pc = .ok (.getstatic index, 3)) (kk : knJ G p l e R s m args below meth c nL cells slots Q (pc + 3) L (knCt_ G :: st) μ) : knJ G p l e R s m args below meth c nL cells slots Q pc L st μ :=
  fun H locs ls hP hS hL => va_gets X.1 X.2.1 (v := knCt_ G) K.2.2.2.2.2.2.1.1 hS X.2.2.2.1 (X.2.2.2.2 _ hlink) (fun _ h => h) d (kk H locs ls hP hS hL)
theorem kj_cmds_len (X : knX p m c cc nL s args own) (K : knK G s s.heap) (d : decode cc pc = .ok (.arraylength, 1)) (kk : knJ G p l e R s m args below meth c nL cells slots Q (pc + 1) L (knV 12 :: st) μ) : knJ G p l e R s m args below meth c nL cells slots Q pc L (knCt_ G :: st) μ :=
  fun H locs ls hP hS hL => va_tlen X.1 X.2.1 K.2.2.2.2.2.2.1.2 hS (v := Int32.ofInt 12) rfl d (kk H locs ls hP hS hL)
theorem kj_cmds_ald (X : knX p m c cc nL s args own) (K : knK G s s.heap) {i : Int} (hi : knC i) (hin : 0 ≤ i ∧ i < 12) (d : decode cc pc = .ok (.aaload, 1)) (kk : knJ G p l e R s m args below meth c nL cells slots Q (pc + 1) L (knCo G i :: st) μ) : knJ G p l e R s m args below meth c nL cells slots Q pc L (knV i :: knCt_ G :: st) μ := by
  intro H locs ls hP hS hL
  have h9 := kk H locs ls hP hS hL
  rw [kn_coR (by omega)] at h9
  obtain ⟨cell, h1, h2, h3, h4, h5, h6, h7⟩ := K.2.2.2.2.2.2.1.2
  have hlt : (Int32.ofInt i).toNatClampNeg < 12 := by rw [kn_clamp hi]; omega
  have hin9 : ¬ (Int32.ofInt i < 0 ∨ cell.slots.size ≤ (Int32.ofInt i).toNatClampNeg) := by
    intro hh
    rcases hh with hh | hh
    · exact kn_in (n := 12) hi hin.1 (by omega) (Or.inl hh)
    · omega
  refine W.aald (v := .ref (knCm G i.toNat)) (ty := .object RX4) X.1 X.2.1 (by rw [hS.2.1 _ (Array.getElem?_eq_some_iff.mp h1).1 h7]; exact h1) h2 rfl h3 hin9 (by rw [h6 _ hlt, kn_clamp hi]) rfl rfl d h9
theorem kj_swm (X : knX p m c cc nL s args own) (K : knK G s s.heap) {index : Nat} (hlink : Cond.fieldLink own index RX0 "$SwitchMap$KnotLaboratory$Command" "[I" ∈ knGW) (d : decode cc pc = .ok (.getstatic index, 3)) (kk : knJ G p l e R s m args below meth c nL cells slots Q (pc + 3) L (knSm_ G :: st) μ) : knJ G p l e R s m args below meth c nL cells slots Q pc L st μ :=
  fun H locs ls hP hS hL => va_gets X.1 X.2.1 (v := knSm_ G) K.2.2.2.2.2.2.2.1.1 hS X.2.2.2.1 (X.2.2.2.2 _ hlink) (fun _ h => h) d (kk H locs ls hP hS hL)
theorem kj_swm_ald (X : knX p m c cc nL s args own) (K : knK G s s.heap) {i : Int} (hi : knC i) (hin : 0 ≤ i ∧ i < 12) (d : decode cc pc = .ok (.iaload, 1)) (kk : knJ G p l e R s m args below meth c nL cells slots Q (pc + 1) L (knV (i + 1) :: st) μ) : knJ G p l e R s m args below meth c nL cells slots Q pc L (knV i :: knSm_ G :: st) μ := by
  intro H locs ls hP hS hL
  refine va_ti X.1 X.2.1 K.2.2.2.2.2.2.2.1.2 hS (kn_in (n := 12) hi hin.1 (by omega)) (v := knV (i + 1)) ?_ d (kk H locs ls hP hS hL)
  rw [kn_clamp hi]
  show knV ((i.toNat : Int) + 1) = _
  rw [Int.toNat_of_nonneg hin.1]
/-- Script.command -/
theorem kj_getcmd (X : knX p m c cc nL s args own) (K : knK G s s.heap) {index : Nat} (hlink : Cond.fieldLink own index RX9 "command" "LKnotLaboratory$Command;" ∈ knGW) (hm : -1 ≤ μ 137 3 ∧ μ 137 3 < 12) (d : decode cc pc = .ok (.getfield index, 3)) (kk : knJ G p l e R s m args below meth c nL cells slots Q (pc + 3) L (knCo G (μ 137 3) :: st) μ) : knJ G p l e R s m args below meth c nL cells slots Q pc L (knO G 137 :: st) μ :=
  kj_getf X K (k := 3) (C := RX9) (T := TX9) (N := 6) (knKd_in kdc_137 (by decide)) (knEnt_6 kdc_137) rfl (by decide) knInX9 hlink rfl rfl d (fun _ => kk)
theorem kj_putcmd (X : knX p m c cc nL s args own) (K : knK G s s.heap) {index : Nat} {x : Int} (hx : -1 ≤ x ∧ x < 12) (hlink : Cond.fieldLink own index RX9 "command" "LKnotLaboratory$Command;" ∈ knGW) (d : decode cc pc = .ok (.putfield index, 3)) (kk : knJ G p l e R s m args below meth c nL cells slots Q (pc + 3) L st (knUp μ 137 3 x)) : knJ G p l e R s m args below meth c nL cells slots Q pc L (knCo G x :: knO G 137 :: st) μ := by
  intro H locs ls hP hS hL
  have hn : narrow (.object RX4) (knCo G x) = knCo G x ∧ fits (.object RX4) (knCo G x) = true := by rcases knCo_or G x with h | ⟨a, h⟩ <;> rw [h] <;> exact ⟨rfl, rfl⟩
  exact va_put (D := G.1) (ci := 6) (v := knCo G x) (ty := .object RX4) (C := RX9) (T := TX9) (N := 6) X.1 X.2.1 X.2.2.2.2 knInX9 tyX9 tyX9_ok nmX9 X.2.2.2.1 K.1 hP.2 (K.D μ) hS (137 : Int).toNat (kn_cell (knKd_in kdc_137 (by decide)) (knEnt_6 kdc_137)) rfl 3 (by decide) (X.2.2.2.2 _ hlink) (fun _ h => h) rfl (by decide +kernel) hn.1 hn.2 (by simp) d
    (fun H1 locs1 hP1 _ hS1 => kk H1 locs1 ls ⟨knM_up hP.1 (fun _ => ⟨by omega, by omega⟩) (fun h => by rw [kdc_137] at h; cases h) (fun h => by rw [kdc_137] at h; cases h), by rw [knWs_set (o := 137) (k := 3) (v := x) (knKd_in kdc_137 (by decide)) (by rw [knEnt_6 kdc_137, knUp_row]; rfl)] at hP1; exact hP1⟩ hS1 hL)
/-- System.arraycopy from the start of one row to the start of another -/
theorem kj_copy (X : knX p m c cc nL s args own) (K : knK G s s.heap) {index : Nat} {a b n la lb : Int} (hl : Cond.methodLink own index arraycopyName ∈ knGW) (hw : Cond.native arraycopyName ∈ knGW ∧ Cond.static arraycopyName ∈ knGW ∧ Cond.initialized "java/lang/System" ∈ knGW) (ha : knKd a = 20) (hb : knKd b = 20) (hla : knLn a = la) (hlb : knLn b = lb) (hn : knC n) (hin : 0 ≤ n ∧ n ≤ la ∧ n ≤ lb)
    (hR : 1 ≤ R.frames ∧ 100 ≤ R.locals) (d : decode cc pc = .ok (.invokestatic index, 3)) (kk : knJ G p l e R s m args below meth c nL cells slots Q (pc + 3) L [] (knCopy μ a b n)) : knJ G p l e R s m args below meth c nL cells slots Q pc L [knV n, knV 0, knO G b, knV 0, knO G a] μ := by
  intro H locs ls hP hS hL
  have hoa := knKd_in ha (by decide)
  have hob := knKd_in hb (by decide)
  have hn2 := kn_clamp hn
  have e0 : (Int32.ofInt 0).toNatClampNeg = 0 := rfl
  refine va_copyi X.1 X.2.1 (X.2.2.1.trans hL.1.symm) X.2.2.2.1 (X.2.2.2.2 _ hl) (X.2.2.2.2 _ hw.1) (X.2.2.2.2 _ hw.2.1) (X.2.2.2.2 _ hw.2.2) K.1 hP.2 (K.D μ) hS a.toNat b.toNat 0 0 (ty := .int) (kn_cell hoa (knEnt_20 ha)) (kn_cell hob (knEnt_20 hb)) rfl rfl rfl (by decide) (by decide) (fun h => by have := (kn_lt hn (y := 0) ⟨by omega, by omega⟩).mp h; omega) ?_ ?_ (fun i _ => rfl) hR.1 (by show 0 + _ ≤ _; have := hR.2; simp [nativeFrameWords]; omega) d ?_
  · rw [e0, hn2]; unfold knLn at hla; omega
  · rw [e0, hn2]; unfold knLn at hlb; omega
  · intro H1 locs1 hP1 _ hS1
    refine kk H1 locs1 ls ⟨?_, ?_⟩ hS1 hL
    · intro q i
      unfold knCopy
      by_cases hq : q = b
      · subst hq
        rw [if_pos rfl]
        by_cases hi : 0 ≤ i ∧ i < n
        · simp only [if_pos hi]
          exact ⟨fun _ => (hP.1 a i).1 (kn160 ha (by decide)), (fun h => by rw [hb] at h; cases h), (fun h => by rw [hb] at h; cases h)⟩
        · simp only [if_neg hi]; exact hP.1 q i
      · rw [if_neg hq]; exact hP.1 q i
    · rw [e0, hn2] at hP1
      have : (knWs G μ).set b.toNat (knAd G b, .inl (knCy G 0, knLL.getD b.toNat 0, .inl (va_cpy (fun j : Nat => Int32.ofInt (μ a j)) (fun j : Nat => Int32.ofInt (μ b j)) 0 0 n.toNat))) = knWs G (knCopy μ a b n) := by
        have h2 : ((b.toNat : Nat) : Int) = b := Int.toNat_of_nonneg hob.1
        apply List.ext_getElem?
        intro i
        rw [List.getElem?_set]
        by_cases hi : i < 161
        · have e2 : (knWs G (knCopy μ a b n))[i]? = some (knAd G (i : Int), knEnt G (knCopy μ a b n (i : Int)) (i : Int)) := by
            unfold knWs
            rw [List.getElem?_map, List.getElem?_range hi]; rfl
          have e1 : (knWs G μ)[i]? = some (knAd G (i : Int), knEnt G (μ (i : Int)) (i : Int)) := by
            unfold knWs
            rw [List.getElem?_map, List.getElem?_range hi]; rfl
          rw [e1, e2]
          by_cases hoi : b.toNat = i
          · subst hoi
            rw [if_pos rfl, if_pos (by simpa [knWs] using hi), h2, knEnt_20 hb]
            have hfun : va_cpy (fun j : Nat => Int32.ofInt (μ a j)) (fun j : Nat => Int32.ofInt (μ b j)) 0 0 n.toNat = fun j : Nat => Int32.ofInt (knCopy μ a b n b j) := ?_
            · rw [hfun]
            funext j
            unfold va_cpy knCopy
            by_cases hj : (j : Int) < n
            · rw [if_pos (by omega), if_pos rfl]
              simp only [if_pos (show 0 ≤ (j : Int) ∧ (j : Int) < n by omega)]
              congr 2
              omega
            · rw [if_neg (by omega), if_pos rfl]
              simp only [if_neg (show ¬ (0 ≤ (j : Int) ∧ (j : Int) < n) by omega)]
          · rw [if_neg hoi]
            have : knCopy μ a b n (i : Int) = μ (i : Int) := by
              unfold knCopy
              exact if_neg (by omega)
            rw [this]
        · have e1 : (knWs G μ)[i]? = none := by simp [knWs]; omega
          have e2 : (knWs G (knCopy μ a b n))[i]? = none := by simp [knWs]; omega
          rw [e1, e2]
          have : b.toNat ≠ i := by have := hob.2; omega
          rw [if_neg this]
      rw [this] at hP1
      exact hP1
end KNR
