/-! doubles, floats and longs: by their bits, as whole numbers -/
def knDb (x : Int) : UInt64 := UInt64.ofNat x.toNat
def knBd (u : UInt64) : Int := (u.toNat : Int)
def knFb (x : Int) : UInt32 := UInt32.ofNat x.toNat
def knBf (u : UInt32) : Int := (u.toNat : Int)
theorem knDb_bd (u : UInt64) : knDb (knBd u) = u := by
  unfold knDb knBd
  rw [Int.toNat_natCast]
  exact UInt64.ofNat_toNat
theorem knFb_bf (u : UInt32) : knFb (knBf u) = u := by
  unfold knFb knBf
  rw [Int.toNat_natCast]
  exact UInt32.ofNat_toNat
def knVd (x : Int) : Value := .double (knDb x)
def knVf (x : Int) : Value := .float (knFb x)
def knDadd (x y : Int) : Int := knBd (FP.dadd (knDb x) (knDb y))
def knDmul (x y : Int) : Int := knBd (FP.dmul (knDb x) (knDb y))
def knDdiv (x y : Int) : Int := knBd (FP.ddiv (knDb x) (knDb y))
def knFdiv (x y : Int) : Int := knBf (FP.fdiv (knFb x) (knFb y))
def knI2d (x : Int) : Int := knBd (FP.i2d (Int32.ofInt x))
def knI2f (x : Int) : Int := knBf (FP.i2f (Int32.ofInt x))
def knF2d (x : Int) : Int := knBd (FP.f2d (knFb x))
/-- no NaN -/
abbrev knN64 (x : Int) : Prop := knDb x &&& 0x7fffffffffffffff ≤ 0x7ff0000000000000
abbrev knN32 (x : Int) : Prop := knFb x &&& 0x7fffffff ≤ 0x7f800000
section KNFL
variable {G : knGT} {p : Program} {l : Launch} {e : Env} {R : Room} {s : State} {m : MethodId} {args : Array Value} {below : List Frame} {meth : Method} {c : Code} {nL cells slots : Nat} {Q : State → Prop}
variable {cc : ByteArray} {own : String} {pc : Nat} {L : List (Nat × Value)} {st : List Value} {μ : knMem}
theorem kj_dconst0 (X : knX p m c cc nL s args own) (d : decode cc pc = .ok (.dconst 0, 1)) (kk : knJ G p l e R s m args below meth c nL cells slots Q (pc + 1) L (knVd 0 :: st) μ) : knJ G p l e R s m args below meth c nL cells slots Q pc L st μ :=
  fun H locs ls hP hS hL => lv_dconst0 X.1 X.2.1 d (kk H locs ls hP hS hL)
theorem kj_dconst1 (X : knX p m c cc nL s args own) (d : decode cc pc = .ok (.dconst 1, 1)) (kk : knJ G p l e R s m args below meth c nL cells slots Q (pc + 1) L (knVd 4607182418800017408 :: st) μ) : knJ G p l e R s m args below meth c nL cells slots Q pc L st μ :=
  fun H locs ls hP hS hL => lv_dconst1 X.1 X.2.1 d (kk H locs ls hP hS hL)
theorem kj_ldc2d (X : knX p m c cc nL s args own) {x : Int} {index : Nat} (hc : Cond.constantDouble own index (knDb x) ∈ knGW) (d : decode cc pc = .ok (.ldc2_w index, 3)) (kk : knJ G p l e R s m args below meth c nL cells slots Q (pc + 3) L (knVd x :: st) μ) : knJ G p l e R s m args below meth c nL cells slots Q pc L st μ :=
  fun H locs ls hP hS hL => lv_ldc2d X.1 X.2.1 X.2.2.2.1 (X.2.2.2.2 _ hc) d (kk H locs ls hP hS hL)
theorem kj_dadd (X : knX p m c cc nL s args own) {x y : Int} (d : decode cc pc = .ok (.dadd, 1)) (hn : knN64 (knDadd x y)) (kk : knJ G p l e R s m args below meth c nL cells slots Q (pc + 1) L (knVd (knDadd x y) :: st) μ) : knJ G p l e R s m args below meth c nL cells slots Q pc L (knVd y :: knVd x :: st) μ := by
  intro H locs ls hP hS hL
  have e9 : knDb (knDadd x y) = FP.dadd (knDb x) (knDb y) := knDb_bd _
  refine lv_dadd X.1 X.2.1 d (by have := hn; unfold knN64 at this; rw [e9] at this; exact this) ?_
  have h9 := kk H locs ls hP hS hL
  unfold knVd at h9
  rw [e9] at h9
  exact h9
theorem kj_dmul (X : knX p m c cc nL s args own) {x y : Int} (d : decode cc pc = .ok (.dmul, 1)) (hn : knN64 (knDmul x y)) (kk : knJ G p l e R s m args below meth c nL cells slots Q (pc + 1) L (knVd (knDmul x y) :: st) μ) : knJ G p l e R s m args below meth c nL cells slots Q pc L (knVd y :: knVd x :: st) μ := by
  intro H locs ls hP hS hL
  have e9 : knDb (knDmul x y) = FP.dmul (knDb x) (knDb y) := knDb_bd _
  refine lv_dmul X.1 X.2.1 d (by have := hn; unfold knN64 at this; rw [e9] at this; exact this) ?_
  have h9 := kk H locs ls hP hS hL
  unfold knVd at h9
  rw [e9] at h9
  exact h9
theorem kj_ddiv (X : knX p m c cc nL s args own) {x y : Int} (d : decode cc pc = .ok (.ddiv, 1)) (hn : knN64 (knDdiv x y)) (kk : knJ G p l e R s m args below meth c nL cells slots Q (pc + 1) L (knVd (knDdiv x y) :: st) μ) : knJ G p l e R s m args below meth c nL cells slots Q pc L (knVd y :: knVd x :: st) μ := by
  intro H locs ls hP hS hL
  have e9 : knDb (knDdiv x y) = FP.ddiv (knDb x) (knDb y) := knDb_bd _
  refine lv_ddiv X.1 X.2.1 d (by have := hn; unfold knN64 at this; rw [e9] at this; exact this) ?_
  have h9 := kk H locs ls hP hS hL
  unfold knVd at h9
  rw [e9] at h9
  exact h9
theorem kj_fdiv (X : knX p m c cc nL s args own) {x y : Int} (d : decode cc pc = .ok (.fdiv, 1)) (hn : knN32 (knFdiv x y)) (kk : knJ G p l e R s m args below meth c nL cells slots Q (pc + 1) L (knVf (knFdiv x y) :: st) μ) : knJ G p l e R s m args below meth c nL cells slots Q pc L (knVf y :: knVf x :: st) μ := by
  intro H locs ls hP hS hL
  have e9 : knFb (knFdiv x y) = FP.fdiv (knFb x) (knFb y) := knFb_bf _
  refine lv_fdiv X.1 X.2.1 d (by have := hn; unfold knN32 at this; rw [e9] at this; exact this) ?_
  have h9 := kk H locs ls hP hS hL
  unfold knVf at h9
  rw [e9] at h9
  exact h9
theorem kj_f2d (X : knX p m c cc nL s args own) {x : Int} (d : decode cc pc = .ok (.f2d, 1)) (hn : knN64 (knF2d x)) (kk : knJ G p l e R s m args below meth c nL cells slots Q (pc + 1) L (knVd (knF2d x) :: st) μ) : knJ G p l e R s m args below meth c nL cells slots Q pc L (knVf x :: st) μ := by
  intro H locs ls hP hS hL
  have e9 : knDb (knF2d x) = FP.f2d (knFb x) := knDb_bd _
  refine lv_f2d X.1 X.2.1 d (by have := hn; unfold knN64 at this; rw [e9] at this; exact this) ?_
  have h9 := kk H locs ls hP hS hL
  unfold knVd at h9
  rw [e9] at h9
  exact h9
theorem kj_i2d (X : knX p m c cc nL s args own) {x : Int} (d : decode cc pc = .ok (.i2d, 1)) (kk : knJ G p l e R s m args below meth c nL cells slots Q (pc + 1) L (knVd (knI2d x) :: st) μ) : knJ G p l e R s m args below meth c nL cells slots Q pc L (knV x :: st) μ := by
  intro H locs ls hP hS hL
  refine lv_i2d X.1 X.2.1 d ?_
  have h9 := kk H locs ls hP hS hL
  unfold knVd knI2d at h9
  rw [knDb_bd] at h9
  exact h9
theorem kj_i2f (X : knX p m c cc nL s args own) {x : Int} (d : decode cc pc = .ok (.i2f, 1)) (kk : knJ G p l e R s m args below meth c nL cells slots Q (pc + 1) L (knVf (knI2f x) :: st) μ) : knJ G p l e R s m args below meth c nL cells slots Q pc L (knV x :: st) μ := by
  intro H locs ls hP hS hL
  refine lv_i2f X.1 X.2.1 d ?_
  have h9 := kk H locs ls hP hS hL
  unfold knVf knI2f at h9
  rw [knFb_bf] at h9
  exact h9
theorem kj_dloadn (X : knX p m c cc nL s args own) (i : Nat) {k : Fin 4} {x : Int} (d : decode cc pc = .ok (.dload_n k, 1)) (hl : L[i]? = some ((k : Nat), knVd x)) (kk : knJ G p l e R s m args below meth c nL cells slots Q (pc + 1) L (knVd x :: st) μ) : knJ G p l e R s m args below meth c nL cells slots Q pc L st μ :=
  fun H locs ls hP hS hL => lv_dload_n X.1 X.2.1 d rfl (lv_at hL i hl) (kk H locs ls hP hS hL)
theorem kj_dload (X : knX p m c cc nL s args own) (i : Nat) {k : Nat} {x : Int} (d : decode cc pc = .ok (.dload k, 2)) (hl : L[i]? = some (k, knVd x)) (kk : knJ G p l e R s m args below meth c nL cells slots Q (pc + 2) L (knVd x :: st) μ) : knJ G p l e R s m args below meth c nL cells slots Q pc L st μ :=
  fun H locs ls hP hS hL => lv_dload X.1 X.2.1 d (lv_at hL i hl) (kk H locs ls hP hS hL)
theorem kj_fload (X : knX p m c cc nL s args own) (i : Nat) {k : Nat} {x : Int} (d : decode cc pc = .ok (.fload k, 2)) (hl : L[i]? = some (k, knVf x)) (kk : knJ G p l e R s m args below meth c nL cells slots Q (pc + 2) L (knVf x :: st) μ) : knJ G p l e R s m args below meth c nL cells slots Q pc L st μ :=
  fun H locs ls hP hS hL => lv_fload X.1 X.2.1 d (lv_at hL i hl) (kk H locs ls hP hS hL)
theorem kj_dstoren (X : knX p m c cc nL s args own) {k : Fin 4} {x : Int} {L' : List (Nat × Value)} (d : decode cc pc = .ok (.dstore_n k, 1)) (hn : (k : Nat) + 1 < nL) (hl : ((k : Nat), knVd x) :: L.filter (fun q => !(q.1 == (k : Nat)) && (!(q.1 == (k : Nat) + 1) && !(q.1 + 1 == (k : Nat) && q.2.category == 2))) = L') (kk : knJ G p l e R s m args below meth c nL cells slots Q (pc + 1) L' st μ) : knJ G p l e R s m args below meth c nL cells slots Q pc L (knVd x :: st) μ :=
  fun H locs ls hP hS hL => lv_dstore_n X.1 X.2.1 d rfl hL hn hl (fun ls' hL' => kk H locs ls' hP hS hL')
theorem kj_dstore (X : knX p m c cc nL s args own) {k : Nat} {x : Int} {L' : List (Nat × Value)} (d : decode cc pc = .ok (.dstore k, 2)) (hn : k + 1 < nL) (hl : (k, knVd x) :: L.filter (fun q => !(q.1 == k) && (!(q.1 == k + 1) && !(q.1 + 1 == k && q.2.category == 2))) = L') (kk : knJ G p l e R s m args below meth c nL cells slots Q (pc + 2) L' st μ) : knJ G p l e R s m args below meth c nL cells slots Q pc L (knVd x :: st) μ :=
  fun H locs ls hP hS hL => lv_dstore X.1 X.2.1 d hL hn hl (fun ls' hL' => kk H locs ls' hP hS hL')
theorem kj_fstore (X : knX p m c cc nL s args own) {k : Nat} {x : Int} {L' : List (Nat × Value)} (d : decode cc pc = .ok (.fstore k, 2)) (hn : k < nL) (hl : (k, knVf x) :: L.filter (fun q => !(q.1 == k) && !(q.1 + 1 == k && q.2.category == 2)) = L') (kk : knJ G p l e R s m args below meth c nL cells slots Q (pc + 2) L' st μ) : knJ G p l e R s m args below meth c nL cells slots Q pc L (knVf x :: st) μ :=
  fun H locs ls hP hS hL => lv_fstore X.1 X.2.1 d hL hn hl (fun ls' hL' => kk H locs ls' hP hS hL')
def knDcmp (op : CmpOp) (x y : Int) : Int := (Op.cmpValue (FP.dcmp (knDb x) (knDb y)) op).toInt
def knFcmp (op : CmpOp) (x y : Int) : Int := (Op.cmpValue (FP.fcmp (knFb x) (knFb y)) op).toInt
theorem kj_dcmp (X : knX p m c cc nL s args own) {x y : Int} {op : CmpOp} (d : decode cc pc = .ok (.dcmp op, 1)) (kk : knJ G p l e R s m args below meth c nL cells slots Q (pc + 1) L (knV (knDcmp op x y) :: st) μ) : knJ G p l e R s m args below meth c nL cells slots Q pc L (knVd y :: knVd x :: st) μ :=
  fun H locs ls hP hS hL => lv_dcmp X.1 X.2.1 d (by have h9 := kk H locs ls hP hS hL; unfold knV knDcmp at h9; rw [Int32.ofInt_toInt] at h9; exact h9)
theorem kj_fcmp (X : knX p m c cc nL s args own) {x y : Int} {op : CmpOp} (d : decode cc pc = .ok (.fcmp op, 1)) (kk : knJ G p l e R s m args below meth c nL cells slots Q (pc + 1) L (knV (knFcmp op x y) :: st) μ) : knJ G p l e R s m args below meth c nL cells slots Q pc L (knVf y :: knVf x :: st) μ :=
  fun H locs ls hP hS hL => lv_fcmp X.1 X.2.1 d (by have h9 := kk H locs ls hP hS hL; unfold knV knFcmp at h9; rw [Int32.ofInt_toInt] at h9; exact h9)
theorem knTL {x : Int} (h : knC x) : (Int64.ofInt x).toInt = x := Int64.toInt_ofInt_of_le (by have := h.1; omega) (by have := h.2; omega)
theorem kj_i2l (X : knX p m c cc nL s args own) {x : Int} (d : decode cc pc = .ok (.i2l, 1)) (hx : knC x) (kk : knJ G p l e R s m args below meth c nL cells slots Q (pc + 1) L (knVl x :: st) μ) : knJ G p l e R s m args below meth c nL cells slots Q pc L (knV x :: st) μ :=
  fun H locs ls hP hS hL => lv_i2l X.1 X.2.1 d (v := Int64.ofInt x) (by apply Int64.toInt_inj.mp; rw [knTL hx]; show (Int32.ofInt x).toInt64.toInt = x; rw [Int32.toInt_toInt64, knTI hx]) (kk H locs ls hP hS hL)
theorem kj_lconst (X : knX p m c cc nL s args own) {k : Fin 2} {x : Int} (d : decode cc pc = .ok (.lconst k, 1)) (hv : Int64.ofNat (k : Nat) = Int64.ofInt x) (kk : knJ G p l e R s m args below meth c nL cells slots Q (pc + 1) L (knVl x :: st) μ) : knJ G p l e R s m args below meth c nL cells slots Q pc L st μ :=
  fun H locs ls hP hS hL => lv_lconst X.1 X.2.1 d hv (kk H locs ls hP hS hL)
def knLcmp (x y : Int) : Int := if y < x then 1 else if x = y then 0 else -1
theorem knC_lcmp (x y : Int) : knC (knLcmp x y) := by unfold knLcmp; constructor <;> (split <;> (try split) <;> omega)
theorem kj_lcmp (X : knX p m c cc nL s args own) {x y : Int} (d : decode cc pc = .ok (.lcmp, 1)) (hx : knC x) (hy : knC y) (kk : knJ G p l e R s m args below meth c nL cells slots Q (pc + 1) L (knV (knLcmp x y) :: st) μ) : knJ G p l e R s m args below meth c nL cells slots Q pc L (knVl y :: knVl x :: st) μ := by
  intro H locs ls hP hS hL
  have h9 := kk H locs ls hP hS hL
  refine W.lcmp X.1 X.2.1 d ?_
  have e1 : (Int64.ofInt x > Int64.ofInt y) ↔ y < x := by rw [gt_iff_lt, Int64.lt_iff_toInt_lt, knTL hx, knTL hy]
  have e2 : (Int64.ofInt x = Int64.ofInt y) ↔ x = y := by rw [← Int64.toInt_inj, knTL hx, knTL hy]
  have : lg_cmp (Int64.ofInt x) (Int64.ofInt y) = Int32.ofInt (knLcmp x y) := by
    unfold lg_cmp knLcmp
    by_cases h1 : y < x
    · rw [if_pos (e1.mpr h1), if_pos h1]; rfl
    · rw [if_neg (fun h => h1 (e1.mp h)), if_neg h1]
      by_cases h2 : x = y
      · rw [if_pos (e2.mpr h2), if_pos h2]; rfl
      · rw [if_neg (fun h => h2 (e2.mp h)), if_neg h2]; rfl
  rw [this]
  exact h9
/-- the law's own two cells -/
theorem kj_lald (X : knX p m c cc nL s args own) (K : knK G s s.heap) (d : decode cc pc = .ok (.laload, 1)) (kk : knC (μ 159 0) → knJ G p l e R s m args below meth c nL cells slots Q (pc + 1) L (knVl (μ 159 0) :: st) μ) : knJ G p l e R s m args below meth c nL cells slots Q pc L (knV 0 :: knO G 159 :: st) μ := by
  intro H locs ls hP hS hL
  exact va_lald X.1 X.2.1 K.1 hP.2 (159 : Int).toNat 5 (kn_cell (knKd_in kdc_159 (by decide)) (knEnt_25 kdc_159)) rfl (kn_in (x := 0) (n := 1) ⟨by omega, by omega⟩ (by omega) (by omega)) d (kk ((hP.1 159 0).1 (by omega)) H locs ls hP hS hL)
theorem kj_last (X : knX p m c cc nL s args own) (K : knK G s s.heap) {x : Int} (hx : knC x) (d : decode cc pc = .ok (.lastore, 1)) (kk : knJ G p l e R s m args below meth c nL cells slots Q (pc + 1) L st (knUp μ 159 0 x)) : knJ G p l e R s m args below meth c nL cells slots Q pc L (knVl x :: knV 0 :: knO G 159 :: st) μ := by
  intro H locs ls hP hS hL
  refine va_last X.1 X.2.1 K.1 hP.2 (K.D μ) hS (159 : Int).toNat 5 (kn_cell (knKd_in kdc_159 (by decide)) (knEnt_25 kdc_159)) rfl (kn_in (x := 0) (n := 1) ⟨by omega, by omega⟩ (by omega) (by omega)) d (fun H1 locs1 hP1 _ hS1 => kk H1 locs1 ls ⟨knM_up hP.1 (fun _ => hx) (fun h => by rw [kdc_159] at h; cases h) (fun h => by rw [kdc_159] at h; cases h), ?_⟩ hS1 hL)
  have hfun : vp_updL (fun j : Nat => Int64.ofInt (μ 159 j)) (Int32.ofInt 0).toNatClampNeg (Int64.ofInt x) = fun j : Nat => Int64.ofInt ((fun q : Int => if q = 0 then x else μ 159 q) j) := by
    funext j
    show (if j = 0 then _ else _) = _
    by_cases h : j = 0
    · subst h; rfl
    · rw [if_neg h]; simp only; rw [if_neg (by omega)]
  rw [hfun, knWs_set (o := 159) (k := 0) (v := x) (knKd_in kdc_159 (by decide)) (by rw [knEnt_25 kdc_159, knUp_row])] at hP1
  exact hP1
theorem knEnt_26 {G : knGT} {r : Int → Int} : knEnt G r 160 = .inl (knCy G 6, 1, .inr (.inr (.inr (.inl (fun j => knDb (r j)))))) := by
  have h : knKd 160 = 26 := kdc_160
  simp only [knEnt, h]
  rfl
theorem kj_dald (X : knX p m c cc nL s args own) (K : knK G s s.heap) (d : decode cc pc = .ok (.daload, 1)) (kk : knJ G p l e R s m args below meth c nL cells slots Q (pc + 1) L (knVd (μ 160 0) :: st) μ) : knJ G p l e R s m args below meth c nL cells slots Q pc L (knV 0 :: knO G 160 :: st) μ := by
  intro H locs ls hP hS hL
  exact va_dald X.1 X.2.1 K.1 hP.2 (160 : Int).toNat 6 (kn_cell (knKd_in kdc_160 (by decide)) knEnt_26) rfl (kn_in (x := 0) (n := 1) ⟨by omega, by omega⟩ (by omega) (by omega)) d (kk H locs ls hP hS hL)
theorem kj_dast (X : knX p m c cc nL s args own) (K : knK G s s.heap) {x : Int} (d : decode cc pc = .ok (.dastore, 1)) (kk : knJ G p l e R s m args below meth c nL cells slots Q (pc + 1) L st (knUp μ 160 0 x)) : knJ G p l e R s m args below meth c nL cells slots Q pc L (knVd x :: knV 0 :: knO G 160 :: st) μ := by
  intro H locs ls hP hS hL
  refine va_dast X.1 X.2.1 K.1 hP.2 (K.D μ) hS (160 : Int).toNat 6 (kn_cell (knKd_in kdc_160 (by decide)) knEnt_26) rfl (kn_in (x := 0) (n := 1) ⟨by omega, by omega⟩ (by omega) (by omega)) d (fun H1 locs1 hP1 _ hS1 => kk H1 locs1 ls ⟨knM_up hP.1 (fun h => absurd rfl h) (fun h => by rw [kdc_160] at h; cases h) (fun h => by rw [kdc_160] at h; cases h), ?_⟩ hS1 hL)
  have hfun : vf_upd (fun j : Nat => knDb (μ 160 j)) (Int32.ofInt 0).toNatClampNeg (knDb x) = fun j : Nat => knDb ((fun q : Int => if q = 0 then x else μ 160 q) j) := by
    funext j
    show (if j = 0 then _ else _) = _
    by_cases h : j = 0
    · subst h; rfl
    · rw [if_neg h]; simp only; rw [if_neg (by omega)]
  rw [hfun, knWs_set (o := 160) (k := 0) (v := x) (knKd_in kdc_160 (by decide)) (by rw [knEnt_26, knUp_row])] at hP1
  exact hP1
theorem kj_dret (X : knX p m c cc nL s args own) {C : Prop} (hC : C) {v : Int} (hr : meth.sig.returnType = some .double) (d : decode cc pc = .ok (.dreturn, 1)) (hlocks : meth.locks = false) : knJ G p l e R s m args below meth c nL cells slots (MQ below (knPo G C (some (knVd v)) μ) args s cells slots (knA G)) pc L [knVd v] μ :=
  fun H locs ls hP hS hL => W.dret (v := knDb v) X.1 X.2.1 hr (fun t ht _ => ⟨⟨rfl, hC⟩, by rw [ht]; exact hP, hS.F ht⟩) hS.2.2 d hlocks
theorem kj_fret (X : knX p m c cc nL s args own) {C : Prop} (hC : C) {v : Int} (hr : meth.sig.returnType = some .float) (d : decode cc pc = .ok (.freturn, 1)) (hlocks : meth.locks = false) : knJ G p l e R s m args below meth c nL cells slots (MQ below (knPo G C (some (knVf v)) μ) args s cells slots (knA G)) pc L [knVf v] μ :=
  fun H locs ls hP hS hL => W.fret (v := knFb v) X.1 X.2.1 hr (fun t ht _ => ⟨⟨rfl, hC⟩, by rw [ht]; exact hP, hS.F ht⟩) hS.2.2 d hlocks
theorem kjx_fret (X : knX p m c cc nL s args own) {C : Prop} (hC : C) {v x : Int} {mc ms : Nat} (hx : x = 0) (hc : cells ≤ mc) (hs : slots ≤ ms) (hr : meth.sig.returnType = some .float) (d : decode cc pc = .ok (.freturn, 1)) (hlocks : meth.locks = false) : knJ G p l e R s m args below meth c nL cells slots (vx_MQ below (knPx G C x (some (knVf v)) μ) (knXC G x μ) args s mc ms (knA G)) pc L [knVf v] μ :=
  kjx_ret hc hs (kn_mqx (kj_fret X hC hr d hlocks) hx)
end KNFL
