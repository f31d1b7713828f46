/-! The law's own body: the script, and its cases. -/
def knSx (xs : Nat → Int32) (j : Int) : Int := (xs j.toNat).toInt
def knSc (G : knGT) (b N : Nat) (xs : Nat → Int32) (s : State) : Prop := va_X b N xs s s.heap ∧ b < s.heap.size ∧ ¬ knA G b ∧ N ≤ 2560
def knSi (N : Nat) (xs : Nat → Int32) (i x1 x2 x3 x4 : Int) : Prop :=
  ((0 ≤ knW (i + 1) ∧ knW (i + 1) < (N : Int)) ∧ x1 = knSx xs (knW (i + 1))) ∧ ((0 ≤ knW (i + 2) ∧ knW (i + 2) < (N : Int)) ∧ x2 = knSx xs (knW (i + 2))) ∧ ((0 ≤ knW (i + 3) ∧ knW (i + 3) < (N : Int)) ∧ x3 = knSx xs (knW (i + 3))) ∧ ((0 ≤ knW (i + 4) ∧ knW (i + 4) < (N : Int)) ∧ x4 = knSx xs (knW (i + 4)))
theorem knC_sx {xs : Nat → Int32} {x j : Int} (h : x = knSx xs j) : knC x := by
  subst h
  unfold knSx knC
  have h1 := Int32.toInt_lt (xs j.toNat)
  have h2 := Int32.le_toInt (xs j.toNat)
  omega
section KNL
variable {G : knGT} {p : Program} {l : Launch} {e : Env} {R : Room} {s : State} {m : MethodId} {args : Array Value} {below : List Frame} {meth : Method} {c : Code} {nL cells slots : Nat} {Q : State → Prop}
variable {cc : ByteArray} {own : String} {pc : Nat} {L : List (Nat × Value)} {st : List Value} {μ : knMem}
theorem kj_sld (X : knX p m c cc nL s args own) {b N : Nat} {xs : Nat → Int32} (S : knSc G b N xs s) {i x : Int} (hi : knC i) (hx : x = knSx xs i) (hin : 0 ≤ i ∧ i < (N : Int)) (d : decode cc pc = .ok (.iaload, 1)) (kk : knJ G p l e R s m args below meth c nL cells slots Q (pc + 1) L (knV x :: st) μ) : knJ G p l e R s m args below meth c nL cells slots Q pc L (knV i :: Value.ref b :: st) μ := by
  intro H locs ls hP hS hL
  refine va_sld X.1 X.2.1 S.1 S.2.1 S.2.2.1 hS (kn_in hi hin.1 hin.2) d ?_
  rw [kn_clamp hi]
  have h9 : knV x = .int (xs i.toNat) := by
    subst hx
    unfold knV knSx
    rw [Int32.ofInt_toInt]
  rw [← h9]
  exact kk H locs ls hP hS hL
theorem kj_scl (X : knX p m c cc nL s args own) {b N : Nat} {xs : Nat → Int32} (S : knSc G b N xs s) (d : decode cc pc = .ok (.arraylength, 1)) (kk : knJ G p l e R s m args below meth c nL cells slots Q (pc + 1) L (knV (N : Int) :: st) μ) : knJ G p l e R s m args below meth c nL cells slots Q pc L (Value.ref b :: st) μ :=
  fun H locs ls hP hS hL => va_slen X.1 X.2.1 S.1 S.2.1 S.2.2.1 hS d (kk H locs ls hP hS hL)
theorem kj_wd {cells1 slots1 : Nat} (h1 : cells ≤ cells1) (h2 : slots ≤ slots1) (kk : knJ G p l e R s m args below meth c nL cells1 slots1 Q pc L st μ) : knJ G p l e R s m args below meth c nL cells slots Q pc L st μ :=
  fun H locs ls hP hS hL => W.widen h1 h2 (kk H locs ls hP hS hL)
end KNL
