/-- a text's length, its signs -/
def knSln (x : Int) : Int := ((knSl.getD x.toNat 0 : Nat) : Int)
def knSch (x i : Int) : Int := (((knSb.getD x.toNat []).getD i.toNat 0).toUInt32 &&& 255).toInt32.toInt
theorem knSl_all : ∀ n : Nat, n < 19 → knSl.getD n 0 < 100 := by decide +kernel
theorem knC_sln (x : Int) : knC (knSln x) := by
  unfold knSln
  have h : knSl.getD x.toNat 0 < 100 := by
    by_cases h : x.toNat < 19
    · exact knSl_all _ h
    · have h1 : knSl.length = 19 := by decide +kernel
      rw [List.getD_eq_getElem?_getD, List.getElem?_eq_none (show knSl.length ≤ x.toNat by omega)]
      decide
  constructor <;> omega
theorem knH_sch (x i : Int) : knH (knSch x i) := by
  unfold knSch knH
  generalize ((knSb.getD x.toNat []).getD i.toNat 0).toUInt32 = u
  have h1 : (u &&& 255).toNat < 256 := by
    rw [UInt32.toNat_and]
    exact Nat.lt_of_le_of_lt Nat.and_le_right (by decide)
  have h2 : (u &&& 255).toInt32.toInt = ((u &&& 255).toNat : Int) := by
    show (u &&& 255).toBitVec.toInt = _
    rw [BitVec.toInt_eq_toNat_of_lt]
    · rfl
    · show 2 * (u &&& 255).toNat < 2 ^ 32
      omega
  rw [h2]
  omega
section KNS
variable {G : knGT} {p : Program} {l : Launch} {e : Env} {R : Room} {s : State} {m : MethodId} {args : Array Value} {below : List Frame} {meth : Method} {c : Code} {nL cells slots : Nat} {Q : State → Prop}
variable {cc : ByteArray} {own : String} {pc : Nat} {L : List (Nat × Value)} {st : List Value} {μ : knMem}
theorem kj_ord (X : knX p m c cc nL s args own) (K : knK G s s.heap) {index : Nat} {x : Int} (hx : 0 ≤ x ∧ x < 12) (hl : Cond.methodLink own index ⟨RX4, "ordinal", "()I"⟩ ∈ knGW) (hR : 3 ≤ R.frames ∧ 100 ≤ R.locals) (d : decode cc pc = .ok (.invokevirtual index, 3)) (kk : knJ G p l e R s m args below meth c nL cells slots Q (pc + 3) L (knV x :: st) μ) : knJ G p l e R s m args below meth c nL cells slots Q pc L (knCo G x :: st) μ := by
  sorry
theorem kj_slen (X : knX p m c cc nL s args own) (K : knK G s s.heap) {index : Nat} {x : Int} (hx : 0 ≤ x ∧ x < 19) (hl : Cond.methodLink own index yJ0_length_8abf5 ∈ knGW) (hR : 3 ≤ R.frames ∧ 100 ≤ R.locals) (d : decode cc pc = .ok (.invokevirtual index, 3)) (kk : knJ G p l e R s m args below meth c nL cells slots Q (pc + 3) L (knV (knSln x) :: st) μ) : knJ G p l e R s m args below meth c nL cells slots Q pc L (knTv G x :: st) μ := by
  sorry
theorem kj_schar (X : knX p m c cc nL s args own) (K : knK G s s.heap) {index : Nat} {x i : Int} {rest : List Value} (hx : 0 ≤ x ∧ x < 19) (hi : knC i) (hin : 0 ≤ i ∧ i < knSln x) (hl : Cond.methodLink own index yJ0_charAt_5068e ∈ knGW) (hW : (rest.map fun v => v.category).sum ≤ 8) (hR : 5 ≤ R.frames ∧ 100 ≤ R.locals) (d : decode cc pc = .ok (.invokevirtual index, 3)) (kk : knJ G p l e R s m args below meth c nL cells slots Q (pc + 3) L (knV (knSch x i) :: rest) μ) : knJ G p l e R s m args below meth c nL cells slots Q pc L (knV i :: knTv G x :: rest) μ := by
  sorry
end KNS
