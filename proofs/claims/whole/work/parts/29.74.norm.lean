/-! .. in a form that is kept: the cells before, with the cell a as it now is, and those made since. -/
section KNN
variable {cs xs : List va_E} {a : Nat} {e e' z : va_E}
theorem kiN_len : (cs.set a e ++ xs).length = cs.length + xs.length := by simp
theorem kiN_at {i : Nat} : (cs.set a e ++ xs)[cs.length + i]? = xs[i]? := by
  rw [List.getElem?_append_right (by simp)]
  simp
theorem kiN_atA (h : a < cs.length) : (cs.set a e ++ xs)[a]? = some e := by
  rw [List.getElem?_append_left (by simpa using h), List.getElem?_set_self h]
theorem kiN_setA (h : a < cs.length) : (cs.set a e ++ xs).set a e' = cs.set a e' ++ xs := by
  rw [List.set_append_left _ _ (by simpa using h), List.set_set]
theorem kiN_set {i : Nat} : (cs.set a e ++ xs).set (cs.length + i) z = cs.set a e ++ xs.set i z := by
  rw [List.set_append_right _ _ (by simp)]
  simp
theorem kiN_self (h : cs[a]? = some e) : cs.set a e ++ [] = cs := by
  obtain ⟨hl, he⟩ := List.getElem?_eq_some_iff.mp h
  rw [List.append_nil, ← he, List.set_getElem_self]
end KNN
section KNI
variable {G : knGT} {p : Program} {l : Launch} {e : Env} {R : Room} {s : State} {m : MethodId} {args : Array Value} {below : List Frame} {meth : Method} {c : Code} {nL cells slots : Nat} {Q : State → Prop}
variable {cc : ByteArray} {own : String} {pc : Nat} {L : List (Nat × Value)} {st : List Value} {cs xs : List va_E} {a : Nat} {o : va_E}
theorem kiN_0 (h : cs[a]? = some o) (kk : kiJ G p l e R s m args below meth c nL cells slots Q pc L st (cs.set a o ++ [])) : kiJ G p l e R s m args below meth c nL cells slots Q pc L st cs := by
  rw [kiN_self h] at kk
  exact kk
theorem kiN_newa (X : knX p m c cc nL s args own) (KI : kiK G s) {atype : ArrayType} (ti : Nat) {ty : FieldType} (hti : ti < 7) (hty : newarray.typeOf atype = ty) (hki : kiTy ti = ty) (harr : Cond.arrayClass ty ∈ knGW) {n : Int} {N : Nat} {a0 : vp_A} (ha : ∀ cA : ClassId, vp_cell cA a0 = arrV cA N (fun _ => defaultValue ty)) (hn : n = (N : Int)) (hN : N ≤ 1000) (hb : N * componentBytes ty ≤ 536870912)
    (hcs : cells + 1 ≤ R.cells ∧ slots + N ≤ R.slots) (d : decode cc pc = .ok (.newarray atype, 2))
    (kk : kiJ G p l e R s m args below meth c nL (cells + 1) (slots + N) Q (pc + 2) L (.ref (knN0 G + (cs.length + xs.length)) :: st) (cs.set a o ++ (xs ++ [.inl (knCy G ti, a0)]))) : kiJ G p l e R s m args below meth c nL cells slots Q pc L (knV n :: st) (cs.set a o ++ xs) := by
  refine ki_newa X KI ti hti hty hki harr ha hn hN hb hcs d ?_
  rw [List.append_assoc, kiN_len]
  exact kk
theorem kiN_new (X : knX p m c cc nL s args own) (KI : kiK G s) {C : String} {T : u_T} {N ci index : Nat} (hin : ∀ w ∈ u_ws C T N, w ∈ knGW) (ty : Nat → FieldType) (hty : ∀ k, k < N → parseFieldDescriptor (T k).2.2.1 = some (ty k)) (hcl : Cond.classLink own index C ∈ knGW) (hinst : Cond.instantiable C N ∈ knGW) (hini : Cond.initialized C ∈ knGW)
    (hc : knCl[ci]? = some (C, T, N)) {fs : List Value} (hfs : ∀ j, j < N → defaultValue (ty j) = vp_V fs j) (hcs : cells + 1 ≤ R.cells ∧ slots + N ≤ R.slots) (d : decode cc pc = .ok (.new index, 3))
    (kk : kiJ G p l e R s m args below meth c nL (cells + 1) (slots + N) Q (pc + 3) L (.ref (knN0 G + (cs.length + xs.length)) :: st) (cs.set a o ++ (xs ++ [.inr (ci, fs)]))) : kiJ G p l e R s m args below meth c nL cells slots Q pc L st (cs.set a o ++ xs) := by
  refine ki_new X KI hin ty hty hcl hinst hini hc hfs hcs d ?_
  rw [List.append_assoc, kiN_len]
  exact kk
theorem kiN_putF (X : knX p m c cc nL s args own) (KI : kiK G s) (hla : a < cs.length) {ref C : String} {T : u_T} {N ci index : Nat} {fs : List Value} (ho : o = .inr (ci, fs)) (hin : ∀ w ∈ u_ws C T N, w ∈ knGW) (ty0 : Nat → FieldType) (hty : ∀ k, k < N → parseFieldDescriptor (T k).2.2.1 = some (ty0 k)) (hnm : ∀ a, a < N → ∀ b, b < N → a ≠ b → (T a).2.1 ≠ (T b).2.1)
    (hc : knCl[ci]? = some (C, T, N)) (k : Nat) (hk : k < N) (hlink : Cond.fieldLink own index ref (T k).2.1 (T k).2.2.1 ∈ knGW) (href : (T k).1 = ref) (hfin : (T k).2.2.2 = true) (hin2 : meth.name = "<init>") (hdecl : (T k).1 = own) {v : Value} {ty : FieldType} (hd : parseFieldDescriptor (T k).2.2.1 = some ty) (hn : narrow ty v = v) (hfit : fits ty v = true) (hl : k < fs.length)
    (d : decode cc pc = .ok (.putfield index, 3)) (kk : kiJ G p l e R s m args below meth c nL cells slots Q (pc + 3) L st (cs.set a (.inr (ci, fs.set k v)) ++ xs)) : kiJ G p l e R s m args below meth c nL cells slots Q pc L (v :: .ref (knN0 G + a) :: st) (cs.set a o ++ xs) := by
  subst ho
  refine ki_putF X KI hin ty0 hty hnm (kiN_atA hla) hc k hk hlink href hfin hin2 hdecl hd hn hfit hl d ?_
  rw [kiN_setA hla]
  exact kk
theorem kiN_put (X : knX p m c cc nL s args own) (KI : kiK G s) (hla : a < cs.length) {ref C : String} {T : u_T} {N ci index : Nat} {fs : List Value} (ho : o = .inr (ci, fs)) (hin : ∀ w ∈ u_ws C T N, w ∈ knGW) (ty0 : Nat → FieldType) (hty : ∀ k, k < N → parseFieldDescriptor (T k).2.2.1 = some (ty0 k)) (hnm : ∀ a, a < N → ∀ b, b < N → a ≠ b → (T a).2.1 ≠ (T b).2.1)
    (hc : knCl[ci]? = some (C, T, N)) (k : Nat) (hk : k < N) (hlink : Cond.fieldLink own index ref (T k).2.1 (T k).2.2.1 ∈ knGW) (href : (T k).1 = ref) (hfin : (T k).2.2.2 = false) {v : Value} {ty : FieldType} (hd : parseFieldDescriptor (T k).2.2.1 = some ty) (hn : narrow ty v = v) (hfit : fits ty v = true) (hl : k < fs.length)
    (d : decode cc pc = .ok (.putfield index, 3)) (kk : kiJ G p l e R s m args below meth c nL cells slots Q (pc + 3) L st (cs.set a (.inr (ci, fs.set k v)) ++ xs)) : kiJ G p l e R s m args below meth c nL cells slots Q pc L (v :: .ref (knN0 G + a) :: st) (cs.set a o ++ xs) := by
  subst ho
  refine ki_put X KI hin ty0 hty hnm (kiN_atA hla) hc k hk hlink href hfin hd hn hfit hl d ?_
  rw [kiN_setA hla]
  exact kk
theorem kiN_getA (X : knX p m c cc nL s args own) (KI : kiK G s) (hla : a < cs.length) {ref C : String} {T : u_T} {N ci index : Nat} {fs : List Value} (ho : o = .inr (ci, fs)) (hin : ∀ w ∈ u_ws C T N, w ∈ knGW) (hc : knCl[ci]? = some (C, T, N)) (k : Nat) (hk : k < N) (hlink : Cond.fieldLink own index ref (T k).2.1 (T k).2.2.1 ∈ knGW) (href : (T k).1 = ref) {v : Value} (hv : fs[k]? = some v) (d : decode cc pc = .ok (.getfield index, 3))
    (kk : kiJ G p l e R s m args below meth c nL cells slots Q (pc + 3) L (v :: st) (cs.set a o ++ xs)) : kiJ G p l e R s m args below meth c nL cells slots Q pc L (.ref (knN0 G + a) :: st) (cs.set a o ++ xs) := by
  subst ho
  exact ki_get X KI hin (kiN_atA hla) hc k hk hlink href hv d kk
theorem kiN_get (X : knX p m c cc nL s args own) (KI : kiK G s) {i : Nat} {ref C : String} {T : u_T} {N ci index : Nat} {fs : List Value} (ho : xs[i]? = some (.inr (ci, fs))) (hin : ∀ w ∈ u_ws C T N, w ∈ knGW) (hc : knCl[ci]? = some (C, T, N)) (k : Nat) (hk : k < N) (hlink : Cond.fieldLink own index ref (T k).2.1 (T k).2.2.1 ∈ knGW) (href : (T k).1 = ref) {v : Value} (hv : fs[k]? = some v) (d : decode cc pc = .ok (.getfield index, 3))
    (kk : kiJ G p l e R s m args below meth c nL cells slots Q (pc + 3) L (v :: st) (cs.set a o ++ xs)) : kiJ G p l e R s m args below meth c nL cells slots Q pc L (.ref (knN0 G + (cs.length + i)) :: st) (cs.set a o ++ xs) :=
  ki_get X KI hin (by rw [kiN_at]; exact ho) hc k hk hlink href hv d kk
theorem kiN_anew (X : knX p m c cc nL s args own) (KI : kiK G s) {index : Nat} (hcl : Cond.classLink own index "KnotLaboratory$State" ∈ knGW) {n : Int} {N : Nat} (hn : n = (N : Int)) (hN : N ≤ 1000) (hcs : cells + 1 ≤ R.cells ∧ slots + N ≤ R.slots) (d : decode cc pc = .ok (.anewarray index, 3))
    (kk : kiJ G p l e R s m args below meth c nL (cells + 1) (slots + N) Q (pc + 3) L (.ref (knN0 G + (cs.length + xs.length)) :: st) (cs.set a o ++ (xs ++ [.inl (knCy G 3, N, .inr (.inr (.inr (.inr (fun _ => none)))))]))) : kiJ G p l e R s m args below meth c nL cells slots Q pc L (knV n :: st) (cs.set a o ++ xs) := by
  refine ki_anew X KI hcl hn hN hcs d ?_
  rw [List.append_assoc, kiN_len]
  exact kk
theorem kiN_aast (X : knX p m c cc nL s args own) (KI : kiK G s) {q0 qk ci : Nat} {r : vw_C} {N : Nat} {vs : List Value} {f : Nat → Option Nat} (he : xs[q0]? = some (.inl (knCy G 3, N, .inr (.inr (.inr (.inr f)))))) (hv : xs[qk]? = some (.inr (ci, vs))) (hc : knCl[ci]? = some r) (hr : r.1 = "KnotLaboratory$State") {i : Int} (hi : knC i) (hin : 0 ≤ i ∧ i < (N : Int)) (d : decode cc pc = .ok (.aastore, 1))
    (kk : kiJ G p l e R s m args below meth c nL cells slots Q (pc + 1) L st (cs.set a o ++ xs.set q0 (.inl (knCy G 3, N, .inr (.inr (.inr (.inr (va_up f i.toNat (some (knN0 G + (cs.length + qk))))))))))) : kiJ G p l e R s m args below meth c nL cells slots Q pc L (.ref (knN0 G + (cs.length + qk)) :: knV i :: .ref (knN0 G + (cs.length + q0)) :: st) (cs.set a o ++ xs) := by
  refine ki_aast X KI (by rw [kiN_at]; exact he) (by rw [kiN_at]; exact hv) hc hr hi hin d ?_
  rw [kiN_set]
  exact kk
theorem kiN_mna (X : knX p m c cc nL s args own) (KI : kiK G s) {index : Nat} (hcl : Cond.classLink own index ("[" ++ (FieldType.array .int).toString) ∈ knGW) (harr : Cond.arrayClass .int ∈ knGW) {n k : Int} {N K : Nat} (hn : n = (N : Int)) (hk : k = (K : Int)) (hN : N ≤ 1000) (hK : K ≤ 1000) (hcs : cells + (1 + N) ≤ R.cells ∧ slots + (N + N * K) ≤ R.slots) (d : decode cc pc = .ok (.multianewarray index 2, 4))
    (kk : kiJ G p l e R s m args below meth c nL (cells + 1 + N) (slots + N + N * K) Q (pc + 4) L (.ref (knN0 G + (cs.length + xs.length)) :: st) (cs.set a o ++ (xs ++ (.inl (knCy G 4, N, .inr (.inr (.inr (.inr (fun i => if i < N then some (knN0 G + (cs.length + xs.length) + 1 + i) else none))))) :: List.replicate N (.inl (knCy G 0, K, .inl (fun _ => 0))))))) : kiJ G p l e R s m args below meth c nL cells slots Q pc L (knV k :: knV n :: st) (cs.set a o ++ xs) := by
  refine ki_mna X KI hcl harr hn hk hN hK hcs d ?_
  rw [List.append_assoc, kiN_len]
  exact kk
/-- a constructor's contract, for every heap that it may meet -/
def kiCC (G : knGT) (l : Launch) (y : MethodName) (b : ByteArray) (mL fr lo mc ms ci : Nat) (dfl : List Value) (fin : Nat → va_E) (news : Nat → List va_E) : Prop :=
  ∀ (cs : List va_E) (a : Nat), cs[a]? = some (.inr (ci, dfl)) → kiC G l y b mL fr lo mc ms a cs (cs.set a (fin cs.length) ++ news cs.length)
theorem kiN_call (X : knX p m c cc nL s args own) (KI : kiK G s) {y : MethodName} {b : ByteArray} {mL index fr lo mc ms ci i : Nat} {dfl : List Value} {fin : Nat → va_E} {news : Nat → List va_E} (hM : kiCC G l y b mL fr lo mc ms ci dfl fin news) (hi : xs[i]? = some (.inr (ci, dfl))) (hw : knWi9 y b mL) (hl : Cond.methodLink own index y ∈ knGW ∨ Cond.methodLinkNest own index y "KnotLaboratory" ∈ knBW)
    (hR : fr + 1 ≤ R.frames ∧ 8 + (mL + 11) + lo ≤ R.locals) (hW : (st.map fun v => v.category).sum ≤ 8) (hcs : cells + mc ≤ R.cells ∧ slots + ms ≤ R.slots) (d : decode cc pc = .ok (.invokespecial index, 3))
    (kk : kiJ G p l e R s m args below meth c nL (cells + mc) (slots + ms) Q (pc + 3) L st (cs.set a o ++ (xs.set i (fin (cs.length + xs.length)) ++ news (cs.length + xs.length)))) : kiJ G p l e R s m args below meth c nL cells slots Q pc L (.ref (knN0 G + (cs.length + i)) :: st) (cs.set a o ++ xs) := by
  have hM' := hM (cs.set a o ++ xs) (cs.length + i) (by rw [kiN_at]; exact hi)
  rw [kiN_set, kiN_len, List.append_assoc] at hM'
  rcases hl with hl | hl
  · exact ki_call X KI hM' hw hl hR hW hcs d kk
  · exact ki_callN X KI hM' hw hl hR hW hcs d kk
end KNI
