/-! Contracts over the memory, and calls. -/
def knPc (G : knGT) (as : List Value) (μ : knMem) : Array Value → State → Prop := fun a U => a = as.toArray ∧ knK G U U.heap ∧ knP G μ U.heap
theorem knPc_blind (G : knGT) (as : List Value) (μ : knMem) : FrameBlind (knPc G as μ) := fun a U g mk ⟨h1, h2, h3⟩ => ⟨h1, knK.warm (s := U) (U := U.calling g mk a) (State.WarmedH.refl U) h2 (Nat.le_refl _) (fun _ _ _ => rfl), h3⟩
/-- the method returns r, with the memory μ' -/
def knC0 (G : knGT) (l : Launch) (y : MethodName) (b : ByteArray) (mL : Nat) (ret : Option FieldType) (fr lo : Nat) (as : List Value) (μ : knMem) (C : Prop) (r : Option Value) (μ' : knMem) : Prop :=
  Met l y (Cond.code y b mL ret :: knGW) { frames := fr, cells := 0, slots := 0, locals := lo } (knPc G as μ) (knPo G C r μ') 0 0 (knA G)
def knExc : Int → Option String
  | 1 => some "java/lang/IndexOutOfBoundsException"
  | 2 => some "java/lang/IllegalArgumentException"
  | 3 => some "java/lang/IllegalStateException"
  | 4 => some "java/lang/UnsupportedOperationException"
  | 5 => some "java/util/NoSuchElementException"
  | 6 => some "java/lang/ArithmeticException"
  | _ => none
def knPx (G : knGT) (C : Prop) (x : Int) (r : Option Value) (μ' : knMem) : Array Value → State → Outcome → State → Prop := fun a st o t => x = 0 ∧ knPo G C r μ' a st o t
def knXC (G : knGT) (x : Int) (μ' : knMem) : String → State → State → Prop := fun E st t => x ≠ 0 ∧ knExc x = some E ∧ knP G μ' t.heap ∧ va_F (knA G) st t
/-- the method returns r where x is 0, throws the exception of the number x where it isn't; the memory is μ' -/
def knCx (G : knGT) (l : Launch) (y : MethodName) (b : ByteArray) (mL : Nat) (ret : Option FieldType) (fr lo mc ms : Nat) (as : List Value) (μ : knMem) (C : Prop) (x : Int) (r : Option Value) (μ' : knMem) : Prop :=
  vx_Met l y (Cond.code y b mL ret :: knGW) { frames := fr, cells := mc, slots := ms, locals := lo } (knPc G as μ) (knPx G C x r μ') (knXC G x μ') mc ms (knA G)
theorem kn_metF {l : Launch} {y : MethodName} {ws ws' : List Cond} {rm : Room} {Pc : Array Value → State → Prop} {Qc : Array Value → State → Outcome → State → Prop} {mc ms : Nat} {free : Addr → Prop} {cc : ByteArray} {maxL : Nat} {ret : Option FieldType}
    (hy : plainFor y = true) (hw : ws = Cond.code y cc maxL ret :: ws')
    (body : ∀ p e s m args below meth c s₁, BodyLoose p l y (headSpec ws rm) cc maxL ret e s m args below meth c s₁ → c.maxLocals = maxL → Pc args s →
      W p l e (headSpec ws rm).room s m args below meth c s.heap [] 0 0 (MQ below Qc args s mc ms free) (entryFrame m args maxL)) : Met l y ws rm Pc Qc mc ms free := by
  refine MetFree.of_bodySF (code := cc) (maxLocals := maxL) (ret := ret) hy ?_ ?_
  · intro args s m h hn
    obtain ⟨meth, c, h1, h2, h3, h4, h5, h6, -, -⟩ := Cond.code_spec hn (atoms_spec (ws := ws) h _ (by rw [hw]; exact List.mem_cons_self))
    exact ⟨meth, c, h1, h2, h3, h4, h5, h6⟩
  · intro p e s m args below meth c s₁ B hml hP _
    have hh0 : s₁.heap = s.heap := by rw [B.state]; rfl
    obtain ⟨t, a1, o, b1, b2, b3⟩ := body p e s m args below meth c s₁ B hml hP s₁ hh0 (Stand.of_body B)
    exact ⟨t, o, a1, b1, b2, ⟨b3.1, b3.2⟩⟩
theorem kn_ofJ {G : knGT} {l : Launch} {y : MethodName} {b : ByteArray} {mL : Nat} {ret : Option FieldType} {fr lo : Nat} {as : List Value} {μ : knMem} {C : Prop} {r : Option Value} {μ' : knMem} {L : List (Nat × Value)} (hy : plainFor y = true) (hlen : (lg_sl as).length ≤ mL) (hL : lv_args 0 as = L)
    (body : ∀ (p : Program) (e : Env) (s : State) (m : MethodId) (args : Array Value) (below : List Frame) (meth : Method) (c : Code), knX p m c b mL s args y.cls → knK G s s.heap → meth.sig.returnType = ret → meth.locks = false →
      knJ G p l e { frames := fr, cells := 0, slots := 0, locals := lo } s m args below meth c mL 0 0 (MQ below (knPo G C r μ') args s 0 0 (knA G)) 0 L [] μ) : knC0 G l y b mL ret fr lo as μ C r μ' := by
  refine kn_metF (cc := b) (maxL := mL) (ret := ret) hy rfl ?_
  intro p e s m args below meth c s₁ B hml hv
  obtain ⟨rfl, hK, hP⟩ := hv
  have hts := atoms_spec (ws := Cond.code y b mL ret :: knGW) B.pre
  rw [lg_entry_eq]
  have hl := lv_entry as (n := mL) hlen
  rw [hL] at hl
  exact body p e s m as.toArray below meth c ⟨B.exec, B.bytes, hml, findClass_of_methodNamed B.named, fun w hw => hts w (List.mem_cons_of_mem _ hw)⟩ hK B.returns B.notSynchronized s.heap [] _ hP va_S.rf hl
theorem kn_ofJx {G : knGT} {l : Launch} {y : MethodName} {b : ByteArray} {mL : Nat} {ret : Option FieldType} {fr lo mc ms : Nat} {as : List Value} {μ : knMem} {C : Prop} {x : Int} {r : Option Value} {μ' : knMem} {L : List (Nat × Value)} (hy : plainName y.cls = true) (hlen : (lg_sl as).length ≤ mL) (hL : lv_args 0 as = L)
    (body : ∀ (p : Program) (e : Env) (s : State) (m : MethodId) (args : Array Value) (below : List Frame) (meth : Method) (c : Code), knX p m c b mL s args y.cls → knK G s s.heap → meth.sig.returnType = ret → meth.locks = false → (∀ z ∈ c.exceptionTable.toList, False) →
      knJ G p l e { frames := fr, cells := mc, slots := ms, locals := lo } s m args below meth c mL 0 0 (vx_MQ below (knPx G C x r μ') (knXC G x μ') args s mc ms (knA G)) 0 L [] μ) : knCx G l y b mL ret fr lo mc ms as μ C x r μ' := by
  refine vx_ofW (cc := b) (maxL := mL) (ret := ret) hy rfl ?_
  intro p e s m args below meth c s₁ B hml hnx hv
  obtain ⟨rfl, hK, hP⟩ := hv
  have hts := atoms_spec (ws := Cond.code y b mL ret :: knGW) B.pre
  rw [lg_entry_eq]
  have hl := lv_entry as (n := mL) hlen
  rw [hL] at hl
  exact body p e s m as.toArray below meth c ⟨B.exec, B.bytes, hml, findClass_of_methodNamed B.named, fun w hw => hts w (List.mem_cons_of_mem _ hw)⟩ hK B.returns B.notSynchronized hnx s.heap [] _ hP va_S.rf hl
/-- a callee's own words -/
def knWv (y : MethodName) (b : ByteArray) (mL : Nat) (ret : Option FieldType) (n : Nat) : Prop := Cond.code y b mL ret ∈ knGW ∧ Cond.initialized y.cls ∈ knGW ∧ Cond.instanceMethod y ∈ knGW ∧ Cond.selects y.cls y y ∈ knGW ∧ (y.cls ≠ "java/lang/invoke/MethodHandle" ∧ y.cls ≠ "java/lang/invoke/VarHandle" ∧ (parseMethodDescriptor y.desc).map (fun d => d.parameters.length) = some n)
def knWk (y : MethodName) (b : ByteArray) (mL : Nat) (ret : Option FieldType) (n : Nat) : Prop := Cond.code y b mL ret ∈ knGW ∧ Cond.initialized y.cls ∈ knGW ∧ Cond.static y ∈ knGW ∧ (y.cls ≠ "java/lang/invoke/MethodHandle" ∧ y.cls ≠ "java/lang/invoke/VarHandle" ∧ (parseMethodDescriptor y.desc).map (fun d => d.parameters.length) = some n)
section KNC
variable {G : knGT} {p : Program} {l : Launch} {e : Env} {R : Room} {s : State} {m : MethodId} {args : Array Value} {below : List Frame} {meth : Method} {c : Code} {nL cells slots : Nat} {Q : State → Prop}
variable {cc : ByteArray} {own : String} {pc : Nat} {L : List (Nat × Value)} {st : List Value} {μ : knMem}
theorem kn_aft {H : Heap} {locs Ls : List Loc} {st0 t T' : State} (h0 : st0.heap = H) (e1 : T'.heap = t.heap) (hS : va_S (knA G) s.heap H locs) (hLs : ∀ q ∈ Ls, knA G q.base) (hF : va_F (knA G) st0 t) : va_S (knA G) s.heap T'.heap (locs ++ Ls) := by
  obtain ⟨hz, hk⟩ := hF
  rw [h0] at hz hk
  refine ⟨Nat.le_trans hS.1 (by rw [e1]; exact hz), fun q h1 h2 => by rw [e1, hk q (Nat.lt_of_lt_of_le h1 hS.1) h2]; exact hS.2.1 q h1 h2, fun q hq => ?_⟩
  rcases List.mem_append.mp hq with h | h
  · exact hS.2.2 q h
  · exact hLs q h
theorem kn_pre {as : List Value} {H : Heap} {locs : List Loc} (K : knK G s s.heap) (hP : knP G μ H) (hS : va_S (knA G) s.heap H locs) : ∀ U : State, U.heap = H → s.WarmedH U.vm → knPc G as μ as.toArray U :=
  fun U hU hW => ⟨rfl, by rw [hU]; exact knK.warm hW K (by rw [hU]; exact hS.1) hS.2.1, by rw [hU]; exact hP⟩
/-- behind a call -/
theorem kn_run {H : Heap} {locs : List Loc} {ls : Array Slot} {st0 rest : List Value} {a : Array Value} {C : Prop} {r : Option Value} {μ' : knMem} (hr : va_Run p l e R s m args below meth c H locs cells slots 0 0 (F0 m pc ls st0) rest (knPo G C r μ' a) (knA G)) (hS : va_S (knA G) s.heap H locs) (hL : lv_has ls nL L)
    (kk : C → knJ G p l e R s m args below meth c nL cells slots Q (pc + 3) L (r.toList ++ rest) μ') : W p l e R s m args below meth c H locs cells slots Q (F0 m pc ls st0) := by
  intro T hT X9
  obtain ⟨v, st₀, t, T', Ls, h0, X', hLs, e1, e2, ⟨⟨hv, hC⟩, hP', hF⟩, stp⟩ := hr T hT X9
  cases hv
  obtain ⟨t2, a1, b1⟩ := kk hC T'.heap (locs ++ Ls) ls (by rw [e1]; exact hP') (kn_aft h0 e1 hS hLs hF) hL T' rfl X'
  exact ⟨t2, stp t2 a1, b1⟩
theorem kn_cb {R : Room} {y : MethodName} {b : ByteArray} {mL index n fr lo mc ms : Nat} {ret : Option FieldType} (X : knX p m c cc nL s args own) (hcode : Cond.code y b mL ret ∈ knGW) (hini : Cond.initialized y.cls ∈ knGW) (hl : Cond.methodLink own index y ∈ knGW)
    (hd : y.cls ≠ "java/lang/invoke/MethodHandle" ∧ y.cls ≠ "java/lang/invoke/VarHandle" ∧ (parseMethodDescriptor y.desc).map (fun d => d.parameters.length) = some n) (hR : fr + 1 ≤ R.frames ∧ 8 + (mL + 11) + lo ≤ R.locals) :
    CallB R s args own index y b mL ret (Cond.code y b mL ret :: knGW) { frames := fr, cells := mc, slots := ms, locals := lo } mc ms n :=
  callB_of n X.2.2.2.2 (fun w hw => (List.mem_cons.mp hw).elim (fun h => by rw [h]; exact knGW_good _ hcode) (fun h => knGW_good w h)) rfl rfl rfl (X.2.2.2.2 _ hini) (X.2.2.2.2 _ hl) hd hR
theorem kj_callV (X : knX p m c cc nL s args own) (K : knK G s s.heap) {y : MethodName} {b : ByteArray} {mL index n fr lo ci : Nat} {ret : Option FieldType} {o : Int} {As rest : List Value} {C : Prop} {r : Option Value} {μ' : knMem} {q : vw_C} {fs : List Value}
    (hM : knC0 G l y b mL ret fr lo (knO G o :: As) μ C r μ') (hw : knWv y b mL ret n) (hl : Cond.methodLink own index y ∈ knGW)
    (hR : fr + 1 ≤ R.frames ∧ 8 + (mL + 11) + lo ≤ R.locals)
    (ho : knIn o) (he : knEnt G (μ o) o = .inr (ci, fs)) (hc : knCl[ci]? = some q) (hq : q.1 = y.cls) (hn : As.length = n) (hW : (rest.map fun v => v.category).sum ≤ 8) (hcs : cells ≤ R.cells ∧ slots ≤ R.slots) (d : decode cc pc = .ok (.invokevirtual index, 3)) {st : List Value} (hst : st = As.reverse ++ knO G o :: rest)
    (kk : C → knJ G p l e R s m args below meth c nL cells slots Q (pc + 3) L (r.toList ++ rest) μ') : knJ G p l e R s m args below meth c nL cells slots Q pc L st μ := by
  intro H locs ls hP hS hL
  subst hst
  exact kn_run (va_runV (As := As) (rest := rest) ⟨X.1, X.2.1, X.2.2.1, X.2.2.2.1, X.2.2.2.2⟩ hM ⟨kn_cb X hw.1 hw.2.1 hl hw.2.2.2.2 hR, X.2.2.2.2 _ hw.2.2.1, X.2.2.2.2 _ hw.2.2.2.1⟩ ⟨knPc_blind G _ μ, by rw [← hq]; exact va_recv K.1 hP.2 hc (kn_cell ho he), kn_pre K hP hS⟩ rfl hn hL.1 rfl (lv_room hW) d hcs) hS hL kk
theorem kj_callS (X : knX p m c cc nL s args own) (K : knK G s s.heap) {y : MethodName} {b : ByteArray} {mL index n fr lo : Nat} {ret : Option FieldType} {As rest : List Value} {C : Prop} {r : Option Value} {μ' : knMem}
    (hM : knC0 G l y b mL ret fr lo As μ C r μ') (hw : knWk y b mL ret n) (hl : Cond.methodLink own index y ∈ knGW)
    (hR : fr + 1 ≤ R.frames ∧ 8 + (mL + 11) + lo ≤ R.locals)
    (hn : As.length = n) (hW : (rest.map fun v => v.category).sum ≤ 8) (hcs : cells ≤ R.cells ∧ slots ≤ R.slots) (d : decode cc pc = .ok (.invokestatic index, 3)) {st : List Value} (hst : st = As.reverse ++ rest)
    (kk : C → knJ G p l e R s m args below meth c nL cells slots Q (pc + 3) L (r.toList ++ rest) μ') : knJ G p l e R s m args below meth c nL cells slots Q pc L st μ := by
  intro H locs ls hP hS hL
  subst hst
  exact kn_run (va_runS (As := As) (rest := rest) ⟨X.1, X.2.1, X.2.2.1, X.2.2.2.1, X.2.2.2.2⟩ hM ⟨kn_cb X hw.1 hw.2.1 hl hw.2.2.2 hR, X.2.2.2.2 _ hw.2.2.1⟩ ⟨knPc_blind G _ μ, kn_pre K hP hS⟩ rfl hn hL.1 rfl (lv_room hW) d hcs) hS hL kk
/-- a private static method of a nest mate -/
theorem kj_callSN (X : knX p m c cc nL s args own) (K : knK G s s.heap) {y : MethodName} {b : ByteArray} {mL index n fr lo : Nat} {ret : Option FieldType} {host : String} {As rest : List Value} {C : Prop} {r : Option Value} {μ' : knMem}
    (hM : knC0 G l y b mL ret fr lo As μ C r μ') (hw : knWk y b mL ret n) (hl : Cond.methodLinkNest own index y host ∈ knBW)
    (hR : fr + 1 ≤ R.frames ∧ 8 + (mL + 11) + lo ≤ R.locals)
    (hn : As.length = n) (hW : (rest.map fun v => v.category).sum ≤ 8) (hcs : cells ≤ R.cells ∧ slots ≤ R.slots) (d : decode cc pc = .ok (.invokestatic index, 3)) {st : List Value} (hst : st = As.reverse ++ rest)
    (kk : C → knJ G p l e R s m args below meth c nL cells slots Q (pc + 3) L (r.toList ++ rest) μ') : knJ G p l e R s m args below meth c nL cells slots Q pc L st μ := by
  intro H locs ls hP hS hL
  subst hst
  exact kn_run (va_runSN (As := As) (rest := rest) ⟨X.1, X.2.1, X.2.2.1, X.2.2.2.1, X.2.2.2.2⟩ hM ⟨va_cnB n X.2.2.2.2 (fun w hm9 => (List.mem_cons.mp hm9).elim (fun h => by rw [h]; exact knGW_good _ hw.1) (fun h => knGW_good w h)) rfl rfl rfl (K.2.2.2.2.2.2.2.2.2.2.2.2.2 _ hl) (X.2.2.2.2 _ hw.2.1) hw.2.2.2 hR, X.2.2.2.2 _ hw.2.2.1, trivial⟩ ⟨knPc_blind G _ μ, kn_pre K hP hS⟩ rfl hn hL.1 rfl (lv_room hW) d hcs) hS hL kk
end KNC
