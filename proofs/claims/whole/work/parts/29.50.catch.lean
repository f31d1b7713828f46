/-! Methods with a table of their own (the law's): they catch what they call throws, and return. -/
def knCh (G : knGT) (l : Launch) (y : MethodName) (b : ByteArray) (mL : Nat) (ret : Option FieldType) (hh : List (Nat × Nat × Nat × Nat)) (fr lo mc ms : Nat) (as : List Value) (μ : knMem) (C : Prop) (r : Option Value) (μ' : knMem) : Prop :=
  Met l y (Cond.codeWith y b mL ret hh :: knGW) { frames := fr, cells := mc, slots := ms, locals := lo } (knPc G as μ) (knPo G C r μ') mc ms (knA G)
theorem kn_ofJh {G : knGT} {l : Launch} {y : MethodName} {b : ByteArray} {mL : Nat} {ret : Option FieldType} {hh : List (Nat × Nat × Nat × Nat)} {fr lo mc ms : Nat} {as : List Value} {μ : knMem} {C : Prop} {r : Option Value} {μ' : knMem} {L : List (Nat × Value)} (hy : plainName y.cls = true) (hlen : (lg_sl as).length ≤ mL) (hL : lv_args 0 as = L)
    (body : ∀ (p : Program) (e : Env) (s : State) (m : MethodId) (args : Array Value) (below : List Frame) (meth : Method) (c : Code), knX p m c b mL s args y.cls → knK G s s.heap → meth.sig.returnType = ret → meth.locks = false → c.exceptionTable.toList = tableOf hh →
      knJ G p l e { frames := fr, cells := mc, slots := ms, locals := lo } s m args below meth c mL 0 0 (MQ below (knPo G C r μ') args s mc ms (knA G)) 0 L [] μ) : knCh G l y b mL ret hh fr lo mc ms as μ C r μ' := by
  refine va_MetW (cc := b) (maxL := mL) (ret := ret) (hh := hh) hy rfl ?_
  intro p e s m args below meth c s₁ B hml hv
  obtain ⟨rfl, hK, hP⟩ := hv
  have hts := atoms_spec (ws := Cond.codeWith y b mL ret hh :: knGW) B.pre
  have hex := vx_table (x := y) B (hts _ List.mem_cons_self)
  rw [lg_entry_eq]
  have hl := lv_entry as (n := mL) hlen
  rw [hL] at hl
  exact body p e s m as.toArray below meth c ⟨B.exec, B.bytes, hml, findClass_of_methodNamed B.named, fun w hw => hts w (List.mem_cons_of_mem _ hw)⟩ hK B.returns B.notSynchronized hex s.heap [] _ hP va_S.rf hl
def knWh (y : MethodName) (b : ByteArray) (mL : Nat) (ret : Option FieldType) (hh : List (Nat × Nat × Nat × Nat)) (n : Nat) : Prop := Cond.codeWith y b mL ret hh ∈ knGW ∧ Cond.initialized y.cls ∈ knGW ∧ Cond.static y ∈ knGW ∧ (y.cls ≠ "java/lang/invoke/MethodHandle" ∧ y.cls ≠ "java/lang/invoke/VarHandle" ∧ (parseMethodDescriptor y.desc).map (fun d => d.parameters.length) = some n)
theorem knE_1 : knExc 1 = some (knExN.getD 0 "") := rfl
theorem knE_2 : knExc 2 = some (knExN.getD 1 "") := rfl
theorem knE_3 : knExc 3 = some (knExN.getD 2 "") := rfl
theorem knE_4 : knExc 4 = some (knExN.getD 3 "") := rfl
theorem knE_5 : knExc 5 = some (knExN.getD 4 "") := rfl
theorem knE_6 : knExc 6 = some (knExN.getD 5 "") := rfl
/-- rows ahead that name other classes -/
def knPs (own : String) (j : Nat) (pre : List (Nat × Nat × Nat × Nat)) : Prop := ∀ z ∈ pre, z.2.2.2 ≠ 0 ∧ ∃ k : Nat, k < 6 ∧ j ≠ k ∧ Cond.classLink own z.2.2.2 (knExN.getD k "") ∈ knGW
theorem knPs_0 {own : String} {j : Nat} : knPs own j [] := fun z hz => by cases hz
theorem knPs_1 {own : String} {j a b h ct : Nat} {l : List (Nat × Nat × Nat × Nat)} (k : Nat) (h0 : ct ≠ 0 ∧ k < 6 ∧ j ≠ k) (hl : Cond.classLink own ct (knExN.getD k "") ∈ knGW) (hr : knPs own j l) : knPs own j ((a, b, h, ct) :: l) := by
  intro z hz
  rcases List.mem_cons.mp hz with rfl | hz
  · exact ⟨h0.1, k, h0.2.1, h0.2.2, hl⟩
  · exact hr z hz
section KNH
variable {G : knGT} {p : Program} {l : Launch} {e : Env} {R : Room} {s : State} {m : MethodId} {args : Array Value} {below : List Frame} {meth : Method} {c : Code} {nL cells slots : Nat} {Q : State → Prop}
variable {cc : ByteArray} {own : String} {pc : Nat} {L : List (Nat × Value)} {st : List Value} {μ : knMem}
theorem kjx_catch (X : knX p m c cc nL s args own) (K : knK G s s.heap) {hh : List (Nat × Nat × Nat × Nat)} (hex : c.exceptionTable.toList = tableOf hh) {E : String} {rest : List Value} {x : Int} (j : Nat) (hj : j < 6) {y : Int} (hx : x = y) (hE : knExc x = some E) (hy : knExc y = some (knExN.getD j ""))
    (pre suf : List (Nat × Nat × Nat × Nat)) {a b hp ct : Nat} (hs : hh = pre ++ (a, b, hp, ct) :: suf) (hin : a ≤ pc ∧ pc < b ∧ ct ≠ 0) (hpre : knPs own j pre) (hlink : Cond.classLink own ct (knExN.getD j "") ∈ knGW) (hcast : Cond.castable (knExN.getD j "") (knExN.getD j "") ∈ knBW)
    (kk : ∀ q : Nat, knJ G p l e R s m args below meth c nL cells slots Q hp L [.ref q] μ) : knJX G p l e R s m args below meth c nL cells slots Q E pc L rest μ := by
  intro H locs ls q ce hP hS hL h1 h2 h3
  subst hx
  have hEE : E = knExN.getD j "" := (Option.some.inj (hy.symm.trans hE)).symm
  subst hEE
  refine vx_catch (name := knExN.getD j "") X.2.2.2.1 (tableOf pre) ⟨a, b, hp, ct⟩ (tableOf suf) (by rw [hex, hs]; simp [tableOf]) ?_ (by simp [covers, hin.1, hin.2.1]) hin.2.2 (X.2.2.2.2 _ hlink) ?_ h1 h2 h3 (kk q H locs ls hP hS hL)
  · intro z hz
    right
    unfold tableOf at hz
    obtain ⟨w, hw, rfl⟩ := List.mem_map.mp hz
    obtain ⟨h4, k, h5, h6, h7⟩ := hpre w hw
    exact ⟨h4, _, X.2.2.2.2 _ h7, K.2.2.2.2.2.2.2.2.2.2.1.2.2 j k hj h5 h6⟩
  · exact va_Nw.use rfl (K.2.2.2.2.2.2.2.2.2.2.2.2.2 _ hcast)
theorem kn_runh {H : Heap} {locs : List Loc} {ls : Array Slot} {st0 rest : List Value} {a : Array Value} {C : Prop} {r : Option Value} {μ' : knMem} {mc ms : Nat} (hr : va_Run p l e R s m args below meth c H locs cells slots mc ms (F0 m pc ls st0) rest (knPo G C r μ' a) (knA G)) (hS : va_S (knA G) s.heap H locs) (hL : lv_has ls nL L)
    (kk : C → knJ G p l e R s m args below meth c nL (cells + mc) (slots + ms) Q (pc + 3) L (r.toList ++ rest) μ') : W p l e R s m args below meth c H locs cells slots Q (F0 m pc ls st0) := by
  intro T hT X9
  obtain ⟨v, st₀, t, T', Ls, h0, X', hLs, e1, e2, ⟨⟨hv, hC⟩, hP', hF⟩, stp⟩ := hr T hT X9
  cases hv
  obtain ⟨t2, a1, b1⟩ := kk hC T'.heap (locs ++ Ls) ls (by rw [e1]; exact hP') (kn_aft h0 e1 hS hLs hF) hL T' rfl X'
  exact ⟨t2, stp t2 a1, b1⟩
theorem kj_callSH (X : knX p m c cc nL s args own) (K : knK G s s.heap) {y : MethodName} {b : ByteArray} {mL index n fr lo mc ms : Nat} {ret : Option FieldType} {hh : List (Nat × Nat × Nat × Nat)} {As rest : List Value} {C : Prop} {r : Option Value} {μ' : knMem}
    (hM : knCh G l y b mL ret hh fr lo mc ms As μ C r μ') (hw : knWh y b mL ret hh n) (hl : Cond.methodLink own index y ∈ knGW)
    (hR : fr + 1 ≤ R.frames ∧ 8 + (mL + 11) + lo ≤ R.locals)
    (hn : As.length = n) (hW : (rest.map fun v => v.category).sum ≤ 8) (hcs : cells + mc ≤ R.cells ∧ slots + ms ≤ R.slots) (d : decode cc pc = .ok (.invokestatic index, 3)) {st : List Value} (hst : st = As.reverse ++ rest)
    (kk : C → knJ G p l e R s m args below meth c nL (cells + mc) (slots + ms) Q (pc + 3) L (r.toList ++ rest) μ') : knJ G p l e R s m args below meth c nL cells slots Q pc L st μ := by
  intro H locs ls hP hS hL
  subst hst
  refine kn_runh (vx_runSW (As := As) (rest := rest) (Ts := knGW) (bytes := b) (maxL := mL) (ret := ret) (hh := hh) (n := n) ⟨X.1, X.2.1, X.2.2.1, X.2.2.2.1, X.2.2.2.2⟩ hM ⟨⟨rfl, rfl, hR.1, hR.2, pay_in X.2.2.2.2 (fun w hw9 => (List.mem_cons.mp hw9).elim (fun h => by rw [h]; exact knGW_good _ hw.1) (fun h => knGW_good w h)), List.mem_cons_self⟩, X.2.2.2.2 _ hw.1, X.2.2.2.2 _ hw.2.1, ⟨hw.2.2.2.1, hw.2.2.2.2.1⟩, ?_, X.2.2.2.2 _ hl, X.2.2.2.2 _ hw.2.2.1⟩ ⟨knPc_blind G _ μ, kn_pre K hP hS⟩ rfl hn hL.1 rfl (lv_room hW) d hcs) hS hL kk
  intro sig h
  have h2 := hw.2.2.2.2.2
  rw [h] at h2
  exact (Option.some.inj h2).symm
end KNH
