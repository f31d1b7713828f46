/-! .. arrays of references, calls of constructors. -/
theorem kiAOA {ty : FieldType} {u U : State} (hvm : u.vm.Alike U.vm) (h : va_AOA ty u) : va_AOA ty U :=
  (show (Cond.arrayOver (.array ty)).before #[] (u.setVm U.vm) = true by rw [Cond.arrayOver_setVmC hvm]; exact h)
theorem kiK.warm {G : knGT} {s U : State} (hW : s.WarmedH U.vm) (h : kiK G s) (hz : knN0 G ≤ U.heap.size) : kiK G U :=
  ⟨va_K.moved hW.alike h.1, fun i hi => by rw [hW.alike.findClass]; exact h.2.1 i hi, va_AO.moved hW.alike h.2.2.1, kiAOA hW.alike h.2.2.2.1, hz, knBW_warm hW h.2.2.2.2.2⟩
def kiPc (G : knGT) (a : Nat) (cs : List va_E) : Array Value → State → Prop := fun v U => v = #[.ref (knN0 G + a)] ∧ kiK G U ∧ kiH G cs U.heap
def kiPo (G : knGT) (cs : List va_E) : Array Value → State → Outcome → State → Prop := fun _ st o t => o = .returned none ∧ kiH G cs t.heap ∧ va_F (knA G) st t
theorem kiPc_blind (G : knGT) (a : Nat) (cs : List va_E) : FrameBlind (kiPc G a cs) := fun a U g mk ⟨h1, h2, h3⟩ => ⟨h1, kiK.warm (s := U) (U := U.calling g mk a) (State.WarmedH.refl U) h2 h2.2.2.2.2.1, h3⟩
/-- a constructor: the cell a of cs becomes an object, with the cells of cs' beside it -/
def kiC (G : knGT) (l : Launch) (y : MethodName) (b : ByteArray) (mL fr lo mc ms a : Nat) (cs cs' : List va_E) : Prop :=
  Met l y (Cond.code y b mL none :: knGW) { frames := fr, cells := mc, slots := ms, locals := lo } (kiPc G a cs) (kiPo G cs') mc ms (knA G)
theorem ki_ofJ {G : knGT} {l : Launch} {y : MethodName} {b : ByteArray} {mL fr lo mc ms a : Nat} {cs cs' : List va_E} {L : List (Nat × Value)} (hy : plainName y.cls = true) (hlen : 1 ≤ mL) (hL : [(0, Value.ref (knN0 G + a))] = L)
    (body : ∀ (p : Program) (e : Env) (s : State) (m : MethodId) (args : Array Value) (below : List Frame) (meth : Method) (c : Code), knX p m c b mL s args y.cls → kiK G s → meth.sig.returnType = none → meth.locks = false → meth.name = y.name →
      kiJ G p l e { frames := fr, cells := mc, slots := ms, locals := lo } s m args below meth c mL 0 0 (MQ below (kiPo G cs') args s mc ms (knA G)) 0 L [] cs) : kiC G l y b mL fr lo mc ms a cs cs' := by
  refine kn_metF (cc := b) (maxL := mL) (ret := none) (plainFor_of_name hy) rfl ?_
  intro p e s m args below meth c s₁ B hml hv
  obtain ⟨rfl, hK, hP⟩ := hv
  have hts := atoms_spec (ws := Cond.code y b mL none :: knGW) B.pre
  rw [lg_entry_eq]
  have hl := lv_entry [Value.ref (knN0 G + a)] (n := mL) hlen
  rw [show lv_args 0 [Value.ref (knN0 G + a)] = L from hL] at hl
  exact body p e s m [Value.ref (knN0 G + a)].toArray below meth c ⟨B.exec, B.bytes, hml, findClass_of_methodNamed B.named, fun w hw => hts w (List.mem_cons_of_mem _ hw)⟩ hK B.returns B.notSynchronized (name_of_methodNamed B.named B.method).1 s.heap [] _ hP va_S.rf hl
section KNI
variable {G : knGT} {p : Program} {l : Launch} {e : Env} {R : Room} {s : State} {m : MethodId} {args : Array Value} {below : List Frame} {meth : Method} {c : Code} {nL cells slots : Nat} {Q : State → Prop}
variable {cc : ByteArray} {own : String} {pc : Nat} {L : List (Nat × Value)} {st : List Value} {cs : List va_E}
theorem ki_vret (X : knX p m c cc nL s args own) (hr : meth.sig.returnType = none) (d : decode cc pc = .ok (.return_, 1)) (hlocks : meth.locks = false) : kiJ G p l e R s m args below meth c nL cells slots (MQ below (kiPo G cs) args s cells slots (knA G)) pc L [] cs :=
  fun H locs ls hP hS hL => W.vret X.1 X.2.1 hr (fun t ht _ => ⟨rfl, by rw [ht]; exact hP, hS.F ht⟩) hS.2.2 d hlocks
theorem ki_get (X : knX p m c cc nL s args own) (KI : kiK G s) {ref C : String} {T : u_T} {N ci index q0 : Nat} {fs : List Value} (hin : ∀ w ∈ u_ws C T N, w ∈ knGW) (he : cs[q0]? = some (.inr (ci, fs))) (hc : knCl[ci]? = some (C, T, N)) (k : Nat) (hk : k < N) (hlink : Cond.fieldLink own index ref (T k).2.1 (T k).2.2.1 ∈ knGW) (href : (T k).1 = ref) {v : Value} (hv : fs[k]? = some v) (d : decode cc pc = .ok (.getfield index, 3))
    (kk : kiJ G p l e R s m args below meth c nL cells slots Q (pc + 3) L (v :: st) cs) : kiJ G p l e R s m args below meth c nL cells slots Q pc L (.ref (knN0 G + q0) :: st) cs :=
  fun H locs ls hP hS hL => va_get X.1 X.2.1 X.2.2.2.2 hin X.2.2.2.1 KI.1 hP.2 q0 (by rw [kiW_at, he]; rfl) hc k hk (X.2.2.2.2 _ hlink) (fun _ h => by rw [← href]; exact h) hv d (kk H locs ls hP hS hL)
theorem ki_obj (X : knX p m c cc nL s args own) {a : Nat} {idx : Nat} (hl : Cond.methodLink own idx Lib.objectInit ∈ knGW) (hi : Cond.instanceMethod Lib.objectInit ∈ knGW) (hc : Cond.code Lib.objectInit { data := #[177] } 1 none ∈ knGW) (hR : 1 ≤ R.frames ∧ (st.map fun v => v.category).sum + 12 ≤ R.locals) (d : decode cc pc = .ok (.invokespecial idx, 3))
    (kk : kiJ G p l e R s m args below meth c nL cells slots Q (pc + 3) L st cs) : kiJ G p l e R s m args below meth c nL cells slots Q pc L (.ref a :: st) cs :=
  fun H locs ls hP hS hL => W.objInit X.1 X.2.1 X.2.2.2.1 (X.2.2.2.2 _ hl) (X.2.2.2.2 _ hi) (X.2.2.2.2 _ hc) rfl (hL.1.trans X.2.2.1.symm) rfl d hR.1 (by have := hR.2; show 2 * 0 + _ + 12 ≤ _; omega) (kk H locs ls hP hS hL)
theorem ki_anew (X : knX p m c cc nL s args own) (KI : kiK G s) {index : Nat} (hcl : Cond.classLink own index "KnotLaboratory$State" ∈ knGW) {n : Int} {N : Nat} (hn : n = (N : Int)) (hN : N ≤ 1000) (hcs : cells + 1 ≤ R.cells ∧ slots + N ≤ R.slots) (d : decode cc pc = .ok (.anewarray index, 3))
    (kk : kiJ G p l e R s m args below meth c nL (cells + 1) (slots + N) Q (pc + 3) L (.ref (knN0 G + cs.length) :: st) (cs ++ [.inl (knCy G 3, N, .inr (.inr (.inr (.inr (fun _ => none)))))])) : kiJ G p l e R s m args below meth c nL cells slots Q pc L (knV n :: st) cs := by
  intro H locs ls hP hS hL
  subst hn
  have hk := kiClamp hN
  refine W.anew X.1 X.2.1 X.2.2.2.1 (X.2.2.2.2 _ hcl) (va_AO.use KI.2.2.1) rfl d rfl hk.1 (by rw [hk.2]; omega) hcs.1 (by rw [hk.2]; exact hcs.2) (fun cA kA comp f1 f2 f3 f4 => ?_)
  rw [hk.2]
  have hcA : cA = knCy G 3 := Option.some.inj (f1.symm.trans (KI.2.1 3 (by decide)))
  subst hcA
  generalize hH1 : H.push ({ cls := knCy G 3, slots := Array.replicate N .null, vm := .none } : Cell) = H1
  have z1 : H1.size = H.size + 1 := by rw [← hH1, Array.size_push]
  have e1 : H1[H.size]? = some (arrV (knCy G 3) N (fun _ => .null)) := by rw [← hH1, Array.getElem?_push_size, ← arrV_new]
  have o1 : ∀ q : Nat, q < H.size → H1[q]? = H[q]? := fun q hq => by rw [← hH1, Array.getElem?_push, if_neg (Nat.ne_of_lt hq)]
  rw [hP.1]
  refine kk H1 locs ls (hP.push z1 o1 ?_) (kiS hS (by omega) o1) hL
  show H1[_]? = some (vp_cell _ _)
  rw [← hP.1, e1, vp_cell_q]
  rfl
theorem ki_aast (X : knX p m c cc nL s args own) (KI : kiK G s) {q0 qk ci : Nat} {r : vw_C} {N : Nat} {vs : List Value} {f : Nat → Option Nat} (he : cs[q0]? = some (.inl (knCy G 3, N, .inr (.inr (.inr (.inr f)))))) (hv : cs[qk]? = some (.inr (ci, vs))) (hc : knCl[ci]? = some r) (hr : r.1 = "KnotLaboratory$State") {i : Int} (hi : knC i) (hin : 0 ≤ i ∧ i < (N : Int)) (d : decode cc pc = .ok (.aastore, 1))
    (kk : kiJ G p l e R s m args below meth c nL cells slots Q (pc + 1) L st (cs.set q0 (.inl (knCy G 3, N, .inr (.inr (.inr (.inr (va_up f i.toNat (some (knN0 G + qk)))))))))) : kiJ G p l e R s m args below meth c nL cells slots Q pc L (.ref (knN0 G + qk) :: knV i :: .ref (knN0 G + q0) :: st) cs := by
  intro H locs ls hP hS hL
  obtain ⟨r', hr', cellV, g1, g2, g3, -⟩ := hP.at' hv
  have hcls := (KI.1.1 ci r hc).2
  obtain ⟨kA, comp, k1, k2, k3, -⟩ := (KI.1.2 3 (knCy G 3, .object "KnotLaboratory$State") rfl).2
  rw [← hr] at k3
  have hcomp : comp = G.1.1 ci := Option.some.inj (k3.symm.trans hcls.1)
  subst hcomp
  obtain ⟨kC, hkC, -⟩ := hcls.2
  have h1 := kn_in hi hin.1 hin.2
  refine W.aast X.1 X.2.1 (hP.at' he) (fun q h => by cases h) (fun h => by cases h) k1 k2 rfl hkC ⟨fun q => h1 (Or.inl q), by show _ < (arrV _ _ _).slots.size; rw [arrV_size]; exact Nat.not_le.mp fun q => h1 (Or.inr q)⟩ g1 (fun q h => by rw [g3] at h; cases h) (by rw [g2]; exact hkC) (by rw [g2]; exact va_assign hcls) rfl rfl d (fun H1 e1 z oq => ?_)
  rw [kn_clamp hi] at e1 ⊢
  refine kk H1 _ ls (hP.set he z oq ?_) (hS.put z oq (show knN0 G ≤ _ by omega)) hL
  show H1[_]? = some (vp_cell _ _)
  rw [e1, vp_cell_q, vp_cell_q, arrV_store]
  congr 2
  funext q
  by_cases hq : q = i.toNat
  · subst hq
    simp [updV, va_up, va_rf]
  · simp [updV, va_up, va_rf, hq]
end KNI
