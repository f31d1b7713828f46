/-! Methods that throw. -/
section KNT
variable {G : knGT} {p : Program} {l : Launch} {e : Env} {R : Room} {s : State} {m : MethodId} {args : Array Value} {below : List Frame} {meth : Method} {c : Code} {nL cells slots : Nat} {Q : State → Prop}
variable {cc : ByteArray} {own : String} {pc : Nat} {L : List (Nat × Value)} {st : List Value} {μ : knMem}
/-- thrown over this method at pc: an object of class E -/
def knJX (G : knGT) (p : Program) (l : Launch) (e : Env) (R : Room) (s : State) (m : MethodId) (args : Array Value) (below : List Frame) (meth : Method) (c : Code) (nL cells slots : Nat) (Q : State → Prop) (E : String) (pc : Nat) (L : List (Nat × Value)) (rest : List Value) (μ : knMem) : Prop :=
  ∀ (H : Heap) (locs : List Loc) (ls : Array Slot) (q : Addr) (ce : Cell), knP G μ H → va_S (knA G) s.heap H locs → lv_has ls nL L → H[q]? = some ce → ce.vm = .none → s.vm.findClass E = some ce.cls → vx_W p l e R s m args below meth c H locs cells slots Q (F0 m pc ls rest) q
theorem kjx_ret {mc ms : Nat} {Qc : Array Value → State → Outcome → State → Prop} {XC : String → State → State → Prop} (hc : cells ≤ mc) (hs : slots ≤ ms) (k : knJ G p l e R s m args below meth c nL mc ms (MQ below Qc args s mc ms (knA G)) pc L st μ) : knJ G p l e R s m args below meth c nL cells slots (vx_MQ below Qc XC args s mc ms (knA G)) pc L st μ :=
  fun H locs ls hP hS hL => W.widen hc hs (vx_ret (k H locs ls hP hS hL))
theorem kn_mqx {mc ms : Nat} {C : Prop} {r : Option Value} {μ' : knMem} {pc : Nat} (k : knJ G p l e R s m args below meth c nL cells slots (MQ below (knPo G C r μ') args s mc ms (knA G)) pc L st μ) {x : Int} (hx : x = 0) : knJ G p l e R s m args below meth c nL cells slots (MQ below (knPx G C x r μ') args s mc ms (knA G)) pc L st μ := by
  intro H locs ls hP hS hL T hT X
  obtain ⟨t, a1, o, b1, b2, b3, b4⟩ := k H locs ls hP hS hL T hT X
  exact ⟨t, a1, o, b1, b2, ⟨hx, b3⟩, b4⟩
theorem kjx_iret (X : knX p m c cc nL s args own) {C : Prop} (hC : C) {v x : Int} {mc ms : Nat} (hx : x = 0) (hc : cells ≤ mc) (hs : slots ≤ ms) (hr : meth.sig.returnType = some .int) (d : decode cc pc = .ok (.ireturn, 1)) (hlocks : meth.locks = false) : knJ G p l e R s m args below meth c nL cells slots (vx_MQ below (knPx G C x (some (knV v)) μ) (knXC G x μ) args s mc ms (knA G)) pc L [knV v] μ :=
  kjx_ret hc hs (kn_mqx (kj_iret X hC hr d hlocks) hx)
theorem kjx_zret (X : knX p m c cc nL s args own) {C : Prop} (hC : C) {v x : Int} {ty : FieldType} {mc ms : Nat} (hx : x = 0) (hc : cells ≤ mc) (hs : slots ≤ ms) (hr : meth.sig.returnType = some ty) (hn : narrow ty (knV v) = knV v) (d : decode cc pc = .ok (.ireturn, 1)) (hlocks : meth.locks = false) : knJ G p l e R s m args below meth c nL cells slots (vx_MQ below (knPx G C x (some (knV v)) μ) (knXC G x μ) args s mc ms (knA G)) pc L [knV v] μ :=
  kjx_ret hc hs (kn_mqx (kj_zret X hC hr hn d hlocks) hx)
theorem kjx_vret (X : knX p m c cc nL s args own) {C : Prop} (hC : C) {x : Int} {mc ms : Nat} (hx : x = 0) (hc : cells ≤ mc) (hs : slots ≤ ms) (hr : meth.sig.returnType = none) (d : decode cc pc = .ok (.return_, 1)) (hlocks : meth.locks = false) : knJ G p l e R s m args below meth c nL cells slots (vx_MQ below (knPx G C x none μ) (knXC G x μ) args s mc ms (knA G)) pc L [] μ :=
  kjx_ret hc hs (kn_mqx (kj_vret X hC hr d hlocks) hx)
/-- not caught here -/
theorem kjx_out {C : Prop} {x : Int} {E : String} {r : Option Value} {rest : List Value} {mc ms : Nat} (hx : x ≠ 0) (hE : knExc x = some E) (hc : cells ≤ mc) (hs : slots ≤ ms) (hnx : ∀ z ∈ c.exceptionTable.toList, False) (hlocks : meth.locks = false) : knJX G p l e R s m args below meth c nL cells slots (vx_MQ below (knPx G C x r μ) (knXC G x μ) args s mc ms (knA G)) E pc L rest μ :=
  fun H locs ls q ce hP hS _ h1 h2 h3 => vx_out (fun z hz => absurd (hnx z hz) id) hlocks h1 h2 h3 (fun t ht _ => ⟨hx, hE, by rw [ht]; exact hP, hS.F ht⟩) hS.2.2 hc hs
def knWx (own : String) (ik ic : Nat) (cls : String) : List Cond := Cond.classLink own ik cls :: Cond.initialized cls :: vx_atS own ic cls ["java/lang/RuntimeException", "java/lang/Exception"]
/-- 'throw new E("text")' -/
theorem kjx_throw (X : knX p m c cc nL s args own) (K : knK G s s.heap) (hl : l.stackTraces = false) {C : Prop} {x : Int} {r : Option Value} {cls text : String} {ik is ic mc ms i : Nat} (hx : x ≠ 0) (hE : knExc x = some cls) (hcls : Bundle.fit cls = true)
    (hi : i < 23) (hown : own = RX12) (htx : knMk.getD i (0, "") = (is, text)) (hat : ∀ w ∈ knWx own ik ic cls, w ∈ knGW ∨ w ∈ knBW) (hgood : ∀ w ∈ knWx own ik ic cls, vx_ot w = true)
    (d0 : decode cc pc = .ok (.new ik, 3)) (d3 : decode cc (pc + 3) = .ok (.dup, 1)) (d4 : decode cc (pc + 4) = .ok (.ldc is, 2)) (d6 : decode cc (pc + 6) = .ok (.invokespecial ic, 3)) (d9 : decode cc (pc + 9) = .ok (.athrow, 1))
    (hnx : ∀ z ∈ c.exceptionTable.toList, False) (hR : 5 < R.frames ∧ 90 ≤ R.locals ∧ cells + 1 ≤ R.cells ∧ slots + 6 ≤ R.slots) (hlocks : meth.locks = false) (hc : cells + 1 ≤ mc) (hs : slots + 6 ≤ ms) :
    knJ G p l e R s m args below meth c nL cells slots (vx_MQ below (knPx G C x r μ) (knXC G x μ) args s mc ms (knA G)) pc L [] μ := by
  intro H locs ls hP hS hL
  have hw : ∀ w ∈ knWx own ik ic cls, w.before args s = true := by
    intro w h
    rcases hat w h with h1 | h1
    · exact X.2.2.2.2 w h1
    · exact va_Nw.use (by
        have hb := (List.mem_filter.mp h1).2
        cases w <;> first | rfl | (simp [knBad] at hb; done)) (K.2.2.2.2.2.2.2.2.2.2.2.2.2 w h1)
  have hstr : vk_R own is text (knMs G i) s := by
    have := K.2.2.2.2.2.2.2.2.2.2.2.2.1 i hi
    rw [htx, ← hown] at this
    exact this
  refine vx_throwS (own := own) (cls := cls) (text := text) (names := ["java/lang/RuntimeException", "java/lang/Exception"]) (A := knA G) (sa := knMs G i) X.1 X.2.1 hl X.2.2.2.1 hcls (by decide +kernel) (hw _ List.mem_cons_self) (hw _ (List.mem_cons_of_mem _ List.mem_cons_self)) hstr (fun w h => hw w (List.mem_cons_of_mem _ (List.mem_cons_of_mem _ h))) hgood K.2.2.2.2.2.2.2.2.2.2.2.1.1 K.2.2.2.2.2.2.2.2.2.2.2.1.2 hS (hL.1.trans X.2.2.1.symm) d0 d3 d4 d6 d9 (fun z hz => absurd (hnx z hz) id) hR.1 (by show _ + (13 * (2 + 1) + 43) ≤ _; have := hR.2.1; simp; omega) hR.2.2.1 hR.2.2.2 hlocks ?_ hS.2.2 hc hs
  intro t _ h1 h2
  refine ⟨hx, hE, ⟨hP.1, ?_⟩, Nat.le_trans hS.1 h1, fun q h3 h4 => by rw [h2 q (Nat.lt_of_lt_of_le h3 hS.1)]; exact hS.2.1 q h3 h4⟩
  exact va_P.kept hP.2 (fun k q hq => h2 q.1 ((hP.2 k q hq).lt))
theorem kn_runx {H : Heap} {locs : List Loc} {ls : Array Slot} {st0 rest : List Value} {a : Array Value} {C : Prop} {r : Option Value} {μ' : knMem} {x : Int} {mc ms : Nat} (hr : vx_Run p l e R s m args below meth c H locs cells slots mc ms (F0 m pc ls st0) rest (knPx G C x r μ' a) (knXC G x μ') (knA G)) (hS : va_S (knA G) s.heap H locs) (hL : lv_has ls nL L)
    (kk : x = 0 → C → knJ G p l e R s m args below meth c nL (cells + mc) (slots + ms) Q (pc + 3) L (r.toList ++ rest) μ') (kx : ∀ E : String, x ≠ 0 → knExc x = some E → knJX G p l e R s m args below meth c nL (cells + mc) (slots + ms) Q E pc L rest μ') : W p l e R s m args below meth c H locs cells slots Q (F0 m pc ls st0) := by
  intro T hT X9
  rcases hr T hT X9 with ⟨v, st₀, t, T', Ls, h0, X', hLs, e1, e2, ⟨hx, ⟨hv, hC⟩, hP', hF⟩, stp⟩ | ⟨q, st₀, t, T', Ls, E, ce, h0, X', hLs, e1, e2, ⟨hx, hE, hP', hF⟩, hce, hcv, hcl, stp⟩
  · cases hv
    obtain ⟨t2, a1, b1⟩ := kk hx hC T'.heap (locs ++ Ls) ls (by rw [e1]; exact hP') (kn_aft h0 e1 hS hLs hF) hL T' rfl X'
    exact ⟨t2, stp t2 a1, b1⟩
  · obtain ⟨t2, a1, b1⟩ := kx E hx hE T'.heap (locs ++ Ls) ls q ce (by rw [e1]; exact hP') (kn_aft h0 e1 hS hLs hF) hL (by rw [e1]; exact hce) hcv hcl T' rfl X'
    exact ⟨t2, stp.trans a1, b1⟩
theorem kjx_callV (X : knX p m c cc nL s args own) (K : knK G s s.heap) {y : MethodName} {b : ByteArray} {mL index n fr lo mc ms ci : Nat} {ret : Option FieldType} {o x : Int} {As rest : List Value} {C : Prop} {r : Option Value} {μ' : knMem} {q : vw_C} {fs : List Value}
    (hM : knCx G l y b mL ret fr lo mc ms (knO G o :: As) μ C x r μ') (hw : knWv y b mL ret n) (hl : Cond.methodLink own index y ∈ knGW)
    (hR : fr + 1 ≤ R.frames ∧ 8 + (mL + 11) + lo ≤ R.locals)
    (ho : knIn o) (he : knEnt G (μ o) o = .inr (ci, fs)) (hc : knCl[ci]? = some q) (hq : q.1 = y.cls) (hn : As.length = n) (hW : (rest.map fun v => v.category).sum ≤ 8) (hcs : cells + mc ≤ R.cells ∧ slots + ms ≤ R.slots) (d : decode cc pc = .ok (.invokevirtual index, 3)) {st : List Value} (hst : st = As.reverse ++ knO G o :: rest)
    (kk : x = 0 → C → knJ G p l e R s m args below meth c nL (cells + mc) (slots + ms) Q (pc + 3) L (r.toList ++ rest) μ') (kx : ∀ E : String, x ≠ 0 → knExc x = some E → knJX G p l e R s m args below meth c nL (cells + mc) (slots + ms) Q E pc L rest μ') : knJ G p l e R s m args below meth c nL cells slots Q pc L st μ := by
  intro H locs ls hP hS hL
  subst hst
  exact kn_runx (vx_runV (As := As) (rest := rest) ⟨X.1, X.2.1, X.2.2.1, X.2.2.2.1, X.2.2.2.2⟩ hM ⟨kn_cb X hw.1 hw.2.1 hl hw.2.2.2.2 hR, X.2.2.2.2 _ hw.2.2.1, X.2.2.2.2 _ hw.2.2.2.1⟩ ⟨knPc_blind G _ μ, by rw [← hq]; exact va_recv K.1 hP.2 hc (kn_cell ho he), kn_pre K hP hS⟩ rfl hn hL.1 rfl (lv_room hW) d hcs) hS hL kk kx
theorem kjx_callS (X : knX p m c cc nL s args own) (K : knK G s s.heap) {y : MethodName} {b : ByteArray} {mL index n fr lo mc ms : Nat} {ret : Option FieldType} {x : Int} {As rest : List Value} {C : Prop} {r : Option Value} {μ' : knMem}
    (hM : knCx G l y b mL ret fr lo mc ms As μ C x r μ') (hw : knWk y b mL ret n) (hl : Cond.methodLink own index y ∈ knGW)
    (hR : fr + 1 ≤ R.frames ∧ 8 + (mL + 11) + lo ≤ R.locals)
    (hn : As.length = n) (hW : (rest.map fun v => v.category).sum ≤ 8) (hcs : cells + mc ≤ R.cells ∧ slots + ms ≤ R.slots) (d : decode cc pc = .ok (.invokestatic index, 3)) {st : List Value} (hst : st = As.reverse ++ rest)
    (kk : x = 0 → C → knJ G p l e R s m args below meth c nL (cells + mc) (slots + ms) Q (pc + 3) L (r.toList ++ rest) μ') (kx : ∀ E : String, x ≠ 0 → knExc x = some E → knJX G p l e R s m args below meth c nL (cells + mc) (slots + ms) Q E pc L rest μ') : knJ G p l e R s m args below meth c nL cells slots Q pc L st μ := by
  intro H locs ls hP hS hL
  subst hst
  exact kn_runx (vx_runS (As := As) (rest := rest) ⟨X.1, X.2.1, X.2.2.1, X.2.2.2.1, X.2.2.2.2⟩ hM ⟨kn_cb X hw.1 hw.2.1 hl hw.2.2.2 hR, X.2.2.2.2 _ hw.2.2.1⟩ ⟨knPc_blind G _ μ, kn_pre K hP hS⟩ rfl hn hL.1 rfl (lv_room hW) d hcs) hS hL kk kx
end KNT
