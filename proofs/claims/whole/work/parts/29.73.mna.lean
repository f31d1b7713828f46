/-! .. arrays of arrays; calls of constructors. -/
theorem kiH.app {G : knGT} {cs xs : List va_E} {H H1 : Heap} (h : kiH G cs H) (z : H1.size = H.size + xs.length) (o : ∀ q : Nat, q < H.size → H1[q]? = H[q]?) (e : ∀ (k : Nat) (x : va_E), xs[k]? = some x → va_at G.1 knCl (knN0 G + cs.length + k, x) H1) : kiH G (cs ++ xs) H1 := by
  refine ⟨by rw [z, h.1]; simp; omega, fun k q hq => ?_⟩
  obtain ⟨h1, h2⟩ := kiW_inv hq
  obtain ⟨q1, q2⟩ := q
  dsimp only at h1 h2
  subst h1
  by_cases hl : k < cs.length
  · rw [List.getElem?_append_left hl] at h2
    have hP := h.2.kept (H1 := H1) (fun k x hx => o x.1 ((h.2 k x hx).lt))
    exact hP k _ (by rw [kiW_at, h2]; rfl)
  · rw [List.getElem?_append_right (by omega)] at h2
    have := e _ _ h2
    rw [show knN0 G + cs.length + (k - cs.length) = knN0 G + k by omega] at this
    exact this
section KNI
variable {G : knGT} {p : Program} {l : Launch} {e : Env} {R : Room} {s : State} {m : MethodId} {args : Array Value} {below : List Frame} {meth : Method} {c : Code} {nL cells slots : Nat} {Q : State → Prop}
variable {cc : ByteArray} {own : String} {pc : Nat} {L : List (Nat × Value)} {st : List Value} {cs : List va_E}
theorem ki_mna (X : knX p m c cc nL s args own) (KI : kiK G s) {index : Nat} (hcl : Cond.classLink own index ("[" ++ (FieldType.array .int).toString) ∈ knGW) (harr : Cond.arrayClass .int ∈ knGW) {n k : Int} {N K : Nat} (hn : n = (N : Int)) (hk : k = (K : Int)) (hN : N ≤ 1000) (hK : K ≤ 1000) (hcs : cells + (1 + N) ≤ R.cells ∧ slots + (N + N * K) ≤ R.slots) (d : decode cc pc = .ok (.multianewarray index 2, 4))
    (kk : kiJ G p l e R s m args below meth c nL (cells + 1 + N) (slots + N + N * K) Q (pc + 4) L (.ref (knN0 G + cs.length) :: st) (cs ++ (.inl (knCy G 4, N, .inr (.inr (.inr (.inr (fun i => if i < N then some (knN0 G + cs.length + 1 + i) else none))))) :: List.replicate N (.inl (knCy G 0, K, .inl (fun _ => 0)))))) : kiJ G p l e R s m args below meth c nL cells slots Q pc L (knV k :: knV n :: st) cs := by
  intro H locs ls hP hS hL
  subst hn hk
  have h1 := kiClamp hN
  have h2 := kiClamp hK
  intro T hT Xs
  obtain ⟨vm₁, cA, comp, -, fA, fC, -, -, X', step⟩ := Xs.multianewarray2F X.1 X.2.2.2.1 (X.2.2.2.2 _ hcl) (va_AOA.use KI.2.2.2.1) (X.2.2.2.2 _ harr) (g := F0 m pc ls (knV (K : Int) :: knV (N : Int) :: st)) rfl (by rw [X.2.1]; exact d) rfl h1.1 h2.1 (by rw [h1.2]; omega) (by rw [h2.2]; show K * 4 ≤ _; omega) (by rw [h2.2]; omega) rfl rfl (by rw [h1.2]; exact hcs.1) (by rw [h1.2, h2.2]; exact hcs.2)
  rw [h1.2, h2.2] at X' step
  have ecA : cA = knCy G 4 := Option.some.inj (fA.symm.trans (KI.2.1 4 (by decide)))
  have eco : comp = knCy G 0 := Option.some.inj (fC.symm.trans (KI.2.1 0 (by decide)))
  subst ecA eco
  have hTh : (T.setVm vm₁).heap = H := hT
  obtain ⟨f1, f2, -, -⟩ := Jvm.Free.Multi.fill_facts (T.setVm vm₁) (knCy G 4) (knCy G 0) N K (defaultValue .int) N
  have f3 := fun (a : Nat) (ha : a < H.size) => Jvm.Free.Multi.fill_old (T.setVm vm₁) (knCy G 4) (knCy G 0) N K (defaultValue .int) (a := a) (by rw [hTh]; exact ha) N
  have f4 := fun (j : Nat) (hj : j < N) => Jvm.Free.Multi.fill_inner (T.setVm vm₁) (knCy G 4) (knCy G 0) N K (defaultValue .int) N j hj
  generalize hF : Jvm.Free.Multi.fill (T.setVm vm₁) (knCy G 4) (knCy G 0) N K (defaultValue .int) N = F at X' step f1 f2 f3 f4
  rw [hTh] at f1 f2 f3 f4
  have e4 : (g : JFrame) → True := fun _ => trivial
  have hTs : T.heap.size = knN0 G + cs.length := by rw [hT]; exact hP.1
  rw [hTs] at step
  have hQ : kiH G (cs ++ (.inl (knCy G 4, N, .inr (.inr (.inr (.inr (fun i => if i < N then some (knN0 G + cs.length + 1 + i) else none))))) :: List.replicate N (.inl (knCy G 0, K, .inl (fun _ => 0))))) F.heap := by
    refine hP.app (by rw [f1]; simp; omega) (fun q hq => f3 q hq) (fun j x hx => ?_)
    cases j with
    | zero =>
      cases hx
      show F.heap[_]? = some (vp_cell _ _)
      rw [vp_cell_q, Nat.add_zero, ← hP.1, f2, vr_outer]
    | succ j =>
      have hj : j < N := by
        have := (List.getElem?_eq_some_iff.mp hx).1
        simpa using this
      have hx2 : x = .inl (knCy G 0, K, .inl (fun _ => 0)) := by
        rw [List.getElem?_cons_succ, List.getElem?_replicate, if_pos hj] at hx
        exact (Option.some.inj hx).symm
      subst hx2
      show F.heap[_]? = some (vp_cell _ _)
      have := f4 j hj
      rw [show knN0 G + cs.length + (j + 1) = H.size + 1 + j by rw [hP.1]; omega, this]
      congr 1
      show ({ cls := knCy G 0, slots := Array.replicate K (.int 0), vm := .none } : Cell) = _
      rw [arrV_new]
      rfl
  obtain ⟨t, a1, b1⟩ := kk F.heap locs ls hQ (kiS hS (by rw [f1]; omega) (fun q hq => f3 q hq)) hL F rfl X'
  exact ⟨t, step _ a1, b1⟩
theorem ki_aft {H : Heap} {locs Ls : List Loc} {st0 t T' : State} (h0 : st0.heap = H) (e1 : T'.heap = t.heap) (hS : va_S (knA G) s.heap H locs) (hLs : ∀ q ∈ Ls, knA G q.base) (hF : va_F (knA G) st0 t) : va_S (knA G) s.heap T'.heap (locs ++ Ls) := kn_aft h0 e1 hS hLs hF
theorem ki_run {H : Heap} {locs : List Loc} {ls : Array Slot} {st0 rest : List Value} {a : Array Value} {cs' : List va_E} {mc ms : Nat} (hr : va_Run p l e R s m args below meth c H locs cells slots mc ms (F0 m pc ls st0) rest (kiPo G cs' a) (knA G)) (hS : va_S (knA G) s.heap H locs) (hL : lv_has ls nL L)
    (kk : kiJ G p l e R s m args below meth c nL (cells + mc) (slots + ms) Q (pc + 3) L rest cs') : W p l e R s m args below meth c H locs cells slots Q (F0 m pc ls st0) := by
  intro T hT X9
  obtain ⟨v, st₀, t, T', Ls, h0, X', hLs, e1, e2, ⟨hv, hP', hF⟩, stp⟩ := hr T hT X9
  cases hv
  obtain ⟨t2, a1, b1⟩ := kk T'.heap (locs ++ Ls) ls (by rw [e1]; exact hP') (kn_aft h0 e1 hS hLs hF) hL T' rfl X'
  exact ⟨t2, stp t2 a1, b1⟩
def knWi9 (y : MethodName) (b : ByteArray) (mL : Nat) : Prop := Cond.code y b mL none ∈ knGW ∧ Cond.initialized y.cls ∈ knGW ∧ Cond.instanceMethod y ∈ knGW ∧ y.name = "<init>" ∧ (y.cls ≠ "java/lang/invoke/MethodHandle" ∧ y.cls ≠ "java/lang/invoke/VarHandle" ∧ (parseMethodDescriptor y.desc).map (fun d => d.parameters.length) = some 0)
theorem ki_pre {a : Nat} {H : Heap} {locs : List Loc} (KI : kiK G s) (hP : kiH G cs H) (hS : va_S (knA G) s.heap H locs) : ∀ U : State, U.heap = H → s.WarmedH U.vm → kiPc G a cs #[.ref (knN0 G + a)] U :=
  fun U hU hW => ⟨rfl, kiK.warm hW KI (by rw [hU]; exact Nat.le_trans KI.2.2.2.2.1 hS.1), by rw [hU]; exact hP⟩
/-- 'new C()': the constructor's call -/
theorem ki_call (X : knX p m c cc nL s args own) (KI : kiK G s) {y : MethodName} {b : ByteArray} {mL index fr lo mc ms a : Nat} {cs' : List va_E} (hM : kiC G l y b mL fr lo mc ms a cs cs') (hw : knWi9 y b mL) (hl : Cond.methodLink own index y ∈ knGW)
    (hR : fr + 1 ≤ R.frames ∧ 8 + (mL + 11) + lo ≤ R.locals) (hW : (st.map fun v => v.category).sum ≤ 8) (hcs : cells + mc ≤ R.cells ∧ slots + ms ≤ R.slots) (d : decode cc pc = .ok (.invokespecial index, 3))
    (kk : kiJ G p l e R s m args below meth c nL (cells + mc) (slots + ms) Q (pc + 3) L st cs') : kiJ G p l e R s m args below meth c nL cells slots Q pc L (.ref (knN0 G + a) :: st) cs := by
  intro H locs ls hP hS hL
  exact ki_run (va_runI (As := []) (rest := st) ⟨X.1, X.2.1, X.2.2.1, X.2.2.2.1, X.2.2.2.2⟩ hM ⟨callB_of 0 X.2.2.2.2 (fun w hw9 => (List.mem_cons.mp hw9).elim (fun h => by rw [h]; exact knGW_good _ hw.1) (fun h => knGW_good w h)) rfl rfl rfl (X.2.2.2.2 _ hw.2.1) (X.2.2.2.2 _ hl) hw.2.2.2.2 hR, hw.2.2.2.1, X.2.2.2.2 _ hw.2.2.1⟩ ⟨kiPc_blind G a cs, ki_pre KI hP hS⟩ rfl rfl hL.1 rfl (lv_room hW) d hcs) hS hL kk
theorem ki_callN (X : knX p m c cc nL s args own) (KI : kiK G s) {y : MethodName} {b : ByteArray} {mL index fr lo mc ms a : Nat} {cs' : List va_E} (hM : kiC G l y b mL fr lo mc ms a cs cs') (hw : knWi9 y b mL) (hl : Cond.methodLinkNest own index y "KnotLaboratory" ∈ knBW)
    (hR : fr + 1 ≤ R.frames ∧ 8 + (mL + 11) + lo ≤ R.locals) (hW : (st.map fun v => v.category).sum ≤ 8) (hcs : cells + mc ≤ R.cells ∧ slots + ms ≤ R.slots) (d : decode cc pc = .ok (.invokespecial index, 3))
    (kk : kiJ G p l e R s m args below meth c nL (cells + mc) (slots + ms) Q (pc + 3) L st cs') : kiJ G p l e R s m args below meth c nL cells slots Q pc L (.ref (knN0 G + a) :: st) cs := by
  intro H locs ls hP hS hL
  exact ki_run (va_runIN (As := []) (rest := st) ⟨X.1, X.2.1, X.2.2.1, X.2.2.2.1, X.2.2.2.2⟩ hM ⟨va_cnB 0 X.2.2.2.2 (fun w hm9 => (List.mem_cons.mp hm9).elim (fun h => by rw [h]; exact knGW_good _ hw.1) (fun h => knGW_good w h)) rfl rfl rfl (KI.2.2.2.2.2 _ hl) (X.2.2.2.2 _ hw.2.1) hw.2.2.2.2 hR, hw.2.2.2.1, X.2.2.2.2 _ hw.2.2.1⟩ ⟨kiPc_blind G a cs, ki_pre KI hP hS⟩ rfl rfl hL.1 rfl (lv_room hW) d hcs) hS hL kk
end KNI
