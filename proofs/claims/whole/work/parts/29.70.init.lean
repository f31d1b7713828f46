/-! The constructors: the heap from knN0 on, cell by cell in the order in which they are made. -/
def kiW (n0 : Nat) (cs : List va_E) : va_W := cs.mapIdx (fun k e => (n0 + k, e))
theorem kiW_at {n0 k : Nat} {cs : List va_E} : (kiW n0 cs)[k]? = (cs[k]?).map (fun e => (n0 + k, e)) := by
  unfold kiW
  rw [List.getElem?_mapIdx]
theorem kiW_inv {n0 k : Nat} {cs : List va_E} {q : Nat × va_E} (h : (kiW n0 cs)[k]? = some q) : q.1 = n0 + k ∧ cs[k]? = some q.2 := by
  rw [kiW_at] at h
  cases hc : cs[k]? with
  | none => rw [hc] at h; cases h
  | some e => rw [hc] at h; cases h; exact ⟨rfl, rfl⟩
def kiH (G : knGT) (cs : List va_E) (H : Heap) : Prop := H.size = knN0 G + cs.length ∧ va_P G.1 knCl (kiW (knN0 G) cs) H
theorem kiW_D {G : knGT} {cs : List va_E} : va_D (knA G) (kiW (knN0 G) cs) := by
  refine ⟨fun i j p q hi hj he => ?_, fun k q hq => ?_⟩
  · have h1 := (kiW_inv hi).1
    have h2 := (kiW_inv hj).1
    omega
  · have h1 := (kiW_inv hq).1
    show knN0 G ≤ q.1
    omega
theorem kiH.at' {G : knGT} {cs : List va_E} {H : Heap} (h : kiH G cs H) {k : Nat} {e : va_E} (hk : cs[k]? = some e) : va_at G.1 knCl (knN0 G + k, e) H := h.2 k _ (by rw [kiW_at, hk]; rfl)
theorem kiH.push {G : knGT} {cs : List va_E} {H H1 : Heap} {x : va_E} (h : kiH G cs H) (z : H1.size = H.size + 1) (o : ∀ q : Nat, q < H.size → H1[q]? = H[q]?) (e : va_at G.1 knCl (knN0 G + cs.length, x) H1) : kiH G (cs ++ [x]) H1 := by
  refine ⟨by rw [z, h.1]; simp; omega, fun k q hq => ?_⟩
  obtain ⟨h1, h2⟩ := kiW_inv hq
  obtain ⟨q1, q2⟩ := q
  dsimp only at h1 h2
  subst h1
  by_cases hl : k < cs.length
  · rw [List.getElem?_append_left hl] at h2
    have hP := h.2.kept (H1 := H1) (fun k x hx => o x.1 ((h.2 k x hx).lt))
    exact hP k _ (by rw [kiW_at, h2]; rfl)
  · rw [List.getElem?_append_right (by omega)] at h2
    have hz : k - cs.length < 1 := (List.getElem?_eq_some_iff.mp h2).1
    have hk : k = cs.length := by omega
    subst hk
    simp at h2
    subst h2
    exact e
theorem kiH.set {G : knGT} {cs : List va_E} {H H1 : Heap} {x e0 : va_E} {k : Nat} (h : kiH G cs H) (hk : cs[k]? = some e0) (z : H1.size = H.size) (o : ∀ q : Nat, q ≠ knN0 G + k → H1[q]? = H[q]?) (e : va_at G.1 knCl (knN0 G + k, x) H1) : kiH G (cs.set k x) H1 := by
  refine ⟨by rw [z, h.1]; simp, fun j q hq => ?_⟩
  obtain ⟨h1, h2⟩ := kiW_inv hq
  obtain ⟨q1, q2⟩ := q
  dsimp only at h1 h2
  subst h1
  by_cases hj : j = k
  · subst hj
    have hl := (List.getElem?_eq_some_iff.mp hk).1
    rw [List.getElem?_set_self hl] at h2
    cases h2
    exact e
  · rw [List.getElem?_set_ne (by omega)] at h2
    have h9 : va_P G.1 knCl [(knN0 G + j, q2)] H := fun i q hq => by
      have hz : i < 1 := (List.getElem?_eq_some_iff.mp hq).1
      rw [show i = 0 by omega] at hq
      cases hq
      exact h.at' h2
    exact h9.kept (H1 := H1) (fun i q hq => by
      have hz : i < 1 := (List.getElem?_eq_some_iff.mp hq).1
      rw [show i = 0 by omega] at hq
      cases hq
      exact o _ (by omega)) 0 _ rfl
def kiTy : Nat → FieldType
  | 0 => .int
  | 1 => .boolean
  | 2 => .char
  | 3 => .object "KnotLaboratory$State"
  | 4 => .array .int
  | 5 => .long
  | _ => .double
def kiK (G : knGT) (U : State) : Prop := va_K G.1 knCl (knTys G) U ∧ (∀ i : Nat, i < 7 → U.vm.findClass ("[" ++ (kiTy i).toString) = some (knCy G i)) ∧ va_AO "KnotLaboratory$State" U ∧ va_AOA .int U ∧ knN0 G ≤ U.heap.size ∧ ∀ w ∈ knBW, va_Nw w U
def kiJ (G : knGT) (p : Program) (l : Launch) (e : Env) (R : Room) (s : State) (m : MethodId) (args : Array Value) (below : List Frame) (meth : Method) (c : Code) (nL cells slots : Nat) (Q : State → Prop) (pc : Nat) (L : List (Nat × Value)) (st : List Value) (cs : List va_E) : Prop :=
  ∀ (H : Heap) (locs : List Loc) (ls : Array Slot), kiH G cs H → va_S (knA G) s.heap H locs → lv_has ls nL L → W p l e R s m args below meth c H locs cells slots Q (F0 m pc ls st)
section KNI
variable {G : knGT} {p : Program} {l : Launch} {e : Env} {R : Room} {s : State} {m : MethodId} {args : Array Value} {below : List Frame} {meth : Method} {c : Code} {nL cells slots : Nat} {Q : State → Prop}
variable {cc : ByteArray} {own : String} {pc : Nat} {L : List (Nat × Value)} {st : List Value} {cs : List va_E}
theorem ki_aload (X : knX p m c cc nL s args own) (i : Nat) {k : Fin 4} {x : Nat} (d : decode cc pc = .ok (.aload_n k, 1)) (hl : L[i]? = some ((k : Nat), Value.ref x)) (kk : kiJ G p l e R s m args below meth c nL cells slots Q (pc + 1) L (Value.ref x :: st) cs) : kiJ G p l e R s m args below meth c nL cells slots Q pc L st cs :=
  fun H locs ls hP hS hL => lv_aload_n X.1 X.2.1 d rfl (lv_at hL i hl) (kk H locs ls hP hS hL)
theorem ki_iload (X : knX p m c cc nL s args own) (i : Nat) {k : Fin 4} {x : Int} (d : decode cc pc = .ok (.iload_n k, 1)) (hl : L[i]? = some ((k : Nat), knV x)) (kk : kiJ G p l e R s m args below meth c nL cells slots Q (pc + 1) L (knV x :: st) cs) : kiJ G p l e R s m args below meth c nL cells slots Q pc L st cs :=
  fun H locs ls hP hS hL => lv_iload_n X.1 X.2.1 d rfl (lv_at hL i hl) (kk H locs ls hP hS hL)
theorem ki_istore (X : knX p m c cc nL s args own) {k : Fin 4} {x : Int} {L' : List (Nat × Value)} (d : decode cc pc = .ok (.istore_n k, 1)) (hn : (k : Nat) < nL) (hl : ((k : Nat), knV x) :: L.filter (fun q => !(q.1 == (k : Nat)) && !(q.1 + 1 == (k : Nat) && q.2.category == 2)) = L') (kk : kiJ G p l e R s m args below meth c nL cells slots Q (pc + 1) L' st cs) : kiJ G p l e R s m args below meth c nL cells slots Q pc L (knV x :: st) cs :=
  fun H locs ls hP hS hL => lv_istore_n X.1 X.2.1 d rfl hL hn hl (fun ls' hL' => kk H locs ls' hP hS hL')
theorem ki_astoren (X : knX p m c cc nL s args own) {k : Fin 4} {x : Nat} {L' : List (Nat × Value)} (d : decode cc pc = .ok (.astore_n k, 1)) (hn : (k : Nat) < nL) (hl : ((k : Nat), Value.ref x) :: L.filter (fun q => !(q.1 == (k : Nat)) && !(q.1 + 1 == (k : Nat) && q.2.category == 2)) = L') (kk : kiJ G p l e R s m args below meth c nL cells slots Q (pc + 1) L' st cs) : kiJ G p l e R s m args below meth c nL cells slots Q pc L (Value.ref x :: st) cs :=
  fun H locs ls hP hS hL => lv_astore_n X.1 X.2.1 d rfl hL hn hl (fun ls' hL' => kk H locs ls' hP hS hL')
theorem ki_astore (X : knX p m c cc nL s args own) {k : Nat} {x : Nat} {L' : List (Nat × Value)} (d : decode cc pc = .ok (.astore k, 2)) (hn : k < nL) (hl : (k, Value.ref x) :: L.filter (fun q => !(q.1 == k) && !(q.1 + 1 == k && q.2.category == 2)) = L') (kk : kiJ G p l e R s m args below meth c nL cells slots Q (pc + 2) L' st cs) : kiJ G p l e R s m args below meth c nL cells slots Q pc L (Value.ref x :: st) cs :=
  fun H locs ls hP hS hL => lv_astore X.1 X.2.1 d hL hn hl (fun ls' hL' => kk H locs ls' hP hS hL')
theorem ki_istoreW (X : knX p m c cc nL s args own) {k : Nat} {x : Int} {L' : List (Nat × Value)} (d : decode cc pc = .ok (.istore k, 2)) (hn : k < nL) (hl : (k, knV x) :: L.filter (fun q => !(q.1 == k) && !(q.1 + 1 == k && q.2.category == 2)) = L') (kk : kiJ G p l e R s m args below meth c nL cells slots Q (pc + 2) L' st cs) : kiJ G p l e R s m args below meth c nL cells slots Q pc L (knV x :: st) cs :=
  fun H locs ls hP hS hL => lv_istore X.1 X.2.1 d hL hn hl (fun ls' hL' => kk H locs ls' hP hS hL')
theorem ki_iinc (X : knX p m c cc nL s args own) (i : Nat) {k : Nat} {n x : Int} {L' : List (Nat × Value)} (d : decode cc pc = .ok (.iinc k n, 3)) (hi : L[i]? = some (k, knV x)) (hn : k < nL) (hl : (k, knV (knW (x + n))) :: L.filter (fun q => !(q.1 == k) && !(q.1 + 1 == k && q.2.category == 2)) = L') (kk : kiJ G p l e R s m args below meth c nL cells slots Q (pc + 3) L' st cs) : kiJ G p l e R s m args below meth c nL cells slots Q pc L st cs :=
  fun H locs ls hP hS hL => lv_iinc (v := Int32.ofInt (knW (x + n))) X.1 X.2.1 d hL hi (by rw [knOw, Int32.ofInt_add]) hn hl (fun ls' hL' => kk H locs ls' hP hS hL')
theorem ki_iconst (X : knX p m c cc nL s args own) {n : Int} (d : decode cc pc = .ok (.iconst n, 1)) (kk : kiJ G p l e R s m args below meth c nL cells slots Q (pc + 1) L (knV n :: st) cs) : kiJ G p l e R s m args below meth c nL cells slots Q pc L st cs :=
  fun H locs ls hP hS hL => lv_iconst X.1 X.2.1 d rfl (kk H locs ls hP hS hL)
theorem ki_bipush (X : knX p m c cc nL s args own) {n : Int} (d : decode cc pc = .ok (.bipush n, 2)) (hv : (Int8.ofInt n).toInt32 = Int32.ofInt n) (kk : kiJ G p l e R s m args below meth c nL cells slots Q (pc + 2) L (knV n :: st) cs) : kiJ G p l e R s m args below meth c nL cells slots Q pc L st cs :=
  fun H locs ls hP hS hL => lv_bipush X.1 X.2.1 d hv (kk H locs ls hP hS hL)
theorem ki_sipush (X : knX p m c cc nL s args own) {n : Int} (d : decode cc pc = .ok (.sipush n, 3)) (hv : (Int16.ofInt n).toInt32 = Int32.ofInt n) (kk : kiJ G p l e R s m args below meth c nL cells slots Q (pc + 3) L (knV n :: st) cs) : kiJ G p l e R s m args below meth c nL cells slots Q pc L st cs :=
  fun H locs ls hP hS hL => lv_sipush X.1 X.2.1 d hv (kk H locs ls hP hS hL)
theorem ki_goto (X : knX p m c cc nL s args own) {off : Int} {tgt : Nat} (d : decode cc pc = .ok (.goto off, 3)) (ht : (pc : Int) + off = (tgt : Int)) (kk : kiJ G p l e R s m args below meth c nL cells slots Q tgt L st cs) : kiJ G p l e R s m args below meth c nL cells slots Q pc L st cs :=
  fun H locs ls hP hS hL => lv_goto X.1 X.2.1 d ht (kk H locs ls hP hS hL)
theorem ki_ic_ge (X : knX p m c cc nL s args own) {x y : Int} {off : Int} {tgt : Nat} (d : decode cc pc = .ok (.if_icmp .ge off, 3)) (ht : (pc : Int) + off = (tgt : Int)) (hx : knC x) (hy : knC y) (kt : y ≤ x → kiJ G p l e R s m args below meth c nL cells slots Q tgt L st cs) (kf : ¬ y ≤ x → kiJ G p l e R s m args below meth c nL cells slots Q (pc + 3) L st cs) : kiJ G p l e R s m args below meth c nL cells slots Q pc L (knV y :: knV x :: st) cs :=
  fun H locs ls hP hS hL => lv_icmp_ge X.1 X.2.1 d ht (fun h => kt ((kn_le hy hx).mp h) H locs ls hP hS hL) (fun h => kf (fun h9 => h ((kn_le hy hx).mpr h9)) H locs ls hP hS hL)
theorem ki_sub {L' : List (Nat × Value)} (ks : List Nat) (h : lv_pick L ks = L') (kk : kiJ G p l e R s m args below meth c nL cells slots Q pc L' st cs) : kiJ G p l e R s m args below meth c nL cells slots Q pc L st cs :=
  fun H locs ls hP hS hL => kk H locs ls hP hS (lv_sub hL ks h)
theorem ki_dup (X : knX p m c cc nL s args own) {v : Value} (hv : v.category = 1) (d : decode cc pc = .ok (.dup, 1)) (kk : kiJ G p l e R s m args below meth c nL cells slots Q (pc + 1) L (v :: v :: st) cs) : kiJ G p l e R s m args below meth c nL cells slots Q pc L (v :: st) cs :=
  fun H locs ls hP hS hL => lv_dup X.1 X.2.1 d hv (kk H locs ls hP hS hL)
end KNI
