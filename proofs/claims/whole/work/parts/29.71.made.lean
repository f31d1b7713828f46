/-! .. and the rows that make and fill cells. -/
theorem kiS {G : knGT} {H0 H H1 : Heap} {locs : List Loc} (hS : va_S (knA G) H0 H locs) (z : H.size ≤ H1.size) (o : ∀ q : Nat, q < H.size → H1[q]? = H[q]?) : va_S (knA G) H0 H1 locs :=
  ⟨Nat.le_trans hS.1 z, fun x h1 h2 => (o x (Nat.lt_of_lt_of_le h1 hS.1)).trans (hS.2.1 x h1 h2), hS.2.2⟩
theorem kiClamp {N : Nat} (h : N ≤ 1000) : ¬ Int32.ofInt (N : Int) < 0 ∧ (Int32.ofInt (N : Int)).toNatClampNeg = N := by
  have hk : knC (N : Int) := ⟨by omega, by omega⟩
  have h1 := kn_clamp hk
  refine ⟨fun h2 => ?_, by rw [h1]; omega⟩
  have h3 := (kn_lt hk (show knC 0 from ⟨by omega, by omega⟩)).mp h2
  omega
section KNI
variable {G : knGT} {p : Program} {l : Launch} {e : Env} {R : Room} {s : State} {m : MethodId} {args : Array Value} {below : List Frame} {meth : Method} {c : Code} {nL cells slots : Nat} {Q : State → Prop}
variable {cc : ByteArray} {own : String} {pc : Nat} {L : List (Nat × Value)} {st : List Value} {cs : List va_E}
theorem ki_newa (X : knX p m c cc nL s args own) (KI : kiK G s) {atype : ArrayType} (ti : Nat) {ty : FieldType} (hti : ti < 7) (hty : newarray.typeOf atype = ty) (hki : kiTy ti = ty) (harr : Cond.arrayClass ty ∈ knGW) {n : Int} {N : Nat} {a0 : vp_A} (ha : ∀ cA : ClassId, vp_cell cA a0 = arrV cA N (fun _ => defaultValue ty)) (hn : n = (N : Int)) (hN : N ≤ 1000) (hb : N * componentBytes ty ≤ 536870912)
    (hcs : cells + 1 ≤ R.cells ∧ slots + N ≤ R.slots) (d : decode cc pc = .ok (.newarray atype, 2))
    (kk : kiJ G p l e R s m args below meth c nL (cells + 1) (slots + N) Q (pc + 2) L (.ref (knN0 G + cs.length) :: st) (cs ++ [.inl (knCy G ti, a0)])) : kiJ G p l e R s m args below meth c nL cells slots Q pc L (knV n :: st) cs := by
  intro H locs ls hP hS hL
  subst hty hn
  refine va_newaK X.1 X.2.1 (X.2.2.2.2 _ harr) rfl d rfl (kiClamp hN).1 (kiClamp hN).2 hb hcs.1 hcs.2 hP.1 (fun H1 cA e1 z1 o1 _ hNm => ?_)
  have hcA : cA = knCy G ti := by
    have := KI.2.1 ti hti
    rw [hki] at this
    exact Option.some.inj (hNm.symm.trans this)
  subst hcA
  rw [← hP.1] at z1 o1
  refine kk H1 locs ls (hP.push z1 o1 ?_) (kiS hS (by omega) o1) hL
  show H1[_]? = some (vp_cell _ _)
  rw [ha]
  exact e1
theorem ki_new (X : knX p m c cc nL s args own) (KI : kiK G s) {C : String} {T : u_T} {N ci index : Nat} (hin : ∀ w ∈ u_ws C T N, w ∈ knGW) (ty : Nat → FieldType) (hty : ∀ k, k < N → parseFieldDescriptor (T k).2.2.1 = some (ty k)) (hcl : Cond.classLink own index C ∈ knGW) (hinst : Cond.instantiable C N ∈ knGW) (hini : Cond.initialized C ∈ knGW)
    (hc : knCl[ci]? = some (C, T, N)) {fs : List Value} (hfs : ∀ j, j < N → defaultValue (ty j) = vp_V fs j) (hcs : cells + 1 ≤ R.cells ∧ slots + N ≤ R.slots) (d : decode cc pc = .ok (.new index, 3))
    (kk : kiJ G p l e R s m args below meth c nL (cells + 1) (slots + N) Q (pc + 3) L (.ref (knN0 G + cs.length) :: st) (cs ++ [.inr (ci, fs)])) : kiJ G p l e R s m args below meth c nL cells slots Q pc L st cs := by
  intro H locs ls hP hS hL
  have hKn := KI.1.1 ci _ hc
  refine W.newcK X.1 X.2.1 X.2.2.2.1 (X.2.2.2.2 _ hcl) (X.2.2.2.2 _ hinst) (X.2.2.2.2 _ hini) rfl d hcs.1 hcs.2 hKn.2.1 hP.1 (fun H1 kC hkC e1 z1 o1 => ?_)
  rw [← hP.1] at z1 o1
  exact kk H1 locs ls (hP.push z1 o1 ⟨_, hc, (u_born ty X.2.2.2.2 hin hKn hkC e1 hty).to hfs⟩) (kiS hS (by omega) o1) hL
/-- a final field, in the constructor -/
theorem ki_putF (X : knX p m c cc nL s args own) (KI : kiK G s) {ref C : String} {T : u_T} {N ci index q0 : Nat} {fs : List Value} (hin : ∀ w ∈ u_ws C T N, w ∈ knGW) (ty0 : Nat → FieldType) (hty : ∀ k, k < N → parseFieldDescriptor (T k).2.2.1 = some (ty0 k)) (hnm : ∀ a, a < N → ∀ b, b < N → a ≠ b → (T a).2.1 ≠ (T b).2.1)
    (he : cs[q0]? = some (.inr (ci, fs))) (hc : knCl[ci]? = some (C, T, N)) (k : Nat) (hk : k < N) (hlink : Cond.fieldLink own index ref (T k).2.1 (T k).2.2.1 ∈ knGW) (href : (T k).1 = ref) (hfin : (T k).2.2.2 = true) (hin2 : meth.name = "<init>") (hdecl : (T k).1 = own) {v : Value} {ty : FieldType} (hd : parseFieldDescriptor (T k).2.2.1 = some ty) (hn : narrow ty v = v) (hfit : fits ty v = true) (hl : k < fs.length)
    (d : decode cc pc = .ok (.putfield index, 3)) (kk : kiJ G p l e R s m args below meth c nL cells slots Q (pc + 3) L st (cs.set q0 (.inr (ci, fs.set k v)))) : kiJ G p l e R s m args below meth c nL cells slots Q pc L (v :: .ref (knN0 G + q0) :: st) cs := by
  intro H locs ls hP hS hL
  have hts := X.2.2.2.2
  have hap := va_apart (own := own) hts hin ty0 hty hnm KI.1 hc
  obtain ⟨r, h1, cell, q1, q2, q3, q4⟩ := hP.at' he
  have hr : r = (C, T, N) := Option.some.inj (h1.symm.trans hc)
  subst hr
  obtain ⟨hSl, hfc, kC, hkC, hkind⟩ := KI.1.1 ci _ hc
  obtain ⟨cf, kf, fi, f, hi, hsl⟩ := hSl k hk
  have hlay := hts _ (hin _ (u_in_lay hk))
  unfold u_lay at hlay
  rw [if_pos hfin] at hlay
  have hst := (u_facts hfc hkC (u_lays hts hin hk) hi).1
  have hcf : m.cls = cf := by
    obtain ⟨_, _, c', _, _, _, -, -, hf', -, -, -, hown2, -⟩ := Cond.laysFinal_spec hlay
    have e1 : c' = cf := by have := hi.symm.trans hf'; simp at this; exact this.1.symm
    rw [hdecl] at hown2
    rw [← e1]; exact Option.some.inj (X.2.2.2.1.symm.trans hown2)
  refine W.putFinK X.1 X.2.1 X.2.2.2.1 (hts _ hlink) (by rw [← href]; exact hi) hst hcf hin2 (by rw [q2]; exact u_fits hfc hkC hkind (Or.inr hlay) hi hd hn hfit) q1 q3 (by rw [hsl]; exact k2_hasslot (q4 k hk)) rfl rfl d (fun H1 e1 e2 e3 => ?_)
  rw [hsl] at e1 ⊢
  exact kk H1 _ ls (hP.set he e2 e3 ⟨_, hc, t_OB.to (V := updV (vp_V fs) k v) ⟨_, e1, q2, q3, t_set q4 hap hk v⟩ (fun j _ => vp_updV_set hl v j)⟩) (hS.put e2 e3 (show knN0 G ≤ _ by omega)) hL
/-- a field that isn't final -/
theorem ki_put (X : knX p m c cc nL s args own) (KI : kiK G s) {ref C : String} {T : u_T} {N ci index q0 : Nat} {fs : List Value} (hin : ∀ w ∈ u_ws C T N, w ∈ knGW) (ty0 : Nat → FieldType) (hty : ∀ k, k < N → parseFieldDescriptor (T k).2.2.1 = some (ty0 k)) (hnm : ∀ a, a < N → ∀ b, b < N → a ≠ b → (T a).2.1 ≠ (T b).2.1)
    (he : cs[q0]? = some (.inr (ci, fs))) (hc : knCl[ci]? = some (C, T, N)) (k : Nat) (hk : k < N) (hlink : Cond.fieldLink own index ref (T k).2.1 (T k).2.2.1 ∈ knGW) (href : (T k).1 = ref) (hfin : (T k).2.2.2 = false) {v : Value} {ty : FieldType} (hd : parseFieldDescriptor (T k).2.2.1 = some ty) (hn : narrow ty v = v) (hfit : fits ty v = true) (hl : k < fs.length)
    (d : decode cc pc = .ok (.putfield index, 3)) (kk : kiJ G p l e R s m args below meth c nL cells slots Q (pc + 3) L st (cs.set q0 (.inr (ci, fs.set k v)))) : kiJ G p l e R s m args below meth c nL cells slots Q pc L (v :: .ref (knN0 G + q0) :: st) cs := by
  intro H locs ls hP hS hL
  have hts := X.2.2.2.2
  have hap := va_apart (own := own) hts hin ty0 hty hnm KI.1 hc
  obtain ⟨r, h1, cell, q1, q2, q3, q4⟩ := hP.at' he
  have hr : r = (C, T, N) := Option.some.inj (h1.symm.trans hc)
  subst hr
  obtain ⟨hSl, hfc, kC, hkC, hkind⟩ := KI.1.1 ci _ hc
  obtain ⟨cf, kf, fi, f, hi, hsl⟩ := hSl k hk
  have hlay := hts _ (hin _ (u_in_lay hk))
  unfold u_lay at hlay
  rw [if_neg (by rw [hfin]; decide)] at hlay
  have hst := (u_facts hfc hkC (u_lays hts hin hk) hi).1
  refine W.putK X.1 X.2.1 (f := f) ⟨X.2.2.2.1, hts _ hlink, ⟨_, _, _, by rw [← href]; exact hi⟩, hst⟩ (by rw [q2]; exact u_store hfc hkC hkind hlay hi hd hn hfit) q1 q3 (by rw [hsl]; exact k2_hasslot (q4 k hk)) rfl rfl d (fun H1 e1 e2 e3 => ?_)
  rw [hsl] at e1 ⊢
  exact kk H1 _ ls (hP.set he e2 e3 ⟨_, hc, t_OB.to (V := updV (vp_V fs) k v) ⟨_, e1, q2, q3, t_set q4 hap hk v⟩ (fun j _ => vp_updV_set hl v j)⟩) (hS.put e2 e3 (show knN0 G ≤ _ by omega)) hL
end KNI
