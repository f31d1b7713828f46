section KNSW
variable {G : knGT} {p : Program} {l : Launch} {e : Env} {R : Room} {s : State} {m : MethodId} {args : Array Value} {below : List Frame} {meth : Method} {c : Code} {nL cells slots : Nat} {Q : State → Prop}
variable {cc : ByteArray} {own : String} {pc : Nat} {L : List (Nat × Value)} {st : List Value} {μ : knMem}
/-- a switch: into its row i -/
theorem kj_tswI (X : knX p m c cc nL s args own) {dflt lo hi x off : Int} {offs : Array Int} {len i tgt : Nat} (d : decode cc pc = .ok (.tableswitch dflt lo hi offs, len)) (hx : knC x) (hxi : x = lo + (i : Int)) (ho : offs[i]? = some off) (ht : (pc : Int) + off = (tgt : Int) ∧ lo + (i : Int) ≤ hi) (kk : knJ G p l e R s m args below meth c nL cells slots Q tgt L st μ) : knJ G p l e R s m args below meth c nL cells slots Q pc L (knV x :: st) μ := by
  intro H locs ls hP hS hL
  have e9 := knTI hx
  refine lv_tableIn X.1 X.2.1 d (by rw [e9]; omega) (by rw [e9]; omega) ?_ ht.1 (kk H locs ls hP hS hL)
  rw [e9, hxi, show (lo + (i : Int) - lo).toNat = i by omega]
  exact ho
/-- .. to its default, by its own row or from outside -/
theorem kj_tswD (X : knX p m c cc nL s args own) {dflt lo hi x : Int} {offs : Array Int} {len tgt : Nat} (d : decode cc pc = .ok (.tableswitch dflt lo hi offs, len)) (hx : knC x) (ht : (pc : Int) + dflt = (tgt : Int) ∧ hi < lo + (offs.size : Int)) (h : ∀ i : Nat, i < offs.size → offs[i]? = some dflt ∨ x ≠ lo + (i : Int)) (kk : knJ G p l e R s m args below meth c nL cells slots Q tgt L st μ) : knJ G p l e R s m args below meth c nL cells slots Q pc L (knV x :: st) μ := by
  intro H locs ls hP hS hL
  have e9 := knTI hx
  by_cases h1 : x < lo ∨ hi < x
  · exact lv_tableOut X.1 X.2.1 d (by rw [e9]; exact h1) ht.1 (kk H locs ls hP hS hL)
  · have h2 := h (x - lo).toNat (by omega)
    rcases h2 with h2 | h2
    · exact lv_tableIn X.1 X.2.1 d (by rw [e9]; omega) (by rw [e9]; omega) (by rw [e9]; exact h2) ht.1 (kk H locs ls hP hS hL)
    · exact absurd (show x = lo + ((x - lo).toNat : Int) by omega) h2
end KNSW
