/-! Ranks, alternation, arcs. -/
abbrev kbLt (key : Int → Int) (b a : Int) : Prop := key b < key a ∨ (key b = key a ∧ b < a)
def kbRk (key : Int → Int) (n : Nat) (a : Int) : Int := kbSm (fun b => if kbLt key b a then 1 else 0) n
theorem kbRk_lt {key : Int → Int} {n : Nat} {a b : Int} (ha : 0 ≤ a ∧ a < n) (h : kbLt key a b) : kbRk key n a < kbRk key n b := by
  have h1 := kbSm_mono n (f := fun c => (if kbLt key c a then 1 else 0) + (if c = a then 1 else 0)) (g := fun c => if kbLt key c b then 1 else 0) (fun c _ _ => by
    unfold kbLt at h ⊢
    by_cases hc : c = a
    · subst hc
      rw [if_neg (by omega), if_pos rfl, if_pos h]; omega
    · rw [if_neg hc]
      split <;> split <;> omega)
  rw [kbSm_add, kbSm_1 n ha] at h1
  unfold kbRk
  omega
theorem kbRk_in {key : Int → Int} {n : Nat} {a : Int} (ha : 0 ≤ a ∧ a < n) : 0 ≤ kbRk key n a ∧ kbRk key n a < n := by
  have h0 := kbSm_nn n (f := fun b => if kbLt key b a then 1 else 0) (fun k _ _ => by split <;> omega)
  have h1 := kbSm_mono n (f := fun c => (if kbLt key c a then 1 else 0) + (if c = a then 1 else 0)) (g := fun _ => 1) (fun c _ _ => by
    unfold kbLt
    by_cases hc : c = a
    · subst hc
      rw [if_neg (by omega), if_pos rfl]; omega
    · rw [if_neg hc]
      split <;> omega)
  rw [kbSm_add, kbSm_1 n ha, kbSm_c] at h1
  unfold kbRk
  omega
theorem kbRk_inj {key : Int → Int} {n : Nat} {a b : Int} (ha : 0 ≤ a ∧ a < n) (hb : 0 ≤ b ∧ b < n) (h : kbRk key n a = kbRk key n b) : a = b := by
  by_cases h1 : kbLt key a b
  · have := kbRk_lt ha h1; omega
  · by_cases h2 : kbLt key b a
    · have := kbRk_lt hb h2; omega
    · unfold kbLt at h1 h2; omega
theorem kbRk_ex {key : Int → Int} {n : Nat} {r : Int} (hr : 0 ≤ r ∧ r < n) : ∃ a : Int, 0 ≤ a ∧ a < n ∧ kbRk key n a = r :=
  kbPig n (fun a a0 a1 => kbRk_in ⟨a0, a1⟩) (fun a b a0 a1 b0 b1 h => kbRk_inj ⟨a0, a1⟩ ⟨b0, b1⟩ h) hr
abbrev kbKy (D : kbD) (c : Int) : Int := kbDs D.1 (D.2.1 c) (D.2.2.1 c)
theorem kb5_rankOf {μ : knMem} {d a : Int} {D : kbD} (hA : kbA μ d D) (hB : kbB D) (ha : 0 ≤ a ∧ a < D.1) : kfX5_rankOf d a μ = some (kbRk (kbKy D) D.1.toNat a) := by
  obtain ⟨h0, h1⟩ := hA
  obtain ⟨hn, hb⟩ := hB
  have ka := h1 a ha.1 ha.2
  have ba := hb a ha.1 ha.2
  have key : kbH (kfX5_rankOf d a μ) (fun r => r = kbRk (kbKy D) D.1.toNat a) := by
    unfold kfX5_rankOf
    rw [kbGd (by omega), ka.1, ka.2.1, kb5_dist (by omega) (by omega) (by omega), Option.bind_some, h0]
    refine kbLoop (fun n i (x : Int) => kfX5_rankOf_l22 d a (kbDs D.1 (D.2.1 a) (D.2.2.1 a)) μ (fun w25 => some w25) n x i) (fun i x => 0 ≤ i ∧ x = kbSm (fun b => if kbLt (kbKy D) b a then 1 else 0) i.toNat) D.1 _ ?_ ?_ _ _ _ (by omega) (by rw [kbF]; omega) ⟨by omega, rfl⟩
    · intro n i x hi ⟨i0, hx⟩ kk
      have ki := h1 i i0 hi
      have bi := hb i i0 hi
      simp only [kfX5_rankOf_l22, kbH_ite, kbH_gd]
      refine ⟨fun h => by omega, fun _ => ⟨by omega, ?_⟩⟩
      have hx1 := kbSm_nn (f := fun b => if kbLt (kbKy D) b a then 1 else 0) i.toNat (fun k _ _ => by split <;> omega)
      have hx2 := kbSm_mono (f := fun b => if kbLt (kbKy D) b a then 1 else 0) (g := fun _ => 1) i.toNat (fun k _ _ => by split <;> omega)
      rw [kbSm_c] at hx2
      rw [ki.1, ki.2.1, kb5_dist (by omega) (by omega) (by omega), Option.bind_some, h0, knW_id (x := i + 1) (by omega), knW_id (x := x + 1) (by omega)]
      refine kk _ ⟨by omega, ?_⟩
      have e : (i + 1).toNat = i.toNat + 1 := by omega
      have e2 : ((i.toNat : Nat) : Int) = i := by omega
      rw [e, kbSm, ← hx]
      simp only [e2]
      unfold kbLt
      show _ = x + (if kbDs D.1 (D.2.1 i) (D.2.2.1 i) < kbDs D.1 (D.2.1 a) (D.2.2.1 a) ∨ (kbDs D.1 (D.2.1 i) (D.2.2.1 i) = kbDs D.1 (D.2.1 a) (D.2.2.1 a) ∧ i < a) then 1 else 0)
      split
      · rw [if_pos (by omega)]
      · split
        · split
          · rw [if_neg (by omega)]; omega
          · rw [if_pos (by omega)]
        · rw [if_neg (by omega)]; omega
    · intro n x ⟨i0, hx⟩
      simp only [kfX5_rankOf_l22, kbH_ite, kbH_some]
      exact ⟨fun _ => hx, fun h => by omega⟩
  obtain ⟨r, h2, h3⟩ := key
  rw [h2, h3]
theorem kb5_ofRank {μ : knMem} {d r a : Int} {D : kbD} (hA : kbA μ d D) (hB : kbB D) (ha : 0 ≤ a ∧ a < D.1) (hr : kbRk (kbKy D) D.1.toNat a = r) : kfX5_crossingOfRank d r μ = some a := by
  have h0 := hA.1
  have hn := hB.1
  have key : kbH (kfX5_crossingOfRank d r μ) (fun x => x = a) := by
    unfold kfX5_crossingOfRank
    refine kbLoop (fun n i (_ : Unit) => kfX5_crossingOfRank_l2 d r μ (fun _ => some (-1)) n i) (fun i _ => 0 ≤ i ∧ i ≤ a) a _ ?_ ?_ _ _ () (by omega) (by rw [kbF]; omega) (by omega)
    · intro n i _ hi ⟨i0, i1⟩ kk
      simp only [kfX5_crossingOfRank_l2, kbH_ite]
      refine ⟨fun h => by omega, fun _ => ?_⟩
      rw [kb5_rankOf hA hB (by omega), Option.bind_some, knW_id (by omega), if_neg (fun h => ?_)]
      · exact kk () (by omega)
      · have := kbRk_inj (n := D.1.toNat) (by omega) (by omega) (h.trans hr.symm); omega
    · intro n _ _
      simp only [kfX5_crossingOfRank_l2, kbH_ite]
      refine ⟨fun h => by omega, fun _ => ?_⟩
      rw [kb5_rankOf hA hB ha, Option.bind_some, if_pos hr]
      exact kbH_some.mpr rfl
  obtain ⟨x, h2, h3⟩ := key
  rw [h2, h3]
theorem kb13_chord {μ : knMem} {D : kbD} (hL : kbL μ D) {c : Int} (hc : 0 ≤ c ∧ c < D.1) : kfX13_chord c μ = some (kbKy D c - 1) := by
  have hp := kb13_passOf hL hc
  have h1 := hL.2.2.1 c hc.1 hc.2
  have hn := hL.2.1
  unfold kfX13_chord
  rw [hp.1, hp.2]
  simp only [Option.bind_some]
  rw [hL.1, knW_id (x := 2 * D.1) (by omega), knW_id (x := 2 * D.1 - 2) (by omega), knW_id (x := D.2.1 c - D.2.2.1 c) (by omega), knW_id (x := D.2.1 c - D.2.2.1 c - 1) (by omega), knW_id (x := -(D.2.1 c - D.2.2.1 c)) (by omega), knW_id (x := -(D.2.1 c - D.2.2.1 c) - 1) (by omega), knW_id (by split <;> omega)]
  congr 1
  show _ = kbDs D.1 (D.2.1 c) (D.2.2.1 c) - 1
  unfold kbDs
  by_cases h : 0 ≤ D.2.1 c - D.2.2.1 c
  · simp only [if_pos h]
    by_cases h2 : D.2.1 c ≤ D.2.2.1 c
    · simp only [if_pos h2]; split <;> split <;> omega
    · simp only [if_neg h2]; split <;> split <;> omega
  · simp only [if_neg h]
    by_cases h2 : D.2.1 c ≤ D.2.2.1 c
    · simp only [if_pos h2]; split <;> split <;> omega
    · omega
/-- the reference's count of those before a -/
theorem kb13_rank {μ : knMem} {D : kbD} (hL : kbL μ D) {r a : Int} (ha : 0 ≤ a ∧ a < D.1) {kc : Int → Option (Int × knMem)} {Q : Int × knMem → Prop} (hk : kbH (kc (kbRk (kbKy D) D.1.toNat a)) Q) : kbH (kfX13_crossingByChord_l24 r a μ kc knF 0 0) Q := by
  have hn := hL.2.1
  have h0 := hL.1
  refine kbLoop (fun n i (x : Int) => kfX13_crossingByChord_l24 r a μ kc n x i) (fun i x => 0 ≤ i ∧ x = kbSm (fun b => if kbLt (kbKy D) b a then 1 else 0) i.toNat) D.1 _ ?_ ?_ _ _ _ (by omega) (by rw [kbF]; omega) ⟨by omega, rfl⟩
  · intro n i x hi ⟨i0, hx⟩ kk
    simp only [kfX13_crossingByChord_l24, kbH_ite]
    refine ⟨fun h => by omega, fun _ => ?_⟩
    have hx1 := kbSm_nn (f := fun b => if kbLt (kbKy D) b a then 1 else 0) i.toNat (fun k _ _ => by split <;> omega)
    have hx2 := kbSm_mono (f := fun b => if kbLt (kbKy D) b a then 1 else 0) (g := fun _ => 1) i.toNat (fun k _ _ => by split <;> omega)
    rw [kbSm_c] at hx2
    simp only [kb13_chord hL ha, kb13_chord hL (show 0 ≤ i ∧ i < D.1 by omega), Option.bind_some]
    have e : (i + 1).toNat = i.toNat + 1 := by omega
    have e2 : ((i.toNat : Nat) : Int) = i := by omega
    have hk2 : ∀ v : Int, v = (if kbLt (kbKy D) i a then 1 else 0) → kbH (kfX13_crossingByChord_l24 r a μ kc n (knW (x + v)) (knW (i + 1))) Q := by
      intro v hv
      have hv2 : 0 ≤ v ∧ v ≤ 1 := by rw [hv]; split <;> omega
      rw [knW_id (x := i + 1) (by omega), knW_id (x := x + v) (by omega)]
      refine kk _ ⟨by omega, ?_⟩
      rw [e, kbSm, ← hx, hv]
      simp only [e2]
    unfold kbLt at hk2
    by_cases g1 : kbKy D i - 1 < kbKy D a - 1
    · rw [if_pos g1, Option.bind_some]
      exact hk2 1 (by rw [if_pos (by omega)])
    · rw [if_neg g1]
      by_cases g2 : kbKy D i - 1 = kbKy D a - 1
      · by_cases g3 : a ≤ i
        · simp only [if_pos g2, if_pos g3, Option.bind_some]
          exact hk2 0 (by rw [if_neg (by omega)])
        · simp only [if_pos g2, if_neg g3, Option.bind_some]
          exact hk2 1 (by rw [if_pos (by omega)])
      · simp only [if_neg g2, Option.bind_some]
        exact hk2 0 (by rw [if_neg (by omega)])
  · intro n x ⟨i0, hx⟩
    simp only [kfX13_crossingByChord_l24, kbH_ite]
    exact ⟨fun _ => by rw [hx]; exact hk, fun h => by omega⟩
theorem kb13_ofRank {μ : knMem} {D : kbD} (hL : kbL μ D) {r a : Int} (ha : 0 ≤ a ∧ a < D.1) (hr : kbRk (kbKy D) D.1.toNat a = r) {kc : Unit → Option (Int × knMem)} {Q : Int × knMem → Prop} (hk : Q (a, μ)) : kbH (kfX13_crossingByChord_l11 r μ kc knF 0) Q := by
  have hn := hL.2.1
  have h0 := hL.1
  refine kbLoop (fun n i (_ : Unit) => kfX13_crossingByChord_l11 r μ kc n i) (fun i _ => 0 ≤ i ∧ i ≤ a) a _ ?_ ?_ _ _ () (by omega) (by rw [kbF]; omega) (by omega)
  · intro n i _ hi ⟨i0, i1⟩ kk
    simp only [kfX13_crossingByChord_l11, kbH_ite]
    refine ⟨fun h => by omega, fun _ => ?_⟩
    refine kb13_rank hL (by omega) ?_
    rw [knW_id (by omega), if_neg (fun h => ?_)]
    · exact kk () (by omega)
    · have := kbRk_inj (n := D.1.toNat) (by omega) (by omega) (h.trans hr.symm); omega
  · intro n _ _
    simp only [kfX13_crossingByChord_l11, kbH_ite]
    refine ⟨fun h => by omega, fun _ => ?_⟩
    refine kb13_rank hL ha ?_
    rw [if_pos hr]
    exact kbH_some.mpr hk
theorem kb13_noRank {μ : knMem} {D : kbD} (hL : kbL μ D) {r : Int} (hr : ¬ (0 ≤ r ∧ r < D.1)) {kc : Unit → Option (Int × knMem)} {Q : Int × knMem → Prop} (hk : kbH (kc ()) Q) : kbH (kfX13_crossingByChord_l11 r μ kc knF 0) Q := by
  have hn := hL.2.1
  have h0 := hL.1
  refine kbLoop (fun n i (_ : Unit) => kfX13_crossingByChord_l11 r μ kc n i) (fun i _ => 0 ≤ i) D.1 _ ?_ ?_ _ _ () (by omega) (by rw [kbF]; omega) (by omega)
  · intro n i _ hi i0 kk
    simp only [kfX13_crossingByChord_l11, kbH_ite]
    refine ⟨fun h => by omega, fun _ => ?_⟩
    refine kb13_rank hL (by omega) ?_
    rw [knW_id (by omega), if_neg (fun h => ?_)]
    · exact kk () (by omega)
    · have := kbRk_in (key := kbKy D) (n := D.1.toNat) (a := i) (by omega); omega
  · intro n _ _
    simp only [kfX13_crossingByChord_l11, kbH_ite]
    exact ⟨fun _ => hk, fun h => by omega⟩
theorem kb13_arcOf {μ : knMem} {D : kbD} (hL : kbL μ D) {p : Int} (hp : -1 ≤ p ∧ p < 2 * D.1) : kfX13_arcOf p μ = some (kbAc D p) := by
  have hn := hL.2.1
  have key : kbH (kfX13_arcOf p μ) (fun r => r = kbAc D p) := by
    unfold kfX13_arcOf
    refine kbLoop (fun n i (x : Int) => kfX13_arcOf_l4 p μ (fun w4 => some (if w4 = 0 then (knW ((μ 142 8) - 1)) else (knW (w4 - 1)) : Int)) n x i) (fun i x => 0 ≤ i ∧ x = kbSm (fun k => 1 - μ 148 k) i.toNat) (p + 1) _ ?_ ?_ _ _ _ (by omega) (by rw [kbF]; omega) ⟨by omega, rfl⟩
    · intro n i x hi ⟨i0, hx⟩ kk
      have h8 := (hL.2.2.2 i i0 (by omega)).2
      have hx2 := kbSm_le (f := fun k => 1 - μ 148 k) (b := 1) i.toNat (fun k k0 k1 => by have := (hL.2.2.2 k k0 (by omega)).2; omega)
      simp only [kfX13_arcOf_l4, kbH_ite, kbH_gd]
      refine ⟨fun h => by omega, fun _ => ⟨by omega, ?_⟩⟩
      rw [knW_id (x := 1 - μ 148 i) (by omega), knW_id (x := i + 1) (by omega), knW_id (x := x + (1 - μ 148 i)) (by omega)]
      refine kk _ ⟨by omega, ?_⟩
      have e : (i + 1).toNat = i.toNat + 1 := by omega
      have e2 : ((i.toNat : Nat) : Int) = i := by omega
      rw [e, kbSm, ← hx]
      simp only [e2]
    · intro n x ⟨i0, hx⟩
      have e1 := hL.2.arc (p + 1).toNat (by omega)
      rw [← hx, show (((p + 1).toNat : Nat) : Int) - 1 = p by omega] at e1
      have hx2 := kbSm_le (f := fun k => if p < D.2.2.1 k then 0 else 1) (b := 1) D.1.toNat (fun k k0 k1 => by split <;> omega)
      have e3 : kbAr D p = kbSm (fun k => if p < D.2.2.1 k then 0 else 1) D.1.toNat := rfl
      simp only [kfX13_arcOf_l4, kbH_ite, kbH_some, hL.1]
      refine ⟨fun _ => ?_, fun h => by omega⟩
      unfold kbAc
      rw [e1, knW_id (x := D.1 - 1) (by omega), knW_id (by omega)]
  obtain ⟨r, h2, h3⟩ := key
  rw [h2, h3]
