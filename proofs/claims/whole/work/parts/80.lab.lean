/-! Edges joined: labels, how many parts. -/
def kbBf (n p : Int) : Int := if p = 0 then 2 * n - 1 else p - 1
abbrev kbX : Type := (Int → Int) × Int
def kbJn (a b : Int) (X : kbX) : kbX := (fun e => if X.1 e = X.1 b then X.1 a else X.1 e, X.2 - (if X.1 a = X.1 b then 0 else 1))
def kbSo (D : kbD) (c t : Int) (X : kbX) : kbX := if t = 0 then kbJn (D.2.1 c) (D.2.2.1 c) (kbJn (kbBf D.1 (D.2.1 c)) (kbBf D.1 (D.2.2.1 c)) X) else kbJn (kbBf D.1 (D.2.2.1 c)) (D.2.1 c) (kbJn (kbBf D.1 (D.2.1 c)) (D.2.2.1 c) X)
def kbLs (D : kbD) (s : Int) : Nat → kbX
  | 0 => (fun e => e, if D.1 = 0 then 1 else 2 * D.1)
  | k + 1 => kbSo D k (kbBi s k) (kbLs D s k)
/-- a label is an edge of its own part; the parts are counted -/
def kbOk (N : Int) (X : kbX) : Prop := (∀ e : Int, 0 ≤ e → e < N → (0 ≤ X.1 e ∧ X.1 e < N) ∧ X.1 (X.1 e) = X.1 e) ∧ X.2 = kbSm (fun e => if X.1 e = e then 1 else 0) N.toNat
theorem kbOk.jn {N a b : Int} {X : kbX} (h : kbOk N X) (ha : 0 ≤ a ∧ a < N) (hb : 0 ≤ b ∧ b < N) : kbOk N (kbJn a b X) := by
  obtain ⟨h1, h2⟩ := h
  have ka := h1 a ha.1 ha.2
  have kb := h1 b hb.1 hb.2
  refine ⟨fun e e0 e1 => ?_, ?_⟩
  · have ke := h1 e e0 e1
    unfold kbJn
    dsimp only
    by_cases g : X.1 e = X.1 b
    · rw [if_pos g]
      refine ⟨ka.1, ?_⟩
      rw [ka.2]
      split <;> rfl
    · rw [if_neg g]
      refine ⟨ke.1, ?_⟩
      rw [ke.2, if_neg g]
  · have e2 : (kbJn a b X).2 = X.2 - (if X.1 a = X.1 b then 0 else 1) := rfl
    have e1 : ∀ e : Int, (kbJn a b X).1 e = if X.1 e = X.1 b then X.1 a else X.1 e := fun _ => rfl
    by_cases g : X.1 a = X.1 b
    · rw [e2, if_pos g, h2, Int.sub_zero]
      refine kbSm_congr _ (fun e e0 _ => ?_)
      have e3 : (kbJn a b X).1 e = X.1 e := by
        rw [e1]
        split
        · rename_i g2; rw [g, g2]
        · rfl
      rw [e3]
    · rw [e2, if_neg g, h2, kbSm_up (f := fun e => if (kbJn a b X).1 e = e then 1 else 0) (g := fun e => if X.1 e = e then 1 else 0) (a := X.1 b) N.toNat (by omega) (fun e e0 _ he => ?_)]
      · have e3 : (kbJn a b X).1 (X.1 b) = X.1 a := by rw [e1, kb.2, if_pos rfl]
        rw [e3, kb.2, if_pos rfl, if_neg g]
        omega
      · have e3 := e1 e
        by_cases g2 : X.1 e = X.1 b
        · rw [if_pos g2] at e3
          rw [e3, if_neg (fun h9 => ?_), if_neg (fun h9 => ?_)]
          · rw [g2] at h9; exact he h9.symm
          · have : X.1 e = X.1 a := by rw [← h9]; exact ka.2
            exact g (this.symm.trans g2)
        · rw [if_neg g2] at e3
          rw [e3]
theorem kbBf_in {n p : Int} (hp : 0 ≤ p ∧ p < 2 * n) : 0 ≤ kbBf n p ∧ kbBf n p < 2 * n := by unfold kbBf; split <;> omega
theorem kbOk.so {D : kbD} {X : kbX} (h : kbOk (2 * D.1) X) (hB : kbB D) {c t : Int} (hc : 0 ≤ c ∧ c < D.1) : kbOk (2 * D.1) (kbSo D c t X) := by
  have h1 := hB.2 c hc.1 hc.2
  have b1 := kbBf_in h1.1
  have b2 := kbBf_in h1.2.1
  unfold kbSo
  split
  · exact (h.jn b1 b2).jn h1.1 h1.2.1
  · exact (h.jn b1 h1.2.1).jn b2 h1.1
theorem kbOk_0 {D : kbD} (hn : 0 < D.1 ∧ D.1 ≤ 7) {s : Int} : kbOk (2 * D.1) (kbLs D s 0) := by
  refine ⟨fun e e0 e1 => ⟨⟨e0, e1⟩, rfl⟩, ?_⟩
  show (if D.1 = 0 then 1 else 2 * D.1) = kbSm (fun e => if e = e then 1 else 0) (2 * D.1).toNat
  rw [if_neg (by omega), kbSm_congr (g := fun _ => 1) _ (fun e _ _ => if_pos rfl), kbSm_c]
  omega
theorem kbLs_ok {D : kbD} (hB : kbB D) (h0 : 0 < D.1) {s : Int} : ∀ k : Nat, (k : Int) ≤ D.1 → kbOk (2 * D.1) (kbLs D s k)
  | 0, _ => kbOk_0 ⟨h0, hB.1.2⟩
  | k + 1, hk => (kbLs_ok hB h0 k (by omega)).so hB ⟨by omega, by omega⟩
/-- at least one part -/
theorem kbOk.pos {N : Int} {X : kbX} (h : kbOk N X) (hN : 0 < N) : 1 ≤ X.2 := by
  have h1 := h.1 0 (by omega) hN
  have h2 := kbSm_up (f := fun e => if X.1 e = e then 1 else 0) (g := fun e => if e = X.1 0 then 0 else if X.1 e = e then 1 else 0) (a := X.1 0) N.toNat (by omega) (fun e _ _ he => by rw [if_neg he])
  have h3 := kbSm_nn (f := fun e => if e = X.1 0 then 0 else if X.1 e = e then 1 else 0) N.toNat (fun k _ _ => by split <;> (try split) <;> omega)
  rw [if_pos h1.2, if_pos rfl] at h2
  rw [h.2, h2]
  omega
/-- one join takes at most one part -/
theorem kbJn_2 {a b : Int} {X : kbX} : X.2 - 1 ≤ (kbJn a b X).2 ∧ (kbJn a b X).2 ≤ X.2 := by
  unfold kbJn
  dsimp only
  split <;> omega
theorem kbJn_eq {a b : Int} {X : kbX} {e f : Int} (h : X.1 e = X.1 f) : (kbJn a b X).1 e = (kbJn a b X).1 f := by
  unfold kbJn
  dsimp only
  rw [h]
theorem kbJn_ab {a b : Int} {X : kbX} : (kbJn a b X).1 a = (kbJn a b X).1 b := by
  unfold kbJn
  dsimp only
  rw [if_pos rfl]
  split <;> rfl
theorem kbSo_eq {D : kbD} {c t : Int} {X : kbX} {e f : Int} (h : X.1 e = X.1 f) : (kbSo D c t X).1 e = (kbSo D c t X).1 f := by
  unfold kbSo
  split <;> exact kbJn_eq (kbJn_eq h)
/-- .. with each pass over joined with the one before -/
def kbLx (D : kbD) (s : Int) : Nat → kbX
  | 0 => kbLs D s D.1.toNat
  | k + 1 => kbJn (kbBf D.1 (D.2.1 k)) (D.2.1 k) (kbLx D s k)
theorem kbLs_mono {D : kbD} {s e f : Int} {k : Nat} (h : (kbLs D s k).1 e = (kbLs D s k).1 f) : ∀ m : Nat, (kbLs D s (k + m)).1 e = (kbLs D s (k + m)).1 f
  | 0 => h
  | m + 1 => kbSo_eq (kbLs_mono h m)
theorem kbLx_mono {D : kbD} {s e f : Int} {k : Nat} (h : (kbLx D s k).1 e = (kbLx D s k).1 f) : ∀ m : Nat, (kbLx D s (k + m)).1 e = (kbLx D s (k + m)).1 f
  | 0 => h
  | m + 1 => kbJn_eq (kbLx_mono h m)
theorem kbLx_2 {D : kbD} {s : Int} : ∀ k : Nat, (kbLs D s D.1.toNat).2 - k ≤ (kbLx D s k).2
  | 0 => by simp [kbLx]
  | k + 1 => by
    have h1 := kbLx_2 (D := D) (s := s) k
    have h2 := (kbJn_2 (a := kbBf D.1 (D.2.1 k)) (b := D.2.1 k) (X := kbLx D s k)).1
    unfold kbLx
    omega
theorem kbLx_ok {D : kbD} (hB : kbB D) (h0 : 0 < D.1) {s : Int} : ∀ k : Nat, (k : Int) ≤ D.1 → kbOk (2 * D.1) (kbLx D s k)
  | 0, _ => kbLs_ok hB h0 _ (by omega)
  | k + 1, hk => (kbLx_ok hB h0 k (by omega)).jn (kbBf_in (hB.2 k (by omega) (by omega)).1) (hB.2 k (by omega) (by omega)).1
/-- how many loops a state has: at most one more than crossings -/
def kbLm (D : kbD) (s : Int) : Int := (kbLs D s D.1.toNat).2
theorem kbLm_le {D : kbD} {of vr sg : Int → Int} (hR : kbR D of vr sg) (s : Int) : 1 ≤ kbLm D s ∧ kbLm D s ≤ D.1 + 1 := by
  have hn := hR.1
  have hB := hR.B
  by_cases h0 : D.1 = 0
  · have e : kbLm D s = 1 := by
      unfold kbLm
      rw [h0]
      show (if D.1 = 0 then 1 else 2 * D.1) = 1
      rw [if_pos h0]
    omega
  · have hp : 0 < D.1 := by omega
    refine ⟨(kbLs_ok hB hp _ (by omega)).pos (by omega), ?_⟩
    have ok := kbLx_ok (s := s) hB hp D.1.toNat (by omega)
    have h2 := kbLx_2 (D := D) (s := s) D.1.toNat
    have step : ∀ c : Int, 0 ≤ c → c < D.1 → (kbLx D s D.1.toNat).1 (kbBf D.1 (D.2.1 c)) = (kbLx D s D.1.toNat).1 (D.2.1 c) ∧ (kbLx D s D.1.toNat).1 (kbBf D.1 (D.2.2.1 c)) = (kbLx D s D.1.toNat).1 (D.2.2.1 c) := by
      intro c c0 c1
      obtain ⟨k, hk⟩ : ∃ k : Nat, (k : Int) = c := ⟨c.toNat, by omega⟩
      subst hk
      have ex : (kbLx D s D.1.toNat).1 (kbBf D.1 (D.2.1 k)) = (kbLx D s D.1.toNat).1 (D.2.1 k) := by
        have h9 := kbLx_mono (D := D) (s := s) (k := k + 1) (e := kbBf D.1 (D.2.1 k)) (f := D.2.1 k) kbJn_ab (D.1.toNat - (k + 1))
        rw [show k + 1 + (D.1.toNat - (k + 1)) = D.1.toNat by omega] at h9
        exact h9
      have lift : ∀ e f : Int, (kbLs D s (k + 1)).1 e = (kbLs D s (k + 1)).1 f → (kbLx D s D.1.toNat).1 e = (kbLx D s D.1.toNat).1 f := by
        intro e f h
        have h9 := kbLs_mono h (D.1.toNat - (k + 1))
        rw [show k + 1 + (D.1.toNat - (k + 1)) = D.1.toNat by omega] at h9
        have h8 := kbLx_mono (D := D) (s := s) (k := 0) (e := e) (f := f) h9 D.1.toNat
        rw [show 0 + D.1.toNat = D.1.toNat by omega] at h8
        exact h8
      refine ⟨ex, ?_⟩
      by_cases ht : kbBi s k = 0
      · have a1 : (kbLs D s (k + 1)).1 (kbBf D.1 (D.2.1 k)) = (kbLs D s (k + 1)).1 (kbBf D.1 (D.2.2.1 k)) := by
          show (kbSo D k (kbBi s k) (kbLs D s k)).1 _ = (kbSo D k (kbBi s k) (kbLs D s k)).1 _
          unfold kbSo
          rw [if_pos ht]
          exact kbJn_eq kbJn_ab
        have a2 : (kbLs D s (k + 1)).1 (D.2.1 k) = (kbLs D s (k + 1)).1 (D.2.2.1 k) := by
          show (kbSo D k (kbBi s k) (kbLs D s k)).1 _ = (kbSo D k (kbBi s k) (kbLs D s k)).1 _
          unfold kbSo
          rw [if_pos ht]
          exact kbJn_ab
        have b1 := lift _ _ a1
        have b2 := lift _ _ a2
        exact b1.symm.trans (ex.trans b2)
      · have a1 : (kbLs D s (k + 1)).1 (kbBf D.1 (D.2.1 k)) = (kbLs D s (k + 1)).1 (D.2.2.1 k) := by
          show (kbSo D k (kbBi s k) (kbLs D s k)).1 _ = (kbSo D k (kbBi s k) (kbLs D s k)).1 _
          unfold kbSo
          rw [if_neg ht]
          exact kbJn_eq kbJn_ab
        have a2 : (kbLs D s (k + 1)).1 (kbBf D.1 (D.2.2.1 k)) = (kbLs D s (k + 1)).1 (D.2.1 k) := by
          show (kbSo D k (kbBi s k) (kbLs D s k)).1 _ = (kbSo D k (kbBi s k) (kbLs D s k)).1 _
          unfold kbSo
          rw [if_neg ht]
          exact kbJn_ab
        have b1 := lift _ _ a1
        have b2 := lift _ _ a2
        exact b2.trans (ex.symm.trans b1)
    have all : ∀ p : Nat, (p : Int) < 2 * D.1 → (kbLx D s D.1.toNat).1 p = (kbLx D s D.1.toNat).1 0 := by
      intro p
      induction p with
      | zero => intro _; rfl
      | succ p ih =>
        intro hp1
        have h3 := hR.2.2 ((p + 1 : Nat) : Int) (by omega) hp1
        have h4 := step (of ((p + 1 : Nat) : Int)) h3.1.1 h3.1.2
        have h5 : (kbLx D s D.1.toNat).1 (kbBf D.1 ((p + 1 : Nat) : Int)) = (kbLx D s D.1.toNat).1 ((p + 1 : Nat) : Int) := by
          rcases h3.2 with ⟨_, h6⟩ | ⟨_, h6⟩
          · rw [h6] at h4; exact h4.1
          · rw [h6] at h4; exact h4.2
        have h7 : kbBf D.1 ((p + 1 : Nat) : Int) = (p : Int) := by unfold kbBf; rw [if_neg (by omega)]; omega
        rw [h7] at h5
        exact h5.symm.trans (ih (by omega))
    have one : (kbLx D s D.1.toNat).2 = 1 := by
      have k0 := ok.1 0 (by omega) (by omega)
      rw [ok.2, kbSm_congr (g := fun e => if e = (kbLx D s D.1.toNat).1 0 then 1 else 0) _ (fun e e0 e1 => ?_), kbSm_1 _ (by omega)]
      have h8 := all e.toNat (by omega)
      rw [show ((e.toNat : Nat) : Int) = e by omega] at h8
      rw [h8]
      by_cases g : e = (kbLx D s D.1.toNat).1 0
      · rw [if_pos g.symm, if_pos g]
      · rw [if_neg (fun h => g h.symm), if_neg g]
    rw [one] at h2
    unfold kbLm
    omega
