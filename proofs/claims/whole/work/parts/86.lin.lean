/-! Solutions counted: sums over colours, elimination. -/
noncomputable def kbId (P : Prop) : Int := @ite Int P (Classical.propDecidable P) 1 0
theorem kbId_t {P : Prop} (h : P) : kbId P = 1 := by unfold kbId; rw [if_pos h]
theorem kbId_f {P : Prop} (h : ¬ P) : kbId P = 0 := by unfold kbId; rw [if_neg h]
theorem kbId_c {P Q : Prop} (h : P ↔ Q) : kbId P = kbId Q := by rw [propext h]
theorem kbId_a {P Q : Prop} : kbId (P ∧ Q) = kbId P * kbId Q := by
  by_cases hp : P
  · by_cases hq : Q
    · rw [kbId_t ⟨hp, hq⟩, kbId_t hp, kbId_t hq]; rfl
    · rw [kbId_f (fun h => hq h.2), kbId_f hq, Int.mul_zero]
  · rw [kbId_f (fun h => hp h.1), kbId_f hp, Int.zero_mul]
abbrev kbCo : Type := Int → Int
def kbPu (x : kbCo) (k c : Int) : kbCo := fun j => if j = k then c else x j
def kbSk (p : Nat) (k : Int) (f : kbCo → Int) : kbCo → Int := fun x => kbSm (fun c => f (kbPu x k c)) p
def kbTc (p n : Nat) : Nat → (kbCo → Int) → kbCo → Int
  | 0, f => f
  | m + 1, f => kbTc p n m (kbSk p ((n : Int) - m - 1) f)
def kbUc (p n : Nat) : Nat → (kbCo → Int) → kbCo → Int
  | 0, f => f
  | m + 1, f => kbSk p ((n : Int) - m - 1) (kbUc p n m f)
theorem kbPu_sw {x : kbCo} {k j a b : Int} (h : k ≠ j) : kbPu (kbPu x k a) j b = kbPu (kbPu x j b) k a := by
  funext i
  unfold kbPu
  by_cases h1 : i = j
  · rw [if_pos h1, if_neg (by omega), if_pos h1]
  · by_cases h2 : i = k
    · rw [if_neg h1, if_pos h2, if_pos h2]
    · rw [if_neg h1, if_neg h2, if_neg h2, if_neg h1]
theorem kbSk_sw {p : Nat} {k j : Int} (h : k ≠ j) (f : kbCo → Int) : kbSk p k (kbSk p j f) = kbSk p j (kbSk p k f) := by
  funext x
  show kbSm (fun a => kbSm (fun b => f (kbPu (kbPu x k a) j b)) p) p = kbSm (fun b => kbSm (fun a => f (kbPu (kbPu x j b) k a)) p) p
  rw [kbSm_swap p p]
  refine kbSm_congr _ (fun b _ _ => kbSm_congr _ (fun a _ _ => ?_))
  rw [kbPu_sw h]
theorem kbSk_T {p n : Nat} : ∀ (m : Nat) (k : Int) (f : kbCo → Int), k < (n : Int) - m → kbSk p k (kbTc p n m f) = kbTc p n m (kbSk p k f)
  | 0, _, _, _ => rfl
  | m + 1, k, f, h => by
    show kbSk p k (kbTc p n m (kbSk p ((n : Int) - m - 1) f)) = kbTc p n m (kbSk p ((n : Int) - m - 1) (kbSk p k f))
    rw [kbSk_T m k _ (by omega), kbSk_sw (by omega)]
theorem kbUT {p n : Nat} : ∀ (m : Nat) (f : kbCo → Int), kbUc p n m f = kbTc p n m f
  | 0, _ => rfl
  | m + 1, f => by
    show kbSk p ((n : Int) - m - 1) (kbUc p n m f) = kbTc p n m (kbSk p ((n : Int) - m - 1) f)
    rw [kbUT m f, kbSk_T m _ f (by omega)]
theorem kbSm_mul {f : Int → Int} (a : Int) : ∀ n : Nat, kbSm (fun k => a * f k) n = a * kbSm f n
  | 0 => by simp [kbSm]
  | n + 1 => by
    unfold kbSm
    rw [kbSm_mul a n, Int.mul_add]
theorem kbTc_mul {p n : Nat} (a : Int) : ∀ (m : Nat) (f : kbCo → Int) (x : kbCo), kbTc p n m (fun y => a * f y) x = a * kbTc p n m f x
  | 0, _, _ => rfl
  | m + 1, f, x => by
    show kbTc p n m (kbSk p ((n : Int) - m - 1) (fun y => a * f y)) x = a * kbTc p n m (kbSk p ((n : Int) - m - 1) f) x
    have e : kbSk p ((n : Int) - m - 1) (fun y => a * f y) = fun y => a * kbSk p ((n : Int) - m - 1) f y := by
      funext y
      exact kbSm_mul a p
    rw [e, kbTc_mul a m]
theorem kbSm_dvd {p : Int} {f : Int → Int} : ∀ n : Nat, (∀ k : Int, 0 ≤ k → k < n → p ∣ f k) → p ∣ kbSm f n
  | 0, _ => Int.dvd_zero p
  | n + 1, h => by
    unfold kbSm
    exact Int.dvd_add (kbSm_dvd n (fun k k0 k1 => h k k0 (by omega))) (h n (by omega) (by omega))
def kbDot (M : Int → Int → Int) (n : Nat) (r : Int) (x : kbCo) : Int := kbSm (fun c => M r c * x c) n
def kbSat (p : Int) (M : Int → Int → Int) (n : Nat) (lo : Int) (x : kbCo) : Prop := ∀ r : Int, lo ≤ r → r < n → p ∣ kbDot M n r x
theorem kbDot_pu {M : Int → Int → Int} {n : Nat} {r k c : Int} {x : kbCo} (hk : 0 ≤ k ∧ k < n) : kbDot M n r (kbPu x k c) = M r k * c + kbDot M n r (kbPu x k 0) := by
  unfold kbDot
  rw [kbSm_up (f := fun j => M r j * kbPu x k c j) (g := fun j => M r j * kbPu x k 0 j) (a := k) n hk (fun j _ _ hj => by unfold kbPu; rw [if_neg hj, if_neg hj])]
  have e1 : kbPu x k c k = c := if_pos rfl
  have e2 : kbPu x k 0 k = 0 := if_pos rfl
  rw [e1, e2, Int.mul_zero]
  omega
theorem kbDot_z {M : Int → Int → Int} {n : Nat} {r k c : Int} {x : kbCo} (h : M r k = 0) : kbDot M n r (kbPu x k c) = kbDot M n r x := by
  unfold kbDot
  refine kbSm_congr _ (fun j _ _ => ?_)
  unfold kbPu
  by_cases hj : j = k
  · rw [hj, h, Int.zero_mul, Int.zero_mul]
  · rw [if_neg hj]
theorem kbOneA : ∀ q : Nat, q < 3 → q ≠ 0 → ∀ t : Nat, t < 3 → kbSm (fun c => if ((q : Int) * c + (t : Int)) % 3 = 0 then 1 else 0) 3 = 1 := by decide +kernel
theorem kbOneB : ∀ q : Nat, q < 5 → q ≠ 0 → ∀ t : Nat, t < 5 → kbSm (fun c => if ((q : Int) * c + (t : Int)) % 5 = 0 then 1 else 0) 5 = 1 := by decide +kernel
theorem kbOneC : ∀ q : Nat, q < 7 → q ≠ 0 → ∀ t : Nat, t < 7 → kbSm (fun c => if ((q : Int) * c + (t : Int)) % 7 = 0 then 1 else 0) 7 = 1 := by decide +kernel
/-- a number that makes a sum right, one of p -/
theorem kbOne {p : Nat} (hp : p = 3 ∨ p = 5 ∨ p = 7) {q t : Int} (hq : 0 < q ∧ q < p) : kbSm (fun c => kbId ((p : Int) ∣ q * c + t)) p = 1 := by
  have hm : 0 ≤ t % (p : Int) ∧ t % (p : Int) < p := ⟨Int.emod_nonneg t (by omega), Int.emod_lt_of_pos t (by omega)⟩
  have e : ∀ c : Int, 0 ≤ c → c < p → kbId ((p : Int) ∣ q * c + t) = if (((q.toNat : Nat) : Int) * c + (((t % (p : Int)).toNat : Nat) : Int)) % (p : Int) = 0 then 1 else 0 := by
    intro c _ _
    rw [show ((q.toNat : Nat) : Int) = q by omega, show (((t % (p : Int)).toNat : Nat) : Int) = t % (p : Int) by omega]
    have e2 : (q * c + t % (p : Int)) % (p : Int) = (q * c + t) % (p : Int) := Int.add_emod_emod _ _ _
    rw [e2]
    by_cases h : (p : Int) ∣ q * c + t
    · rw [kbId_t h, if_pos (Int.emod_eq_zero_of_dvd h)]
    · rw [kbId_f h, if_neg (fun h9 => h (Int.dvd_of_emod_eq_zero h9))]
  rw [kbSm_congr _ e]
  rcases hp with rfl | rfl | rfl
  · exact kbOneA q.toNat (by omega) (by omega) _ (by omega)
  · exact kbOneB q.toNat (by omega) (by omega) _ (by omega)
  · exact kbOneC q.toNat (by omega) (by omega) _ (by omega)
theorem kbPrA : ∀ a : Nat, a < 3 → ∀ b : Nat, b < 3 → a * b % 3 = 0 → a = 0 ∨ b = 0 := by decide +kernel
theorem kbPrB : ∀ a : Nat, a < 5 → ∀ b : Nat, b < 5 → a * b % 5 = 0 → a = 0 ∨ b = 0 := by decide +kernel
theorem kbPrC : ∀ a : Nat, a < 7 → ∀ b : Nat, b < 7 → a * b % 7 = 0 → a = 0 ∨ b = 0 := by decide +kernel
theorem kbPrime {p : Nat} (hp : p = 3 ∨ p = 5 ∨ p = 7) {q a : Int} (hq : 0 < q ∧ q < p) (h : (p : Int) ∣ q * a) : (p : Int) ∣ a := by
  have hm : 0 ≤ a % (p : Int) ∧ a % (p : Int) < p := ⟨Int.emod_nonneg a (by omega), Int.emod_lt_of_pos a (by omega)⟩
  have h1 : (q * (a % (p : Int))) % (p : Int) = 0 := by
    have e := Int.mul_emod q a (p : Int)
    rw [Int.emod_eq_of_lt (a := q) (by omega) hq.2] at e
    rw [← e]
    exact Int.emod_eq_zero_of_dvd h
  have h2 : q.toNat * (a % (p : Int)).toNat % p = 0 := by
    have e : ((q.toNat * (a % (p : Int)).toNat % p : Nat) : Int) = (q * (a % (p : Int))) % (p : Int) := by
      rw [Int.natCast_emod, Int.natCast_mul, show ((q.toNat : Nat) : Int) = q by omega, show (((a % (p : Int)).toNat : Nat) : Int) = a % (p : Int) by omega]
    omega
  refine Int.dvd_of_emod_eq_zero ?_
  have h3 : q.toNat = 0 ∨ (a % (p : Int)).toNat = 0 := by
    rcases hp with rfl | rfl | rfl
    · exact kbPrA _ (by omega) _ (by omega) h2
    · exact kbPrB _ (by omega) _ (by omega) h2
    · exact kbPrC _ (by omega) _ (by omega) h2
  omega
/-- eliminated so far: r rows of the columns ahead of col -/
def kbEl (p n : Nat) (N : Int) (M : Int → Int → Int) (r col : Nat) : Prop := (r ≤ col ∧ col ≤ n) ∧ (∀ i j : Int, (r : Int) ≤ i → i < n → 0 ≤ j → j < col → M i j = 0) ∧ (∀ i j : Int, 0 ≤ i → i < n → 0 ≤ j → j < n → 0 ≤ M i j ∧ M i j < p) ∧
  N = (p : Int) ^ (col - r) * kbTc p n (n - col) (fun x => kbId (kbSat p M n r x)) (fun _ => 0)
theorem kbEl_0 {p n : Nat} {M : Int → Int → Int} (h : ∀ i j : Int, 0 ≤ i → i < n → 0 ≤ j → j < n → 0 ≤ M i j ∧ M i j < p) : kbEl p n (kbTc p n n (fun x => kbId (kbSat p M n 0 x)) (fun _ => 0)) M 0 0 :=
  ⟨by omega, fun i j _ _ _ _ => by omega, h, by rw [Nat.sub_self, Int.pow_zero, Int.one_mul]; rfl⟩
theorem kbEl.no {p n : Nat} {N : Int} {M : Int → Int → Int} {r col : Nat} (h : kbEl p n N M r col) (hc : col < n) (h0 : ∀ i : Int, (r : Int) ≤ i → i < n → M i col = 0) : kbEl p n N M r (col + 1) := by
  obtain ⟨h1, h2, h3, h4⟩ := h
  refine ⟨by omega, fun i j i0 i1 j0 j1 => ?_, h3, ?_⟩
  · by_cases hj : j = col
    · rw [hj]; exact h0 i i0 i1
    · exact h2 i j i0 i1 j0 (by omega)
  · rw [h4, show n - col = (n - (col + 1)) + 1 by omega, show col + 1 - r = (col - r) + 1 by omega, Int.pow_succ, Int.mul_assoc]
    congr 1
    rw [← kbTc_mul]
    show kbTc p n (n - (col + 1)) (kbSk p ((n : Int) - (n - (col + 1) : Nat) - 1) (fun x => kbId (kbSat p M n r x))) _ = _
    rw [show (n : Int) - (n - (col + 1) : Nat) - 1 = col by omega]
    congr 1
    funext x
    show kbSm (fun c => kbId (kbSat p M n r (kbPu x col c))) p = (p : Int) * kbId (kbSat p M n r x)
    rw [kbSm_congr (g := fun _ => kbId (kbSat p M n r x)) _ (fun c _ _ => kbId_c ?_), kbSm_c, Int.mul_comm]
    constructor
    · intro h i i0 i1
      rw [← kbDot_z (k := col) (c := c) (h0 i i0 i1)]
      exact h i i0 i1
    · intro h i i0 i1
      rw [kbDot_z (h0 i i0 i1)]
      exact h i i0 i1
theorem kbEl.yes {p n : Nat} (hp : p = 3 ∨ p = 5 ∨ p = 7) {N : Int} {M M' : Int → Int → Int} {r col : Nat} (h : kbEl p n N M r col) (hc : col < n) (hs : ∀ x : kbCo, kbSat p M n r x ↔ kbSat p M' n r x)
    (hz : ∀ i j : Int, (r : Int) ≤ i → i < n → 0 ≤ j → j < col → M' i j = 0) (h0 : ∀ i : Int, (r : Int) + 1 ≤ i → i < n → M' i col = 0) (hq : M' r col ≠ 0) (hb : ∀ i j : Int, 0 ≤ i → i < n → 0 ≤ j → j < n → 0 ≤ M' i j ∧ M' i j < p) : kbEl p n N M' (r + 1) (col + 1) := by
  obtain ⟨h1, h2, h3, h4⟩ := h
  have hqb := hb r col (by omega) (by omega) (by omega) (by omega)
  refine ⟨by omega, fun i j i0 i1 j0 j1 => ?_, hb, ?_⟩
  · by_cases hj : j = col
    · rw [hj]; exact h0 i (by omega) i1
    · exact hz i j (by omega) i1 j0 (by omega)
  · rw [h4, show n - col = (n - (col + 1)) + 1 by omega, show col + 1 - (r + 1) = col - r by omega]
    congr 1
    show kbTc p n (n - (col + 1)) (kbSk p ((n : Int) - (n - (col + 1) : Nat) - 1) (fun x => kbId (kbSat p M n r x))) _ = _
    rw [show (n : Int) - (n - (col + 1) : Nat) - 1 = col by omega]
    congr 1
    funext x
    show kbSm (fun c => kbId (kbSat p M n r (kbPu x col c))) p = kbId (kbSat p M' n ((r + 1 : Nat) : Int) x)
    have e : ∀ c : Int, 0 ≤ c → c < p → kbId (kbSat p M n r (kbPu x col c)) = kbId (kbSat p M' n ((r + 1 : Nat) : Int) x) * kbId ((p : Int) ∣ M' r col * c + kbDot M' n r (kbPu x col 0)) := by
      intro c _ _
      rw [← kbId_a]
      refine kbId_c ((hs _).trans ⟨fun h => ⟨fun i i0 i1 => ?_, ?_⟩, fun h i i0 i1 => ?_⟩)
      · rw [← kbDot_z (k := col) (c := c) (h0 i (by omega) i1)]
        exact h i (by omega) i1
      · rw [← kbDot_pu ⟨by omega, by omega⟩]
        exact h r (Int.le_refl _) (by omega)
      · by_cases hir : i = r
        · rw [hir, kbDot_pu ⟨by omega, by omega⟩]
          exact h.2
        · rw [kbDot_z (h0 i (by omega) i1)]
          exact h.1 i (by omega) i1
    rw [kbSm_congr _ e, kbSm_mul, kbOne hp (by omega), Int.mul_one]
theorem kbEl.fin {p n : Nat} {N : Int} {M : Int → Int → Int} {r : Nat} (h : kbEl p n N M r n) : N = (p : Int) ^ (n - r) := by
  obtain ⟨h1, h2, h3, h4⟩ := h
  rw [h4, Nat.sub_self]
  show _ * kbId (kbSat p M n r (fun _ => 0)) = _
  have hsat : kbSat p M n r (fun _ => 0) := fun i i0 i1 => kbSm_dvd _ (fun j _ _ => by
    show (p : Int) ∣ M i j * 0
    rw [Int.mul_zero]; exact Int.dvd_zero _)
  rw [kbId_t hsat, Int.mul_one]
/-- a row of other rows, what it says -/
theorem kbDot_lin {M M' : Int → Int → Int} {n : Nat} {p i r a b : Int} {x : kbCo} (h : ∀ c : Int, 0 ≤ c → c < n → p ∣ M' i c - (a * M i c + b * M r c)) : p ∣ kbDot M' n i x - (a * kbDot M n i x + b * kbDot M n r x) := by
  have e : kbDot M' n i x - (a * kbDot M n i x + b * kbDot M n r x) = kbSm (fun c => (M' i c - (a * M i c + b * M r c)) * x c) n := by
    unfold kbDot
    rw [← kbSm_mul, ← kbSm_mul, ← kbSm_add, ← kbSm_sub]
    refine kbSm_congr _ (fun c _ _ => ?_)
    rw [Int.sub_mul, Int.add_mul, Int.mul_assoc, Int.mul_assoc]
  rw [e]
  exact kbSm_dvd _ (fun c c0 c1 => Int.dvd_mul_of_dvd_left (h c c0 c1))
/-- rows below the pivot's row combined with it: the same solutions -/
theorem kbSat_el {p n : Nat} (hp : p = 3 ∨ p = 5 ∨ p = 7) {M M' : Int → Int → Int} {r : Int} (hr : M' r = M r) (hl : ∀ i : Int, r < i → i < n → ∃ a b : Int, (0 < a ∧ a < p) ∧ ∀ c : Int, 0 ≤ c → c < n → (p : Int) ∣ M' i c - (a * M i c + b * M r c)) (hn : r < n) (x : kbCo) : kbSat p M n r x ↔ kbSat p M' n r x := by
  have er : kbDot M' n r x = kbDot M n r x := by unfold kbDot; rw [hr]
  constructor
  · intro h i i0 i1
    have h0 := h r (Int.le_refl _) hn
    by_cases hi : i = r
    · rw [hi, er]; exact h0
    · obtain ⟨a, b, ha, hd⟩ := hl i (by omega) i1
      have h3 := kbDot_lin (x := x) hd
      have h4 : (p : Int) ∣ a * kbDot M n i x + b * kbDot M n r x := Int.dvd_add (Int.dvd_mul_of_dvd_right (h i i0 i1)) (Int.dvd_mul_of_dvd_right h0)
      have h5 := Int.dvd_add h3 h4
      rw [Int.sub_add_cancel] at h5
      exact h5
  · intro h i i0 i1
    have h0 := h r (Int.le_refl _) hn
    rw [er] at h0
    by_cases hi : i = r
    · rw [hi]; exact h0
    · obtain ⟨a, b, ha, hd⟩ := hl i (by omega) i1
      have h3 := kbDot_lin (x := x) hd
      have h4 := Int.dvd_sub (h i i0 i1) h3
      rw [show kbDot M' n i x - (kbDot M' n i x - (a * kbDot M n i x + b * kbDot M n r x)) = a * kbDot M n i x + b * kbDot M n r x by omega] at h4
      have h5 := Int.dvd_sub h4 (Int.dvd_mul_of_dvd_right (b := b) h0)
      rw [Int.add_sub_cancel] at h5
      exact kbPrime hp ha h5
/-- two rows exchanged -/
def kbEx2 (r q : Int) (M : Int → Int → Int) : Int → Int → Int := fun i => if i = r then M q else if i = q then M r else M i
theorem kbSat_ex {p : Int} {n : Nat} {M : Int → Int → Int} {r q : Int} (hr : r ≤ q ∧ q < n) (x : kbCo) : kbSat p M n r x ↔ kbSat p (kbEx2 r q M) n r x := by
  have e : ∀ i : Int, kbDot (kbEx2 r q M) n i x = if i = r then kbDot M n q x else if i = q then kbDot M n r x else kbDot M n i x := by
    intro i
    unfold kbDot kbEx2
    by_cases h1 : i = r
    · rw [if_pos h1, if_pos h1]
    · by_cases h2 : i = q
      · rw [if_neg h1, if_pos h2, if_neg h1, if_pos h2]
      · rw [if_neg h1, if_neg h2, if_neg h1, if_neg h2]
  constructor
  · intro h i i0 i1
    rw [e]
    split
    · exact h q hr.1 hr.2
    · split
      · exact h r (Int.le_refl _) (by omega)
      · exact h i i0 i1
  · intro h i i0 i1
    by_cases h1 : i = r
    · have h3 := h q hr.1 hr.2
      rw [e] at h3
      by_cases h2 : q = r
      · rw [if_pos h2] at h3; rw [h1, ← h2]; exact h3
      · rw [if_neg h2, if_pos rfl] at h3; rw [h1]; exact h3
    · by_cases h2 : i = q
      · have h3 := h r (Int.le_refl _) (by omega)
        rw [e, if_pos rfl] at h3
        rw [h2]; exact h3
      · have h3 := h i i0 i1
        rw [e, if_neg h1, if_neg h2] at h3
        exact h3
