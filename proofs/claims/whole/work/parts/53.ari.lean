/-! The machine's division, remainder, signs. -/
theorem kbDvQ {x y : Int} (hx : knC x) (hy : 0 < y ∧ y ≤ 2147483647) : Int32.ofInt x / Int32.ofInt y = Int32.ofInt (x.tdiv y) :=
  (Int32.ofInt_tdiv (show (-2147483648 : Int) ≤ x from hx.1) (show x ≤ (2147483647 : Int) from hx.2) (show (-2147483648 : Int) ≤ y by omega) (show y ≤ (2147483647 : Int) from hy.2)).symm
theorem kbDvC {x y : Int} (hx : knC x) (hy : 0 < y ∧ y ≤ 2147483647) : knC (x.tdiv y) := by
  by_cases h : 0 ≤ x
  · rw [Int.tdiv_eq_ediv_of_nonneg h]
    have h1 : x / y ≤ x := Int.ediv_le_self y h
    have h2 : 0 ≤ x / y := Int.ediv_nonneg h (by omega)
    have := hx.2
    constructor <;> omega
  · have e : x.tdiv y = -((-x) / y) := by
      rw [← Int.tdiv_eq_ediv_of_nonneg (by omega), Int.neg_tdiv, Int.neg_neg]
    rw [e]
    have h1 : (-x) / y ≤ -x := Int.ediv_le_self y (by omega)
    have h2 : 0 ≤ (-x) / y := Int.ediv_nonneg (by omega) (by omega)
    have := hx.1
    constructor <;> omega
theorem kbDvI {x y : Int} (hx : knC x) (hy : 0 < y ∧ y ≤ 2147483647) : knDiv x y = x.tdiv y := by
  unfold knDiv
  rw [kbDvQ hx hy, knTI (kbDvC hx hy)]
theorem kbRmI {x y : Int} (hx : knC x) (hy : 0 < y ∧ y ≤ 2147483647) : knRem x y = x.tmod y := by
  have e : x.tmod y = x - x.tdiv y * y := by rw [Int.tmod_def, Int.mul_comm]
  have hc : knC (x.tmod y) := by
    by_cases h : 0 ≤ x
    · rw [Int.tmod_eq_emod_of_nonneg h]
      have h1 := Int.emod_nonneg x (show y ≠ 0 by omega)
      have h2 := Int.emod_lt_of_pos x hy.1
      constructor <;> omega
    · have e : x.tmod y = -((-x) % y) := by
        rw [← Int.tmod_eq_emod_of_nonneg (by omega), Int.neg_tmod, Int.neg_neg]
      rw [e]
      have h1 := Int.emod_nonneg (-x) (show y ≠ 0 by omega)
      have h2 := Int.emod_lt_of_pos (-x) hy.1
      constructor <;> omega
  unfold knRem
  rw [kbDvQ hx hy, ← Int32.ofInt_mul, ← Int32.ofInt_sub, ← e, knTI hc]
theorem kbDv {x y : Int} (hx : 0 ≤ x ∧ x ≤ 2147483647) (hy : 0 < y ∧ y ≤ 2147483647) : knDiv x y = x / y := by
  rw [kbDvI ⟨by omega, by omega⟩ hy, Int.tdiv_eq_ediv_of_nonneg hx.1]
theorem kbRe {x y : Int} (hx : 0 ≤ x ∧ x ≤ 2147483647) (hy : 0 < y ∧ y ≤ 2147483647) : knRem x y = x % y := by
  rw [kbRmI ⟨by omega, by omega⟩ hy, Int.tmod_eq_emod_of_nonneg hx.1]
theorem kbXr {x y : Int} (hx : knC x) (hy : knC y) : 0 ≤ knXor x y ↔ (0 ≤ x ↔ 0 ≤ y) := by
  have key : ∀ z : Int32, 0 ≤ z.toInt ↔ z.toBitVec.msb = false := fun z => by
    have h : z.toBitVec.msb = decide (z.toBitVec.toInt < 0) := BitVec.msb_eq_toInt
    rw [h, Int32.toInt_toBitVec]
    simp
  unfold knXor
  rw [key]
  have e : (Int32.ofInt x ^^^ Int32.ofInt y).toBitVec = (Int32.ofInt x).toBitVec ^^^ (Int32.ofInt y).toBitVec := rfl
  rw [e, BitVec.msb_xor]
  have h1 := key (Int32.ofInt x)
  have h2 := key (Int32.ofInt y)
  rw [knTI hx] at h1
  rw [knTI hy] at h2
  rw [h1, h2]
  cases (Int32.ofInt x).toBitVec.msb <;> cases (Int32.ofInt y).toBitVec.msb <;> simp
theorem kb9_floorMod {x m : Int} {μ : knMem} (hx : -1000000000 ≤ x ∧ x ≤ 1000000000) (hm : 0 < m ∧ m ≤ 1000000000) : kfJ9_floorMod_7cf53 x m μ = some (x % m) := by
  have hc : knC x := ⟨by omega, by omega⟩
  have hcm : knC m := ⟨by omega, by omega⟩
  have hr := kbRmI hc (y := m) ⟨hm.1, by omega⟩
  have hX := kbXr hc hcm
  have hpos : 0 ≤ m := by omega
  unfold kfJ9_floorMod_7cf53
  rw [kbGd (by omega), hr, Int.tmod_eq_emod]
  have h1 := Int.emod_nonneg x (show m ≠ 0 by omega)
  have h2 := Int.emod_lt_of_pos x hm.1
  by_cases h : 0 ≤ x
  · have h3 : 0 ≤ knXor x m := hX.mpr ⟨fun _ => hpos, fun _ => h⟩
    simp only [if_pos h3, if_pos (Or.inl h : 0 ≤ x ∨ m ∣ x)]
    simp
  · have h3 : ¬ 0 ≤ knXor x m := fun h9 => h ((hX.mp h9).mpr hpos)
    simp only [if_neg h3]
    by_cases hd : m ∣ x
    · have h4 : x % m = 0 := Int.emod_eq_zero_of_dvd hd
      simp only [if_pos (Or.inr hd : 0 ≤ x ∨ m ∣ x), h4]
      simp
    · have h4 : ¬ (0 ≤ x ∨ m ∣ x) := fun h9 => h9.elim h hd
      have h5 : x % m ≠ 0 := fun h9 => hd (Int.dvd_of_emod_eq_zero h9)
      have e : ((m.natAbs : Nat) : Int) = m := by omega
      simp only [if_neg h4, e]
      rw [if_neg (by omega), knW_id (by omega)]
      congr 1
      omega
