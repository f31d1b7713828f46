/-! The picture of the whole world: one memory of whole numbers, object by object; what each object is never changes once all are made. -/
abbrev knMem : Type := Int → Int → Int
/-- the memory with one place written -/
def knUp (μ : knMem) (o k v : Int) : knMem := fun p => if p = o then (fun i => if i = k then v else μ p i) else μ p
/-- an int's number: what a result wraps to -/
def knW (x : Int) : Int := (Int32.ofInt x).toInt
/-- a number that an int can be -/
def knC (x : Int) : Prop := -2147483648 ≤ x ∧ x ≤ 2147483647
def knZ (x : Int) : Prop := x = 0 ∨ x = 1
def knH (x : Int) : Prop := 0 ≤ x ∧ x < 65536
def knNz (x : Int) : Int := (vp_nar .boolean (Int32.ofInt x)).toInt
def knNc (x : Int) : Int := (vp_nar .char (Int32.ofInt x)).toInt
def knShl (x y : Int) : Int := (Int32.ofInt x <<< (Int32.ofInt y &&& 31)).toInt
def knShr (x y : Int) : Int := (Int32.ofInt x >>> (Int32.ofInt y &&& 31)).toInt
def knAnd (x y : Int) : Int := (Int32.ofInt x &&& Int32.ofInt y).toInt
def knOr (x y : Int) : Int := (Int32.ofInt x ||| Int32.ofInt y).toInt
def knDiv (x y : Int) : Int := (Int32.ofInt x / Int32.ofInt y).toInt
def knRem (x y : Int) : Int := (Int32.ofInt x - Int32.ofInt x / Int32.ofInt y * Int32.ofInt y).toInt
def knI2c (x : Int) : Int := ((Int32.ofInt x).toUInt32 % 65536).toInt32.toInt
/-- a value on the machine's stack -/
def knV (x : Int) : Value := .int (Int32.ofInt x)
def knVl (x : Int) : Value := .long (Int64.ofInt x)
theorem knW_id {x : Int} (h : -2147483648 ≤ x ∧ x ≤ 2147483647) : knW x = x := Int32.toInt_ofInt_of_le (by omega) (by omega)
theorem knCt (x : Int32) : knC x.toInt := by
  have h1 := Int32.le_toInt x
  have h2 := Int32.toInt_lt x
  constructor <;> omega
theorem knCw (x : Int) : knC (knW x) := knCt _
theorem knC_nz (x : Int) : knC (knNz x) := knCt _
theorem knC_nc (x : Int) : knC (knNc x) := knCt _
theorem knC_shl (x y : Int) : knC (knShl x y) := knCt _
theorem knC_shr (x y : Int) : knC (knShr x y) := knCt _
theorem knC_and (x y : Int) : knC (knAnd x y) := knCt _
theorem knC_or (x y : Int) : knC (knOr x y) := knCt _
theorem knC_div (x y : Int) : knC (knDiv x y) := knCt _
theorem knC_rem (x y : Int) : knC (knRem x y) := knCt _
theorem knC_i2c (x : Int) : knC (knI2c x) := knCt _
theorem knZ_c {x : Int} (h : knZ x) : knC x := by rcases h with rfl | rfl <;> (constructor <;> omega)
theorem knH_c {x : Int} (h : knH x) : knC x := ⟨by have := h.1; omega, by have := h.2; omega⟩
theorem knZ_h {x : Int} (h : knZ x) : knH x := by rcases h with rfl | rfl <;> (constructor <;> omega)
theorem knC_ite {P : Prop} [Decidable P] {a b : Int} (ha : knC a) (hb : knC b) : knC (if P then a else b) := by
  by_cases h : P
  · rw [if_pos h]; exact ha
  · rw [if_neg h]; exact hb
theorem knZ_ite {P : Prop} [Decidable P] {a b : Int} (ha : knZ a) (hb : knZ b) : knZ (if P then a else b) := by
  by_cases h : P
  · rw [if_pos h]; exact ha
  · rw [if_neg h]; exact hb
theorem knTI {x : Int} (h : knC x) : (Int32.ofInt x).toInt = x := Int32.toInt_ofInt_of_le (by have := h.1; omega) (by have := h.2; omega)
theorem knOw (x : Int) : Int32.ofInt (knW x) = Int32.ofInt x := Int32.ofInt_toInt _
theorem kn_lt {x y : Int} (hx : knC x) (hy : knC y) : Int32.ofInt x < Int32.ofInt y ↔ x < y := by rw [Int32.lt_iff_toInt_lt, knTI hx, knTI hy]
theorem kn_le {x y : Int} (hx : knC x) (hy : knC y) : Int32.ofInt x ≤ Int32.ofInt y ↔ x ≤ y := by rw [Int32.le_iff_toInt_le, knTI hx, knTI hy]
theorem kn_eq {x y : Int} (hx : knC x) (hy : knC y) : Int32.ofInt x = Int32.ofInt y ↔ x = y := by rw [← Int32.toInt_inj, knTI hx, knTI hy]
theorem kn_clamp {x : Int} (hx : knC x) : (Int32.ofInt x).toNatClampNeg = x.toNat := by
  show (Int32.ofInt x).toInt.toNat = x.toNat
  rw [knTI hx]
theorem kn_in {x : Int} {n : Nat} (hx : knC x) (h0 : 0 ≤ x) (h1 : x < (n : Int)) : vp_in (Int32.ofInt x) n := by
  intro h
  rcases h with h | h
  · rw [show (0 : Int32) = Int32.ofInt 0 from rfl, kn_lt hx ⟨by omega, by omega⟩] at h
    omega
  · rw [kn_clamp hx] at h
    omega
theorem knNar_z (x : Int32) : vp_nar .boolean x = 0 ∨ vp_nar .boolean x = 1 := by
  show x &&& 1 = 0 ∨ x &&& 1 = 1
  have h : (x &&& 1).toBitVec = x.toBitVec &&& 1#32 := rfl
  by_cases hb : x.toBitVec.getLsbD 0
  · right
    apply Int32.toBitVec.inj
    rw [h]
    show x.toBitVec &&& 1#32 = 1#32
    ext i hi
    by_cases h0 : i = 0
    · subst h0; simpa using hb
    · simp [BitVec.getElem_one, h0]
  · left
    apply Int32.toBitVec.inj
    rw [h]
    show x.toBitVec &&& 1#32 = 0#32
    ext i hi
    by_cases h0 : i = 0
    · subst h0; simpa using hb
    · simp [BitVec.getElem_one, h0]
theorem knZ_nz (x : Int) : knZ (knNz x) := by
  unfold knNz
  rcases knNar_z (Int32.ofInt x) with h | h <;> rw [h]
  · exact Or.inl rfl
  · exact Or.inr rfl
theorem knNz_id {x : Int} (h : knZ x) : knNz x = x := by rcases h with rfl | rfl <;> rfl
theorem kn_nb {x : Int} (h : knZ x) : narrow .boolean (knV x) = knV x := by rcases h with rfl | rfl <;> rfl
def knKL : List Nat := [9, 7, 3, 20, 20, 21, 0, 20, 20, 20, 7, 3, 20, 20, 21, 0, 20, 20, 20, 3, 20, 20, 21, 4, 23, 7, 3, 20, 20, 21, 0, 20, 20, 20, 7, 3, 20, 20, 21, 0, 20, 20, 20, 7, 3, 20, 20, 21, 0, 20, 20, 20, 7, 3, 20, 20, 21, 0, 20, 20, 20, 7, 3, 20, 20, 21, 0, 20, 20, 20, 7, 3, 20, 20, 21, 0, 20, 20, 20, 7, 3, 20, 20, 21, 0, 20, 20, 20, 7, 3, 20, 20, 21, 0, 20, 20, 20, 7, 3, 20, 20, 21, 0, 20, 20, 20, 2, 20, 20, 20, 24, 20, 20, 20, 20, 20, 20, 20, 20, 1, 20, 20, 20, 24, 20, 20, 20, 20, 20, 20, 20, 20, 8, 3, 20, 20, 21, 6, 22, 20, 5, 22, 10, 20, 20, 20, 20, 20, 20, 20, 20, 20, 20, 20, 20, 20, 22, 22, 20, 25, 26]
def knLL : List Nat := [0, 0, 0, 7, 7, 7, 0, 4, 4, 4, 0, 0, 7, 7, 7, 0, 4, 4, 4, 0, 7, 7, 7, 0, 9, 0, 0, 7, 7, 7, 0, 4, 4, 4, 0, 0, 7, 7, 7, 0, 4, 4, 4, 0, 0, 7, 7, 7, 0, 4, 4, 4, 0, 0, 7, 7, 7, 0, 4, 4, 4, 0, 0, 7, 7, 7, 0, 4, 4, 4, 0, 0, 7, 7, 7, 0, 4, 4, 4, 0, 0, 7, 7, 7, 0, 4, 4, 4, 0, 0, 7, 7, 7, 0, 4, 4, 4, 0, 0, 7, 7, 7, 0, 4, 4, 4, 0, 7, 7, 7, 7, 7, 7, 7, 7, 7, 7, 7, 7, 0, 101, 101, 101, 8, 14, 14, 14, 14, 14, 14, 14, 14, 0, 0, 7, 7, 7, 0, 60, 4, 0, 256, 0, 50, 400, 50, 50, 14, 14, 7, 49, 14, 101, 101, 101, 101, 300, 60, 4, 1, 1]
/-- what an object is: 0 lab; 1 state; 10 snapshot; 19 scratch; 20 scratch.overAt; 21 scratch.underAt; 22 scratch.positive; 23 history; 24 history.slots; 106 colouring; 107 overArc; 108 endingArc; 109 beginningArc; 110 rows; 111 rows0; 112 rows1; 113 rows2; 114 rows3; 115 rows4; 116 rows5; 117 rows6; 118 colours; 119 bracket; 120 byStates; 121 byResolving; 122 normalized; 123 joined; 124 joined0; 125 joined1; 126 joined2; 127 joined3; 128 joined4; 129 joined5; 130 joined6; 131 joined7; 132 search; 133 trial; 134 trial.overAt; 135 trial.underAt; 136 trial.positive; 137 script; 138 typed; 139 arguments; 140 output; 141 outtext; 142 model; 143 w; 144 undos; 145 savedRow; 146 before; 147 of; 148 over; 149 sign; 150 matrix; 151 leader; 152 bracket_; 153 normal; 154 factor; 155 next; 156 line; 157 text; 158 numbers; 159 out; 160 outD -/
def knKd (o : Int) : Nat := if 0 ≤ o then knKL.getD o.toNat 99 else 99
def knLn (o : Int) : Int := ((knLL.getD o.toNat 0 : Nat) : Int)
def knIn (o : Int) : Prop := 0 ≤ o ∧ o < 161
/-- the names of a world: the classes' numbers, the array classes', the objects' addresses, where the law's own cells begin; constants: Refusal's, Command's, texts, their bytes, messages; COMMANDS, the switch table -/
abbrev knGT : Type := va_G × (Nat → ClassId) × (Int → Nat) × Nat × (Nat → Nat) × (Nat → Nat) × (Nat → Nat) × (Nat → Nat) × (Nat → Nat) × Nat × Nat
abbrev knCy (G : knGT) : Nat → ClassId := G.2.1
abbrev knAd (G : knGT) : Int → Nat := G.2.2.1
abbrev knN0 (G : knGT) : Nat := G.2.2.2.1
abbrev knR (G : knGT) : Nat → Nat := G.2.2.2.2.1
abbrev knCm (G : knGT) : Nat → Nat := G.2.2.2.2.2.1
abbrev knTx (G : knGT) : Nat → Nat := G.2.2.2.2.2.2.1
abbrev knTb (G : knGT) : Nat → Nat := G.2.2.2.2.2.2.2.1
abbrev knMs (G : knGT) : Nat → Nat := G.2.2.2.2.2.2.2.2.1
abbrev knTc (G : knGT) : Nat := G.2.2.2.2.2.2.2.2.2.1
abbrev knTs (G : knGT) : Nat := G.2.2.2.2.2.2.2.2.2.2
def knO (G : knGT) (x : Int) : Value := .ref (knAd G x)
def knRf (G : knGT) (x : Int) : Value := .ref (knR G x.toNat)
def knCo (G : knGT) (x : Int) : Value := if x < 0 then .null else .ref (knCm G x.toNat)
def knTv (G : knGT) (x : Int) : Value := .ref (knTx G x.toNat)
def knA (G : knGT) : Nat → Prop := fun q => knN0 G ≤ q
abbrev knCl : List vw_C := [(RX1, TX1, 5), (RX2, TX2, 4), (RX3, TX3, 6), (RX5, TX5, 4), (RX6, TX6, 3), (RX7, TX7, 2), (RX9, TX9, 6), (RX10, TX10, 2), (RX11, TX11, 2), (RX12, TX12, 14), (RX13, TX13, 28)]
abbrev knTys (G : knGT) : List (ClassId × FieldType) := [(knCy G 0, .int), (knCy G 1, .boolean), (knCy G 2, .char), (knCy G 3, .object RX10), (knCy G 4, .array .int), (knCy G 5, .long), (knCy G 6, .double)]
/-- an object's cell, by what it is, its number, its row of the memory -/
def knEnt (G : knGT) (r : Int → Int) (o : Int) : va_E :=
  match knKd o with
  | 0 => .inr (0, [knO G (o + 1), knO G (o + 2), knO G (o + 3), knV (r 3), knV (r 4)])
  | 1 => .inr (1, [knO G (o + 1), knO G (o + 2), knO G (o + 3), knO G (o + 4)])
  | 2 => .inr (2, [knO G (o + 1), knO G (o + 2), knO G (o + 3), knO G (o + 4), knO G (o + 12), knV (r 5)])
  | 3 => .inr (3, [knO G (o + 1), knO G (o + 2), knO G (o + 3), knV (r 3)])
  | 4 => .inr (4, [knO G (o + 1), knV (r 1), knV (r 2)])
  | 5 => .inr (5, [knO G (o + 1), knV (r 1)])
  | 6 => .inr (6, [knO G (o + 1), knO G (o + 2), knV (r 2), knCo G (r 3), knV (r 4), knV (r 5)])
  | 7 => .inr (7, [knO G (o + 1), knO G (o + 5)])
  | 8 => .inr (8, [knO G (o + 1), knV (r 1)])
  | 9 => .inr (9, [knO G 1, knO G 2, knO G 6, knO G 10, knO G 19, knO G 23, knO G 106, knO G 119, knO G 132, knO G 137, knO G 140, knV (r 11), knV (r 12), knV (r 13)])
  | 10 => .inr (10, [knV (r 0), knO G 143, knO G 144, knO G 145, knO G 146, knV (r 5), knV (r 6), knV (r 7), knV (r 8), knO G 147, knO G 148, knO G 149, knO G 150, knO G 151, knO G 152, knO G 153, knO G 154, knO G 155, knO G 156, knV (r 19), knO G 157, knV (r 21), knV (r 22), knV (r 23), knV (r 24), knO G 158, knV (r 26), knV (r 27)])
  | 20 => .inl (knCy G 0, (knLL.getD o.toNat 0), .inl (fun j => Int32.ofInt (r j)))
  | 21 => .inl (knCy G 1, (knLL.getD o.toNat 0), .inl (fun j => Int32.ofInt (r j)))
  | 22 => .inl (knCy G 2, (knLL.getD o.toNat 0), .inl (fun j => Int32.ofInt (r j)))
  | 23 => .inl (knCy G 3, 9, .inr (.inr (.inr (.inr (fun j => some (knAd G (25 + 9 * (j : Int))))))))
  | 24 => .inl (knCy G 4, (knLL.getD o.toNat 0), .inr (.inr (.inr (.inr (fun j => some (knAd G (o + 1 + (j : Int))))))))
  | 25 => .inl (knCy G 5, 1, .inr (.inl (fun j => Int64.ofInt (r j))))
  | _ => .inl (knCy G 6, 1, .inr (.inr (.inr (.inl (fun j => UInt64.ofNat (r j).toNat)))))
def knWs (G : knGT) (μ : knMem) : va_W := (List.range 161).map (fun (k : Nat) => (knAd G (k : Int), knEnt G (μ (k : Int)) (k : Int)))
theorem knWs_at {G : knGT} (μ : knMem) {o : Int} (h : knIn o) : (knWs G μ)[o.toNat]? = some (knAd G o, knEnt G (μ o) o) := by
  have h1 : o.toNat < 161 := by have := h.2; have := h.1; omega
  have h2 : ((o.toNat : Nat) : Int) = o := Int.toNat_of_nonneg h.1
  unfold knWs
  rw [List.getElem?_map, List.getElem?_range h1]
  show some (knAd G (o.toNat : Int), _) = _
  rw [h2]
theorem knUp_ne {μ : knMem} {o k v p : Int} (h : p ≠ o) : knUp μ o k v p = μ p := if_neg h
theorem knUp_row (μ : knMem) (o k v : Int) : knUp μ o k v o = fun i => if i = k then v else μ o i := if_pos rfl
theorem knUp_at (μ : knMem) (o k v : Int) : knUp μ o k v o k = v := by rw [knUp_row]; exact if_pos rfl
theorem knWs_set {G : knGT} {μ : knMem} {o k v : Int} (h : knIn o) {en : va_E} (he : en = knEnt G (knUp μ o k v o) o) : (knWs G μ).set o.toNat (knAd G o, en) = knWs G (knUp μ o k v) := by
  have h2 : ((o.toNat : Nat) : Int) = o := Int.toNat_of_nonneg h.1
  subst he
  apply List.ext_getElem?
  intro i
  rw [List.getElem?_set]
  by_cases hi : i < 161
  · have e2 : (knWs G (knUp μ o k v))[i]? = some (knAd G (i : Int), knEnt G (knUp μ o k v (i : Int)) (i : Int)) := by
      unfold knWs
      rw [List.getElem?_map, List.getElem?_range hi]; rfl
    have e1 : (knWs G μ)[i]? = some (knAd G (i : Int), knEnt G (μ (i : Int)) (i : Int)) := by
      unfold knWs
      rw [List.getElem?_map, List.getElem?_range hi]; rfl
    rw [e1, e2]
    by_cases hoi : o.toNat = i
    · subst hoi
      rw [if_pos rfl, if_pos (by simpa [knWs] using hi), h2]
    · rw [if_neg hoi, knUp_ne (by omega)]
  · have e1 : (knWs G μ)[i]? = none := by simp [knWs]; omega
    have e2 : (knWs G (knUp μ o k v))[i]? = none := by simp [knWs]; omega
    rw [e1, e2]
    have : o.toNat ≠ i := by have := h.2; omega
    rw [if_neg this]
/-- the numbers that the memory holds fit their places -/
def knM (μ : knMem) : Prop := ∀ o i : Int, (o ≠ 160 → knC (μ o i)) ∧ (knKd o = 21 → knZ (μ o i)) ∧ (knKd o = 22 → knH (μ o i))
theorem knM_up {μ : knMem} (h : knM μ) {o k v : Int} (h1 : o ≠ 160 → knC v) (h2 : knKd o = 21 → knZ v) (h3 : knKd o = 22 → knH v) : knM (knUp μ o k v) := by
  intro p i
  by_cases hp : p = o
  · subst hp
    rw [knUp_row]
    by_cases hi : i = k
    · subst hi; simp only [if_pos]; exact ⟨h1, h2, h3⟩
    · simp only [if_neg hi]; exact h p i
  · rw [knUp_ne hp]; exact h p i
def knRfN : List String := ["NONE", "INDEX", "ARGUMENT", "STATE", "UNSUPPORTED", "ELEMENT"]
def knCmN : List String := ["CURL", "UNCURL", "POKE", "UNPOKE", "SWITCH", "MIRROR", "REVERSE", "TURN", "REDUCE", "PLAYER", "BET", "SETTLE"]
def knWi : List Nat := [0, 2, 4, 6, 8, 9, 11, 12, 14, 15, 16, 18]
def knFi : List Nat := [1, 3, 5, 7, 3, 10, 10, 13, 10, 10, 17, 10]
def knSl : List Nat := [5, 3, 7, 1, 5, 5, 7, 3, 7, 6, 0, 7, 5, 1, 6, 6, 4, 5, 6]
def knSb : List (List Int32) := [[99, 117, 114, 108, 32], [110, 115, 112], [117, 110, 99, 117, 114, 108, 32], [100], [112, 111, 107, 101, 32], [110, 32, 110, 119, 115], [117, 110, 112, 111, 107, 101, 32], [100, 32, 100], [115, 119, 105, 116, 99, 104, 32], [109, 105, 114, 114, 111, 114], [], [114, 101, 118, 101, 114, 115, 101], [116, 117, 114, 110, 32], [110], [114, 101, 100, 117, 99, 101], [112, 108, 97, 121, 101, 114], [98, 101, 116, 32], [100, 32, 100, 58, 110], [115, 101, 116, 116, 108, 101]]
def knMk : List (Nat × String) := [(418, "no such place, position, crossing or player"), (423, "the guess or the stake is out of its range"), (428, "the state does not allow it"), (435, "no curl, no poke or too few coins"), (441, "no switches unknot the diagram"), (446, "no such position"), (448, "no such crossing"), (177, "no such rank"), (193, "the number of colours is not 3, 5 or 7"), (207, "no such set of crossings"), (452, "the exponent is not between -50 and 50"), (450, "no such player"), (284, "the player has no open bet"), (303, "the pot is empty"), (333, "no such index"), (340, "the character code is not between 32 and 126"), (345, "the script buffer is full"), (355, "the script does not have the required form"), (386, "a command failed"), (391, "every script had the required form"), (393, "no command of a script failed"), (398, "nothing to undo"), (407, "no snapshot")]
def knExN : List String := ["java/lang/IndexOutOfBoundsException", "java/lang/IllegalArgumentException", "java/lang/IllegalStateException", "java/lang/UnsupportedOperationException", "java/util/NoSuchElementException", "java/lang/ArithmeticException"]
def knBad : Cond → Bool
  | .castable _ _ => true
  | .declares _ => true
  | .methodLinkNest _ _ _ _ => true
  | .fieldLinkNest _ _ _ _ _ _ => true
  | .privateMethod _ => true
  | _ => false
/-- words that hold of every table later on, but aren't among the good ones -/
def knBW : List Cond := lw_tbl.filter knBad
theorem knBW_warm {s U : State} (hW : s.WarmedH U.vm) (h : ∀ w ∈ knBW, va_Nw w s) : ∀ w ∈ knBW, va_Nw w U := by
  intro w hw
  have hb := (List.mem_filter.mp hw).2
  have h1 := h w hw
  cases w <;> first | exact va_Nw.warmC hW h1 | exact va_Nw.warmD hW h1 | exact va_Nw.warmM hW h1 | exact va_Nw.warmF hW h1 | (simp [knBad] at hb; done) | exact va_tabs rfl (rfl : (s.setVm U.vm).vm = U.vm) (by rw [Cond.privateMethod_setVm hW.alike]; exact h1)
/-- the commands, objects with their ordinals (their class's own statics aren't said to be initialised, and aren't read) -/
def knEn2 (G : knGT) (U : State) (H : Heap) : Prop :=
  (∀ i, i < 12 → True ∧ va_O RX4 (knCm G i) (knA G) U H ∧ ∀ q ∈ [("java/lang/Enum", "ordinal", "I", ([0, 1, 2, 3, 4, 5, 6, 7, 8, 9, 10, 11] : List Int32))], va_OF q.1 q.2.1 q.2.2.1 (.int (q.2.2.2.getD i 0)) (knCm G i) (knA G) U H) ∧ (∀ i j, i < 12 → j < 12 → knCm G i = knCm G j → i = j)
theorem knEn2.moved {G : knGT} {u U : State} {H : Heap} (hvm : u.vm.Alike U.vm) (h : knEn2 G u H) : knEn2 G U H :=
  ⟨fun i hi => ⟨trivial, va_O.moved hvm (h.1 i hi).2.1, fun q hq => va_OF.moved hvm ((h.1 i hi).2.2 q hq)⟩, h.2⟩
theorem knEn2.kept {G : knGT} {U : State} {H H1 : Heap} (h : knEn2 G U H) (hq : ∀ a : Nat, a < H.size → ¬ knA G a → H1[a]? = H[a]?) : knEn2 G U H1 :=
  ⟨fun i hi => ⟨trivial, (h.1 i hi).2.1.kept hq, fun q hq9 => ((h.1 i hi).2.2 q hq9).kept hq⟩, h.2⟩
/-- the constants, where they stand: never written -/
def knSF (G : knGT) (U : State) (H : Heap) : Prop :=
  va_En RX8 "LKnotLaboratory$Refusal;" knRfN [] (knR G) (knA G) U H ∧
  knEn2 G U H ∧
  (va_Z RX9 "COMMANDS" "[LKnotLaboratory$Command;" (.ref (knTc G)) (knA G) U H ∧ va_T (.object RX4) (knTc G) 12 (fun j => .ref (knCm G j)) (knA G) U H) ∧
  (va_Z RX0 "$SwitchMap$KnotLaboratory$Command" "[I" (.ref (knTs G)) (knA G) U H ∧ va_T .int (knTs G) 12 (fun j => knV ((j : Int) + 1)) (knA G) U H) ∧
  (va_Ef 12 RX4 "word" "Ljava/lang/String;" (fun i => .ref (knTx G (knWi.getD i 0))) (knCm G) (knA G) U H ∧ va_Ef 12 RX4 "form" "Ljava/lang/String;" (fun i => .ref (knTx G (knFi.getD i 0))) (knCm G) (knA G) U H) ∧
  (∀ i : Nat, i < 19 → vk_S 1 [knSl.getD i 0] [knSb.getD i []] (fun _ => knTx G i) (fun _ => knTb G i) (knA G) U H) ∧
  (va_Z "java/lang/String" "COMPACT_STRINGS" "Z" (.int 1) (knA G) U H ∧ va_Zq "jdk/internal/util/Preconditions" "SIOOBE_FORMATTER" "Ljava/util/function/BiFunction;" (knA G) U H ∧ ∀ i j : Nat, i < 6 → j < 6 → i ≠ j → va_Nc (knExN.getD i "") (knExN.getD j "") U) ∧
  (vx_Zq Bundle.tN "UNASSIGNED_STACK" Bundle.steD (knA G) U H ∧ vx_Zq Bundle.tN "SUPPRESSED_SENTINEL" Bundle.listD (knA G) U H) ∧
  (∀ i : Nat, i < 23 → vk_R RX12 (knMk.getD i (0, "")).1 (knMk.getD i (0, "")).2 (knMs G i) U) ∧
  ∀ w ∈ knBW, va_Nw w U
theorem knSF.warm {G : knGT} {s U : State} {H H1 : Heap} (hW : s.WarmedH U.vm) (h : knSF G s H) (hq : ∀ a : Nat, a < H.size → ¬ knA G a → H1[a]? = H[a]?) : knSF G U H1 := by
  obtain ⟨h1, h2, h3, h4, h5, h6, h7, h8, h9, h10⟩ := h
  have hv := hW.alike
  exact ⟨(va_En.moved hv h1).kept hq, (knEn2.moved hv h2).kept hq, ⟨(va_Z.moved hv h3.1).kept hq, (va_T.moved hv h3.2).kept hq⟩, ⟨(va_Z.moved hv h4.1).kept hq, (va_T.moved hv h4.2).kept hq⟩, ⟨(va_Ef.moved hv h5.1).kept hq, (va_Ef.moved hv h5.2).kept hq⟩, fun i hi => (vk_S.moved hv (h6 i hi)).kept hq, ⟨(va_Z.moved hv h7.1).kept hq, (va_Zq.moved hv h7.2.1).kept hq, fun i j hi hj hij => va_Nc.moved hv (h7.2.2 i j hi hj hij)⟩, ⟨(vx_Zq.moved hv h8.1).kept hq, (vx_Zq.moved hv h8.2).kept hq⟩, fun i hi => vk_R.warm hW (h9 i hi), knBW_warm hW h10⟩
/-- what stands at a method's start, but the numbers -/
def knK (G : knGT) (U : State) (H : Heap) : Prop :=
  va_K G.1 knCl (knTys G) U ∧ (∀ o p : Int, knIn o → knIn p → knAd G o = knAd G p → o = p) ∧ (∀ o : Int, knIn o → knN0 G ≤ knAd G o) ∧ knN0 G ≤ U.heap.size ∧ knSF G U H
theorem knK.warm {G : knGT} {s U : State} {H1 : Heap} (hW : s.WarmedH U.vm) (h : knK G s s.heap) (hz : s.heap.size ≤ U.heap.size) (hq : ∀ a : Nat, a < s.heap.size → ¬ knA G a → H1[a]? = s.heap[a]?) : knK G U H1 :=
  ⟨va_K.moved hW.alike h.1, h.2.1, h.2.2.1, Nat.le_trans h.2.2.2.1 hz, knSF.warm hW h.2.2.2.2 hq⟩
theorem knK.D {G : knGT} {U : State} {H : Heap} (h : knK G U H) (μ : knMem) : va_D (knA G) (knWs G μ) := by
  have at' : ∀ (k : Nat) (q : Nat × va_E), (knWs G μ)[k]? = some q → k < 161 ∧ q.1 = knAd G (k : Int) := by
    intro k q hq
    by_cases hk : k < 161
    · have := knWs_at (G := G) μ (o := (k : Int)) ⟨by omega, by omega⟩
      rw [Int.toNat_natCast, hq] at this
      exact ⟨hk, congrArg Prod.fst (Option.some.inj this)⟩
    · have : (knWs G μ)[k]? = none := by simp [knWs]; omega
      rw [this] at hq; cases hq
  refine ⟨fun i j p q hi hj he => ?_, fun k q hq => ?_⟩
  · obtain ⟨h1, e1⟩ := at' i p hi
    obtain ⟨h2, e2⟩ := at' j q hj
    have := h.2.1 (i : Int) (j : Int) ⟨by omega, by omega⟩ ⟨by omega, by omega⟩ (by rw [← e1, ← e2]; exact he)
    omega
  · obtain ⟨h1, e1⟩ := at' k q hq
    rw [e1]
    exact h.2.2.1 (k : Int) ⟨by omega, by omega⟩
/-- the numbers in the machine's heap -/
def knP (G : knGT) (μ : knMem) (H : Heap) : Prop := knM μ ∧ va_P G.1 knCl (knWs G μ) H
/-- the words that every method of the claim has at hand -/
def knGW : List Cond := lw_tbl.filter goodWord
theorem knGm (i : Nat) {w : Cond} (h : lw_tbl[i]? = some w) (g : goodWord w = true) : w ∈ knGW := List.mem_filter.mpr ⟨List.mem_of_getElem? h, g⟩
theorem knBm (i : Nat) {w : Cond} (h : lw_tbl[i]? = some w) (g : knBad w = true) : w ∈ knBW := List.mem_filter.mpr ⟨List.mem_of_getElem? h, g⟩
theorem knGW_good : GoodIn knGW knGW := fun w h => ⟨h, good_of_word (List.mem_filter.mp h).2⟩
