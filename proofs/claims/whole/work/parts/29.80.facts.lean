/-! What the Statement gives of the start: the constants. -/
abbrev ksT : List Cond := flatC (Jvm.Cond.and given_1 narrow_1)
def ksS (i : Nat) : Term := .static RX8 (knRfN.getD i "") "LKnotLaboratory$Refusal;"
def ksC (i : Nat) : Term := .static RX4 (knCmN.getD i "") "LKnotLaboratory$Command;"
def ksE : List Nat := [67, 69, 75, 77, 80, 82, 85, 87, 90, 93, 95, 98, 101, 103, 106, 109, 112, 114, 117]
def ksX (i : Nat) : Term := .string RX4 (ksE.getD i 0)
def ksV (i : Nat) : Term := .field (ksX i) "java/lang/String" "value" "[B"
def ksK : Term := .static RX9 "COMMANDS" "[LKnotLaboratory$Command;"
def ksW : Term := .static RX0 "$SwitchMap$KnotLaboratory$Command" "[I"
theorem ks_r1 : ∀ i, i < 6 → lw_tbl[([433, 442, 516, 534, 552, 570] : List Nat).getD i 0]? = some (.laysStatic RX8 (knRfN.getD i "") "LKnotLaboratory$Refusal;") := by decide +kernel
theorem ks_r2 : ∀ i, i < 6 → ksT[([4, 6, 11, 15, 20, 26] : List Nat).getD i 0]? = some (.exactly (ksS i) RX8) := by decide +kernel
theorem ks_r3 : ∀ i, i < 6 → ∀ j, j < 6 → i ≠ j → (ksT[(([[0, 8, 13, 17, 22, 28], [0, 0, 14, 18, 23, 29], [0, 0, 0, 19, 24, 30], [0, 0, 0, 0, 25, 31], [0, 0, 0, 0, 0, 32], [0, 0, 0, 0, 0, 0]] : List (List Nat)).getD i []).getD j 0]? = some (.not (.eq (ksS i) (ksS j))) ∨ ksT[(([[0, 8, 13, 17, 22, 28], [0, 0, 14, 18, 23, 29], [0, 0, 0, 19, 24, 30], [0, 0, 0, 0, 25, 31], [0, 0, 0, 0, 0, 32], [0, 0, 0, 0, 0, 0]] : List (List Nat)).getD j []).getD i 0]? = some (.not (.eq (ksS j) (ksS i)))) := by decide +kernel
theorem ks_c2 : ∀ i, i < 12 → ksT[([70, 80, 91, 103, 116, 130, 145, 161, 178, 196, 215, 235] : List Nat).getD i 0]? = some (.exactly (ksC i) RX4) := by decide +kernel
theorem ks_c4 : ∀ i, i < 12 → ksT[([71, 81, 92, 104, 117, 131, 146, 162, 179, 197, 216, 236] : List Nat).getD i 0]? = some (.eq (.field (ksC i) "java/lang/Enum" "ordinal" "I") (.int (([0, 1, 2, 3, 4, 5, 6, 7, 8, 9, 10, 11] : List Int32).getD i 0))) := by decide +kernel
theorem ks_c3 : ∀ i, i < 12 → ∀ j, j < 12 → i ≠ j → (ksT[(([[0, 90, 101, 113, 126, 140, 155, 171, 188, 206, 225, 245], [0, 0, 102, 114, 127, 141, 156, 172, 189, 207, 226, 246], [0, 0, 0, 115, 128, 142, 157, 173, 190, 208, 227, 247], [0, 0, 0, 0, 129, 143, 158, 174, 191, 209, 228, 248], [0, 0, 0, 0, 0, 144, 159, 175, 192, 210, 229, 249], [0, 0, 0, 0, 0, 0, 160, 176, 193, 211, 230, 250], [0, 0, 0, 0, 0, 0, 0, 177, 194, 212, 231, 251], [0, 0, 0, 0, 0, 0, 0, 0, 195, 213, 232, 252], [0, 0, 0, 0, 0, 0, 0, 0, 0, 214, 233, 253], [0, 0, 0, 0, 0, 0, 0, 0, 0, 0, 234, 254], [0, 0, 0, 0, 0, 0, 0, 0, 0, 0, 0, 255], [0, 0, 0, 0, 0, 0, 0, 0, 0, 0, 0, 0]] : List (List Nat)).getD i []).getD j 0]? = some (.not (.eq (ksC i) (ksC j))) ∨ ksT[(([[0, 90, 101, 113, 126, 140, 155, 171, 188, 206, 225, 245], [0, 0, 102, 114, 127, 141, 156, 172, 189, 207, 226, 246], [0, 0, 0, 115, 128, 142, 157, 173, 190, 208, 227, 247], [0, 0, 0, 0, 129, 143, 158, 174, 191, 209, 228, 248], [0, 0, 0, 0, 0, 144, 159, 175, 192, 210, 229, 249], [0, 0, 0, 0, 0, 0, 160, 176, 193, 211, 230, 250], [0, 0, 0, 0, 0, 0, 0, 177, 194, 212, 231, 251], [0, 0, 0, 0, 0, 0, 0, 0, 195, 213, 232, 252], [0, 0, 0, 0, 0, 0, 0, 0, 0, 214, 233, 253], [0, 0, 0, 0, 0, 0, 0, 0, 0, 0, 234, 254], [0, 0, 0, 0, 0, 0, 0, 0, 0, 0, 0, 255], [0, 0, 0, 0, 0, 0, 0, 0, 0, 0, 0, 0]] : List (List Nat)).getD j []).getD i 0]? = some (.not (.eq (ksC j) (ksC i)))) := by decide +kernel
theorem ks_c5 : ∀ i, i < 12 → ksT[([72, 82, 93, 105, 118, 132, 147, 163, 180, 198, 217, 237] : List Nat).getD i 0]? = some (.eq (.field (ksC i) RX4 "word" "Ljava/lang/String;") (ksX (knWi.getD i 0))) := by decide +kernel
theorem ks_c6 : ∀ i, i < 12 → ksT[([73, 83, 94, 106, 119, 133, 148, 164, 181, 199, 218, 238] : List Nat).getD i 0]? = some (.eq (.field (ksC i) RX4 "form" "Ljava/lang/String;") (ksX (knFi.getD i 0))) := by decide +kernel
theorem ks_x1 : ∀ i, i < 19 → ksT[([1065, 1074, 1081, 1092, 1097, 1106, 1115, 1126, 1133, 1144, 1154, 1158, 1169, 1178, 1183, 1193, 1203, 1211, 1220] : List Nat).getD i 0]? = some (.exactly (ksX i) "java/lang/String") := by decide +kernel
theorem ks_x2 : ∀ i, i < 19 → ksT[([1066, 1075, 1082, 1093, 1098, 1107, 1116, 1127, 1134, 1145, 1155, 1159, 1170, 1179, 1184, 1194, 1204, 1212, 1221] : List Nat).getD i 0]? = some (.eq (.field (ksX i) "java/lang/String" "coder" "B") (.int 0)) := by decide +kernel
theorem ks_x3 : ∀ i, i < 19 → ksT[([1067, 1076, 1083, 1094, 1099, 1108, 1117, 1128, 1135, 1146, 1156, 1160, 1171, 1180, 1185, 1195, 1205, 1213, 1222] : List Nat).getD i 0]? = some (.arrayOf (ksV i) .byte) := by decide +kernel
theorem ks_x4 : ∀ i, i < 19 → ksT[([1068, 1077, 1084, 1095, 1100, 1109, 1118, 1129, 1136, 1147, 1157, 1161, 1172, 1181, 1186, 1196, 1206, 1214, 1223] : List Nat).getD i 0]? = some (.eq (.length (ksV i)) (.int (Int32.ofNat (knSl.getD i 0)))) := by decide +kernel
theorem ks_x5 : ∀ i, i < 19 → ∀ j, j < knSl.getD i 0 → ksT[(([[1069, 1070, 1071, 1072, 1073], [1078, 1079, 1080], [1085, 1086, 1087, 1088, 1089, 1090, 1091], [1096], [1101, 1102, 1103, 1104, 1105], [1110, 1111, 1112, 1113, 1114], [1119, 1120, 1121, 1122, 1123, 1124, 1125], [1130, 1131, 1132], [1137, 1138, 1139, 1140, 1141, 1142, 1143], [1148, 1149, 1150, 1151, 1152, 1153], [], [1162, 1163, 1164, 1165, 1166, 1167, 1168], [1173, 1174, 1175, 1176, 1177], [1182], [1187, 1188, 1189, 1190, 1191, 1192], [1197, 1198, 1199, 1200, 1201, 1202], [1207, 1208, 1209, 1210], [1215, 1216, 1217, 1218, 1219], [1224, 1225, 1226, 1227, 1228, 1229]] : List (List Nat)).getD i []).getD j 0]? = some (.eq (.elem (ksV i) (.int (Int32.ofNat j))) (.int ((knSb.getD i []).getD j 0))) := by decide +kernel
theorem ks_m1 : ∀ i, i < 23 → ksT[([369, 416, 462, 493, 530, 564, 584, 604, 620, 662, 690, 732, 750, 780, 800, 817, 865, 894, 940, 960, 998, 1031, 1050] : List Nat).getD i 0]? = some (.exactly (.string RX12 (knMk.getD i (0, "")).1) "java/lang/String") := by decide +kernel
theorem ks_m2 : ∀ i, i < 23 → lw_tbl[([488, 526, 544, 562, 580, 1038, 1058, 1097, 1122, 1131, 1143, 1247, 1255, 1293, 1302, 1310, 1311, 1430, 1456, 1464, 1472, 1480, 1493] : List Nat).getD i 0]? = some (.stringRef RX12 (knMk.getD i (0, "")).1 (knMk.getD i (0, "")).2) := by decide +kernel
theorem ks_n1 : ∀ i, i < 6 → ∀ j, j < 6 → i ≠ j → ksT[(([[0, 344, 287, 306, 325, 363], [268, 0, 288, 307, 326, 364], [269, 345, 0, 308, 327, 365], [270, 346, 289, 0, 328, 366], [271, 347, 290, 309, 0, 367], [272, 348, 291, 310, 329, 0]] : List (List Nat)).getD i []).getD j 0]? = some (.not (.castable (knExN.getD i "") (knExN.getD j ""))) := by decide +kernel
theorem ks_k1 : ∀ i, i < 12 → ksT[([38, 39, 40, 41, 42, 43, 44, 45, 46, 47, 48, 49] : List Nat).getD i 0]? = some (.eq (.elem ksK (.int (Int32.ofNat i))) (ksC i)) := by decide +kernel
theorem ks_w1 : ∀ i, i < 12 → ksT[([58, 59, 60, 61, 62, 63, 64, 65, 66, 67, 68, 69] : List Nat).getD i 0]? = some (.eq (.elem ksW (.int (Int32.ofNat i))) (.int (Int32.ofInt ((i : Int) + 1)))) := by decide +kernel
def ksH (s : State) (b : Nat) : Prop := (∀ w ∈ lw_tbl, w.before #[Value.ref b] s = true) ∧ ∀ w ∈ ksT, w.before #[Value.ref b] s = true
theorem ksH.t {s : State} {b i : Nat} {w : Cond} (h : ksH s b) (e : lw_tbl[i]? = some w) : w.before #[Value.ref b] s = true := h.1 _ (List.mem_of_getElem? e)
theorem ksH.n {s : State} {b i : Nat} {w : Cond} (h : ksH s b) (e : ksT[i]? = some w) : w.before #[Value.ref b] s = true := h.2 _ (List.mem_of_getElem? e)
abbrev ksA (s : State) : Nat → Prop := fun q => s.heap.size ≤ q
theorem ksAn {s : State} : ∀ a : Nat, a < s.heap.size → ¬ ksA s a := fun a h => Nat.not_le.mpr h
theorem ks_En8 {s : State} {b : Nat} (h : ksH s b) : ∃ ad : Nat → Nat, va_En RX8 "LKnotLaboratory$Refusal;" knRfN [] ad (ksA s) s s.heap :=
  va_Enof (args := #[Value.ref b]) (fun i hi => h.t (ks_r1 i hi)) (h.t (i := 132) (by decide +kernel)) (fun i hi => h.n (ks_r2 i hi)) (fun q hq => absurd hq List.not_mem_nil) (fun i j hi hj hij => (ks_r3 i hi j hj hij).elim (fun e => Or.inl (h.n e)) (fun e => Or.inr (h.n e))) ksAn
theorem ks_En4 {s : State} {b : Nat} (h : ksH s b) : ∃ ad : Nat → Nat, (∀ i, i < 12 → (ksC i).eval #[Value.ref b] s none [] s = some (.ref (ad i))) ∧ (∀ i, i < 12 → True ∧ va_O RX4 (ad i) (ksA s) s s.heap ∧ ∀ q ∈ [("java/lang/Enum", "ordinal", "I", ([0, 1, 2, 3, 4, 5, 6, 7, 8, 9, 10, 11] : List Int32))], va_OF q.1 q.2.1 q.2.2.1 (.int (q.2.2.2.getD i 0)) (ad i) (ksA s) s s.heap) ∧ (∀ i j, i < 12 → j < 12 → ad i = ad j → i = j) := by
  have h0 : ∀ i : Nat, ∃ t : Nat, i < 12 → (ksC i).eval #[Value.ref b] s none [] s = some (.ref t) ∧ va_O RX4 t (ksA s) s s.heap := by
    intro i
    by_cases hi : i < 12
    · obtain ⟨a, c, cell, k, q1, q2, q3, q4, q5, q6, -⟩ := Cond.exactly_spec (h.n (ks_c2 i hi))
      exact ⟨a, fun _ => ⟨q1, cell, q3, q5, by rw [q6]; exact q2, ksAn a (Array.getElem?_eq_some_iff.mp q3).1⟩⟩
    · exact ⟨0, fun h => absurd h hi⟩
  obtain ⟨ad, had⟩ := Classical.axiomOfChoice h0
  refine ⟨ad, fun i hi => (had i hi).1, fun i hi => ⟨trivial, (had i hi).2, fun q hq => ?_⟩, fun i j hi hj e => ?_⟩
  · rcases List.mem_singleton.mp hq with rfl
    exact vk_OFof (had i hi).1 (va_eqt (h.n (ks_c4 i hi))) ksAn
  · by_cases hij : i = j
    · exact hij
    · rcases ks_c3 i hi j hj hij with hx | hx
      · exact absurd e (va_neR (h.n hx) (had i hi).1 (had j hj).1)
      · exact absurd e.symm (va_neR (h.n hx) (had j hj).1 (had i hi).1)
theorem ks_S {s : State} {b : Nat} (h : ksH s b) : ∃ Tx Tb : Nat → Nat, ∀ i, i < 19 → vk_S 1 [knSl.getD i 0] [knSb.getD i []] (fun _ => Tx i) (fun _ => Tb i) (ksA s) s s.heap ∧ (ksX i).eval #[Value.ref b] s none [] s = some (.ref (Tx i)) := by
  have h0 : ∀ i : Nat, ∃ q : Nat × Nat, i < 19 → vk_S 1 [knSl.getD i 0] [knSb.getD i []] (fun _ => q.1) (fun _ => q.2) (ksA s) s s.heap ∧ (ksX i).eval #[Value.ref b] s none [] s = some (.ref q.1) := by
    intro i
    by_cases hi : i < 19
    · obtain ⟨a, c, cA, kA, q1, q2, q3, q4, q5, q6, -⟩ := Cond.exactly_spec (args := #[Value.ref b]) (first := s) (o := none) (s := s) (idx := []) (t := ksX i) (cls := "java/lang/String") (h.n (ks_x1 i hi))
      have hlt : knSl.getD i 0 < 2 ^ 31 := Nat.lt_of_lt_of_le (knSl_all i hi) (Nat.le_of_ble_eq_true rfl)
      obtain ⟨t, ht, hT⟩ := va_Tof (f := fun j => .int ((knSb.getD i []).getD j 0)) (A := ksA s) hlt (h.n (ks_x3 i hi)) (va_eqt (h.n (ks_x4 i hi))) (fun j hj => va_eqt (h.n (ks_x5 i hi j hj))) ksAn
      refine ⟨(a, t), fun _ => ⟨⟨fun j hj => ?_, fun j k hj hk _ => by omega⟩, q1⟩⟩
      have hj0 : j = 0 := by omega
      subst hj0
      exact ⟨⟨cA, q3, q5, by rw [q6]; exact q2, ksAn a (Array.getElem?_eq_some_iff.mp q3).1⟩, vk_OFof q1 (va_eqt (h.n (ks_x2 i hi))) ksAn, vk_OFof q1 ht ksAn, hT⟩
    · exact ⟨(0, 0), fun h => absurd h hi⟩
  obtain ⟨ad, had⟩ := Classical.axiomOfChoice h0
  exact ⟨fun i => (ad i).1, fun i => (ad i).2, had⟩
theorem ks_M {s : State} {b : Nat} (h : ksH s b) : ∃ Ms : Nat → Nat, ∀ i, i < 23 → vk_R RX12 (knMk.getD i (0, "")).1 (knMk.getD i (0, "")).2 (Ms i) s := by
  have h0 : ∀ i : Nat, ∃ a : Nat, i < 23 → vk_R RX12 (knMk.getD i (0, "")).1 (knMk.getD i (0, "")).2 a s := by
    intro i
    by_cases hi : i < 23
    · obtain ⟨a, c, cA, kA, q1, -⟩ := Cond.exactly_spec (h.n (ks_m1 i hi))
      have h2 := h.t (ks_m2 i hi)
      refine ⟨a, fun _ => ⟨?_, ?_⟩⟩
      · simp only [Cond.before, Cond.holds, Cond.value] at h2 ⊢
        exact h2
      · simp only [Term.eval] at q1 ⊢
        exact q1
    · exact ⟨0, fun h => absurd h hi⟩
  exact Classical.axiomOfChoice h0
theorem ks_bw {s : State} {b : Nat} (h : ksH s b) : ∀ w ∈ knBW, va_Nw w s := by
  intro w hw
  have hb := (List.mem_filter.mp hw).2
  have h1 := h.1 w (List.mem_filter.mp hw).1
  unfold va_Nw
  cases w <;> first | (simp only [Cond.before, Cond.holds, Cond.value] at h1 ⊢; exact h1) | (simp [knBad] at hb; done)
theorem ks_SF {s : State} {b : Nat} (h : ksH s b) : ∃ (R Cm Tx Tb Ms : Nat → Nat) (Tc Ts : Nat), ∀ (D : va_G) (cy : Nat → ClassId) (ad : Int → Nat), knSF (D, cy, ad, s.heap.size, R, Cm, Tx, Tb, Ms, Tc, Ts) s s.heap := by
  obtain ⟨R, hR⟩ := ks_En8 h
  obtain ⟨Cm, hCe, hC⟩ := ks_En4 h
  obtain ⟨Tx, Tb, hS⟩ := ks_S h
  obtain ⟨Ms, hM⟩ := ks_M h
  obtain ⟨Tc, hc1, hc2⟩ := va_Tof (args := #[Value.ref b]) (s := s) (tm := ksK) (ty := .object RX4) (N := 12) (f := fun j => .ref (Cm j)) (A := ksA s) (Nat.le_of_ble_eq_true rfl) (h.n (i := 35) (by decide +kernel)) (va_eqt (z := 12) (h.n (i := 36) (by decide +kernel))) (fun j hj => va_eqv (h.n (ks_k1 j hj)) (hCe j hj)) ksAn
  obtain ⟨Ts, hs1, hs2⟩ := va_Tof (args := #[Value.ref b]) (s := s) (tm := ksW) (ty := .int) (N := 12) (f := fun j => knV ((j : Int) + 1)) (A := ksA s) (Nat.le_of_ble_eq_true rfl) (h.n (i := 56) (by decide +kernel)) (va_eqt (z := 12) (h.n (i := 57) (by decide +kernel))) (fun j hj => va_eqt (h.n (ks_w1 j hj))) ksAn
  refine ⟨R, Cm, Tx, Tb, Ms, Tc, Ts, fun D cy ad => ⟨hR, hC, ⟨va_Zref (args := #[Value.ref b]) (h.t (i := 1336) (by decide +kernel)) (h.t (i := 122) (by decide +kernel)) hc1 ksAn, hc2⟩, ⟨va_Zref (args := #[Value.ref b]) (h.t (i := 1444) (by decide +kernel)) (h.t (i := 145) (by decide +kernel)) hs1 ksAn, hs2⟩,
    ⟨fun i hi => vk_OFof (hCe i hi) (va_eqv (h.n (ks_c5 i hi)) (hS _ (knWi_all i hi).1).2) ksAn, fun i hi => vk_OFof (hCe i hi) (va_eqv (h.n (ks_c6 i hi)) (hS _ (knWi_all i hi).2).2) ksAn⟩, fun i hi => (hS i hi).1,
    ⟨va_Zof (args := #[Value.ref b]) (h.t (i := 1350) (by decide +kernel)) (h.t (i := 130) (by decide +kernel)) (va_eqt (h.n (i := 50) (by decide +kernel))) ksAn, va_Zqof (args := #[Value.ref b]) (h.t (i := 1366) (by decide +kernel)) (h.t (i := 143) (by decide +kernel)) (h.n (i := 51) (by decide +kernel)) ksAn, fun i j hi hj hij => va_Nc.of (h.n (ks_n1 i hi j hj hij))⟩,
    ⟨vx_Zqof (args := #[Value.ref b]) (h.t (i := 470) (by decide +kernel)) (h.t (i := 125) (by decide +kernel)) (h.n (i := 9) (by decide +kernel)) ksAn, vx_Zqof (args := #[Value.ref b]) (h.t (i := 472) (by decide +kernel)) (h.t (i := 125) (by decide +kernel)) (h.n (i := 10) (by decide +kernel)) ksAn⟩, hM, ks_bw h⟩⟩
