/-! The law: its switch, its loop. -/
def kfLst (o x1 x2 x3 x4 : Int) (μ : knMem) : Option knMem :=
  if o = 0 then kfLc_0 x1 x2 x3 x4 μ else
  if o = 1 then kfLc_1 x1 x2 x3 x4 μ else
  if o = 2 then kfLc_2 x1 x2 x3 x4 μ else
  if o = 3 then kfLc_3 x1 x2 x3 x4 μ else
  if o = 4 then kfLc_4 x1 x2 x3 x4 μ else
  if o = 5 then kfLc_5 x1 x2 x3 x4 μ else
  if o = 6 then kfLc_6 x1 x2 x3 x4 μ else
  if o = 7 then kfLc_7 x1 x2 x3 x4 μ else
  if o = 8 then kfLc_8 x1 x2 x3 x4 μ else
  if o = 9 then kfLc_9 x1 x2 x3 x4 μ else
  if o = 10 then kfLc_10 x1 x2 x3 x4 μ else
  if o = 11 then kfLc_11 x1 x2 x3 x4 μ else
  if o = 12 then kfLc_12 x1 x2 x3 x4 μ else
  if o = 13 then kfLc_13 x1 x2 x3 x4 μ else
  if o = 14 then kfLc_14 x1 x2 x3 x4 μ else
  if o = 15 then kfLc_15 x1 x2 x3 x4 μ else
  if o = 16 then kfLc_16 x1 x2 x3 x4 μ else
  if o = 17 then kfLc_17 x1 x2 x3 x4 μ else
  if o = 18 then kfLc_18 x1 x2 x3 x4 μ else
  if o = 19 then kfLc_19 x1 x2 x3 x4 μ else
  if o = 20 then kfLc_20 x1 x2 x3 x4 μ else
  if o = 21 then kfLc_21 x1 x2 x3 x4 μ else
  if o = 22 then kfLc_22 x1 x2 x3 x4 μ else
  if o = 23 then kfLc_23 x1 x2 x3 x4 μ else
  if o = 24 then kfLc_24 x1 x2 x3 x4 μ else
  if o = 25 then kfLc_25 x1 x2 x3 x4 μ else
  if o = 26 then kfLc_26 x1 x2 x3 x4 μ else
  if o = 27 then kfLc_27 x1 x2 x3 x4 μ else
  if o = 28 then kfLc_28 x1 x2 x3 x4 μ else
  if o = 29 then kfLc_29 x1 x2 x3 x4 μ else
  if o = 30 then kfLc_30 x1 x2 x3 x4 μ else
  if o = 31 then kfLc_31 x1 x2 x3 x4 μ else
  if o = 32 then kfLc_32 x1 x2 x3 x4 μ else
  if o = 33 then kfLc_33 x1 x2 x3 x4 μ else
  if o = 34 then kfLc_34 x1 x2 x3 x4 μ else
  if o = 35 then kfLc_35 x1 x2 x3 x4 μ else
  if o = 36 then kfLc_36 x1 x2 x3 x4 μ else
  if o = 37 then kfLc_37 x1 x2 x3 x4 μ else
  if o = 38 then kfLc_38 x1 x2 x3 x4 μ else
  if o = 39 then kfLc_39 x1 x2 x3 x4 μ else
  if o = 40 then kfLc_40 x1 x2 x3 x4 μ else
  if o = 41 then kfLc_41 x1 x2 x3 x4 μ else
  if o = 42 then kfLc_42 x1 x2 x3 x4 μ else
  if o = 43 then kfLc_43 x1 x2 x3 x4 μ else
  if o = 44 then kfLc_44 x1 x2 x3 x4 μ else
  if o = 45 then kfLc_45 x1 x2 x3 x4 μ else
  if o = 46 then kfLc_46 x1 x2 x3 x4 μ else
  if o = 47 then kfLc_47 x1 x2 x3 x4 μ else
  if o = 48 then kfLc_48 x1 x2 x3 x4 μ else
  if o = 49 then kfLc_49 x1 x2 x3 x4 μ else
  if o = 50 then kfLc_50 x1 x2 x3 x4 μ else
  if o = 51 then kfLc_51 x1 x2 x3 x4 μ else
  if o = 52 then kfLc_52 x1 x2 x3 x4 μ else
  if o = 53 then kfLc_53 x1 x2 x3 x4 μ else
  if o = 54 then kfLc_54 x1 x2 x3 x4 μ else
  if o = 55 then kfLc_55 x1 x2 x3 x4 μ else
  if o = 56 then kfLc_56 x1 x2 x3 x4 μ else
  if o = 57 then kfLc_57 x1 x2 x3 x4 μ else
  some μ
set_option maxHeartbeats 4000000 in
set_option maxRecDepth 100000 in
theorem kcLst {G : knGT} {p : Program} {l : Launch} {e : Env} {s : State} {m : MethodId} {args : Array Value} {below : List Frame} {meth : Method} {c : Code} {Q : State → Prop} {b N : Nat} {xs : Nat → Int32} (hl : l.stackTraces = false) (X : knX p m c code 10 s args RL) (K : knK G s s.heap) (S : knSc G b N xs s) {i o x1 x2 x3 x4 : Int} (hi : knC i) (ho : knC o) (hs : knSi N xs i x1 x2 x3 x4) {cells slots : Nat} (hc9 : cells + 2 ≤ room_1.cells) (hs9 : slots + 12 ≤ room_1.slots) {μ q : knMem} (hf : kfLst o x1 x2 x3 x4 μ = some q)
    (kk : knJ G p l e room_1 s m args below meth c 10 (cells + 2) (slots + 12) Q 2804 [(0, Value.ref b), (1, knO G 0), (2, knO G 142), (3, knO G 159), (4, knO G 160), (5, knV i)] [] q) : knJ G p l e room_1 s m args below meth c 10 cells slots Q 44 [(0, Value.ref b), (1, knO G 0), (2, knO G 142), (3, knO G 159), (4, knO G 160), (5, knV i)] [knV o] μ := by
  unfold kfLst at hf
  by_cases h0 : o = 0
  · rw [if_pos h0] at hf
    exact kj_tswI X (i := 0) (tgt := 292) dL_law_44 ho (by omega) rfl (by decide) (kcLc_0 hl X K S hi hs hc9 hs9 hf kk)
  rw [if_neg h0] at hf
  by_cases h1 : o = 1
  · rw [if_pos h1] at hf
    exact kj_tswI X (i := 1) (tgt := 404) dL_law_44 ho (by omega) rfl (by decide) (kcLc_1 hl X K S hi hs hc9 hs9 hf kk)
  rw [if_neg h1] at hf
  by_cases h2 : o = 2
  · rw [if_pos h2] at hf
    exact kj_tswI X (i := 2) (tgt := 460) dL_law_44 ho (by omega) rfl (by decide) (kcLc_2 hl X K S hi hs hc9 hs9 hf kk)
  rw [if_neg h2] at hf
  by_cases h3 : o = 3
  · rw [if_pos h3] at hf
    exact kj_tswI X (i := 3) (tgt := 584) dL_law_44 ho (by omega) rfl (by decide) (kcLc_3 hl X K S hi hs hc9 hs9 hf kk)
  rw [if_neg h3] at hf
  by_cases h4 : o = 4
  · rw [if_pos h4] at hf
    exact kj_tswI X (i := 4) (tgt := 652) dL_law_44 ho (by omega) rfl (by decide) (kcLc_4 hl X K S hi hs hc9 hs9 hf kk)
  rw [if_neg h4] at hf
  by_cases h5 : o = 5
  · rw [if_pos h5] at hf
    exact kj_tswI X (i := 5) (tgt := 715) dL_law_44 ho (by omega) rfl (by decide) (kcLc_5 hl X K S hi hs hc9 hs9 hf kk)
  rw [if_neg h5] at hf
  by_cases h6 : o = 6
  · rw [if_pos h6] at hf
    exact kj_tswI X (i := 6) (tgt := 728) dL_law_44 ho (by omega) rfl (by decide) (kcLc_6 hl X K S hi hs hc9 hs9 hf kk)
  rw [if_neg h6] at hf
  by_cases h7 : o = 7
  · rw [if_pos h7] at hf
    exact kj_tswI X (i := 7) (tgt := 741) dL_law_44 ho (by omega) rfl (by decide) (kcLc_7 hl X K S hi hs hc9 hs9 hf kk)
  rw [if_neg h7] at hf
  by_cases h8 : o = 8
  · rw [if_pos h8] at hf
    exact kj_tswI X (i := 8) (tgt := 797) dL_law_44 ho (by omega) rfl (by decide) (kcLc_8 hl X K S hi hs hc9 hs9 hf kk)
  rw [if_neg h8] at hf
  by_cases h9 : o = 9
  · rw [if_pos h9] at hf
    exact kj_tswI X (i := 9) (tgt := 810) dL_law_44 ho (by omega) rfl (by decide) (kcLc_9 hl X K S hi hs hc9 hs9 hf kk)
  rw [if_neg h9] at hf
  by_cases h10 : o = 10
  · rw [if_pos h10] at hf
    exact kj_tswI X (i := 10) (tgt := 823) dL_law_44 ho (by omega) rfl (by decide) (kcLc_10 hl X K S hi hs hc9 hs9 hf kk)
  rw [if_neg h10] at hf
  by_cases h11 : o = 11
  · rw [if_pos h11] at hf
    exact kj_tswI X (i := 11) (tgt := 879) dL_law_44 ho (by omega) rfl (by decide) (kcLc_11 hl X K S hi hs hc9 hs9 hf kk)
  rw [if_neg h11] at hf
  by_cases h12 : o = 12
  · rw [if_pos h12] at hf
    exact kj_tswI X (i := 12) (tgt := 942) dL_law_44 ho (by omega) rfl (by decide) (kcLc_12 hl X K S hi hs hc9 hs9 hf kk)
  rw [if_neg h12] at hf
  by_cases h13 : o = 13
  · rw [if_pos h13] at hf
    exact kj_tswI X (i := 13) (tgt := 1005) dL_law_44 ho (by omega) rfl (by decide) (kcLc_13 hl X K S hi hs hc9 hs9 hf kk)
  rw [if_neg h13] at hf
  by_cases h14 : o = 14
  · rw [if_pos h14] at hf
    exact kj_tswI X (i := 14) (tgt := 1061) dL_law_44 ho (by omega) rfl (by decide) (kcLc_14 hl X K S hi hs hc9 hs9 hf kk)
  rw [if_neg h14] at hf
  by_cases h15 : o = 15
  · rw [if_pos h15] at hf
    exact kj_tswI X (i := 15) (tgt := 1117) dL_law_44 ho (by omega) rfl (by decide) (kcLc_15 hl X K S hi hs hc9 hs9 hf kk)
  rw [if_neg h15] at hf
  by_cases h16 : o = 16
  · rw [if_pos h16] at hf
    exact kj_tswI X (i := 16) (tgt := 1130) dL_law_44 ho (by omega) rfl (by decide) (kcLc_16 hl X K S hi hs hc9 hs9 hf kk)
  rw [if_neg h16] at hf
  by_cases h17 : o = 17
  · rw [if_pos h17] at hf
    exact kj_tswI X (i := 17) (tgt := 1193) dL_law_44 ho (by omega) rfl (by decide) (kcLc_17 hl X K S hi hs hc9 hs9 hf kk)
  rw [if_neg h17] at hf
  by_cases h18 : o = 18
  · rw [if_pos h18] at hf
    exact kj_tswI X (i := 18) (tgt := 1268) dL_law_44 ho (by omega) rfl (by decide) (kcLc_18 hl X K S hi hs hc9 hs9 hf kk)
  rw [if_neg h18] at hf
  by_cases h19 : o = 19
  · rw [if_pos h19] at hf
    exact kj_tswI X (i := 19) (tgt := 1281) dL_law_44 ho (by omega) rfl (by decide) (kcLc_19 hl X K S hi hs hc9 hs9 hf kk)
  rw [if_neg h19] at hf
  by_cases h20 : o = 20
  · rw [if_pos h20] at hf
    exact kj_tswI X (i := 20) (tgt := 1294) dL_law_44 ho (by omega) rfl (by decide) (kcLc_20 hl X K S hi hs hc9 hs9 hf kk)
  rw [if_neg h20] at hf
  by_cases h21 : o = 21
  · rw [if_pos h21] at hf
    exact kj_tswI X (i := 21) (tgt := 1350) dL_law_44 ho (by omega) rfl (by decide) (kcLc_21 hl X K S hi hs hc9 hs9 hf kk)
  rw [if_neg h21] at hf
  by_cases h22 : o = 22
  · rw [if_pos h22] at hf
    exact kj_tswI X (i := 22) (tgt := 1363) dL_law_44 ho (by omega) rfl (by decide) (kcLc_22 hl X K S hi hs hc9 hs9 hf kk)
  rw [if_neg h22] at hf
  by_cases h23 : o = 23
  · rw [if_pos h23] at hf
    exact kj_tswI X (i := 23) (tgt := 1419) dL_law_44 ho (by omega) rfl (by decide) (kcLc_23 hl X K S hi hs hc9 hs9 hf kk)
  rw [if_neg h23] at hf
  by_cases h24 : o = 24
  · rw [if_pos h24] at hf
    exact kj_tswI X (i := 24) (tgt := 1475) dL_law_44 ho (by omega) rfl (by decide) (kcLc_24 hl X K S hi hs hc9 hs9 hf kk)
  rw [if_neg h24] at hf
  by_cases h25 : o = 25
  · rw [if_pos h25] at hf
    exact kj_tswI X (i := 25) (tgt := 1488) dL_law_44 ho (by omega) rfl (by decide) (kcLc_25 hl X K S hi hs hc9 hs9 hf kk)
  rw [if_neg h25] at hf
  by_cases h26 : o = 26
  · rw [if_pos h26] at hf
    exact kj_tswI X (i := 26) (tgt := 1544) dL_law_44 ho (by omega) rfl (by decide) (kcLc_26 hl X K S hi hs hc9 hs9 hf kk)
  rw [if_neg h26] at hf
  by_cases h27 : o = 27
  · rw [if_pos h27] at hf
    exact kj_tswI X (i := 27) (tgt := 1600) dL_law_44 ho (by omega) rfl (by decide) (kcLc_27 hl X K S hi hs hc9 hs9 hf kk)
  rw [if_neg h27] at hf
  by_cases h28 : o = 28
  · rw [if_pos h28] at hf
    exact kj_tswI X (i := 28) (tgt := 1656) dL_law_44 ho (by omega) rfl (by decide) (kcLc_28 hl X K S hi hs hc9 hs9 hf kk)
  rw [if_neg h28] at hf
  by_cases h29 : o = 29
  · rw [if_pos h29] at hf
    exact kj_tswI X (i := 29) (tgt := 1712) dL_law_44 ho (by omega) rfl (by decide) (kcLc_29 hl X K S hi hs hc9 hs9 hf kk)
  rw [if_neg h29] at hf
  by_cases h30 : o = 30
  · rw [if_pos h30] at hf
    exact kj_tswI X (i := 30) (tgt := 1725) dL_law_44 ho (by omega) rfl (by decide) (kcLc_30 hl X K S hi hs hc9 hs9 hf kk)
  rw [if_neg h30] at hf
  by_cases h31 : o = 31
  · rw [if_pos h31] at hf
    exact kj_tswI X (i := 31) (tgt := 1738) dL_law_44 ho (by omega) rfl (by decide) (kcLc_31 hl X K S hi hs hc9 hs9 hf kk)
  rw [if_neg h31] at hf
  by_cases h32 : o = 32
  · rw [if_pos h32] at hf
    exact kj_tswI X (i := 32) (tgt := 1751) dL_law_44 ho (by omega) rfl (by decide) (kcLc_32 hl X K S hi hs hc9 hs9 hf kk)
  rw [if_neg h32] at hf
  by_cases h33 : o = 33
  · rw [if_pos h33] at hf
    exact kj_tswI X (i := 33) (tgt := 1820) dL_law_44 ho (by omega) rfl (by decide) (kcLc_33 hl X K S hi hs hc9 hs9 hf kk)
  rw [if_neg h33] at hf
  by_cases h34 : o = 34
  · rw [if_pos h34] at hf
    exact kj_tswI X (i := 34) (tgt := 1833) dL_law_44 ho (by omega) rfl (by decide) (kcLc_34 hl X K S hi hs hc9 hs9 hf kk)
  rw [if_neg h34] at hf
  by_cases h35 : o = 35
  · rw [if_pos h35] at hf
    exact kj_tswI X (i := 35) (tgt := 1877) dL_law_44 ho (by omega) rfl (by decide) (kcLc_35 hl X K S hi hs hc9 hs9 hf kk)
  rw [if_neg h35] at hf
  by_cases h36 : o = 36
  · rw [if_pos h36] at hf
    exact kj_tswI X (i := 36) (tgt := 1921) dL_law_44 ho (by omega) rfl (by decide) (kcLc_36 hl X K S hi hs hc9 hs9 hf kk)
  rw [if_neg h36] at hf
  by_cases h37 : o = 37
  · rw [if_pos h37] at hf
    exact kj_tswI X (i := 37) (tgt := 1965) dL_law_44 ho (by omega) rfl (by decide) (kcLc_37 hl X K S hi hs hc9 hs9 hf kk)
  rw [if_neg h37] at hf
  by_cases h38 : o = 38
  · rw [if_pos h38] at hf
    exact kj_tswI X (i := 38) (tgt := 2009) dL_law_44 ho (by omega) rfl (by decide) (kcLc_38 hl X K S hi hs hc9 hs9 hf kk)
  rw [if_neg h38] at hf
  by_cases h39 : o = 39
  · rw [if_pos h39] at hf
    exact kj_tswI X (i := 39) (tgt := 2089) dL_law_44 ho (by omega) rfl (by decide) (kcLc_39 hl X K S hi hs hc9 hs9 hf kk)
  rw [if_neg h39] at hf
  by_cases h40 : o = 40
  · rw [if_pos h40] at hf
    exact kj_tswI X (i := 40) (tgt := 2133) dL_law_44 ho (by omega) rfl (by decide) (kcLc_40 hl X K S hi hs hc9 hs9 hf kk)
  rw [if_neg h40] at hf
  by_cases h41 : o = 41
  · rw [if_pos h41] at hf
    exact kj_tswI X (i := 41) (tgt := 2146) dL_law_44 ho (by omega) rfl (by decide) (kcLc_41 hl X K S hi hs hc9 hs9 hf kk)
  rw [if_neg h41] at hf
  by_cases h42 : o = 42
  · rw [if_pos h42] at hf
    exact kj_tswI X (i := 42) (tgt := 2202) dL_law_44 ho (by omega) rfl (by decide) (kcLc_42 hl X K S hi hs hc9 hs9 hf kk)
  rw [if_neg h42] at hf
  by_cases h43 : o = 43
  · rw [if_pos h43] at hf
    exact kj_tswI X (i := 43) (tgt := 2258) dL_law_44 ho (by omega) rfl (by decide) (kcLc_43 hl X K S hi hs hc9 hs9 hf kk)
  rw [if_neg h43] at hf
  by_cases h44 : o = 44
  · rw [if_pos h44] at hf
    exact kj_tswI X (i := 44) (tgt := 2271) dL_law_44 ho (by omega) rfl (by decide) (kcLc_44 hl X K S hi hs hc9 hs9 hf kk)
  rw [if_neg h44] at hf
  by_cases h45 : o = 45
  · rw [if_pos h45] at hf
    exact kj_tswI X (i := 45) (tgt := 2284) dL_law_44 ho (by omega) rfl (by decide) (kcLc_45 hl X K S hi hs hc9 hs9 hf kk)
  rw [if_neg h45] at hf
  by_cases h46 : o = 46
  · rw [if_pos h46] at hf
    exact kj_tswI X (i := 46) (tgt := 2340) dL_law_44 ho (by omega) rfl (by decide) (kcLc_46 hl X K S hi hs hc9 hs9 hf kk)
  rw [if_neg h46] at hf
  by_cases h47 : o = 47
  · rw [if_pos h47] at hf
    exact kj_tswI X (i := 47) (tgt := 2418) dL_law_44 ho (by omega) rfl (by decide) (kcLc_47 hl X K S hi hs hc9 hs9 hf kk)
  rw [if_neg h47] at hf
  by_cases h48 : o = 48
  · rw [if_pos h48] at hf
    exact kj_tswI X (i := 48) (tgt := 2431) dL_law_44 ho (by omega) rfl (by decide) (kcLc_48 hl X K S hi hs hc9 hs9 hf kk)
  rw [if_neg h48] at hf
  by_cases h49 : o = 49
  · rw [if_pos h49] at hf
    exact kj_tswI X (i := 49) (tgt := 2444) dL_law_44 ho (by omega) rfl (by decide) (kcLc_49 hl X K S hi hs hc9 hs9 hf kk)
  rw [if_neg h49] at hf
  by_cases h50 : o = 50
  · rw [if_pos h50] at hf
    exact kj_tswI X (i := 50) (tgt := 2457) dL_law_44 ho (by omega) rfl (by decide) (kcLc_50 hl X K S hi hs hc9 hs9 hf kk)
  rw [if_neg h50] at hf
  by_cases h51 : o = 51
  · rw [if_pos h51] at hf
    exact kj_tswI X (i := 51) (tgt := 2513) dL_law_44 ho (by omega) rfl (by decide) (kcLc_51 hl X K S hi hs hc9 hs9 hf kk)
  rw [if_neg h51] at hf
  by_cases h52 : o = 52
  · rw [if_pos h52] at hf
    exact kj_tswI X (i := 52) (tgt := 2571) dL_law_44 ho (by omega) rfl (by decide) (kcLc_52 hl X K S hi hs hc9 hs9 hf kk)
  rw [if_neg h52] at hf
  by_cases h53 : o = 53
  · rw [if_pos h53] at hf
    exact kj_tswI X (i := 53) (tgt := 2615) dL_law_44 ho (by omega) rfl (by decide) (kcLc_53 hl X K S hi hs hc9 hs9 hf kk)
  rw [if_neg h53] at hf
  by_cases h54 : o = 54
  · rw [if_pos h54] at hf
    exact kj_tswI X (i := 54) (tgt := 2659) dL_law_44 ho (by omega) rfl (by decide) (kcLc_54 hl X K S hi hs hc9 hs9 hf kk)
  rw [if_neg h54] at hf
  by_cases h55 : o = 55
  · rw [if_pos h55] at hf
    exact kj_tswI X (i := 55) (tgt := 2703) dL_law_44 ho (by omega) rfl (by decide) (kcLc_55 hl X K S hi hs hc9 hs9 hf kk)
  rw [if_neg h55] at hf
  by_cases h56 : o = 56
  · rw [if_pos h56] at hf
    exact kj_tswI X (i := 56) (tgt := 2747) dL_law_44 ho (by omega) rfl (by decide) (kcLc_56 hl X K S hi hs hc9 hs9 hf kk)
  rw [if_neg h56] at hf
  by_cases h57 : o = 57
  · rw [if_pos h57] at hf
    exact kj_tswI X (i := 57) (tgt := 2760) dL_law_44 ho (by omega) rfl (by decide) (kcLc_57 hl X K S hi hs hc9 hs9 hf kk)
  rw [if_neg h57] at hf
  cases hf
  refine kj_tswD X (tgt := 2804) dL_law_44 ho (by decide) (fun j hj => Or.inr ?_) (kj_wd (by omega) (by omega) kk)
  have hj2 : j < 58 := hj
  intro hx
  have hx2 : o = (j : Int) := by omega
  clear hx kk
  omega
/-- the law's loop: n turns at most -/
def kfLw (N : Nat) (xs : Nat → Int32) : Nat → Int → knMem → Option knMem
  | 0, _, _ => none
  | n + 1, i, μ => if knW ((N : Int) - 5) < i then some μ else
    Option.bind (kfLst (knAnd (knSx xs i) 63) (knSx xs (knW (i + 1))) (knSx xs (knW (i + 2))) (knSx xs (knW (i + 3))) (knSx xs (knW (i + 4))) μ) (fun μ1 => kfLw N xs n (knW (i + 5)) μ1)
set_option maxHeartbeats 4000000 in
set_option maxRecDepth 100000 in
theorem kcLw {G : knGT} {p : Program} {l : Launch} {e : Env} {s : State} {m : MethodId} {args : Array Value} {below : List Frame} {meth : Method} {c : Code} {Q : State → Prop} {b N : Nat} {xs : Nat → Int32} (hl : l.stackTraces = false) (X : knX p m c code 10 s args RL) (K : knK G s s.heap) (S : knSc G b N xs s) : ∀ (n : Nat) {i : Int} (h0 : 0 ≤ i) (h1 : i ≤ 2565) {cells slots : Nat} (hc9 : cells + 2 * n ≤ room_1.cells) (hs9 : slots + 12 * n ≤ room_1.slots) {μ q : knMem} (hf : kfLw N xs n i μ = some q)
    (kk : ∀ i : Int, knJ G p l e room_1 s m args below meth c 10 (cells + 2 * n) (slots + 12 * n) Q 2810 [(0, Value.ref b), (1, knO G 0), (2, knO G 142), (3, knO G 159), (4, knO G 160), (5, knV i)] [] q), knJ G p l e room_1 s m args below meth c 10 cells slots Q 28 [(0, Value.ref b), (1, knO G 0), (2, knO G 142), (3, knO G 159), (4, knO G 160), (5, knV i)] [] μ := by
  intro n
  induction n with
  | zero => intro i h0 h1 cells slots hc9 hs9 μ q hf kk; cases hf
  | succ n ih =>
    intro i h0 h1 cells slots hc9 hs9 μ q hf kk
    have hi : knC i := ⟨by omega, by omega⟩
    have hN : (N : Int) ≤ 2560 := by have := S.2.2.2; omega
    unfold kfLw at hf
    refine kj_iload X 5 dL_law_28 rfl ?_
    refine kj_aloadn X 0 dL_law_30 rfl ?_
    refine kj_scl X S dL_law_31 ?_
    refine kj_iconst X dL_law_32 ?_
    refine kj_isub X dL_law_33 ?_
    have hw : knW ((N : Int) - 5) = (N : Int) - 5 := knW_id ⟨by omega, by omega⟩
    refine kj_ic_gt X (tgt := 2810) dL_law_34 (by decide) hi (knCw _) (fun h => ?_) (fun h => ?_)
    · rw [if_pos h] at hf
      cases hf
      exact kj_wd (by omega) (by omega) (kk i)
    · rw [if_neg h] at hf
      obtain ⟨μ1, h2, hf⟩ := knBd_inv hf
      rw [hw] at h
      have w1 : knW (i + 1) = i + 1 := knW_id ⟨by omega, by omega⟩
      have w2 : knW (i + 2) = i + 2 := knW_id ⟨by omega, by omega⟩
      have w3 : knW (i + 3) = i + 3 := knW_id ⟨by omega, by omega⟩
      have w4 : knW (i + 4) = i + 4 := knW_id ⟨by omega, by omega⟩
      have w5 : knW (i + 5) = i + 5 := knW_id ⟨by omega, by omega⟩
      refine kj_aloadn X 0 dL_law_37 rfl ?_
      refine kj_iload X 5 dL_law_38 rfl ?_
      refine kj_sld X S hi rfl ⟨h0, by omega⟩ dL_law_40 ?_
      refine kj_bipush X (n := 63) dL_law_41 rfl ?_
      refine kj_iand X dL_law_43 ?_
      refine kcLst hl X K S hi (knC_and _ _) ⟨⟨by rw [w1]; exact ⟨by omega, by omega⟩, rfl⟩, ⟨by rw [w2]; exact ⟨by omega, by omega⟩, rfl⟩, ⟨by rw [w3]; exact ⟨by omega, by omega⟩, rfl⟩, ⟨by rw [w4]; exact ⟨by omega, by omega⟩, rfl⟩⟩ (by omega) (by omega) h2 ?_
      refine kj_iinc X 5 (L' := [(5, knV (knW (i + 5))), (0, Value.ref b), (1, knO G 0), (2, knO G 142), (3, knO G 159), (4, knO G 160)]) dL_law_2804 rfl (by decide) rfl ?_
      refine kj_goto X (tgt := 28) dL_law_2807 (by decide) ?_
      refine kj_sub (L' := [(0, Value.ref b), (1, knO G 0), (2, knO G 142), (3, knO G 159), (4, knO G 160), (5, knV (knW (i + 5)))]) [1, 2, 3, 4, 5, 0] rfl ?_
      refine ih (by rw [w5]; omega) (by rw [w5]; omega) (by omega) (by omega) hf (fun i2 => ?_)
      exact kj_wd (by omega) (by omega) (kk i2)
