/-! The meaning: no turn of the loop fails. -/
theorem kz_Iv : kbIv kzM := by
  refine ⟨⟨((0, fun _ => 0, fun _ => 0, fun _ => 0), (0, 0, fun _ => 0, fun _ => 0, fun _ => 0)), ⟨⟨rfl, fun k k0 k1 => absurd k1 (show ¬ k < (0 : Int) by omega)⟩, rfl, rfl, fun k k0 k1 => absurd k1 (show ¬ k < (0 : Int) by omega)⟩, ⟨rfl, ?_⟩, ⟨rfl, rfl, fun k k0 k1 => absurd k1 (show ¬ k < (0 : Int) by omega), fun _ _ _ => rfl⟩, ?_⟩, ?_, Or.inl ⟨rfl, rfl⟩, ?_, ?_, ⟨rfl, by decide⟩, ⟨rfl, by decide⟩⟩
  · exact ⟨by decide, fun k k0 k1 => absurd k1 (show ¬ k < (0 : Int) by omega), fun k k0 k1 => absurd k1 (show ¬ k < 2 * (0 : Int) by omega)⟩
  · exact ⟨by decide, by decide, fun k k0 k1 => absurd k1 (show ¬ k < (0 : Int) by omega), rfl⟩
  · exact ⟨by decide, by decide, rfl, by decide, fun j j1 j2 => absurd j2 (show ¬ j ≤ (0 : Int) by omega)⟩
  · exact ⟨by decide, rfl, fun k k0 k1 => absurd k1 (show ¬ k < (0 : Int) by omega)⟩
  · exact ⟨by decide, rfl, fun k k0 k1 => absurd k1 (show ¬ k < (0 : Int) by omega)⟩
theorem kb_turn {μ : knMem} (hI : kbIv μ) (o x1 x2 x3 x4 : Int) : kbH (kfLst o x1 x2 x3 x4 μ) kbIv := by
  unfold kfLst
  by_cases h0 : o = 0
  · rw [if_pos h0]
    exact kbLk_0 hI x1 x2 x3 x4
  rw [if_neg h0]
  by_cases h1 : o = 1
  · rw [if_pos h1]
    exact kbLk_1 hI x1 x2 x3 x4
  rw [if_neg h1]
  by_cases h2 : o = 2
  · rw [if_pos h2]
    exact kbLk_2 hI x1 x2 x3 x4
  rw [if_neg h2]
  by_cases h3 : o = 3
  · rw [if_pos h3]
    exact kbLk_3 hI x1 x2 x3 x4
  rw [if_neg h3]
  by_cases h4 : o = 4
  · rw [if_pos h4]
    exact kbLk_4 hI x1 x2 x3 x4
  rw [if_neg h4]
  by_cases h5 : o = 5
  · rw [if_pos h5]
    exact kbLk_5 hI x1 x2 x3 x4
  rw [if_neg h5]
  by_cases h6 : o = 6
  · rw [if_pos h6]
    exact kbLk_6 hI x1 x2 x3 x4
  rw [if_neg h6]
  by_cases h7 : o = 7
  · rw [if_pos h7]
    exact kbLk_7 hI x1 x2 x3 x4
  rw [if_neg h7]
  by_cases h8 : o = 8
  · rw [if_pos h8]
    exact kbLk_8 hI x1 x2 x3 x4
  rw [if_neg h8]
  by_cases h9 : o = 9
  · rw [if_pos h9]
    exact kbLk_9 hI x1 x2 x3 x4
  rw [if_neg h9]
  by_cases h10 : o = 10
  · rw [if_pos h10]
    exact kbLk_10 hI x1 x2 x3 x4
  rw [if_neg h10]
  by_cases h11 : o = 11
  · rw [if_pos h11]
    exact kbLk_11 hI x1 x2 x3 x4
  rw [if_neg h11]
  by_cases h12 : o = 12
  · rw [if_pos h12]
    exact kbLk_12 hI x1 x2 x3 x4
  rw [if_neg h12]
  by_cases h13 : o = 13
  · rw [if_pos h13]
    exact kbLk_13 hI x1 x2 x3 x4
  rw [if_neg h13]
  by_cases h14 : o = 14
  · rw [if_pos h14]
    exact kbLk_14 hI x1 x2 x3 x4
  rw [if_neg h14]
  by_cases h15 : o = 15
  · rw [if_pos h15]
    exact kbLk_15 hI x1 x2 x3 x4
  rw [if_neg h15]
  by_cases h16 : o = 16
  · rw [if_pos h16]
    exact kbLk_16 hI x1 x2 x3 x4
  rw [if_neg h16]
  by_cases h17 : o = 17
  · rw [if_pos h17]
    exact kbLk_17 hI x1 x2 x3 x4
  rw [if_neg h17]
  by_cases h18 : o = 18
  · rw [if_pos h18]
    exact kbLk_18 hI x1 x2 x3 x4
  rw [if_neg h18]
  by_cases h19 : o = 19
  · rw [if_pos h19]
    exact kbLk_19 hI x1 x2 x3 x4
  rw [if_neg h19]
  by_cases h20 : o = 20
  · rw [if_pos h20]
    exact kbLk_20 hI x1 x2 x3 x4
  rw [if_neg h20]
  by_cases h21 : o = 21
  · rw [if_pos h21]
    exact kbLk_21 hI x1 x2 x3 x4
  rw [if_neg h21]
  by_cases h22 : o = 22
  · rw [if_pos h22]
    exact kbLk_22 hI x1 x2 x3 x4
  rw [if_neg h22]
  by_cases h23 : o = 23
  · rw [if_pos h23]
    exact kbLk_23 hI x1 x2 x3 x4
  rw [if_neg h23]
  by_cases h24 : o = 24
  · rw [if_pos h24]
    exact kbLk_24 hI x1 x2 x3 x4
  rw [if_neg h24]
  by_cases h25 : o = 25
  · rw [if_pos h25]
    exact kbLk_25 hI x1 x2 x3 x4
  rw [if_neg h25]
  by_cases h26 : o = 26
  · rw [if_pos h26]
    exact kbLk_26 hI x1 x2 x3 x4
  rw [if_neg h26]
  by_cases h27 : o = 27
  · rw [if_pos h27]
    exact kbLk_27 hI x1 x2 x3 x4
  rw [if_neg h27]
  by_cases h28 : o = 28
  · rw [if_pos h28]
    exact kbLk_28 hI x1 x2 x3 x4
  rw [if_neg h28]
  by_cases h29 : o = 29
  · rw [if_pos h29]
    exact kbLk_29 hI x1 x2 x3 x4
  rw [if_neg h29]
  by_cases h30 : o = 30
  · rw [if_pos h30]
    exact kbLk_30 hI x1 x2 x3 x4
  rw [if_neg h30]
  by_cases h31 : o = 31
  · rw [if_pos h31]
    exact kbLk_31 hI x1 x2 x3 x4
  rw [if_neg h31]
  by_cases h32 : o = 32
  · rw [if_pos h32]
    exact kbLk_32 hI x1 x2 x3 x4
  rw [if_neg h32]
  by_cases h33 : o = 33
  · rw [if_pos h33]
    exact kbLk_33 hI x1 x2 x3 x4
  rw [if_neg h33]
  by_cases h34 : o = 34
  · rw [if_pos h34]
    exact kbLk_34 hI x1 x2 x3 x4
  rw [if_neg h34]
  by_cases h35 : o = 35
  · rw [if_pos h35]
    exact kbLk_35 hI x1 x2 x3 x4
  rw [if_neg h35]
  by_cases h36 : o = 36
  · rw [if_pos h36]
    exact kbLk_36 hI x1 x2 x3 x4
  rw [if_neg h36]
  by_cases h37 : o = 37
  · rw [if_pos h37]
    exact kbLk_37 hI x1 x2 x3 x4
  rw [if_neg h37]
  by_cases h38 : o = 38
  · rw [if_pos h38]
    exact kbLk_38 hI x1 x2 x3 x4
  rw [if_neg h38]
  by_cases h39 : o = 39
  · rw [if_pos h39]
    exact kbLk_39 hI x1 x2 x3 x4
  rw [if_neg h39]
  by_cases h40 : o = 40
  · rw [if_pos h40]
    exact kbLk_40 hI x1 x2 x3 x4
  rw [if_neg h40]
  by_cases h41 : o = 41
  · rw [if_pos h41]
    exact kbLk_41 hI x1 x2 x3 x4
  rw [if_neg h41]
  by_cases h42 : o = 42
  · rw [if_pos h42]
    exact kbLk_42 hI x1 x2 x3 x4
  rw [if_neg h42]
  by_cases h43 : o = 43
  · rw [if_pos h43]
    exact kbLk_43 hI x1 x2 x3 x4
  rw [if_neg h43]
  by_cases h44 : o = 44
  · rw [if_pos h44]
    exact kbLk_44 hI x1 x2 x3 x4
  rw [if_neg h44]
  by_cases h45 : o = 45
  · rw [if_pos h45]
    exact kbLk_45 hI x1 x2 x3 x4
  rw [if_neg h45]
  by_cases h46 : o = 46
  · rw [if_pos h46]
    exact kbLk_46 hI x1 x2 x3 x4
  rw [if_neg h46]
  by_cases h47 : o = 47
  · rw [if_pos h47]
    exact kbLk_47 hI x1 x2 x3 x4
  rw [if_neg h47]
  by_cases h48 : o = 48
  · rw [if_pos h48]
    exact kbLk_48 hI x1 x2 x3 x4
  rw [if_neg h48]
  by_cases h49 : o = 49
  · rw [if_pos h49]
    exact kbLk_49 hI x1 x2 x3 x4
  rw [if_neg h49]
  by_cases h50 : o = 50
  · rw [if_pos h50]
    exact kbLk_50 hI x1 x2 x3 x4
  rw [if_neg h50]
  by_cases h51 : o = 51
  · rw [if_pos h51]
    exact kbLk_51 hI x1 x2 x3 x4
  rw [if_neg h51]
  by_cases h52 : o = 52
  · rw [if_pos h52]
    exact kbLk_52 hI x1 x2 x3 x4
  rw [if_neg h52]
  by_cases h53 : o = 53
  · rw [if_pos h53]
    exact kbLk_53 hI x1 x2 x3 x4
  rw [if_neg h53]
  by_cases h54 : o = 54
  · rw [if_pos h54]
    exact kbLk_54 hI x1 x2 x3 x4
  rw [if_neg h54]
  by_cases h55 : o = 55
  · rw [if_pos h55]
    exact kbLk_55 hI x1 x2 x3 x4
  rw [if_neg h55]
  by_cases h56 : o = 56
  · rw [if_pos h56]
    exact kbLk_56 hI x1 x2 x3 x4
  rw [if_neg h56]
  by_cases h57 : o = 57
  · rw [if_pos h57]
    exact kbLk_57 hI x1 x2 x3 x4
  rw [if_neg h57]
  exact kbH_some.mpr hI
theorem kb_loop {N : Nat} (hN : N ≤ 2560) (xs : Nat → Int32) : ∀ (n : Nat) (i : Int) (μ : knMem), kbIv μ → 0 ≤ i → i ≤ (N : Int) → (N : Int) < i + 5 * n → ∃ q, kfLw N xs n i μ = some q
  | 0, i, μ, _, h0, h5, h1 => by
    exfalso
    omega
  | n + 1, i, μ, hI, h0, h5, h1 => by
    rw [kfLw, knW_id (x := (N : Int) - 5) (by omega)]
    by_cases g : (N : Int) - 5 < i
    · rw [if_pos g]; exact ⟨μ, rfl⟩
    · rw [if_neg g]
      obtain ⟨μ1, e, hI1⟩ := kb_turn hI (knAnd (knSx xs i) 63) (knSx xs (knW (i + 1))) (knSx xs (knW (i + 2))) (knSx xs (knW (i + 3))) (knSx xs (knW (i + 4)))
      rw [e, Option.bind_some, knW_id (x := i + 5) (by omega)]
      exact kb_loop hN xs n (i + 5) μ1 hI1 (by omega) (by omega) (by omega)
theorem kb_main {N : Nat} (hN : N ≤ 2560) (xs : Nat → Int32) : ∃ q, kfLw N xs 513 0 kzM = some q := kb_loop hN xs 513 0 kzM kz_Iv (by omega) (by omega) (by omega)
