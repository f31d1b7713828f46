def kfX12_execute (a1 : Int) (a2 : Int) (μ : knMem) : Option (Int × knMem) :=
 if a1 < 0 then
  some (2, μ)
 else
  knGd (0 ≤ a1 ∧ a1 < 12)
   (if (a1 + 1) = 1 then
   knGd ((0 : Int) ≤ 0 ∧ (0 : Int) < (knLn a2))
    (knGd ((0 : Int) ≤ 1 ∧ (1 : Int) < (knLn a2))
    (knGd ((0 : Int) ≤ 2 ∧ (2 : Int) < (knLn a2))
    (Option.bind (kfX5_putCurl 2 (μ a2 0) (if (μ a2 1) = 1 then 1 else 0 : Int) (if (μ a2 2) = 1 then 1 else 0 : Int) μ) (fun q16 =>
    some (q16.1, q16.2)))))
  else
   if (a1 + 1) = 2 then
    knGd ((0 : Int) ≤ 0 ∧ (0 : Int) < (knLn a2))
     (Option.bind (kfX5_takeCurl 2 (μ a2 0) μ) (fun q24 =>
     some (q24.1, q24.2)))
   else
    if (a1 + 1) = 3 then
     knGd ((0 : Int) ≤ 0 ∧ (0 : Int) < (knLn a2))
      (knGd ((0 : Int) ≤ 1 ∧ (1 : Int) < (knLn a2))
      (knGd ((0 : Int) ≤ 2 ∧ (2 : Int) < (knLn a2))
      (knGd ((0 : Int) ≤ 3 ∧ (3 : Int) < (knLn a2))
      (Option.bind (kfX5_putPoke 2 (μ a2 0) (μ a2 1) (if (μ a2 2) = 1 then 1 else 0 : Int) (if (μ a2 3) = 1 then 1 else 0 : Int) μ) (fun q42 =>
      some (q42.1, q42.2))))))
    else
     if (a1 + 1) = 4 then
      knGd ((0 : Int) ≤ 0 ∧ (0 : Int) < (knLn a2))
       (knGd ((0 : Int) ≤ 1 ∧ (1 : Int) < (knLn a2))
       (Option.bind (kfX5_takePoke 2 (μ a2 0) (μ a2 1) μ) (fun q52 =>
       some (q52.1, q52.2))))
     else
      if (a1 + 1) = 5 then
       knGd ((0 : Int) ≤ 0 ∧ (0 : Int) < (knLn a2))
        (Option.bind (kfX5_switchOne 2 (μ a2 0) μ) (fun q58 =>
        some (q58.1, q58.2)))
      else
       if (a1 + 1) = 6 then
        Option.bind (kfX5_switchAll 2 μ) (fun q62 =>
         some (q62.1, q62.2))
       else
        if (a1 + 1) = 7 then
         Option.bind (kfX5_turnBack 2 μ) (fun q66 =>
          some (q66.1, q66.2))
        else
         if (a1 + 1) = 8 then
          knGd ((0 : Int) ≤ 0 ∧ (0 : Int) < (knLn a2))
           (Option.bind (kfX5_turnTo 2 (μ a2 0) μ) (fun q72 =>
           some (q72.1, q72.2)))
         else
          if (a1 + 1) = 9 then
           Option.bind (kfX5_simplify 2 μ) (fun q76 =>
            some (q76.1, q76.2))
          else
           if (a1 + 1) = 10 then
            Option.bind (kfX1_enter 6 μ) (fun q80 =>
             some (q80.1, q80.2))
           else
            if (a1 + 1) = 11 then
             knGd ((0 : Int) ≤ 0 ∧ (0 : Int) < (knLn a2))
              (knGd ((0 : Int) ≤ 1 ∧ (1 : Int) < (knLn a2))
              (knGd ((0 : Int) ≤ 2 ∧ (2 : Int) < (knLn a2))
              (Option.bind (kfX1_wager 6 (μ a2 0) (μ a2 1) (μ a2 2) μ) (fun q90 =>
              some (q90.1, q90.2)))))
            else
             if (a1 + 1) = 12 then
              Option.bind (kfX11_fewest 2 μ) (fun q94 =>
               Option.bind (kfX1_pay 6 q94.1 q94.2) (fun q97 =>
                some (q97.1, q97.2)))
             else
              some (2, μ))

theorem knWvX12_execute : knWv yX12_execute cX12_execute 3 (some (.object "KnotLaboratory$Refusal")) 2 := ⟨(knGm 1442 (by decide +kernel) rfl), (knGm 114 (by decide +kernel) rfl), (knGm 1441 (by decide +kernel) rfl), (knGm 35 (by decide +kernel) rfl), by decide +kernel, by decide +kernel, by decide +kernel⟩
set_option maxHeartbeats 4000000 in
set_option maxRecDepth 100000 in
theorem kcX12_execute {G : knGT} (l : Launch) {a1 : Int} {a2 : Int} (ha1 : -1 ≤ a1 ∧ a1 < 12) (ha2 : knKd a2 = 20) {μ : knMem} {q : Int × knMem} (hf : kfX12_execute a1 a2 μ = some q) : knC0 G l yX12_execute cX12_execute 3 (some (.object "KnotLaboratory$Refusal")) 6 120 [knO G 0, knCo G a1, knO G a2] μ (0 ≤ q.1 ∧ q.1 < 6) (some (knRf G q.1)) q.2 := by
  unfold kfX12_execute at hf
  refine kn_ofJ (plainFor_of_name (by decide)) (by unfold knCo; split <;> exact Nat.le_of_ble_eq_true rfl) (L := [(0, knO G 0), (1, knCo G a1), (2, knO G a2)]) (by unfold knCo; split <;> rfl) ?_
  intro p e s m args below meth c X K hr hlk
  refine kj_aloadnC X 1 dX12_execute_0 rfl ?_
  refine kj_ifnonnull X (tgt := 8) dX12_execute_1 (by decide) ha1 (fun h1 => ?_) (fun h1 => ?_)
  · replace hf := knIq hf h1
    refine kj_swm X K (knGm 1443 (by decide +kernel) rfl) dX12_execute_8 ?_
    refine kj_aloadnC X 1 dX12_execute_11 rfl ?_
    obtain ⟨h2, hf⟩ := knGd_inv hf
    refine kj_ord (rest := [knSm_ G]) X K h2 (knGm 1445 (by decide +kernel) rfl) (Nat.le_of_ble_eq_true rfl) (by decide) dX12_execute_12 ?_
    refine kj_swm_ald X K ⟨by omega, by omega⟩ h2 dX12_execute_15 ?_
    by_cases h3 : (a1 + 1) = 1
    · replace hf := knIp hf h3
      refine kj_tswI X (i := 0) (tgt := 80) dX12_execute_16 ⟨by omega, by omega⟩ h3 rfl (by decide) ?_
      refine kj_aloadn X 0 dX12_execute_80 rfl ?_
      refine kj_geto (k := 1) (o2 := 2) X K kdc_0 (by decide) (knEnt_9 kdc_0) rfl (by decide) knInX12 (knGm 362 (by decide +kernel) rfl) rfl rfl dX12_execute_81 ?_
      refine kj_aloadn X 2 dX12_execute_84 rfl ?_
      refine kj_iconst X dX12_execute_85 ?_
      obtain ⟨h4, hf⟩ := knGd_inv hf
      refine kj_iald X K ha2 (show knC (0) from ⟨by omega, by omega⟩) rfl h4 dX12_execute_86 (fun h5 => ?_)
      refine kj_aloadn X 2 dX12_execute_87 rfl ?_
      refine kj_iconst X dX12_execute_88 ?_
      obtain ⟨h6, hf⟩ := knGd_inv hf
      refine kj_iald X K ha2 (show knC (1) from ⟨by omega, by omega⟩) rfl h6 dX12_execute_89 (fun h7 => ?_)
      refine kj_iconst X dX12_execute_90 ?_
      have j9 : ∀ (t9_0 : Int) (et9_0 : t9_0 = (if (μ a2 1) = 1 then 1 else 0 : Int)) (ht9_0 : knZ t9_0), knJ G p l e { frames := 6, cells := 0, slots := 0, locals := 120 } s m args below meth c 3 0 0 (MQ below (knPo G (0 ≤ q.1 ∧ q.1 < 6) (some (knRf G q.1)) q.2) args s 0 0 (knA G)) 99 [(2, knO G a2)] [knV t9_0, knV (μ a2 0), knO G 2] μ := by
        intro t9_0 et9_0 ht9_0
        subst et9_0
        refine kj_aloadn X 0 dX12_execute_99 rfl ?_
        refine kj_iconst X dX12_execute_100 ?_
        obtain ⟨h11, hf⟩ := knGd_inv hf
        refine kj_iald X K ha2 (show knC (2) from ⟨by omega, by omega⟩) rfl h11 dX12_execute_101 (fun h12 => ?_)
        refine kj_iconst X dX12_execute_102 ?_
        have j14 : ∀ (t14_0 : Int) (et14_0 : t14_0 = (if (μ a2 2) = 1 then 1 else 0 : Int)) (ht14_0 : knZ t14_0), knJ G p l e { frames := 6, cells := 0, slots := 0, locals := 120 } s m args below meth c 3 0 0 (MQ below (knPo G (0 ≤ q.1 ∧ q.1 < 6) (some (knRf G q.1)) q.2) args s 0 0 (knA G)) 111 [] [knV t14_0, knV (if (μ a2 1) = 1 then 1 else 0 : Int), knV (μ a2 0), knO G 2] μ := by
          intro t14_0 et14_0 ht14_0
          subst et14_0
          obtain ⟨q16, h17, hf⟩ := knBd_inv hf
          refine kj_callV (As := [knV (μ a2 0), knV (if (μ a2 1) = 1 then 1 else 0 : Int), knV (if (μ a2 2) = 1 then 1 else 0 : Int)]) (rest := []) X K (kcX5_putCurl l kdc_2 h5 ht9_0 ht14_0 h17) knWvX5_putCurl (knGm 944 (by decide +kernel) rfl) (by decide) (knKd_in kdc_2 (by decide)) (knEnt_3 kdc_2) rfl rfl rfl (Nat.le_of_ble_eq_true rfl) (by decide) dX12_execute_111 rfl (fun h18 => ?_)
          cases hf
          exact kj_aret X h18 hr (Or.inl ⟨_, rfl⟩) (Or.inr ⟨_, rfl⟩) dX12_execute_114 hlk
        refine kj_ic_ne X (tgt := 110) dX12_execute_103 (by decide) h12 (show knC (1) from ⟨by omega, by omega⟩) (fun h19 => ?_) (fun h19 => ?_)
        · refine kj_iconst X dX12_execute_110 ?_
          refine kj_sub (L' := []) [] rfl ?_
          exact j14 0 (by rw [if_neg h19]) (Or.inl rfl)
        · refine kj_iconst X dX12_execute_106 ?_
          refine kj_goto X (tgt := 111) dX12_execute_107 (by decide) ?_
          refine kj_sub (L' := []) [] rfl ?_
          exact j14 1 (by rw [if_pos h19]) (Or.inr rfl)
      refine kj_ic_ne X (tgt := 98) dX12_execute_91 (by decide) h7 (show knC (1) from ⟨by omega, by omega⟩) (fun h20 => ?_) (fun h20 => ?_)
      · refine kj_iconst X dX12_execute_98 ?_
        refine kj_sub (L' := [(2, knO G a2)]) [2] rfl ?_
        exact j9 0 (by rw [if_neg h20]) (Or.inl rfl)
      · refine kj_iconst X dX12_execute_94 ?_
        refine kj_goto X (tgt := 99) dX12_execute_95 (by decide) ?_
        refine kj_sub (L' := [(2, knO G a2)]) [2] rfl ?_
        exact j9 1 (by rw [if_pos h20]) (Or.inr rfl)
    · replace hf := knIq hf h3
      by_cases h21 : (a1 + 1) = 2
      · replace hf := knIp hf h21
        refine kj_tswI X (i := 1) (tgt := 115) dX12_execute_16 ⟨by omega, by omega⟩ h21 rfl (by decide) ?_
        refine kj_aloadn X 0 dX12_execute_115 rfl ?_
        refine kj_geto (k := 1) (o2 := 2) X K kdc_0 (by decide) (knEnt_9 kdc_0) rfl (by decide) knInX12 (knGm 362 (by decide +kernel) rfl) rfl rfl dX12_execute_116 ?_
        refine kj_aloadn X 2 dX12_execute_119 rfl ?_
        refine kj_iconst X dX12_execute_120 ?_
        obtain ⟨h22, hf⟩ := knGd_inv hf
        refine kj_iald X K ha2 (show knC (0) from ⟨by omega, by omega⟩) rfl h22 dX12_execute_121 (fun h23 => ?_)
        obtain ⟨q24, h25, hf⟩ := knBd_inv hf
        refine kj_callV (As := [knV (μ a2 0)]) (rest := []) X K (kcX5_takeCurl l kdc_2 h23 h25) knWvX5_takeCurl (knGm 970 (by decide +kernel) rfl) (by decide) (knKd_in kdc_2 (by decide)) (knEnt_3 kdc_2) rfl rfl rfl (Nat.le_of_ble_eq_true rfl) (by decide) dX12_execute_122 rfl (fun h26 => ?_)
        cases hf
        exact kj_aret X h26 hr (Or.inl ⟨_, rfl⟩) (Or.inr ⟨_, rfl⟩) dX12_execute_125 hlk
      · replace hf := knIq hf h21
        by_cases h27 : (a1 + 1) = 3
        · replace hf := knIp hf h27
          refine kj_tswI X (i := 2) (tgt := 126) dX12_execute_16 ⟨by omega, by omega⟩ h27 rfl (by decide) ?_
          refine kj_aloadn X 0 dX12_execute_126 rfl ?_
          refine kj_geto (k := 1) (o2 := 2) X K kdc_0 (by decide) (knEnt_9 kdc_0) rfl (by decide) knInX12 (knGm 362 (by decide +kernel) rfl) rfl rfl dX12_execute_127 ?_
          refine kj_aloadn X 2 dX12_execute_130 rfl ?_
          refine kj_iconst X dX12_execute_131 ?_
          obtain ⟨h28, hf⟩ := knGd_inv hf
          refine kj_iald X K ha2 (show knC (0) from ⟨by omega, by omega⟩) rfl h28 dX12_execute_132 (fun h29 => ?_)
          refine kj_aloadn X 2 dX12_execute_133 rfl ?_
          refine kj_iconst X dX12_execute_134 ?_
          obtain ⟨h30, hf⟩ := knGd_inv hf
          refine kj_iald X K ha2 (show knC (1) from ⟨by omega, by omega⟩) rfl h30 dX12_execute_135 (fun h31 => ?_)
          refine kj_aloadn X 2 dX12_execute_136 rfl ?_
          refine kj_iconst X dX12_execute_137 ?_
          obtain ⟨h32, hf⟩ := knGd_inv hf
          refine kj_iald X K ha2 (show knC (2) from ⟨by omega, by omega⟩) rfl h32 dX12_execute_138 (fun h33 => ?_)
          refine kj_iconst X dX12_execute_139 ?_
          have j35 : ∀ (t35_0 : Int) (et35_0 : t35_0 = (if (μ a2 2) = 1 then 1 else 0 : Int)) (ht35_0 : knZ t35_0), knJ G p l e { frames := 6, cells := 0, slots := 0, locals := 120 } s m args below meth c 3 0 0 (MQ below (knPo G (0 ≤ q.1 ∧ q.1 < 6) (some (knRf G q.1)) q.2) args s 0 0 (knA G)) 148 [(2, knO G a2)] [knV t35_0, knV (μ a2 1), knV (μ a2 0), knO G 2] μ := by
            intro t35_0 et35_0 ht35_0
            subst et35_0
            refine kj_aloadn X 0 dX12_execute_148 rfl ?_
            refine kj_iconst X dX12_execute_149 ?_
            obtain ⟨h37, hf⟩ := knGd_inv hf
            refine kj_iald X K ha2 (show knC (3) from ⟨by omega, by omega⟩) rfl h37 dX12_execute_150 (fun h38 => ?_)
            refine kj_iconst X dX12_execute_151 ?_
            have j40 : ∀ (t40_0 : Int) (et40_0 : t40_0 = (if (μ a2 3) = 1 then 1 else 0 : Int)) (ht40_0 : knZ t40_0), knJ G p l e { frames := 6, cells := 0, slots := 0, locals := 120 } s m args below meth c 3 0 0 (MQ below (knPo G (0 ≤ q.1 ∧ q.1 < 6) (some (knRf G q.1)) q.2) args s 0 0 (knA G)) 160 [] [knV t40_0, knV (if (μ a2 2) = 1 then 1 else 0 : Int), knV (μ a2 1), knV (μ a2 0), knO G 2] μ := by
              intro t40_0 et40_0 ht40_0
              subst et40_0
              obtain ⟨q42, h43, hf⟩ := knBd_inv hf
              refine kj_callV (As := [knV (μ a2 0), knV (μ a2 1), knV (if (μ a2 2) = 1 then 1 else 0 : Int), knV (if (μ a2 3) = 1 then 1 else 0 : Int)]) (rest := []) X K (kcX5_putPoke l kdc_2 h29 h31 ht35_0 ht40_0 h43) knWvX5_putPoke (knGm 982 (by decide +kernel) rfl) (by decide) (knKd_in kdc_2 (by decide)) (knEnt_3 kdc_2) rfl rfl rfl (Nat.le_of_ble_eq_true rfl) (by decide) dX12_execute_160 rfl (fun h44 => ?_)
              cases hf
              exact kj_aret X h44 hr (Or.inl ⟨_, rfl⟩) (Or.inr ⟨_, rfl⟩) dX12_execute_163 hlk
            refine kj_ic_ne X (tgt := 159) dX12_execute_152 (by decide) h38 (show knC (1) from ⟨by omega, by omega⟩) (fun h45 => ?_) (fun h45 => ?_)
            · refine kj_iconst X dX12_execute_159 ?_
              refine kj_sub (L' := []) [] rfl ?_
              exact j40 0 (by rw [if_neg h45]) (Or.inl rfl)
            · refine kj_iconst X dX12_execute_155 ?_
              refine kj_goto X (tgt := 160) dX12_execute_156 (by decide) ?_
              refine kj_sub (L' := []) [] rfl ?_
              exact j40 1 (by rw [if_pos h45]) (Or.inr rfl)
          refine kj_ic_ne X (tgt := 147) dX12_execute_140 (by decide) h33 (show knC (1) from ⟨by omega, by omega⟩) (fun h46 => ?_) (fun h46 => ?_)
          · refine kj_iconst X dX12_execute_147 ?_
            refine kj_sub (L' := [(2, knO G a2)]) [2] rfl ?_
            exact j35 0 (by rw [if_neg h46]) (Or.inl rfl)
          · refine kj_iconst X dX12_execute_143 ?_
            refine kj_goto X (tgt := 148) dX12_execute_144 (by decide) ?_
            refine kj_sub (L' := [(2, knO G a2)]) [2] rfl ?_
            exact j35 1 (by rw [if_pos h46]) (Or.inr rfl)
        · replace hf := knIq hf h27
          by_cases h47 : (a1 + 1) = 4
          · replace hf := knIp hf h47
            refine kj_tswI X (i := 3) (tgt := 164) dX12_execute_16 ⟨by omega, by omega⟩ h47 rfl (by decide) ?_
            refine kj_aloadn X 0 dX12_execute_164 rfl ?_
            refine kj_geto (k := 1) (o2 := 2) X K kdc_0 (by decide) (knEnt_9 kdc_0) rfl (by decide) knInX12 (knGm 362 (by decide +kernel) rfl) rfl rfl dX12_execute_165 ?_
            refine kj_aloadn X 2 dX12_execute_168 rfl ?_
            refine kj_iconst X dX12_execute_169 ?_
            obtain ⟨h48, hf⟩ := knGd_inv hf
            refine kj_iald X K ha2 (show knC (0) from ⟨by omega, by omega⟩) rfl h48 dX12_execute_170 (fun h49 => ?_)
            refine kj_aloadn X 2 dX12_execute_171 rfl ?_
            refine kj_iconst X dX12_execute_172 ?_
            obtain ⟨h50, hf⟩ := knGd_inv hf
            refine kj_iald X K ha2 (show knC (1) from ⟨by omega, by omega⟩) rfl h50 dX12_execute_173 (fun h51 => ?_)
            obtain ⟨q52, h53, hf⟩ := knBd_inv hf
            refine kj_callV (As := [knV (μ a2 0), knV (μ a2 1)]) (rest := []) X K (kcX5_takePoke l kdc_2 h49 h51 h53) knWvX5_takePoke (knGm 995 (by decide +kernel) rfl) (by decide) (knKd_in kdc_2 (by decide)) (knEnt_3 kdc_2) rfl rfl rfl (Nat.le_of_ble_eq_true rfl) (by decide) dX12_execute_174 rfl (fun h54 => ?_)
            cases hf
            exact kj_aret X h54 hr (Or.inl ⟨_, rfl⟩) (Or.inr ⟨_, rfl⟩) dX12_execute_177 hlk
          · replace hf := knIq hf h47
            by_cases h55 : (a1 + 1) = 5
            · replace hf := knIp hf h55
              refine kj_tswI X (i := 4) (tgt := 178) dX12_execute_16 ⟨by omega, by omega⟩ h55 rfl (by decide) ?_
              refine kj_aloadn X 0 dX12_execute_178 rfl ?_
              refine kj_geto (k := 1) (o2 := 2) X K kdc_0 (by decide) (knEnt_9 kdc_0) rfl (by decide) knInX12 (knGm 362 (by decide +kernel) rfl) rfl rfl dX12_execute_179 ?_
              refine kj_aloadn X 2 dX12_execute_182 rfl ?_
              refine kj_iconst X dX12_execute_183 ?_
              obtain ⟨h56, hf⟩ := knGd_inv hf
              refine kj_iald X K ha2 (show knC (0) from ⟨by omega, by omega⟩) rfl h56 dX12_execute_184 (fun h57 => ?_)
              obtain ⟨q58, h59, hf⟩ := knBd_inv hf
              refine kj_callV (As := [knV (μ a2 0)]) (rest := []) X K (kcX5_switchOne l kdc_2 h57 h59) knWvX5_switchOne (knGm 1006 (by decide +kernel) rfl) (by decide) (knKd_in kdc_2 (by decide)) (knEnt_3 kdc_2) rfl rfl rfl (Nat.le_of_ble_eq_true rfl) (by decide) dX12_execute_185 rfl (fun h60 => ?_)
              cases hf
              exact kj_aret X h60 hr (Or.inl ⟨_, rfl⟩) (Or.inr ⟨_, rfl⟩) dX12_execute_188 hlk
            · replace hf := knIq hf h55
              by_cases h61 : (a1 + 1) = 6
              · replace hf := knIp hf h61
                refine kj_tswI X (i := 5) (tgt := 189) dX12_execute_16 ⟨by omega, by omega⟩ h61 rfl (by decide) ?_
                refine kj_aloadn X 0 dX12_execute_189 rfl ?_
                refine kj_geto (k := 1) (o2 := 2) X K kdc_0 (by decide) (knEnt_9 kdc_0) rfl (by decide) knInX12 (knGm 362 (by decide +kernel) rfl) rfl rfl dX12_execute_190 ?_
                obtain ⟨q62, h63, hf⟩ := knBd_inv hf
                refine kj_callV (As := []) (rest := []) X K (kcX5_switchAll l kdc_2 h63) knWvX5_switchAll (knGm 424 (by decide +kernel) rfl) (by decide) (knKd_in kdc_2 (by decide)) (knEnt_3 kdc_2) rfl rfl rfl (Nat.le_of_ble_eq_true rfl) (by decide) dX12_execute_193 rfl (fun h64 => ?_)
                cases hf
                exact kj_aret X h64 hr (Or.inl ⟨_, rfl⟩) (Or.inr ⟨_, rfl⟩) dX12_execute_196 hlk
              · replace hf := knIq hf h61
                by_cases h65 : (a1 + 1) = 7
                · replace hf := knIp hf h65
                  refine kj_tswI X (i := 6) (tgt := 197) dX12_execute_16 ⟨by omega, by omega⟩ h65 rfl (by decide) ?_
                  refine kj_aloadn X 0 dX12_execute_197 rfl ?_
                  refine kj_geto (k := 1) (o2 := 2) X K kdc_0 (by decide) (knEnt_9 kdc_0) rfl (by decide) knInX12 (knGm 362 (by decide +kernel) rfl) rfl rfl dX12_execute_198 ?_
                  obtain ⟨q66, h67, hf⟩ := knBd_inv hf
                  refine kj_callV (As := []) (rest := []) X K (kcX5_turnBack l kdc_2 h67) knWvX5_turnBack (knGm 602 (by decide +kernel) rfl) (by decide) (knKd_in kdc_2 (by decide)) (knEnt_3 kdc_2) rfl rfl rfl (Nat.le_of_ble_eq_true rfl) (by decide) dX12_execute_201 rfl (fun h68 => ?_)
                  cases hf
                  exact kj_aret X h68 hr (Or.inl ⟨_, rfl⟩) (Or.inr ⟨_, rfl⟩) dX12_execute_204 hlk
                · replace hf := knIq hf h65
                  by_cases h69 : (a1 + 1) = 8
                  · replace hf := knIp hf h69
                    refine kj_tswI X (i := 7) (tgt := 205) dX12_execute_16 ⟨by omega, by omega⟩ h69 rfl (by decide) ?_
                    refine kj_aloadn X 0 dX12_execute_205 rfl ?_
                    refine kj_geto (k := 1) (o2 := 2) X K kdc_0 (by decide) (knEnt_9 kdc_0) rfl (by decide) knInX12 (knGm 362 (by decide +kernel) rfl) rfl rfl dX12_execute_206 ?_
                    refine kj_aloadn X 2 dX12_execute_209 rfl ?_
                    refine kj_iconst X dX12_execute_210 ?_
                    obtain ⟨h70, hf⟩ := knGd_inv hf
                    refine kj_iald X K ha2 (show knC (0) from ⟨by omega, by omega⟩) rfl h70 dX12_execute_211 (fun h71 => ?_)
                    obtain ⟨q72, h73, hf⟩ := knBd_inv hf
                    refine kj_callV (As := [knV (μ a2 0)]) (rest := []) X K (kcX5_turnTo l kdc_2 h71 h73) knWvX5_turnTo (knGm 1017 (by decide +kernel) rfl) (by decide) (knKd_in kdc_2 (by decide)) (knEnt_3 kdc_2) rfl rfl rfl (Nat.le_of_ble_eq_true rfl) (by decide) dX12_execute_212 rfl (fun h74 => ?_)
                    cases hf
                    exact kj_aret X h74 hr (Or.inl ⟨_, rfl⟩) (Or.inr ⟨_, rfl⟩) dX12_execute_215 hlk
                  · replace hf := knIq hf h69
                    by_cases h75 : (a1 + 1) = 9
                    · replace hf := knIp hf h75
                      refine kj_tswI X (i := 8) (tgt := 216) dX12_execute_16 ⟨by omega, by omega⟩ h75 rfl (by decide) ?_
                      refine kj_aloadn X 0 dX12_execute_216 rfl ?_
                      refine kj_geto (k := 1) (o2 := 2) X K kdc_0 (by decide) (knEnt_9 kdc_0) rfl (by decide) knInX12 (knGm 362 (by decide +kernel) rfl) rfl rfl dX12_execute_217 ?_
                      obtain ⟨q76, h77, hf⟩ := knBd_inv hf
                      refine kj_callV (As := []) (rest := []) X K (kcX5_simplify l kdc_2 h77) knWvX5_simplify (knGm 614 (by decide +kernel) rfl) (by decide) (knKd_in kdc_2 (by decide)) (knEnt_3 kdc_2) rfl rfl rfl (Nat.le_of_ble_eq_true rfl) (by decide) dX12_execute_220 rfl (fun h78 => ?_)
                      cases hf
                      exact kj_aret X h78 hr (Or.inl ⟨_, rfl⟩) (Or.inr ⟨_, rfl⟩) dX12_execute_223 hlk
                    · replace hf := knIq hf h75
                      by_cases h79 : (a1 + 1) = 10
                      · replace hf := knIp hf h79
                        refine kj_tswI X (i := 9) (tgt := 224) dX12_execute_16 ⟨by omega, by omega⟩ h79 rfl (by decide) ?_
                        refine kj_aloadn X 0 dX12_execute_224 rfl ?_
                        refine kj_geto (k := 2) (o2 := 6) X K kdc_0 (by decide) (knEnt_9 kdc_0) rfl (by decide) knInX12 (knGm 363 (by decide +kernel) rfl) rfl rfl dX12_execute_225 ?_
                        obtain ⟨q80, h81, hf⟩ := knBd_inv hf
                        refine kj_callV (As := []) (rest := []) X K (kcX1_enter l kdc_6 h81) knWvX1_enter (knGm 1190 (by decide +kernel) rfl) (by decide) (knKd_in kdc_6 (by decide)) (knEnt_0 kdc_6) rfl rfl rfl (Nat.le_of_ble_eq_true rfl) (by decide) dX12_execute_228 rfl (fun h82 => ?_)
                        cases hf
                        exact kj_aret X h82 hr (Or.inl ⟨_, rfl⟩) (Or.inr ⟨_, rfl⟩) dX12_execute_231 hlk
                      · replace hf := knIq hf h79
                        by_cases h83 : (a1 + 1) = 11
                        · replace hf := knIp hf h83
                          refine kj_tswI X (i := 10) (tgt := 232) dX12_execute_16 ⟨by omega, by omega⟩ h83 rfl (by decide) ?_
                          refine kj_aloadn X 0 dX12_execute_232 rfl ?_
                          refine kj_geto (k := 2) (o2 := 6) X K kdc_0 (by decide) (knEnt_9 kdc_0) rfl (by decide) knInX12 (knGm 363 (by decide +kernel) rfl) rfl rfl dX12_execute_233 ?_
                          refine kj_aloadn X 2 dX12_execute_236 rfl ?_
                          refine kj_iconst X dX12_execute_237 ?_
                          obtain ⟨h84, hf⟩ := knGd_inv hf
                          refine kj_iald X K ha2 (show knC (0) from ⟨by omega, by omega⟩) rfl h84 dX12_execute_238 (fun h85 => ?_)
                          refine kj_aloadn X 2 dX12_execute_239 rfl ?_
                          refine kj_iconst X dX12_execute_240 ?_
                          obtain ⟨h86, hf⟩ := knGd_inv hf
                          refine kj_iald X K ha2 (show knC (1) from ⟨by omega, by omega⟩) rfl h86 dX12_execute_241 (fun h87 => ?_)
                          refine kj_aloadn X 2 dX12_execute_242 rfl ?_
                          refine kj_iconst X dX12_execute_243 ?_
                          obtain ⟨h88, hf⟩ := knGd_inv hf
                          refine kj_iald X K ha2 (show knC (2) from ⟨by omega, by omega⟩) rfl h88 dX12_execute_244 (fun h89 => ?_)
                          obtain ⟨q90, h91, hf⟩ := knBd_inv hf
                          refine kj_callV (As := [knV (μ a2 0), knV (μ a2 1), knV (μ a2 2)]) (rest := []) X K (kcX1_wager l kdc_6 h85 h87 h89 h91) knWvX1_wager (knGm 1203 (by decide +kernel) rfl) (by decide) (knKd_in kdc_6 (by decide)) (knEnt_0 kdc_6) rfl rfl rfl (Nat.le_of_ble_eq_true rfl) (by decide) dX12_execute_245 rfl (fun h92 => ?_)
                          cases hf
                          exact kj_aret X h92 hr (Or.inl ⟨_, rfl⟩) (Or.inr ⟨_, rfl⟩) dX12_execute_248 hlk
                        · replace hf := knIq hf h83
                          by_cases h93 : (a1 + 1) = 12
                          · replace hf := knIp hf h93
                            refine kj_tswI X (i := 11) (tgt := 249) dX12_execute_16 ⟨by omega, by omega⟩ h93 rfl (by decide) ?_
                            refine kj_aloadn X 0 dX12_execute_249 rfl ?_
                            refine kj_geto (k := 2) (o2 := 6) X K kdc_0 (by decide) (knEnt_9 kdc_0) rfl (by decide) knInX12 (knGm 363 (by decide +kernel) rfl) rfl rfl dX12_execute_250 ?_
                            refine kj_aloadn X 0 dX12_execute_253 rfl ?_
                            refine kj_geto (k := 8) (o2 := 132) X K kdc_0 (by decide) (knEnt_9 kdc_0) rfl (by decide) knInX12 (knGm 369 (by decide +kernel) rfl) rfl rfl dX12_execute_254 ?_
                            refine kj_aloadn X 0 dX12_execute_257 rfl ?_
                            refine kj_geto (k := 1) (o2 := 2) X K kdc_0 (by decide) (knEnt_9 kdc_0) rfl (by decide) knInX12 (knGm 362 (by decide +kernel) rfl) rfl rfl dX12_execute_258 ?_
                            obtain ⟨q94, h95, hf⟩ := knBd_inv hf
                            refine kj_callV (As := [knO G 2]) (rest := [knO G 6]) X K (kcX11_fewest l kdc_2 h95) knWvX11_fewest (knGm 844 (by decide +kernel) rfl) (by decide) (knKd_in kdc_132 (by decide)) (knEnt_8 kdc_132) rfl rfl rfl (Nat.le_of_ble_eq_true rfl) (by decide) dX12_execute_261 rfl (fun h96 => ?_)
                            obtain ⟨q97, h98, hf⟩ := knBd_inv hf
                            refine kj_callV (As := [knV q94.1]) (rest := []) X K (kcX1_pay l kdc_6 h96 h98) knWvX1_pay (knGm 1229 (by decide +kernel) rfl) (by decide) (knKd_in kdc_6 (by decide)) (knEnt_0 kdc_6) rfl rfl rfl (Nat.le_of_ble_eq_true rfl) (by decide) dX12_execute_264 rfl (fun h99 => ?_)
                            cases hf
                            exact kj_aret X h99 hr (Or.inl ⟨_, rfl⟩) (Or.inr ⟨_, rfl⟩) dX12_execute_267 hlk
                          · replace hf := knIq hf h93
                            refine kj_tswD X (tgt := 268) dX12_execute_16 ⟨by omega, by omega⟩ (by decide) (fun i hi => ?_) ?_
                            · rcases (show i = 0 ∨ i = 1 ∨ i = 2 ∨ i = 3 ∨ i = 4 ∨ i = 5 ∨ i = 6 ∨ i = 7 ∨ i = 8 ∨ i = 9 ∨ i = 10 ∨ i = 11 by have : i < 12 := hi; omega) with rfl | rfl | rfl | rfl | rfl | rfl | rfl | rfl | rfl | rfl | rfl | rfl
                              · exact Or.inr h3
                              · exact Or.inr h21
                              · exact Or.inr h27
                              · exact Or.inr h47
                              · exact Or.inr h55
                              · exact Or.inr h61
                              · exact Or.inr h65
                              · exact Or.inr h69
                              · exact Or.inr h75
                              · exact Or.inr h79
                              · exact Or.inr h83
                              · exact Or.inr h93
                            · refine kj_refusal X K (i := 2) (by decide) (knGm 515 (by decide +kernel) rfl) dX12_execute_268 ?_
                              cases hf
                              exact kj_aret X (show 0 ≤ (2 : Int) ∧ (2 : Int) < 6 from ⟨by omega, by omega⟩) hr (Or.inl ⟨_, rfl⟩) (Or.inr ⟨_, rfl⟩) dX12_execute_271 hlk
  · replace hf := knIp hf h1
    refine kj_refusal X K (i := 2) (by decide) (knGm 515 (by decide +kernel) rfl) dX12_execute_4 ?_
    cases hf
    exact kj_aret X (show 0 ≤ (2 : Int) ∧ (2 : Int) < 6 from ⟨by omega, by omega⟩) hr (Or.inl ⟨_, rfl⟩) (Or.inr ⟨_, rfl⟩) dX12_execute_7 hlk

def kfX12_runScript_l56    (kc : (Int × knMem) → Option (Int × Int × knMem)) : Nat → Int → knMem → Option (Int × Int × knMem)
  | 0, _, _ => none
  | n + 1, x2, μ =>
    if 60 ≤ x2 then
     kc (x2, μ)
    else
     Option.bind (kfX9_advance  μ) (fun q12 =>
      if q12.1 = 0 then
       kc (x2, q12.2)
      else
       knGd (-1 ≤ (q12.2 137 3) ∧ (q12.2 137 3) < 12)
        (Option.bind (kfX12_execute (q12.2 137 3) 139 q12.2) (fun q17 =>
        if q17.1 = 0 then
         kfX12_runScript_l56   kc n (knW (x2 + 1)) q17.2
        else
         Option.bind (kfX9_clear  (knUp q17.2 0 13 x2)) (fun q21 =>
          Option.bind (kfX6_staged  q21) (fun q24 =>
           Option.bind (kfX10_copyFrom 1 q24 q21) (fun q27 =>
            some (3, 0, q27)))))))

def kfX12_runScript  (μ : knMem) : Option (Int × Int × knMem) :=
 Option.bind (kfX9_firstError  μ) (fun q1 =>
  if q1.1 = -1 then
   Option.bind (kfX6_stage 1 q1.2) (fun q5 =>
    Option.bind (kfX9_rewind  q5) (fun q8 =>
     kfX12_runScript_l56   (fun w30 =>
      Option.bind (kfX9_clear  w30.2) (fun q31 =>
       Option.bind (kfX6_keep  q31) (fun q34 =>
        some (0, w30.1, q34)))) knF 0 q8))
  else
   Option.bind (kfX9_clear  (knUp q1.2 0 12 q1.1)) (fun q43 =>
    some (2, 0, q43)))

theorem knWvX12_runScript : knWv yX12_runScript cX12_runScript 3 (some .int) 0 := ⟨(knGm 1322 (by decide +kernel) rfl), (knGm 114 (by decide +kernel) rfl), (knGm 1320 (by decide +kernel) rfl), (knGm 1321 (by decide +kernel) rfl), by decide +kernel, by decide +kernel, by decide +kernel⟩
set_option maxHeartbeats 4000000 in
set_option maxRecDepth 100000 in
theorem kfX12_runScript_l56_ok {q : Int × Int × knMem} {kc : (Int × knMem) → Option (Int × Int × knMem)} {G : knGT} {p : Program} {l : Launch} {e : Env} {s : State} {m : MethodId} {args : Array Value} {below : List Frame} {meth : Method} {c : Code} (X : knX p m c cX12_runScript 3 s args yX12_runScript.cls) (K : knK G s s.heap) (hr : meth.sig.returnType = (some .int)) (hlk : meth.locks = false) (hl : l.stackTraces = false) (hnx : ∀ z ∈ c.exceptionTable.toList, False)    (hk : ∀ (y2 : Int) (hy2 : knC y2) (μ1 : knMem), kc (y2, μ1) = some q → knJ G p l e { frames := 10, cells := 1, slots := 6, locals := 209 } s m args below meth c 3 0 0 (vx_MQ below (knPx G (knC q.2.1) q.1 (some (knV q.2.1)) q.2.2) (knXC G q.1 q.2.2) args s 1 6 (knA G)) 139 [(0, knO G 0), (2, knV y2)] [] μ1) : ∀ (n : Nat) (x2 : Int) (hx2 : knC x2) (μ : knMem), kfX12_runScript_l56   kc n x2 μ = some q → knJ G p l e { frames := 10, cells := 1, slots := 6, locals := 209 } s m args below meth c 3 0 0 (vx_MQ below (knPx G (knC q.2.1) q.1 (some (knV q.2.1)) q.2.2) (knXC G q.1 q.2.2) args s 1 6 (knA G)) 56 [(0, knO G 0), (2, knV x2)] [] μ := by
  intro n
  induction n with
  | zero => intro x2 hx2 μ hf; cases hf
  | succ n ih =>
    intro x2 hx2 μ hf
    unfold kfX12_runScript_l56 at hf
    refine kj_iloadn X 1 dX12_runScript_56 rfl ?_
    refine kj_bipush X (n := 60) dX12_runScript_57 rfl ?_
    refine kj_ic_ge X (tgt := 139) dX12_runScript_59 (by decide) hx2 (show knC (60) from ⟨by omega, by omega⟩) (fun h11 => ?_) (fun h11 => ?_)
    · replace hf := knIp hf h11
      refine kj_sub (L' := [(0, knO G 0), (2, knV x2)]) [0, 1] rfl ?_
      exact hk _ hx2 _ hf
    · replace hf := knIq hf h11
      refine kj_aloadn X 0 dX12_runScript_62 rfl ?_
      refine kj_geto (k := 9) (o2 := 137) X K kdc_0 (by decide) (knEnt_9 kdc_0) rfl (by decide) knInX12 (knGm 370 (by decide +kernel) rfl) rfl rfl dX12_runScript_63 ?_
      obtain ⟨q12, h13, hf⟩ := knBd_inv hf
      refine kj_callV (As := []) (rest := []) X K (kcX9_advance l  h13) knWvX9_advance (knGm 1435 (by decide +kernel) rfl) (by decide) (knKd_in kdc_137 (by decide)) (knEnt_6 kdc_137) rfl rfl rfl (Nat.le_of_ble_eq_true rfl) (by decide) dX12_runScript_66 rfl (fun h14 => ?_)
      refine kj_if_eq X (tgt := 139) dX12_runScript_69 (by decide) (knZ_c h14) (fun h15 => ?_) (fun h15 => ?_)
      · replace hf := knIp hf h15
        refine kj_sub (L' := [(0, knO G 0), (2, knV x2)]) [0, 1] rfl ?_
        exact hk _ hx2 _ hf
      · replace hf := knIq hf h15
        refine kj_aloadn X 0 dX12_runScript_72 rfl ?_
        refine kj_aloadn X 0 dX12_runScript_73 rfl ?_
        refine kj_geto (k := 9) (o2 := 137) X K kdc_0 (by decide) (knEnt_9 kdc_0) rfl (by decide) knInX12 (knGm 370 (by decide +kernel) rfl) rfl rfl dX12_runScript_74 ?_
        obtain ⟨h16, hf⟩ := knGd_inv hf
        refine kj_getcmd X K (knGm 329 (by decide +kernel) rfl) h16 dX12_runScript_77 ?_
        refine kj_aloadn X 0 dX12_runScript_80 rfl ?_
        refine kj_geto (k := 9) (o2 := 137) X K kdc_0 (by decide) (knEnt_9 kdc_0) rfl (by decide) knInX12 (knGm 370 (by decide +kernel) rfl) rfl rfl dX12_runScript_81 ?_
        refine kj_geto (k := 1) (o2 := 139) X K kdc_137 (by decide) (knEnt_6 kdc_137) rfl (by decide) knInX9 (knGm 325 (by decide +kernel) rfl) rfl rfl dX12_runScript_84 ?_
        obtain ⟨q17, h18, hf⟩ := knBd_inv hf
        refine kj_callV (As := [knCo G (q12.2 137 3), knO G 139]) (rest := []) X K (kcX12_execute l h16 kdc_139 h18) knWvX12_execute (knGm 1439 (by decide +kernel) rfl) (by decide) (knKd_in kdc_0 (by decide)) (knEnt_9 kdc_0) rfl rfl rfl (Nat.le_of_ble_eq_true rfl) (by decide) dX12_runScript_87 rfl (fun h19 => ?_)
        refine kj_refusal X K (i := 0) (by decide) (knGm 1451 (by decide +kernel) rfl) dX12_runScript_90 ?_
        refine kj_ac_eq X K (tgt := 133) dX12_runScript_93 (by decide) h19 (show 0 ≤ (0 : Int) ∧ (0 : Int) < 6 from ⟨by omega, by omega⟩) (fun h20 => ?_) (fun h20 => ?_)
        · replace hf := knIp hf h20
          refine kj_iinc X 1 (L' := [(2, knV (knW (x2 + 1))), (0, knO G 0)]) dX12_runScript_133 rfl (by decide) rfl ?_
          refine kj_goto X (tgt := 56) dX12_runScript_136 (by decide) ?_
          refine kj_sub (L' := [(0, knO G 0), (2, knV (knW (x2 + 1)))]) [1, 0] rfl ?_
          exact ih _ (knCw _) _ hf
        · replace hf := knIq hf h20
          refine kj_aloadn X 0 dX12_runScript_96 rfl ?_
          refine kj_iloadn X 1 dX12_runScript_97 rfl ?_
          refine kj_putf (k := 13) (ki := 13) (x := x2) (ty := .int) X K rfl (knKd_in kdc_0 (by decide)) (knEnt_9 kdc_0) rfl (by decide) knInX12 tyX12_ok nmX12 (knGm 374 (by decide +kernel) rfl) rfl rfl (by decide +kernel) rfl rfl (by simp) (by rw [knEnt_9 kdc_0, knUp_row]; rfl) (fun _ => hx2) (fun h => by rw [kdc_0] at h; cases h) (fun h => by rw [kdc_0] at h; cases h) dX12_runScript_98 ?_
          refine kj_aloadn X 0 dX12_runScript_101 rfl ?_
          refine kj_geto (k := 9) (o2 := 137) X K kdc_0 (by decide) (knEnt_9 kdc_0) rfl (by decide) knInX12 (knGm 370 (by decide +kernel) rfl) rfl rfl dX12_runScript_102 ?_
          obtain ⟨q21, h22, hf⟩ := knBd_inv hf
          refine kj_callV (As := []) (rest := []) X K (kcX9_clear l  h22) knWvX9_clear (knGm 1426 (by decide +kernel) rfl) (by decide) (knKd_in kdc_137 (by decide)) (knEnt_6 kdc_137) rfl rfl rfl (Nat.le_of_ble_eq_true rfl) (by decide) dX12_runScript_105 rfl (fun h23 => ?_)
          refine kj_aloadn X 0 dX12_runScript_108 rfl ?_
          refine kj_geto (k := 0) (o2 := 1) X K kdc_0 (by decide) (knEnt_9 kdc_0) rfl (by decide) knInX12 (knGm 361 (by decide +kernel) rfl) rfl rfl dX12_runScript_109 ?_
          refine kj_aloadn X 0 dX12_runScript_112 rfl ?_
          refine kj_geto (k := 5) (o2 := 23) X K kdc_0 (by decide) (knEnt_9 kdc_0) rfl (by decide) knInX12 (knGm 366 (by decide +kernel) rfl) rfl rfl dX12_runScript_113 ?_
          obtain ⟨q24, h25, hf⟩ := knBd_inv hf
          refine kj_callV (As := []) (rest := [knO G 1]) X K (kcX6_staged l  h25) knWvX6_staged (knGm 1452 (by decide +kernel) rfl) (by decide) (knKd_in kdc_23 (by decide)) (knEnt_4 kdc_23) rfl rfl rfl (Nat.le_of_ble_eq_true rfl) (by decide) dX12_runScript_116 rfl (fun h26 => ?_)
          obtain ⟨q27, h28, hf⟩ := knBd_inv hf
          refine kj_callV (As := [knO G q24]) (rest := []) X K (kcX10_copyFrom l kdc_1 h26 h28) knWvX10_copyFrom (knGm 914 (by decide +kernel) rfl) (by decide) (knKd_in kdc_1 (by decide)) (knEnt_7 kdc_1) rfl rfl rfl (Nat.le_of_ble_eq_true rfl) (by decide) dX12_runScript_119 rfl (fun h29 => ?_)
          cases hf
          exact kjx_throwW X K hl (i := 18) (by show (3 : Int) ≠ 0; decide) rfl (by decide +kernel) (by decide) rfl rfl knTh3.1 knTh3.2 dX12_runScript_122 dX12_runScript_125 dX12_runScript_126 dX12_runScript_129 dX12_runScript_132 hnx (by decide) hlk (by decide) (by decide)

set_option maxHeartbeats 4000000 in
set_option maxRecDepth 100000 in
theorem kcX12_runScript {G : knGT} (l : Launch) (hl : l.stackTraces = false)   {μ : knMem} {q : Int × Int × knMem} (hf : kfX12_runScript  μ = some q) : knCx G l yX12_runScript cX12_runScript 3 (some .int) 10 209 1 6 [knO G 0] μ (knC q.2.1) q.1 (some (knV q.2.1)) q.2.2 := by
  unfold kfX12_runScript at hf
  refine kn_ofJx (by decide) (Nat.le_of_ble_eq_true rfl) (L := [(0, knO G 0)]) rfl ?_
  intro p e s m args below meth c X K hr hlk hnx
  refine kj_aloadn X 0 dX12_runScript_0 rfl ?_
  refine kj_geto (k := 9) (o2 := 137) X K kdc_0 (by decide) (knEnt_9 kdc_0) rfl (by decide) knInX12 (knGm 370 (by decide +kernel) rfl) rfl rfl dX12_runScript_1 ?_
  obtain ⟨q1, h2, hf⟩ := knBd_inv hf
  refine kj_callV (As := []) (rest := []) X K (kcX9_firstError l  h2) knWvX9_firstError (knGm 1323 (by decide +kernel) rfl) (by decide) (knKd_in kdc_137 (by decide)) (knEnt_6 kdc_137) rfl rfl rfl (Nat.le_of_ble_eq_true rfl) (by decide) dX12_runScript_4 rfl (fun h3 => ?_)
  refine kj_istoren X (L' := [(1, knV q1.1), (0, knO G 0)]) dX12_runScript_7 (by decide) rfl ?_
  refine kj_iloadn X 0 dX12_runScript_8 rfl ?_
  refine kj_iconst X dX12_runScript_9 ?_
  refine kj_ic_eq X (tgt := 36) dX12_runScript_10 (by decide) h3 (show knC (-1) from ⟨by omega, by omega⟩) (fun h4 => ?_) (fun h4 => ?_)
  · replace hf := knIp hf h4
    refine kj_aloadn X 1 dX12_runScript_36 rfl ?_
    refine kj_geto (k := 5) (o2 := 23) X K kdc_0 (by decide) (knEnt_9 kdc_0) rfl (by decide) knInX12 (knGm 366 (by decide +kernel) rfl) rfl rfl dX12_runScript_37 ?_
    refine kj_aloadn X 1 dX12_runScript_40 rfl ?_
    refine kj_geto (k := 0) (o2 := 1) X K kdc_0 (by decide) (knEnt_9 kdc_0) rfl (by decide) knInX12 (knGm 361 (by decide +kernel) rfl) rfl rfl dX12_runScript_41 ?_
    obtain ⟨q5, h6, hf⟩ := knBd_inv hf
    refine kj_callV (As := [knO G 1]) (rest := []) X K (kcX6_stage l kdc_1 h6) knWvX6_stage (knGm 408 (by decide +kernel) rfl) (by decide) (knKd_in kdc_23 (by decide)) (knEnt_4 kdc_23) rfl rfl rfl (Nat.le_of_ble_eq_true rfl) (by decide) dX12_runScript_44 rfl (fun h7 => ?_)
    refine kj_iconst X dX12_runScript_47 ?_
    refine kj_istoren X (L' := [(2, knV 0), (1, knV q1.1), (0, knO G 0)]) dX12_runScript_48 (by decide) rfl ?_
    refine kj_aloadn X 2 dX12_runScript_49 rfl ?_
    refine kj_geto (k := 9) (o2 := 137) X K kdc_0 (by decide) (knEnt_9 kdc_0) rfl (by decide) knInX12 (knGm 370 (by decide +kernel) rfl) rfl rfl dX12_runScript_50 ?_
    obtain ⟨q8, h9, hf⟩ := knBd_inv hf
    refine kj_callV (As := []) (rest := []) X K (kcX9_rewind l  h9) knWvX9_rewind (knGm 1431 (by decide +kernel) rfl) (by decide) (knKd_in kdc_137 (by decide)) (knEnt_6 kdc_137) rfl rfl rfl (Nat.le_of_ble_eq_true rfl) (by decide) dX12_runScript_53 rfl (fun h10 => ?_)
    refine kj_sub (L' := [(0, knO G 0), (2, knV 0)]) [2, 0] rfl ?_
    refine kfX12_runScript_l56_ok X K hr hlk hl hnx    ?_ knF _ (show knC (0) from ⟨by omega, by omega⟩) _ hf
    intro w30_0 hw30_0 w30_m
    intro hf
    refine kj_aloadn X 0 dX12_runScript_139 rfl ?_
    refine kj_geto (k := 9) (o2 := 137) X K kdc_0 (by decide) (knEnt_9 kdc_0) rfl (by decide) knInX12 (knGm 370 (by decide +kernel) rfl) rfl rfl dX12_runScript_140 ?_
    obtain ⟨q37, h38, hf⟩ := knBd_inv hf
    refine kj_callV (As := []) (rest := []) X K (kcX9_clear l  h38) knWvX9_clear (knGm 1426 (by decide +kernel) rfl) (by decide) (knKd_in kdc_137 (by decide)) (knEnt_6 kdc_137) rfl rfl rfl (Nat.le_of_ble_eq_true rfl) (by decide) dX12_runScript_143 rfl (fun h39 => ?_)
    refine kj_aloadn X 0 dX12_runScript_146 rfl ?_
    refine kj_geto (k := 5) (o2 := 23) X K kdc_0 (by decide) (knEnt_9 kdc_0) rfl (by decide) knInX12 (knGm 366 (by decide +kernel) rfl) rfl rfl dX12_runScript_147 ?_
    obtain ⟨q40, h41, hf⟩ := knBd_inv hf
    refine kj_callV (As := []) (rest := []) X K (kcX6_keep l  h41) knWvX6_keep (knGm 587 (by decide +kernel) rfl) (by decide) (knKd_in kdc_23 (by decide)) (knEnt_4 kdc_23) rfl rfl rfl (Nat.le_of_ble_eq_true rfl) (by decide) dX12_runScript_150 rfl (fun h42 => ?_)
    refine kj_iloadn X 1 dX12_runScript_153 rfl ?_
    cases hf
    exact kjx_iret X hw30_0 rfl (by decide) (by decide) hr dX12_runScript_154 hlk
  · replace hf := knIq hf h4
    refine kj_aloadn X 1 dX12_runScript_13 rfl ?_
    refine kj_iloadn X 0 dX12_runScript_14 rfl ?_
    refine kj_putf (k := 12) (ki := 12) (x := q1.1) (ty := .int) X K rfl (knKd_in kdc_0 (by decide)) (knEnt_9 kdc_0) rfl (by decide) knInX12 tyX12_ok nmX12 (knGm 373 (by decide +kernel) rfl) rfl rfl (by decide +kernel) rfl rfl (by simp) (by rw [knEnt_9 kdc_0, knUp_row]; rfl) (fun _ => h3) (fun h => by rw [kdc_0] at h; cases h) (fun h => by rw [kdc_0] at h; cases h) dX12_runScript_15 ?_
    refine kj_aloadn X 1 dX12_runScript_18 rfl ?_
    refine kj_geto (k := 9) (o2 := 137) X K kdc_0 (by decide) (knEnt_9 kdc_0) rfl (by decide) knInX12 (knGm 370 (by decide +kernel) rfl) rfl rfl dX12_runScript_19 ?_
    obtain ⟨q43, h44, hf⟩ := knBd_inv hf
    refine kj_callV (As := []) (rest := []) X K (kcX9_clear l  h44) knWvX9_clear (knGm 1426 (by decide +kernel) rfl) (by decide) (knKd_in kdc_137 (by decide)) (knEnt_6 kdc_137) rfl rfl rfl (Nat.le_of_ble_eq_true rfl) (by decide) dX12_runScript_22 rfl (fun h45 => ?_)
    cases hf
    exact kjx_throwW X K hl (i := 17) (by show (2 : Int) ≠ 0; decide) rfl (by decide +kernel) (by decide) rfl rfl knTh2.1 knTh2.2 dX12_runScript_25 dX12_runScript_28 dX12_runScript_29 dX12_runScript_32 dX12_runScript_35 hnx (by decide) hlk (by decide) (by decide)

def kfX13_notNow  (μ : knMem) : Option (Int × knMem) :=
 knGd ((0 : Int) ≤ 0 ∧ (0 : Int) < 4)
  (knGd ((0 : Int) ≤ 1 ∧ (1 : Int) < 4)
  (if (μ 142 26) = 98 then
  knGd ((0 : Int) ≤ 2 ∧ (2 : Int) < 4)
   (Option.bind (kfX13_notBet (μ 158 0) (μ 158 1) (μ 158 2) μ) (fun q9 =>
   some (q9, μ)))
 else
  if (μ 142 26) = 99 then
   Option.bind (kfX13_notCurl (μ 158 0) μ) (fun q13 =>
    some (q13, μ))
  else
   if (μ 142 26) = 101 then
    Option.bind (kfX13_notSettle  μ) (fun q17 =>
     some (q17.1, q17.2))
   else
    if (μ 142 26) = 108 then
     Option.bind (kfX13_notPlayer  μ) (fun q21 =>
      some (q21, μ))
    else
     if (μ 142 26) = 112 then
      Option.bind (kfX13_notPoke (μ 158 0) (μ 158 1) μ) (fun q25 =>
       some (q25, μ))
     else
      if (μ 142 26) = 115 then
       Option.bind (kfX13_notSwitch (μ 158 0) μ) (fun q29 =>
        some (q29, μ))
      else
       if (μ 142 26) = 116 then
        Option.bind (kfX13_notTurn (μ 158 0) μ) (fun q33 =>
         some (q33, μ))
       else
        if (μ 142 26) = 117 then
         Option.bind (kfX13_notUncurl (μ 158 0) μ) (fun q37 =>
          some (q37.1, q37.2))
        else
         if (μ 142 26) = 118 then
          Option.bind (kfX13_notUnpoke (μ 158 0) (μ 158 1) μ) (fun q41 =>
           some (q41.1, q41.2))
         else
          some (0, μ)))

theorem knWvX13_notNow : knWv yX13_notNow cX13_notNow 3 (some .int) 0 := ⟨(knGm 2124 (by decide +kernel) rfl), (knGm 124 (by decide +kernel) rfl), (knGm 2123 (by decide +kernel) rfl), (knGm 110 (by decide +kernel) rfl), by decide +kernel, by decide +kernel, by decide +kernel⟩
set_option maxHeartbeats 4000000 in
set_option maxRecDepth 100000 in
theorem kcX13_notNow {G : knGT} (l : Launch)   {μ : knMem} {q : Int × knMem} (hf : kfX13_notNow  μ = some q) : knC0 G l yX13_notNow cX13_notNow 3 (some .int) 7 153 [knO G 142] μ (knC q.1) (some (knV q.1)) q.2 := by
  unfold kfX13_notNow at hf
  refine kn_ofJ (plainFor_of_name (by decide)) (Nat.le_of_ble_eq_true rfl) (L := [(0, knO G 142)]) rfl ?_
  intro p e s m args below meth c X K hr hlk
  refine kj_aloadn X 0 dX13_notNow_0 rfl ?_
  refine kj_geto (k := 25) (o2 := 158) X K kdc_142 (by decide) (knEnt_10 kdc_142) rfl (by decide) knInX13 (knGm 1529 (by decide +kernel) rfl) rfl rfl dX13_notNow_1 ?_
  refine kj_iconst X dX13_notNow_4 ?_
  obtain ⟨h1, hf⟩ := knGd_inv hf
  refine kj_iald X K kdc_158 (show knC (0) from ⟨by omega, by omega⟩) lnc_158 h1 dX13_notNow_5 (fun h2 => ?_)
  refine kj_istoren X (L' := [(1, knV (μ 158 0)), (0, knO G 142)]) dX13_notNow_6 (by decide) rfl ?_
  refine kj_aloadn X 1 dX13_notNow_7 rfl ?_
  refine kj_geto (k := 25) (o2 := 158) X K kdc_142 (by decide) (knEnt_10 kdc_142) rfl (by decide) knInX13 (knGm 1529 (by decide +kernel) rfl) rfl rfl dX13_notNow_8 ?_
  refine kj_iconst X dX13_notNow_11 ?_
  obtain ⟨h3, hf⟩ := knGd_inv hf
  refine kj_iald X K kdc_158 (show knC (1) from ⟨by omega, by omega⟩) lnc_158 h3 dX13_notNow_12 (fun h4 => ?_)
  refine kj_istoren X (L' := [(2, knV (μ 158 1)), (1, knV (μ 158 0)), (0, knO G 142)]) dX13_notNow_13 (by decide) rfl ?_
  refine kj_aloadn X 2 dX13_notNow_14 rfl ?_
  refine kj_geti (k := 26) (ki := 26) X K rfl kdc_142 (by decide) (knEnt_10 kdc_142) rfl (by decide) knInX13 (knGm 1530 (by decide +kernel) rfl) rfl rfl dX13_notNow_15 (fun h5 => ?_)
  by_cases h6 : (μ 142 26) = 98
  · replace hf := knIp hf h6
    refine kj_tswI X (i := 0) (tgt := 159) dX13_notNow_18 h5 h6 rfl (by decide) ?_
    refine kj_aloadn X 2 dX13_notNow_159 rfl ?_
    refine kj_iloadn X 1 dX13_notNow_160 rfl ?_
    refine kj_iloadn X 0 dX13_notNow_161 rfl ?_
    refine kj_aloadn X 2 dX13_notNow_162 rfl ?_
    refine kj_geto (k := 25) (o2 := 158) X K kdc_142 (by decide) (knEnt_10 kdc_142) rfl (by decide) knInX13 (knGm 1529 (by decide +kernel) rfl) rfl rfl dX13_notNow_163 ?_
    refine kj_iconst X dX13_notNow_166 ?_
    obtain ⟨h7, hf⟩ := knGd_inv hf
    refine kj_iald X K kdc_158 (show knC (2) from ⟨by omega, by omega⟩) lnc_158 h7 dX13_notNow_167 (fun h8 => ?_)
    obtain ⟨q9, h10, hf⟩ := knBd_inv hf
    refine kj_callV (As := [knV (μ 158 0), knV (μ 158 1), knV (μ 158 2)]) (rest := []) X K (kcX13_notBet l h2 h4 h8 h10) knWvX13_notBet (knGm 1985 (by decide +kernel) rfl) (by decide) (knKd_in kdc_142 (by decide)) (knEnt_10 kdc_142) rfl rfl rfl (Nat.le_of_ble_eq_true rfl) (by decide) dX13_notNow_168 rfl (fun h11 => ?_)
    cases hf
    exact kj_iret X h11 hr dX13_notNow_171 hlk
  · replace hf := knIq hf h6
    by_cases h12 : (μ 142 26) = 99
    · replace hf := knIp hf h12
      refine kj_tswI X (i := 1) (tgt := 116) dX13_notNow_18 h5 h12 rfl (by decide) ?_
      refine kj_aloadn X 2 dX13_notNow_116 rfl ?_
      refine kj_iloadn X 1 dX13_notNow_117 rfl ?_
      obtain ⟨q13, h14, hf⟩ := knBd_inv hf
      refine kj_callV (As := [knV (μ 158 0)]) (rest := []) X K (kcX13_notCurl l h2 h14) knWvX13_notCurl (knGm 1597 (by decide +kernel) rfl) (by decide) (knKd_in kdc_142 (by decide)) (knEnt_10 kdc_142) rfl rfl rfl (Nat.le_of_ble_eq_true rfl) (by decide) dX13_notNow_118 rfl (fun h15 => ?_)
      cases hf
      exact kj_iret X h15 hr dX13_notNow_121 hlk
    · replace hf := knIq hf h12
      by_cases h16 : (μ 142 26) = 101
      · replace hf := knIp hf h16
        refine kj_tswI X (i := 3) (tgt := 172) dX13_notNow_18 h5 h16 rfl (by decide) ?_
        refine kj_aloadn X 2 dX13_notNow_172 rfl ?_
        obtain ⟨q17, h18, hf⟩ := knBd_inv hf
        refine kj_callV (As := []) (rest := []) X K (kcX13_notSettle l  h18) knWvX13_notSettle (knGm 2001 (by decide +kernel) rfl) (by decide) (knKd_in kdc_142 (by decide)) (knEnt_10 kdc_142) rfl rfl rfl (Nat.le_of_ble_eq_true rfl) (by decide) dX13_notNow_173 rfl (fun h19 => ?_)
        cases hf
        exact kj_iret X h19 hr dX13_notNow_176 hlk
      · replace hf := knIq hf h16
        by_cases h20 : (μ 142 26) = 108
        · replace hf := knIp hf h20
          refine kj_tswI X (i := 10) (tgt := 154) dX13_notNow_18 h5 h20 rfl (by decide) ?_
          refine kj_aloadn X 2 dX13_notNow_154 rfl ?_
          obtain ⟨q21, h22, hf⟩ := knBd_inv hf
          refine kj_callV (As := []) (rest := []) X K (kcX13_notPlayer l  h22) knWvX13_notPlayer (knGm 1973 (by decide +kernel) rfl) (by decide) (knKd_in kdc_142 (by decide)) (knEnt_10 kdc_142) rfl rfl rfl (Nat.le_of_ble_eq_true rfl) (by decide) dX13_notNow_155 rfl (fun h23 => ?_)
          cases hf
          exact kj_iret X h23 hr dX13_notNow_158 hlk
        · replace hf := knIq hf h20
          by_cases h24 : (μ 142 26) = 112
          · replace hf := knIp hf h24
            refine kj_tswI X (i := 14) (tgt := 128) dX13_notNow_18 h5 h24 rfl (by decide) ?_
            refine kj_aloadn X 2 dX13_notNow_128 rfl ?_
            refine kj_iloadn X 1 dX13_notNow_129 rfl ?_
            refine kj_iloadn X 0 dX13_notNow_130 rfl ?_
            obtain ⟨q25, h26, hf⟩ := knBd_inv hf
            refine kj_callV (As := [knV (μ 158 0), knV (μ 158 1)]) (rest := []) X K (kcX13_notPoke l h2 h4 h26) knWvX13_notPoke (knGm 1672 (by decide +kernel) rfl) (by decide) (knKd_in kdc_142 (by decide)) (knEnt_10 kdc_142) rfl rfl rfl (Nat.le_of_ble_eq_true rfl) (by decide) dX13_notNow_131 rfl (fun h27 => ?_)
            cases hf
            exact kj_iret X h27 hr dX13_notNow_134 hlk
          · replace hf := knIq hf h24
            by_cases h28 : (μ 142 26) = 115
            · replace hf := knIp hf h28
              refine kj_tswI X (i := 17) (tgt := 142) dX13_notNow_18 h5 h28 rfl (by decide) ?_
              refine kj_aloadn X 2 dX13_notNow_142 rfl ?_
              refine kj_iloadn X 1 dX13_notNow_143 rfl ?_
              obtain ⟨q29, h30, hf⟩ := knBd_inv hf
              refine kj_callV (As := [knV (μ 158 0)]) (rest := []) X K (kcX13_notSwitch l h2 h30) knWvX13_notSwitch (knGm 1704 (by decide +kernel) rfl) (by decide) (knKd_in kdc_142 (by decide)) (knEnt_10 kdc_142) rfl rfl rfl (Nat.le_of_ble_eq_true rfl) (by decide) dX13_notNow_144 rfl (fun h31 => ?_)
              cases hf
              exact kj_iret X h31 hr dX13_notNow_147 hlk
            · replace hf := knIq hf h28
              by_cases h32 : (μ 142 26) = 116
              · replace hf := knIp hf h32
                refine kj_tswI X (i := 18) (tgt := 148) dX13_notNow_18 h5 h32 rfl (by decide) ?_
                refine kj_aloadn X 2 dX13_notNow_148 rfl ?_
                refine kj_iloadn X 1 dX13_notNow_149 rfl ?_
                obtain ⟨q33, h34, hf⟩ := knBd_inv hf
                refine kj_callV (As := [knV (μ 158 0)]) (rest := []) X K (kcX13_notTurn l h2 h34) knWvX13_notTurn (knGm 1740 (by decide +kernel) rfl) (by decide) (knKd_in kdc_142 (by decide)) (knEnt_10 kdc_142) rfl rfl rfl (Nat.le_of_ble_eq_true rfl) (by decide) dX13_notNow_150 rfl (fun h35 => ?_)
                cases hf
                exact kj_iret X h35 hr dX13_notNow_153 hlk
              · replace hf := knIq hf h32
                by_cases h36 : (μ 142 26) = 117
                · replace hf := knIp hf h36
                  refine kj_tswI X (i := 19) (tgt := 122) dX13_notNow_18 h5 h36 rfl (by decide) ?_
                  refine kj_aloadn X 2 dX13_notNow_122 rfl ?_
                  refine kj_iloadn X 1 dX13_notNow_123 rfl ?_
                  obtain ⟨q37, h38, hf⟩ := knBd_inv hf
                  refine kj_callV (As := [knV (μ 158 0)]) (rest := []) X K (kcX13_notUncurl l h2 h38) knWvX13_notUncurl (knGm 1640 (by decide +kernel) rfl) (by decide) (knKd_in kdc_142 (by decide)) (knEnt_10 kdc_142) rfl rfl rfl (Nat.le_of_ble_eq_true rfl) (by decide) dX13_notNow_124 rfl (fun h39 => ?_)
                  cases hf
                  exact kj_iret X h39 hr dX13_notNow_127 hlk
                · replace hf := knIq hf h36
                  by_cases h40 : (μ 142 26) = 118
                  · replace hf := knIp hf h40
                    refine kj_tswI X (i := 20) (tgt := 135) dX13_notNow_18 h5 h40 rfl (by decide) ?_
                    refine kj_aloadn X 2 dX13_notNow_135 rfl ?_
                    refine kj_iloadn X 1 dX13_notNow_136 rfl ?_
                    refine kj_iloadn X 0 dX13_notNow_137 rfl ?_
                    obtain ⟨q41, h42, hf⟩ := knBd_inv hf
                    refine kj_callV (As := [knV (μ 158 0), knV (μ 158 1)]) (rest := []) X K (kcX13_notUnpoke l h2 h4 h42) knWvX13_notUnpoke (knGm 1688 (by decide +kernel) rfl) (by decide) (knKd_in kdc_142 (by decide)) (knEnt_10 kdc_142) rfl rfl rfl (Nat.le_of_ble_eq_true rfl) (by decide) dX13_notNow_138 rfl (fun h43 => ?_)
                    cases hf
                    exact kj_iret X h43 hr dX13_notNow_141 hlk
                  · replace hf := knIq hf h40
                    refine kj_tswD X (tgt := 177) dX13_notNow_18 h5 (by decide) (fun i hi => ?_) ?_
                    · rcases (show i = 0 ∨ i = 1 ∨ i = 2 ∨ i = 3 ∨ i = 4 ∨ i = 5 ∨ i = 6 ∨ i = 7 ∨ i = 8 ∨ i = 9 ∨ i = 10 ∨ i = 11 ∨ i = 12 ∨ i = 13 ∨ i = 14 ∨ i = 15 ∨ i = 16 ∨ i = 17 ∨ i = 18 ∨ i = 19 ∨ i = 20 by have : i < 21 := hi; omega) with rfl | rfl | rfl | rfl | rfl | rfl | rfl | rfl | rfl | rfl | rfl | rfl | rfl | rfl | rfl | rfl | rfl | rfl | rfl | rfl | rfl
                      · exact Or.inr h6
                      · exact Or.inr h12
                      · exact Or.inl rfl
                      · exact Or.inr h16
                      · exact Or.inl rfl
                      · exact Or.inl rfl
                      · exact Or.inl rfl
                      · exact Or.inl rfl
                      · exact Or.inl rfl
                      · exact Or.inl rfl
                      · exact Or.inr h20
                      · exact Or.inl rfl
                      · exact Or.inl rfl
                      · exact Or.inl rfl
                      · exact Or.inr h24
                      · exact Or.inl rfl
                      · exact Or.inl rfl
                      · exact Or.inr h28
                      · exact Or.inr h32
                      · exact Or.inr h36
                      · exact Or.inr h40
                    · refine kj_iconst X dX13_notNow_177 ?_
                      cases hf
                      exact kj_iret X (show knC (0) from ⟨by omega, by omega⟩) hr dX13_notNow_178 hlk

def kfX13_doesNow  (μ : knMem) : Option (Int × knMem) :=
 knGd ((0 : Int) ≤ 0 ∧ (0 : Int) < 4)
  (knGd ((0 : Int) ≤ 1 ∧ (1 : Int) < 4)
  (if (μ 142 26) = 98 then
  knGd ((0 : Int) ≤ 2 ∧ (2 : Int) < 4)
   (Option.bind (kfX13_bets (μ 158 0) (μ 158 1) (μ 158 2) μ) (fun q9 =>
   some (q9.1, q9.2)))
 else
  if (μ 142 26) = 99 then
   knGd ((0 : Int) ≤ 2 ∧ (2 : Int) < 4)
    (Option.bind (kfX13_addsCurl (μ 158 0) (μ 158 1) (μ 158 2) μ) (fun q15 =>
    some (q15.1, q15.2)))
  else
   if (μ 142 26) = 100 then
    Option.bind (kfX13_reducesAll  μ) (fun q19 =>
     some (q19.1, q19.2))
   else
    if (μ 142 26) = 108 then
     Option.bind (kfX13_addsPlayer  μ) (fun q23 =>
      some (q23.1, q23.2))
    else
     if (μ 142 26) = 109 then
      Option.bind (kfX13_mirrors  μ) (fun q27 =>
       some (q27.1, q27.2))
     else
      if (μ 142 26) = 112 then
       knGd ((0 : Int) ≤ 2 ∧ (2 : Int) < 4)
        (knGd ((0 : Int) ≤ 3 ∧ (3 : Int) < 4)
        (Option.bind (kfX13_addsPoke (μ 158 0) (μ 158 1) (μ 158 2) (μ 158 3) μ) (fun q35 =>
        some (q35.1, q35.2))))
      else
       if (μ 142 26) = 114 then
        Option.bind (kfX13_reverses  μ) (fun q39 =>
         some (q39.1, q39.2))
       else
        if (μ 142 26) = 115 then
         Option.bind (kfX13_switchesOne (μ 158 0) μ) (fun q43 =>
          some (q43.1, q43.2))
        else
         if (μ 142 26) = 116 then
          Option.bind (kfX13_turnsTo (μ 158 0) μ) (fun q47 =>
           some (q47.1, q47.2))
         else
          if (μ 142 26) = 117 then
           Option.bind (kfX13_uncurls (μ 158 0) μ) (fun q51 =>
            some (q51.1, q51.2))
          else
           if (μ 142 26) = 118 then
            Option.bind (kfX13_unpokes (μ 158 0) (μ 158 1) μ) (fun q55 =>
             some (q55.1, q55.2))
           else
            Option.bind (kfX13_settles  μ) (fun q58 =>
             some (q58.1, q58.2))))

theorem knWvX13_doesNow : knWv yX13_doesNow cX13_doesNow 3 (some .int) 0 := ⟨(knGm 2128 (by decide +kernel) rfl), (knGm 124 (by decide +kernel) rfl), (knGm 2127 (by decide +kernel) rfl), (knGm 111 (by decide +kernel) rfl), by decide +kernel, by decide +kernel, by decide +kernel⟩
set_option maxHeartbeats 4000000 in
set_option maxRecDepth 100000 in
theorem kcX13_doesNow {G : knGT} (l : Launch)   {μ : knMem} {q : Int × knMem} (hf : kfX13_doesNow  μ = some q) : knC0 G l yX13_doesNow cX13_doesNow 3 (some .int) 7 158 [knO G 142] μ (knC q.1) (some (knV q.1)) q.2 := by
  unfold kfX13_doesNow at hf
  refine kn_ofJ (plainFor_of_name (by decide)) (Nat.le_of_ble_eq_true rfl) (L := [(0, knO G 142)]) rfl ?_
  intro p e s m args below meth c X K hr hlk
  refine kj_aloadn X 0 dX13_doesNow_0 rfl ?_
  refine kj_geto (k := 25) (o2 := 158) X K kdc_142 (by decide) (knEnt_10 kdc_142) rfl (by decide) knInX13 (knGm 1529 (by decide +kernel) rfl) rfl rfl dX13_doesNow_1 ?_
  refine kj_iconst X dX13_doesNow_4 ?_
  obtain ⟨h1, hf⟩ := knGd_inv hf
  refine kj_iald X K kdc_158 (show knC (0) from ⟨by omega, by omega⟩) lnc_158 h1 dX13_doesNow_5 (fun h2 => ?_)
  refine kj_istoren X (L' := [(1, knV (μ 158 0)), (0, knO G 142)]) dX13_doesNow_6 (by decide) rfl ?_
  refine kj_aloadn X 1 dX13_doesNow_7 rfl ?_
  refine kj_geto (k := 25) (o2 := 158) X K kdc_142 (by decide) (knEnt_10 kdc_142) rfl (by decide) knInX13 (knGm 1529 (by decide +kernel) rfl) rfl rfl dX13_doesNow_8 ?_
  refine kj_iconst X dX13_doesNow_11 ?_
  obtain ⟨h3, hf⟩ := knGd_inv hf
  refine kj_iald X K kdc_158 (show knC (1) from ⟨by omega, by omega⟩) lnc_158 h3 dX13_doesNow_12 (fun h4 => ?_)
  refine kj_istoren X (L' := [(2, knV (μ 158 1)), (1, knV (μ 158 0)), (0, knO G 142)]) dX13_doesNow_13 (by decide) rfl ?_
  refine kj_aloadn X 2 dX13_doesNow_14 rfl ?_
  refine kj_geti (k := 26) (ki := 26) X K rfl kdc_142 (by decide) (knEnt_10 kdc_142) rfl (by decide) knInX13 (knGm 1530 (by decide +kernel) rfl) rfl rfl dX13_doesNow_15 (fun h5 => ?_)
  by_cases h6 : (μ 142 26) = 98
  · replace hf := knIp hf h6
    refine kj_tswI X (i := 0) (tgt := 193) dX13_doesNow_18 h5 h6 rfl (by decide) ?_
    refine kj_aloadn X 2 dX13_doesNow_193 rfl ?_
    refine kj_iloadn X 1 dX13_doesNow_194 rfl ?_
    refine kj_iloadn X 0 dX13_doesNow_195 rfl ?_
    refine kj_aloadn X 2 dX13_doesNow_196 rfl ?_
    refine kj_geto (k := 25) (o2 := 158) X K kdc_142 (by decide) (knEnt_10 kdc_142) rfl (by decide) knInX13 (knGm 1529 (by decide +kernel) rfl) rfl rfl dX13_doesNow_197 ?_
    refine kj_iconst X dX13_doesNow_200 ?_
    obtain ⟨h7, hf⟩ := knGd_inv hf
    refine kj_iald X K kdc_158 (show knC (2) from ⟨by omega, by omega⟩) lnc_158 h7 dX13_doesNow_201 (fun h8 => ?_)
    obtain ⟨q9, h10, hf⟩ := knBd_inv hf
    refine kj_callV (As := [knV (μ 158 0), knV (μ 158 1), knV (μ 158 2)]) (rest := []) X K (kcX13_bets l h2 h4 h8 h10) knWvX13_bets (knGm 1993 (by decide +kernel) rfl) (by decide) (knKd_in kdc_142 (by decide)) (knEnt_10 kdc_142) rfl rfl rfl (Nat.le_of_ble_eq_true rfl) (by decide) dX13_doesNow_202 rfl (fun h11 => ?_)
    cases hf
    exact kj_iret X h11 hr dX13_doesNow_205 hlk
  · replace hf := knIq hf h6
    by_cases h12 : (μ 142 26) = 99
    · replace hf := knIp hf h12
      refine kj_tswI X (i := 1) (tgt := 116) dX13_doesNow_18 h5 h12 rfl (by decide) ?_
      refine kj_aloadn X 2 dX13_doesNow_116 rfl ?_
      refine kj_iloadn X 1 dX13_doesNow_117 rfl ?_
      refine kj_iloadn X 0 dX13_doesNow_118 rfl ?_
      refine kj_aloadn X 2 dX13_doesNow_119 rfl ?_
      refine kj_geto (k := 25) (o2 := 158) X K kdc_142 (by decide) (knEnt_10 kdc_142) rfl (by decide) knInX13 (knGm 1529 (by decide +kernel) rfl) rfl rfl dX13_doesNow_120 ?_
      refine kj_iconst X dX13_doesNow_123 ?_
      obtain ⟨h13, hf⟩ := knGd_inv hf
      refine kj_iald X K kdc_158 (show knC (2) from ⟨by omega, by omega⟩) lnc_158 h13 dX13_doesNow_124 (fun h14 => ?_)
      obtain ⟨q15, h16, hf⟩ := knBd_inv hf
      refine kj_callV (As := [knV (μ 158 0), knV (μ 158 1), knV (μ 158 2)]) (rest := []) X K (kcX13_addsCurl l h2 h4 h14 h16) knWvX13_addsCurl (knGm 1620 (by decide +kernel) rfl) (by decide) (knKd_in kdc_142 (by decide)) (knEnt_10 kdc_142) rfl rfl rfl (Nat.le_of_ble_eq_true rfl) (by decide) dX13_doesNow_125 rfl (fun h17 => ?_)
      cases hf
      exact kj_iret X h17 hr dX13_doesNow_128 hlk
    · replace hf := knIq hf h12
      by_cases h18 : (μ 142 26) = 100
      · replace hf := knIp hf h18
        refine kj_tswI X (i := 2) (tgt := 183) dX13_doesNow_18 h5 h18 rfl (by decide) ?_
        refine kj_aloadn X 2 dX13_doesNow_183 rfl ?_
        obtain ⟨q19, h20, hf⟩ := knBd_inv hf
        refine kj_callV (As := []) (rest := []) X K (kcX13_reducesAll l  h20) knWvX13_reducesAll (knGm 1756 (by decide +kernel) rfl) (by decide) (knKd_in kdc_142 (by decide)) (knEnt_10 kdc_142) rfl rfl rfl (Nat.le_of_ble_eq_true rfl) (by decide) dX13_doesNow_184 rfl (fun h21 => ?_)
        cases hf
        exact kj_iret X h21 hr dX13_doesNow_187 hlk
      · replace hf := knIq hf h18
        by_cases h22 : (μ 142 26) = 108
        · replace hf := knIp hf h22
          refine kj_tswI X (i := 10) (tgt := 188) dX13_doesNow_18 h5 h22 rfl (by decide) ?_
          refine kj_aloadn X 2 dX13_doesNow_188 rfl ?_
          obtain ⟨q23, h24, hf⟩ := knBd_inv hf
          refine kj_callV (As := []) (rest := []) X K (kcX13_addsPlayer l  h24) knWvX13_addsPlayer (knGm 1977 (by decide +kernel) rfl) (by decide) (knKd_in kdc_142 (by decide)) (knEnt_10 kdc_142) rfl rfl rfl (Nat.le_of_ble_eq_true rfl) (by decide) dX13_doesNow_189 rfl (fun h25 => ?_)
          cases hf
          exact kj_iret X h25 hr dX13_doesNow_192 hlk
        · replace hf := knIq hf h22
          by_cases h26 : (μ 142 26) = 109
          · replace hf := knIp hf h26
            refine kj_tswI X (i := 11) (tgt := 167) dX13_doesNow_18 h5 h26 rfl (by decide) ?_
            refine kj_aloadn X 2 dX13_doesNow_167 rfl ?_
            obtain ⟨q27, h28, hf⟩ := knBd_inv hf
            refine kj_callV (As := []) (rest := []) X K (kcX13_mirrors l  h28) knWvX13_mirrors (knGm 1720 (by decide +kernel) rfl) (by decide) (knKd_in kdc_142 (by decide)) (knEnt_10 kdc_142) rfl rfl rfl (Nat.le_of_ble_eq_true rfl) (by decide) dX13_doesNow_168 rfl (fun h29 => ?_)
            cases hf
            exact kj_iret X h29 hr dX13_doesNow_171 hlk
          · replace hf := knIq hf h26
            by_cases h30 : (μ 142 26) = 112
            · replace hf := knIp hf h30
              refine kj_tswI X (i := 14) (tgt := 135) dX13_doesNow_18 h5 h30 rfl (by decide) ?_
              refine kj_aloadn X 2 dX13_doesNow_135 rfl ?_
              refine kj_iloadn X 1 dX13_doesNow_136 rfl ?_
              refine kj_iloadn X 0 dX13_doesNow_137 rfl ?_
              refine kj_aloadn X 2 dX13_doesNow_138 rfl ?_
              refine kj_geto (k := 25) (o2 := 158) X K kdc_142 (by decide) (knEnt_10 kdc_142) rfl (by decide) knInX13 (knGm 1529 (by decide +kernel) rfl) rfl rfl dX13_doesNow_139 ?_
              refine kj_iconst X dX13_doesNow_142 ?_
              obtain ⟨h31, hf⟩ := knGd_inv hf
              refine kj_iald X K kdc_158 (show knC (2) from ⟨by omega, by omega⟩) lnc_158 h31 dX13_doesNow_143 (fun h32 => ?_)
              refine kj_aloadn X 2 dX13_doesNow_144 rfl ?_
              refine kj_geto (k := 25) (o2 := 158) X K kdc_142 (by decide) (knEnt_10 kdc_142) rfl (by decide) knInX13 (knGm 1529 (by decide +kernel) rfl) rfl rfl dX13_doesNow_145 ?_
              refine kj_iconst X dX13_doesNow_148 ?_
              obtain ⟨h33, hf⟩ := knGd_inv hf
              refine kj_iald X K kdc_158 (show knC (3) from ⟨by omega, by omega⟩) lnc_158 h33 dX13_doesNow_149 (fun h34 => ?_)
              obtain ⟨q35, h36, hf⟩ := knBd_inv hf
              refine kj_callV (As := [knV (μ 158 0), knV (μ 158 1), knV (μ 158 2), knV (μ 158 3)]) (rest := []) X K (kcX13_addsPoke l h2 h4 h32 h34 h36) knWvX13_addsPoke (knGm 1676 (by decide +kernel) rfl) (by decide) (knKd_in kdc_142 (by decide)) (knEnt_10 kdc_142) rfl rfl rfl (Nat.le_of_ble_eq_true rfl) (by decide) dX13_doesNow_150 rfl (fun h37 => ?_)
              cases hf
              exact kj_iret X h37 hr dX13_doesNow_153 hlk
            · replace hf := knIq hf h30
              by_cases h38 : (μ 142 26) = 114
              · replace hf := knIp hf h38
                refine kj_tswI X (i := 16) (tgt := 172) dX13_doesNow_18 h5 h38 rfl (by decide) ?_
                refine kj_aloadn X 2 dX13_doesNow_172 rfl ?_
                obtain ⟨q39, h40, hf⟩ := knBd_inv hf
                refine kj_callV (As := []) (rest := []) X K (kcX13_reverses l  h40) knWvX13_reverses (knGm 1732 (by decide +kernel) rfl) (by decide) (knKd_in kdc_142 (by decide)) (knEnt_10 kdc_142) rfl rfl rfl (Nat.le_of_ble_eq_true rfl) (by decide) dX13_doesNow_173 rfl (fun h41 => ?_)
                cases hf
                exact kj_iret X h41 hr dX13_doesNow_176 hlk
              · replace hf := knIq hf h38
                by_cases h42 : (μ 142 26) = 115
                · replace hf := knIp hf h42
                  refine kj_tswI X (i := 17) (tgt := 161) dX13_doesNow_18 h5 h42 rfl (by decide) ?_
                  refine kj_aloadn X 2 dX13_doesNow_161 rfl ?_
                  refine kj_iloadn X 1 dX13_doesNow_162 rfl ?_
                  obtain ⟨q43, h44, hf⟩ := knBd_inv hf
                  refine kj_callV (As := [knV (μ 158 0)]) (rest := []) X K (kcX13_switchesOne l h2 h44) knWvX13_switchesOne (knGm 1708 (by decide +kernel) rfl) (by decide) (knKd_in kdc_142 (by decide)) (knEnt_10 kdc_142) rfl rfl rfl (Nat.le_of_ble_eq_true rfl) (by decide) dX13_doesNow_163 rfl (fun h45 => ?_)
                  cases hf
                  exact kj_iret X h45 hr dX13_doesNow_166 hlk
                · replace hf := knIq hf h42
                  by_cases h46 : (μ 142 26) = 116
                  · replace hf := knIp hf h46
                    refine kj_tswI X (i := 18) (tgt := 177) dX13_doesNow_18 h5 h46 rfl (by decide) ?_
                    refine kj_aloadn X 2 dX13_doesNow_177 rfl ?_
                    refine kj_iloadn X 1 dX13_doesNow_178 rfl ?_
                    obtain ⟨q47, h48, hf⟩ := knBd_inv hf
                    refine kj_callV (As := [knV (μ 158 0)]) (rest := []) X K (kcX13_turnsTo l h2 h48) knWvX13_turnsTo (knGm 1748 (by decide +kernel) rfl) (by decide) (knKd_in kdc_142 (by decide)) (knEnt_10 kdc_142) rfl rfl rfl (Nat.le_of_ble_eq_true rfl) (by decide) dX13_doesNow_179 rfl (fun h49 => ?_)
                    cases hf
                    exact kj_iret X h49 hr dX13_doesNow_182 hlk
                  · replace hf := knIq hf h46
                    by_cases h50 : (μ 142 26) = 117
                    · replace hf := knIp hf h50
                      refine kj_tswI X (i := 19) (tgt := 129) dX13_doesNow_18 h5 h50 rfl (by decide) ?_
                      refine kj_aloadn X 2 dX13_doesNow_129 rfl ?_
                      refine kj_iloadn X 1 dX13_doesNow_130 rfl ?_
                      obtain ⟨q51, h52, hf⟩ := knBd_inv hf
                      refine kj_callV (As := [knV (μ 158 0)]) (rest := []) X K (kcX13_uncurls l h2 h52) knWvX13_uncurls (knGm 1660 (by decide +kernel) rfl) (by decide) (knKd_in kdc_142 (by decide)) (knEnt_10 kdc_142) rfl rfl rfl (Nat.le_of_ble_eq_true rfl) (by decide) dX13_doesNow_131 rfl (fun h53 => ?_)
                      cases hf
                      exact kj_iret X h53 hr dX13_doesNow_134 hlk
                    · replace hf := knIq hf h50
                      by_cases h54 : (μ 142 26) = 118
                      · replace hf := knIp hf h54
                        refine kj_tswI X (i := 20) (tgt := 154) dX13_doesNow_18 h5 h54 rfl (by decide) ?_
                        refine kj_aloadn X 2 dX13_doesNow_154 rfl ?_
                        refine kj_iloadn X 1 dX13_doesNow_155 rfl ?_
                        refine kj_iloadn X 0 dX13_doesNow_156 rfl ?_
                        obtain ⟨q55, h56, hf⟩ := knBd_inv hf
                        refine kj_callV (As := [knV (μ 158 0), knV (μ 158 1)]) (rest := []) X K (kcX13_unpokes l h2 h4 h56) knWvX13_unpokes (knGm 1696 (by decide +kernel) rfl) (by decide) (knKd_in kdc_142 (by decide)) (knEnt_10 kdc_142) rfl rfl rfl (Nat.le_of_ble_eq_true rfl) (by decide) dX13_doesNow_157 rfl (fun h57 => ?_)
                        cases hf
                        exact kj_iret X h57 hr dX13_doesNow_160 hlk
                      · replace hf := knIq hf h54
                        refine kj_tswD X (tgt := 206) dX13_doesNow_18 h5 (by decide) (fun i hi => ?_) ?_
                        · rcases (show i = 0 ∨ i = 1 ∨ i = 2 ∨ i = 3 ∨ i = 4 ∨ i = 5 ∨ i = 6 ∨ i = 7 ∨ i = 8 ∨ i = 9 ∨ i = 10 ∨ i = 11 ∨ i = 12 ∨ i = 13 ∨ i = 14 ∨ i = 15 ∨ i = 16 ∨ i = 17 ∨ i = 18 ∨ i = 19 ∨ i = 20 by have : i < 21 := hi; omega) with rfl | rfl | rfl | rfl | rfl | rfl | rfl | rfl | rfl | rfl | rfl | rfl | rfl | rfl | rfl | rfl | rfl | rfl | rfl | rfl | rfl
                          · exact Or.inr h6
                          · exact Or.inr h12
                          · exact Or.inr h18
                          · exact Or.inl rfl
                          · exact Or.inl rfl
                          · exact Or.inl rfl
                          · exact Or.inl rfl
                          · exact Or.inl rfl
                          · exact Or.inl rfl
                          · exact Or.inl rfl
                          · exact Or.inr h22
                          · exact Or.inr h26
                          · exact Or.inl rfl
                          · exact Or.inl rfl
                          · exact Or.inr h30
                          · exact Or.inl rfl
                          · exact Or.inr h38
                          · exact Or.inr h42
                          · exact Or.inr h46
                          · exact Or.inr h50
                          · exact Or.inr h54
                        · refine kj_aloadn X 2 dX13_doesNow_206 rfl ?_
                          obtain ⟨q58, h59, hf⟩ := knBd_inv hf
                          refine kj_callV (As := []) (rest := []) X K (kcX13_settles l  h59) knWvX13_settles (knGm 2009 (by decide +kernel) rfl) (by decide) (knKd_in kdc_142 (by decide)) (knEnt_10 kdc_142) rfl rfl rfl (Nat.le_of_ble_eq_true rfl) (by decide) dX13_doesNow_207 rfl (fun h60 => ?_)
                          cases hf
                          exact kj_iret X h60 hr dX13_doesNow_210 hlk

def kfX13_doesAll_l12    (kc : (knMem) → Option (Int × knMem)) : Nat → Int → knMem → Option (Int × knMem)
  | 0, _, _ => none
  | n + 1, x1, μ =>
    if x1 = 0 then
     kc μ
    else
     Option.bind (kfX13_readsCommand  μ) (fun q2 =>
      Option.bind (kfX13_notNow  q2.2) (fun q5 =>
       if q5.1 = 0 then
        Option.bind (kfX13_doesNow  q5.2) (fun q9 =>
         Option.bind (kfX13_reads 59 (knUp q9.2 142 27 (knW ((q9.2 142 27) + 1)))) (fun q13 =>
          kfX13_doesAll_l12   kc n q13.1 q13.2))
       else
        some (0, q5.2)))

def kfX13_doesAll  (μ : knMem) : Option (Int × knMem) :=
 kfX13_doesAll_l12   (fun w16 =>
  some (1, w16)) knF 1 (knUp (knUp μ 142 27 0) 142 22 0)

theorem knWvX13_doesAll : knWv yX13_doesAll cX13_doesAll 2 (some .boolean) 0 := ⟨(knGm 2120 (by decide +kernel) rfl), (knGm 124 (by decide +kernel) rfl), (knGm 2119 (by decide +kernel) rfl), (knGm 109 (by decide +kernel) rfl), by decide +kernel, by decide +kernel, by decide +kernel⟩
set_option maxHeartbeats 4000000 in
set_option maxRecDepth 100000 in
theorem kfX13_doesAll_l12_ok {q : Int × knMem} {kc : (knMem) → Option (Int × knMem)} {G : knGT} {p : Program} {l : Launch} {e : Env} {s : State} {m : MethodId} {args : Array Value} {below : List Frame} {meth : Method} {c : Code} (X : knX p m c cX13_doesAll 2 s args yX13_doesAll.cls) (K : knK G s s.heap) (hr : meth.sig.returnType = (some .boolean)) (hlk : meth.locks = false)    (hk : ∀ (μ1 : knMem), kc μ1 = some q → knJ G p l e { frames := 8, cells := 0, slots := 0, locals := 180 } s m args below meth c 2 0 0 (MQ below (knPo G (knZ q.1) (some (knV q.1)) q.2) args s 0 0 (knA G)) 55 [] [] μ1) : ∀ (n : Nat) (x1 : Int) (hx1 : knC x1) (μ : knMem), kfX13_doesAll_l12   kc n x1 μ = some q → knJ G p l e { frames := 8, cells := 0, slots := 0, locals := 180 } s m args below meth c 2 0 0 (MQ below (knPo G (knZ q.1) (some (knV q.1)) q.2) args s 0 0 (knA G)) 12 [(0, knO G 142), (1, knV x1)] [] μ := by
  intro n
  induction n with
  | zero => intro x1 hx1 μ hf; cases hf
  | succ n ih =>
    intro x1 hx1 μ hf
    unfold kfX13_doesAll_l12 at hf
    refine kj_iloadn X 1 dX13_doesAll_12 rfl ?_
    refine kj_if_eq X (tgt := 55) dX13_doesAll_13 (by decide) hx1 (fun h1 => ?_) (fun h1 => ?_)
    · replace hf := knIp hf h1
      refine kj_sub (L' := []) [] rfl ?_
      exact hk _ hf
    · replace hf := knIq hf h1
      refine kj_aloadn X 0 dX13_doesAll_16 rfl ?_
      obtain ⟨q2, h3, hf⟩ := knBd_inv hf
      refine kj_callV (As := []) (rest := []) X K (kcX13_readsCommand l  h3) knWvX13_readsCommand (knGm 2077 (by decide +kernel) rfl) (by decide) (knKd_in kdc_142 (by decide)) (knEnt_10 kdc_142) rfl rfl rfl (Nat.le_of_ble_eq_true rfl) (by decide) dX13_doesAll_17 rfl (fun h4 => ?_)
      refine kj_pop X dX13_doesAll_20 rfl ?_
      refine kj_aloadn X 0 dX13_doesAll_21 rfl ?_
      obtain ⟨q5, h6, hf⟩ := knBd_inv hf
      refine kj_callV (As := []) (rest := []) X K (kcX13_notNow l  h6) knWvX13_notNow (knGm 2121 (by decide +kernel) rfl) (by decide) (knKd_in kdc_142 (by decide)) (knEnt_10 kdc_142) rfl rfl rfl (Nat.le_of_ble_eq_true rfl) (by decide) dX13_doesAll_22 rfl (fun h7 => ?_)
      refine kj_if_eq X (tgt := 30) dX13_doesAll_25 (by decide) h7 (fun h8 => ?_) (fun h8 => ?_)
      · replace hf := knIp hf h8
        refine kj_aloadn X 0 dX13_doesAll_30 rfl ?_
        obtain ⟨q9, h10, hf⟩ := knBd_inv hf
        refine kj_callV (As := []) (rest := []) X K (kcX13_doesNow l  h10) knWvX13_doesNow (knGm 2125 (by decide +kernel) rfl) (by decide) (knKd_in kdc_142 (by decide)) (knEnt_10 kdc_142) rfl rfl rfl (Nat.le_of_ble_eq_true rfl) (by decide) dX13_doesAll_31 rfl (fun h11 => ?_)
        refine kj_pop X dX13_doesAll_34 rfl ?_
        refine kj_aloadn X 0 dX13_doesAll_35 rfl ?_
        refine kj_dup X dX13_doesAll_36 rfl ?_
        refine kj_geti (k := 27) (ki := 27) X K rfl kdc_142 (by decide) (knEnt_10 kdc_142) rfl (by decide) knInX13 (knGm 1531 (by decide +kernel) rfl) rfl rfl dX13_doesAll_37 (fun h12 => ?_)
        refine kj_iconst X dX13_doesAll_40 ?_
        refine kj_iadd X dX13_doesAll_41 ?_
        refine kj_putf (k := 27) (ki := 27) (x := (knW ((q9.2 142 27) + 1))) (ty := .int) X K rfl (knKd_in kdc_142 (by decide)) (knEnt_10 kdc_142) rfl (by decide) knInX13 tyX13_ok nmX13 (knGm 1531 (by decide +kernel) rfl) rfl rfl (by decide +kernel) rfl rfl (by simp) (by rw [knEnt_10 kdc_142, knUp_row]; rfl) (fun _ => (knCw _)) (fun h => by rw [kdc_142] at h; cases h) (fun h => by rw [kdc_142] at h; cases h) dX13_doesAll_42 ?_
        refine kj_aloadn X 0 dX13_doesAll_45 rfl ?_
        refine kj_bipush X (n := 59) dX13_doesAll_46 rfl ?_
        obtain ⟨q13, h14, hf⟩ := knBd_inv hf
        refine kj_callV (As := [knV 59]) (rest := []) X K (kcX13_reads l (show knC (59) from ⟨by omega, by omega⟩) h14) knWvX13_reads (knGm 2085 (by decide +kernel) rfl) (by decide) (knKd_in kdc_142 (by decide)) (knEnt_10 kdc_142) rfl rfl rfl (Nat.le_of_ble_eq_true rfl) (by decide) dX13_doesAll_48 rfl (fun h15 => ?_)
        refine kj_istoren X (L' := [(1, knV q13.1), (0, knO G 142)]) dX13_doesAll_51 (by decide) rfl ?_
        refine kj_goto X (tgt := 12) dX13_doesAll_52 (by decide) ?_
        refine kj_sub (L' := [(0, knO G 142), (1, knV q13.1)]) [1, 0] rfl ?_
        exact ih _ (knZ_c h15) _ hf
      · replace hf := knIq hf h8
        refine kj_iconst X dX13_doesAll_28 ?_
        cases hf
        exact kj_zret X (Or.inl rfl) hr (kn_nb (Or.inl rfl)) dX13_doesAll_29 hlk

set_option maxHeartbeats 4000000 in
set_option maxRecDepth 100000 in
theorem kcX13_doesAll {G : knGT} (l : Launch)   {μ : knMem} {q : Int × knMem} (hf : kfX13_doesAll  μ = some q) : knC0 G l yX13_doesAll cX13_doesAll 2 (some .boolean) 8 180 [knO G 142] μ (knZ q.1) (some (knV q.1)) q.2 := by
  unfold kfX13_doesAll at hf
  refine kn_ofJ (plainFor_of_name (by decide)) (Nat.le_of_ble_eq_true rfl) (L := [(0, knO G 142)]) rfl ?_
  intro p e s m args below meth c X K hr hlk
  refine kj_aloadn X 0 dX13_doesAll_0 rfl ?_
  refine kj_iconst X dX13_doesAll_1 ?_
  refine kj_putf (k := 27) (ki := 27) (x := 0) (ty := .int) X K rfl (knKd_in kdc_142 (by decide)) (knEnt_10 kdc_142) rfl (by decide) knInX13 tyX13_ok nmX13 (knGm 1531 (by decide +kernel) rfl) rfl rfl (by decide +kernel) rfl rfl (by simp) (by rw [knEnt_10 kdc_142, knUp_row]; rfl) (fun _ => (show knC (0) from ⟨by omega, by omega⟩)) (fun h => by rw [kdc_142] at h; cases h) (fun h => by rw [kdc_142] at h; cases h) dX13_doesAll_2 ?_
  refine kj_aloadn X 0 dX13_doesAll_5 rfl ?_
  refine kj_iconst X dX13_doesAll_6 ?_
  refine kj_putf (k := 22) (ki := 22) (x := 0) (ty := .int) X K rfl (knKd_in kdc_142 (by decide)) (knEnt_10 kdc_142) rfl (by decide) knInX13 tyX13_ok nmX13 (knGm 1526 (by decide +kernel) rfl) rfl rfl (by decide +kernel) rfl rfl (by simp) (by rw [knEnt_10 kdc_142, knUp_row]; rfl) (fun _ => (show knC (0) from ⟨by omega, by omega⟩)) (fun h => by rw [kdc_142] at h; cases h) (fun h => by rw [kdc_142] at h; cases h) dX13_doesAll_7 ?_
  refine kj_iconst X dX13_doesAll_10 ?_
  refine kj_istoren X (L' := [(1, knV 1), (0, knO G 142)]) dX13_doesAll_11 (by decide) rfl ?_
  refine kj_sub (L' := [(0, knO G 142), (1, knV 1)]) [1, 0] rfl ?_
  refine kfX13_doesAll_l12_ok X K hr hlk    ?_ knF _ (show knC (1) from ⟨by omega, by omega⟩) _ hf
  intro w16_m
  intro hf
  refine kj_iconst X dX13_doesAll_55 ?_
  cases hf
  exact kj_zret X (Or.inr rfl) hr (kn_nb (Or.inr rfl)) dX13_doesAll_56 hlk

def kfX13_runScript  (μ : knMem) : Option (Int × knMem) :=
 Option.bind (kfX13_readsAll  (knUp μ 142 0 0)) (fun q1 =>
  if q1.1 = 0 then
   Option.bind (kfX13_fails 1 (knUp (knUp q1.2 142 23 (q1.2 142 22)) 142 21 0)) (fun q24 =>
    some (q24.1, q24.2))
  else
   Option.bind (kfX13_copies  q1.2) (fun q5 =>
    Option.bind (kfX13_doesAll  q5) (fun q8 =>
     if q8.1 = 0 then
      Option.bind (kfX13_goesBack  (knUp q8.2 142 21 0)) (fun q12 =>
       Option.bind (kfX13_fails 2 (knUp q12 142 24 (q12 142 27))) (fun q16 =>
        some (q16.1, q16.2)))
     else
      Option.bind (kfX13_keeps  (knUp q8.2 142 21 0)) (fun q19 =>
       some ((q19 142 27), q19)))))

theorem knWvX13_runScript : knWv yX13_runScript cX13_runScript 2 (some .int) 0 := ⟨(knGm 2072 (by decide +kernel) rfl), (knGm 124 (by decide +kernel) rfl), (knGm 2070 (by decide +kernel) rfl), (knGm 2071 (by decide +kernel) rfl), by decide +kernel, by decide +kernel, by decide +kernel⟩
set_option maxHeartbeats 4000000 in
set_option maxRecDepth 100000 in
theorem kcX13_runScript {G : knGT} (l : Launch)   {μ : knMem} {q : Int × knMem} (hf : kfX13_runScript  μ = some q) : knC0 G l yX13_runScript cX13_runScript 2 (some .int) 9 201 [knO G 142] μ (knC q.1) (some (knV q.1)) q.2 := by
  unfold kfX13_runScript at hf
  refine kn_ofJ (plainFor_of_name (by decide)) (Nat.le_of_ble_eq_true rfl) (L := [(0, knO G 142)]) rfl ?_
  intro p e s m args below meth c X K hr hlk
  refine kj_aloadn X 0 dX13_runScript_0 rfl ?_
  refine kj_iconst X dX13_runScript_1 ?_
  refine kj_putf (k := 0) (ki := 0) (x := 0) (ty := .int) X K rfl (knKd_in kdc_142 (by decide)) (knEnt_10 kdc_142) rfl (by decide) knInX13 tyX13_ok nmX13 (knGm 1504 (by decide +kernel) rfl) rfl rfl (by decide +kernel) rfl rfl (by simp) (by rw [knEnt_10 kdc_142, knUp_row]; rfl) (fun _ => (show knC (0) from ⟨by omega, by omega⟩)) (fun h => by rw [kdc_142] at h; cases h) (fun h => by rw [kdc_142] at h; cases h) dX13_runScript_2 ?_
  refine kj_aloadn X 0 dX13_runScript_5 rfl ?_
  obtain ⟨q1, h2, hf⟩ := knBd_inv hf
  refine kj_callV (As := []) (rest := []) X K (kcX13_readsAll l  h2) knWvX13_readsAll (knGm 2073 (by decide +kernel) rfl) (by decide) (knKd_in kdc_142 (by decide)) (knEnt_10 kdc_142) rfl rfl rfl (Nat.le_of_ble_eq_true rfl) (by decide) dX13_runScript_6 rfl (fun h3 => ?_)
  refine kj_if_ne X (tgt := 31) dX13_runScript_9 (by decide) (knZ_c h3) (fun h4 => ?_) (fun h4 => ?_)
  · replace hf := knIq hf h4
    refine kj_aloadn X 0 dX13_runScript_31 rfl ?_
    obtain ⟨q5, h6, hf⟩ := knBd_inv hf
    refine kj_callV (As := []) (rest := []) X K (kcX13_copies l  h6) knWvX13_copies (knGm 1612 (by decide +kernel) rfl) (by decide) (knKd_in kdc_142 (by decide)) (knEnt_10 kdc_142) rfl rfl rfl (Nat.le_of_ble_eq_true rfl) (by decide) dX13_runScript_32 rfl (fun h7 => ?_)
    refine kj_aloadn X 0 dX13_runScript_35 rfl ?_
    obtain ⟨q8, h9, hf⟩ := knBd_inv hf
    refine kj_callV (As := []) (rest := []) X K (kcX13_doesAll l  h9) knWvX13_doesAll (knGm 2117 (by decide +kernel) rfl) (by decide) (knKd_in kdc_142 (by decide)) (knEnt_10 kdc_142) rfl rfl rfl (Nat.le_of_ble_eq_true rfl) (by decide) dX13_runScript_36 rfl (fun h10 => ?_)
    refine kj_istoren X (L' := [(1, knV q8.1), (0, knO G 142)]) dX13_runScript_39 (by decide) rfl ?_
    refine kj_aloadn X 1 dX13_runScript_40 rfl ?_
    refine kj_iconst X dX13_runScript_41 ?_
    refine kj_putf (k := 21) (ki := 21) (x := 0) (ty := .int) X K rfl (knKd_in kdc_142 (by decide)) (knEnt_10 kdc_142) rfl (by decide) knInX13 tyX13_ok nmX13 (knGm 1525 (by decide +kernel) rfl) rfl rfl (by decide +kernel) rfl rfl (by simp) (by rw [knEnt_10 kdc_142, knUp_row]; rfl) (fun _ => (show knC (0) from ⟨by omega, by omega⟩)) (fun h => by rw [kdc_142] at h; cases h) (fun h => by rw [kdc_142] at h; cases h) dX13_runScript_42 ?_
    refine kj_iloadn X 0 dX13_runScript_45 rfl ?_
    refine kj_if_eq X (tgt := 58) dX13_runScript_46 (by decide) (knZ_c h10) (fun h11 => ?_) (fun h11 => ?_)
    · replace hf := knIp hf h11
      refine kj_aloadn X 1 dX13_runScript_58 rfl ?_
      obtain ⟨q12, h13, hf⟩ := knBd_inv hf
      refine kj_callV (As := []) (rest := []) X K (kcX13_goesBack l  h13) knWvX13_goesBack (knGm 2129 (by decide +kernel) rfl) (by decide) (knKd_in kdc_142 (by decide)) (knEnt_10 kdc_142) rfl rfl rfl (Nat.le_of_ble_eq_true rfl) (by decide) dX13_runScript_59 rfl (fun h14 => ?_)
      refine kj_aloadn X 1 dX13_runScript_62 rfl ?_
      refine kj_aloadn X 1 dX13_runScript_63 rfl ?_
      refine kj_geti (k := 27) (ki := 27) X K rfl kdc_142 (by decide) (knEnt_10 kdc_142) rfl (by decide) knInX13 (knGm 1531 (by decide +kernel) rfl) rfl rfl dX13_runScript_64 (fun h15 => ?_)
      refine kj_putf (k := 24) (ki := 24) (x := (q12 142 27)) (ty := .int) X K rfl (knKd_in kdc_142 (by decide)) (knEnt_10 kdc_142) rfl (by decide) knInX13 tyX13_ok nmX13 (knGm 1528 (by decide +kernel) rfl) rfl rfl (by decide +kernel) rfl rfl (by simp) (by rw [knEnt_10 kdc_142, knUp_row]; rfl) (fun _ => h15) (fun h => by rw [kdc_142] at h; cases h) (fun h => by rw [kdc_142] at h; cases h) dX13_runScript_67 ?_
      refine kj_aloadn X 1 dX13_runScript_70 rfl ?_
      refine kj_iconst X dX13_runScript_71 ?_
      obtain ⟨q16, h17, hf⟩ := knBd_inv hf
      refine kj_callV (As := [knV 2]) (rest := []) X K (kcX13_fails l (show knC (2) from ⟨by omega, by omega⟩) h17) knWvX13_fails (knGm 1604 (by decide +kernel) rfl) (by decide) (knKd_in kdc_142 (by decide)) (knEnt_10 kdc_142) rfl rfl rfl (Nat.le_of_ble_eq_true rfl) (by decide) dX13_runScript_72 rfl (fun h18 => ?_)
      cases hf
      exact kj_iret X h18 hr dX13_runScript_75 hlk
    · replace hf := knIq hf h11
      refine kj_aloadn X 1 dX13_runScript_49 rfl ?_
      obtain ⟨q19, h20, hf⟩ := knBd_inv hf
      refine kj_callV (As := []) (rest := []) X K (kcX13_keeps l  h20) knWvX13_keeps (knGm 1616 (by decide +kernel) rfl) (by decide) (knKd_in kdc_142 (by decide)) (knEnt_10 kdc_142) rfl rfl rfl (Nat.le_of_ble_eq_true rfl) (by decide) dX13_runScript_50 rfl (fun h21 => ?_)
      refine kj_aloadn X 1 dX13_runScript_53 rfl ?_
      refine kj_geti (k := 27) (ki := 27) X K rfl kdc_142 (by decide) (knEnt_10 kdc_142) rfl (by decide) knInX13 (knGm 1531 (by decide +kernel) rfl) rfl rfl dX13_runScript_54 (fun h22 => ?_)
      cases hf
      exact kj_iret X h22 hr dX13_runScript_57 hlk
  · replace hf := knIp hf h4
    refine kj_aloadn X 0 dX13_runScript_12 rfl ?_
    refine kj_aloadn X 0 dX13_runScript_13 rfl ?_
    refine kj_geti (k := 22) (ki := 22) X K rfl kdc_142 (by decide) (knEnt_10 kdc_142) rfl (by decide) knInX13 (knGm 1526 (by decide +kernel) rfl) rfl rfl dX13_runScript_14 (fun h23 => ?_)
    refine kj_putf (k := 23) (ki := 23) (x := (q1.2 142 22)) (ty := .int) X K rfl (knKd_in kdc_142 (by decide)) (knEnt_10 kdc_142) rfl (by decide) knInX13 tyX13_ok nmX13 (knGm 1527 (by decide +kernel) rfl) rfl rfl (by decide +kernel) rfl rfl (by simp) (by rw [knEnt_10 kdc_142, knUp_row]; rfl) (fun _ => h23) (fun h => by rw [kdc_142] at h; cases h) (fun h => by rw [kdc_142] at h; cases h) dX13_runScript_17 ?_
    refine kj_aloadn X 0 dX13_runScript_20 rfl ?_
    refine kj_iconst X dX13_runScript_21 ?_
    refine kj_putf (k := 21) (ki := 21) (x := 0) (ty := .int) X K rfl (knKd_in kdc_142 (by decide)) (knEnt_10 kdc_142) rfl (by decide) knInX13 tyX13_ok nmX13 (knGm 1525 (by decide +kernel) rfl) rfl rfl (by decide +kernel) rfl rfl (by simp) (by rw [knEnt_10 kdc_142, knUp_row]; rfl) (fun _ => (show knC (0) from ⟨by omega, by omega⟩)) (fun h => by rw [kdc_142] at h; cases h) (fun h => by rw [kdc_142] at h; cases h) dX13_runScript_22 ?_
    refine kj_aloadn X 0 dX13_runScript_25 rfl ?_
    refine kj_iconst X dX13_runScript_26 ?_
    obtain ⟨q24, h25, hf⟩ := knBd_inv hf
    refine kj_callV (As := [knV 1]) (rest := []) X K (kcX13_fails l (show knC (1) from ⟨by omega, by omega⟩) h25) knWvX13_fails (knGm 1604 (by decide +kernel) rfl) (by decide) (knKd_in kdc_142 (by decide)) (knEnt_10 kdc_142) rfl rfl rfl (Nat.le_of_ble_eq_true rfl) (by decide) dX13_runScript_27 rfl (fun h26 => ?_)
    cases hf
    exact kj_iret X h26 hr dX13_runScript_30 hlk

