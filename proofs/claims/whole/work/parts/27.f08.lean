def kfX13_readsU  (μ : knMem) : Option (Int × knMem) :=
 Option.bind (kfX13_reads 110 μ) (fun q1 =>
  if q1.1 = 0 then
   some (0, q1.2)
  else
   Option.bind (kfX13_reads 99 q1.2) (fun q5 =>
    if q5.1 = 0 then
     Option.bind (kfX13_reads 112 (knUp q5.2 142 26 118)) (fun q9 =>
      (fun (k41 : (knMem) → Option (Int × knMem)) =>
       if q9.1 = 0 then
        k41 q9.2
       else
        Option.bind (kfX13_reads 111 q9.2) (fun q44 =>
         if q44.1 = 0 then
          k41 q44.2
         else
          Option.bind (kfX13_reads 107 q44.2) (fun q48 =>
           if q48.1 = 0 then
            k41 q48.2
           else
            Option.bind (kfX13_reads 101 q48.2) (fun q52 =>
             if q52.1 = 0 then
              k41 q52.2
             else
              Option.bind (kfX13_reads 32 q52.2) (fun q56 =>
               if q56.1 = 0 then
                k41 q56.2
               else
                Option.bind (kfX13_readsDigit 0 q56.2) (fun q60 =>
                 if q60.1 = 0 then
                  k41 q60.2
                 else
                  Option.bind (kfX13_reads 32 q60.2) (fun q64 =>
                   if q64.1 = 0 then
                    k41 q64.2
                   else
                    Option.bind (kfX13_readsDigit 1 q64.2) (fun q68 =>
                     if q68.1 = 0 then
                      k41 q68.2
                     else
                      some (1, q68.2)))))))))
       (fun q41 =>
       some (0, q41)))
    else
     Option.bind (kfX13_reads 117 q5.2) (fun q72 =>
      (fun (k92 : (knMem) → Option (Int × knMem)) =>
       if q72.1 = 0 then
        k92 q72.2
       else
        Option.bind (kfX13_reads 114 q72.2) (fun q95 =>
         if q95.1 = 0 then
          k92 q95.2
         else
          Option.bind (kfX13_reads 108 q95.2) (fun q99 =>
           if q99.1 = 0 then
            k92 q99.2
           else
            Option.bind (kfX13_reads 32 q99.2) (fun q103 =>
             if q103.1 = 0 then
              k92 q103.2
             else
              Option.bind (kfX13_readsDigit 0 q103.2) (fun q107 =>
               if q107.1 = 0 then
                k92 q107.2
               else
                some (1, q107.2))))))
       (fun q92 =>
       some (0, q92)))))

theorem knWvX13_readsU : knWv yX13_readsU cX13_readsU 1 (some .boolean) 0 := ⟨(knGm 2104 (by decide +kernel) rfl), (knGm 124 (by decide +kernel) rfl), (knGm 2103 (by decide +kernel) rfl), (knGm 105 (by decide +kernel) rfl), by decide +kernel, by decide +kernel, by decide +kernel⟩
set_option maxHeartbeats 4000000 in
set_option maxRecDepth 100000 in
theorem kcX13_readsU {G : knGT} (l : Launch)   {μ : knMem} {q : Int × knMem} (hf : kfX13_readsU  μ = some q) : knC0 G l yX13_readsU cX13_readsU 1 (some .boolean) 2 43 [knO G 142] μ (knZ q.1) (some (knV q.1)) q.2 := by
  unfold kfX13_readsU at hf
  refine kn_ofJ (plainFor_of_name (by decide)) (Nat.le_of_ble_eq_true rfl) (L := [(0, knO G 142)]) rfl ?_
  intro p e s m args below meth c X K hr hlk
  refine kj_aloadn X 0 dX13_readsU_0 rfl ?_
  refine kj_bipush X (n := 110) dX13_readsU_1 rfl ?_
  obtain ⟨q1, h2, hf⟩ := knBd_inv hf
  refine kj_callV (As := [knV 110]) (rest := []) X K (kcX13_reads l (show knC (110) from ⟨by omega, by omega⟩) h2) knWvX13_reads (knGm 2085 (by decide +kernel) rfl) (by decide) (knKd_in kdc_142 (by decide)) (knEnt_10 kdc_142) rfl rfl rfl (Nat.le_of_ble_eq_true rfl) (by decide) dX13_readsU_3 rfl (fun h3 => ?_)
  refine kj_if_ne X (tgt := 11) dX13_readsU_6 (by decide) (knZ_c h3) (fun h4 => ?_) (fun h4 => ?_)
  · replace hf := knIq hf h4
    refine kj_aloadn X 0 dX13_readsU_11 rfl ?_
    refine kj_bipush X (n := 99) dX13_readsU_12 rfl ?_
    obtain ⟨q5, h6, hf⟩ := knBd_inv hf
    refine kj_callV (As := [knV 99]) (rest := []) X K (kcX13_reads l (show knC (99) from ⟨by omega, by omega⟩) h6) knWvX13_reads (knGm 2085 (by decide +kernel) rfl) (by decide) (knKd_in kdc_142 (by decide)) (knEnt_10 kdc_142) rfl rfl rfl (Nat.le_of_ble_eq_true rfl) (by decide) dX13_readsU_14 rfl (fun h7 => ?_)
    refine kj_if_eq X (tgt := 70) dX13_readsU_17 (by decide) (knZ_c h7) (fun h8 => ?_) (fun h8 => ?_)
    · replace hf := knIp hf h8
      refine kj_aloadn X 0 dX13_readsU_70 rfl ?_
      refine kj_bipush X (n := 118) dX13_readsU_71 rfl ?_
      refine kj_putf (k := 26) (ki := 26) (x := 118) (ty := .int) X K rfl (knKd_in kdc_142 (by decide)) (knEnt_10 kdc_142) rfl (by decide) knInX13 tyX13_ok nmX13 (knGm 1530 (by decide +kernel) rfl) rfl rfl (by decide +kernel) rfl rfl (by simp) (by rw [knEnt_10 kdc_142, knUp_row]; rfl) (fun _ => (show knC (118) from ⟨by omega, by omega⟩)) (fun h => by rw [kdc_142] at h; cases h) (fun h => by rw [kdc_142] at h; cases h) dX13_readsU_73 ?_
      refine kj_aloadn X 0 dX13_readsU_76 rfl ?_
      refine kj_bipush X (n := 112) dX13_readsU_77 rfl ?_
      obtain ⟨q9, h10, hf⟩ := knBd_inv hf
      refine kj_callV (As := [knV 112]) (rest := []) X K (kcX13_reads l (show knC (112) from ⟨by omega, by omega⟩) h10) knWvX13_reads (knGm 2085 (by decide +kernel) rfl) (by decide) (knKd_in kdc_142 (by decide)) (knEnt_10 kdc_142) rfl rfl rfl (Nat.le_of_ble_eq_true rfl) (by decide) dX13_readsU_79 rfl (fun h11 => ?_)
      have j41 : ∀ (m41 : knMem), (fun q41 =>
       some (0, q41)) m41 = some q → knJ G p l e { frames := 2, cells := 0, slots := 0, locals := 43 } s m args below meth c 1 0 0 (MQ below (knPo G (knZ q.1) (some (knV q.1)) q.2) args s 0 0 (knA G)) 150 [] [] m41 := by
        intro m41
        intro hf
        refine kj_iconst X dX13_readsU_150 ?_
        cases hf
        exact kj_zret X (Or.inl rfl) hr (kn_nb (Or.inl rfl)) dX13_readsU_151 hlk
      refine kj_if_eq X (tgt := 150) dX13_readsU_82 (by decide) (knZ_c h11) (fun h43 => ?_) (fun h43 => ?_)
      · replace hf := knIp hf h43
        refine kj_sub (L' := []) [] rfl ?_
        exact j41 _ hf
      · replace hf := knIq hf h43
        refine kj_aloadn X 0 dX13_readsU_85 rfl ?_
        refine kj_bipush X (n := 111) dX13_readsU_86 rfl ?_
        obtain ⟨q44, h45, hf⟩ := knBd_inv hf
        refine kj_callV (As := [knV 111]) (rest := []) X K (kcX13_reads l (show knC (111) from ⟨by omega, by omega⟩) h45) knWvX13_reads (knGm 2085 (by decide +kernel) rfl) (by decide) (knKd_in kdc_142 (by decide)) (knEnt_10 kdc_142) rfl rfl rfl (Nat.le_of_ble_eq_true rfl) (by decide) dX13_readsU_88 rfl (fun h46 => ?_)
        refine kj_if_eq X (tgt := 150) dX13_readsU_91 (by decide) (knZ_c h46) (fun h47 => ?_) (fun h47 => ?_)
        · replace hf := knIp hf h47
          refine kj_sub (L' := []) [] rfl ?_
          exact j41 _ hf
        · replace hf := knIq hf h47
          refine kj_aloadn X 0 dX13_readsU_94 rfl ?_
          refine kj_bipush X (n := 107) dX13_readsU_95 rfl ?_
          obtain ⟨q48, h49, hf⟩ := knBd_inv hf
          refine kj_callV (As := [knV 107]) (rest := []) X K (kcX13_reads l (show knC (107) from ⟨by omega, by omega⟩) h49) knWvX13_reads (knGm 2085 (by decide +kernel) rfl) (by decide) (knKd_in kdc_142 (by decide)) (knEnt_10 kdc_142) rfl rfl rfl (Nat.le_of_ble_eq_true rfl) (by decide) dX13_readsU_97 rfl (fun h50 => ?_)
          refine kj_if_eq X (tgt := 150) dX13_readsU_100 (by decide) (knZ_c h50) (fun h51 => ?_) (fun h51 => ?_)
          · replace hf := knIp hf h51
            refine kj_sub (L' := []) [] rfl ?_
            exact j41 _ hf
          · replace hf := knIq hf h51
            refine kj_aloadn X 0 dX13_readsU_103 rfl ?_
            refine kj_bipush X (n := 101) dX13_readsU_104 rfl ?_
            obtain ⟨q52, h53, hf⟩ := knBd_inv hf
            refine kj_callV (As := [knV 101]) (rest := []) X K (kcX13_reads l (show knC (101) from ⟨by omega, by omega⟩) h53) knWvX13_reads (knGm 2085 (by decide +kernel) rfl) (by decide) (knKd_in kdc_142 (by decide)) (knEnt_10 kdc_142) rfl rfl rfl (Nat.le_of_ble_eq_true rfl) (by decide) dX13_readsU_106 rfl (fun h54 => ?_)
            refine kj_if_eq X (tgt := 150) dX13_readsU_109 (by decide) (knZ_c h54) (fun h55 => ?_) (fun h55 => ?_)
            · replace hf := knIp hf h55
              refine kj_sub (L' := []) [] rfl ?_
              exact j41 _ hf
            · replace hf := knIq hf h55
              refine kj_aloadn X 0 dX13_readsU_112 rfl ?_
              refine kj_bipush X (n := 32) dX13_readsU_113 rfl ?_
              obtain ⟨q56, h57, hf⟩ := knBd_inv hf
              refine kj_callV (As := [knV 32]) (rest := []) X K (kcX13_reads l (show knC (32) from ⟨by omega, by omega⟩) h57) knWvX13_reads (knGm 2085 (by decide +kernel) rfl) (by decide) (knKd_in kdc_142 (by decide)) (knEnt_10 kdc_142) rfl rfl rfl (Nat.le_of_ble_eq_true rfl) (by decide) dX13_readsU_115 rfl (fun h58 => ?_)
              refine kj_if_eq X (tgt := 150) dX13_readsU_118 (by decide) (knZ_c h58) (fun h59 => ?_) (fun h59 => ?_)
              · replace hf := knIp hf h59
                refine kj_sub (L' := []) [] rfl ?_
                exact j41 _ hf
              · replace hf := knIq hf h59
                refine kj_aloadn X 0 dX13_readsU_121 rfl ?_
                refine kj_iconst X dX13_readsU_122 ?_
                obtain ⟨q60, h61, hf⟩ := knBd_inv hf
                refine kj_callV (As := [knV 0]) (rest := []) X K (kcX13_readsDigit l (show knC (0) from ⟨by omega, by omega⟩) h61) knWvX13_readsDigit (knGm 2093 (by decide +kernel) rfl) (by decide) (knKd_in kdc_142 (by decide)) (knEnt_10 kdc_142) rfl rfl rfl (Nat.le_of_ble_eq_true rfl) (by decide) dX13_readsU_123 rfl (fun h62 => ?_)
                refine kj_if_eq X (tgt := 150) dX13_readsU_126 (by decide) (knZ_c h62) (fun h63 => ?_) (fun h63 => ?_)
                · replace hf := knIp hf h63
                  refine kj_sub (L' := []) [] rfl ?_
                  exact j41 _ hf
                · replace hf := knIq hf h63
                  refine kj_aloadn X 0 dX13_readsU_129 rfl ?_
                  refine kj_bipush X (n := 32) dX13_readsU_130 rfl ?_
                  obtain ⟨q64, h65, hf⟩ := knBd_inv hf
                  refine kj_callV (As := [knV 32]) (rest := []) X K (kcX13_reads l (show knC (32) from ⟨by omega, by omega⟩) h65) knWvX13_reads (knGm 2085 (by decide +kernel) rfl) (by decide) (knKd_in kdc_142 (by decide)) (knEnt_10 kdc_142) rfl rfl rfl (Nat.le_of_ble_eq_true rfl) (by decide) dX13_readsU_132 rfl (fun h66 => ?_)
                  refine kj_if_eq X (tgt := 150) dX13_readsU_135 (by decide) (knZ_c h66) (fun h67 => ?_) (fun h67 => ?_)
                  · replace hf := knIp hf h67
                    refine kj_sub (L' := []) [] rfl ?_
                    exact j41 _ hf
                  · replace hf := knIq hf h67
                    refine kj_aloadn X 0 dX13_readsU_138 rfl ?_
                    refine kj_iconst X dX13_readsU_139 ?_
                    obtain ⟨q68, h69, hf⟩ := knBd_inv hf
                    refine kj_callV (As := [knV 1]) (rest := []) X K (kcX13_readsDigit l (show knC (1) from ⟨by omega, by omega⟩) h69) knWvX13_readsDigit (knGm 2093 (by decide +kernel) rfl) (by decide) (knKd_in kdc_142 (by decide)) (knEnt_10 kdc_142) rfl rfl rfl (Nat.le_of_ble_eq_true rfl) (by decide) dX13_readsU_140 rfl (fun h70 => ?_)
                    refine kj_if_eq X (tgt := 150) dX13_readsU_143 (by decide) (knZ_c h70) (fun h71 => ?_) (fun h71 => ?_)
                    · replace hf := knIp hf h71
                      refine kj_sub (L' := []) [] rfl ?_
                      exact j41 _ hf
                    · replace hf := knIq hf h71
                      refine kj_iconst X dX13_readsU_146 ?_
                      refine kj_goto X (tgt := 151) dX13_readsU_147 (by decide) ?_
                      cases hf
                      exact kj_zret X (Or.inr rfl) hr (kn_nb (Or.inr rfl)) dX13_readsU_151 hlk
    · replace hf := knIq hf h8
      refine kj_aloadn X 0 dX13_readsU_20 rfl ?_
      refine kj_bipush X (n := 117) dX13_readsU_21 rfl ?_
      obtain ⟨q72, h73, hf⟩ := knBd_inv hf
      refine kj_callV (As := [knV 117]) (rest := []) X K (kcX13_reads l (show knC (117) from ⟨by omega, by omega⟩) h73) knWvX13_reads (knGm 2085 (by decide +kernel) rfl) (by decide) (knKd_in kdc_142 (by decide)) (knEnt_10 kdc_142) rfl rfl rfl (Nat.le_of_ble_eq_true rfl) (by decide) dX13_readsU_23 rfl (fun h74 => ?_)
      have j92 : ∀ (m92 : knMem), (fun q92 =>
       some (0, q92)) m92 = some q → knJ G p l e { frames := 2, cells := 0, slots := 0, locals := 43 } s m args below meth c 1 0 0 (MQ below (knPo G (knZ q.1) (some (knV q.1)) q.2) args s 0 0 (knA G)) 68 [] [] m92 := by
        intro m92
        intro hf
        refine kj_iconst X dX13_readsU_68 ?_
        cases hf
        exact kj_zret X (Or.inl rfl) hr (kn_nb (Or.inl rfl)) dX13_readsU_69 hlk
      refine kj_if_eq X (tgt := 68) dX13_readsU_26 (by decide) (knZ_c h74) (fun h94 => ?_) (fun h94 => ?_)
      · replace hf := knIp hf h94
        refine kj_sub (L' := []) [] rfl ?_
        exact j92 _ hf
      · replace hf := knIq hf h94
        refine kj_aloadn X 0 dX13_readsU_29 rfl ?_
        refine kj_bipush X (n := 114) dX13_readsU_30 rfl ?_
        obtain ⟨q95, h96, hf⟩ := knBd_inv hf
        refine kj_callV (As := [knV 114]) (rest := []) X K (kcX13_reads l (show knC (114) from ⟨by omega, by omega⟩) h96) knWvX13_reads (knGm 2085 (by decide +kernel) rfl) (by decide) (knKd_in kdc_142 (by decide)) (knEnt_10 kdc_142) rfl rfl rfl (Nat.le_of_ble_eq_true rfl) (by decide) dX13_readsU_32 rfl (fun h97 => ?_)
        refine kj_if_eq X (tgt := 68) dX13_readsU_35 (by decide) (knZ_c h97) (fun h98 => ?_) (fun h98 => ?_)
        · replace hf := knIp hf h98
          refine kj_sub (L' := []) [] rfl ?_
          exact j92 _ hf
        · replace hf := knIq hf h98
          refine kj_aloadn X 0 dX13_readsU_38 rfl ?_
          refine kj_bipush X (n := 108) dX13_readsU_39 rfl ?_
          obtain ⟨q99, h100, hf⟩ := knBd_inv hf
          refine kj_callV (As := [knV 108]) (rest := []) X K (kcX13_reads l (show knC (108) from ⟨by omega, by omega⟩) h100) knWvX13_reads (knGm 2085 (by decide +kernel) rfl) (by decide) (knKd_in kdc_142 (by decide)) (knEnt_10 kdc_142) rfl rfl rfl (Nat.le_of_ble_eq_true rfl) (by decide) dX13_readsU_41 rfl (fun h101 => ?_)
          refine kj_if_eq X (tgt := 68) dX13_readsU_44 (by decide) (knZ_c h101) (fun h102 => ?_) (fun h102 => ?_)
          · replace hf := knIp hf h102
            refine kj_sub (L' := []) [] rfl ?_
            exact j92 _ hf
          · replace hf := knIq hf h102
            refine kj_aloadn X 0 dX13_readsU_47 rfl ?_
            refine kj_bipush X (n := 32) dX13_readsU_48 rfl ?_
            obtain ⟨q103, h104, hf⟩ := knBd_inv hf
            refine kj_callV (As := [knV 32]) (rest := []) X K (kcX13_reads l (show knC (32) from ⟨by omega, by omega⟩) h104) knWvX13_reads (knGm 2085 (by decide +kernel) rfl) (by decide) (knKd_in kdc_142 (by decide)) (knEnt_10 kdc_142) rfl rfl rfl (Nat.le_of_ble_eq_true rfl) (by decide) dX13_readsU_50 rfl (fun h105 => ?_)
            refine kj_if_eq X (tgt := 68) dX13_readsU_53 (by decide) (knZ_c h105) (fun h106 => ?_) (fun h106 => ?_)
            · replace hf := knIp hf h106
              refine kj_sub (L' := []) [] rfl ?_
              exact j92 _ hf
            · replace hf := knIq hf h106
              refine kj_aloadn X 0 dX13_readsU_56 rfl ?_
              refine kj_iconst X dX13_readsU_57 ?_
              obtain ⟨q107, h108, hf⟩ := knBd_inv hf
              refine kj_callV (As := [knV 0]) (rest := []) X K (kcX13_readsDigit l (show knC (0) from ⟨by omega, by omega⟩) h108) knWvX13_readsDigit (knGm 2093 (by decide +kernel) rfl) (by decide) (knKd_in kdc_142 (by decide)) (knEnt_10 kdc_142) rfl rfl rfl (Nat.le_of_ble_eq_true rfl) (by decide) dX13_readsU_58 rfl (fun h109 => ?_)
              refine kj_if_eq X (tgt := 68) dX13_readsU_61 (by decide) (knZ_c h109) (fun h110 => ?_) (fun h110 => ?_)
              · replace hf := knIp hf h110
                refine kj_sub (L' := []) [] rfl ?_
                exact j92 _ hf
              · replace hf := knIq hf h110
                refine kj_iconst X dX13_readsU_64 ?_
                refine kj_goto X (tgt := 69) dX13_readsU_65 (by decide) ?_
                cases hf
                exact kj_zret X (Or.inr rfl) hr (kn_nb (Or.inr rfl)) dX13_readsU_69 hlk
  · replace hf := knIp hf h4
    refine kj_iconst X dX13_readsU_9 ?_
    cases hf
    exact kj_zret X (Or.inl rfl) hr (kn_nb (Or.inl rfl)) dX13_readsU_10 hlk

def kfX13_readsP  (μ : knMem) : Option (Int × knMem) :=
 Option.bind (kfX13_reads 108 μ) (fun q1 =>
  if q1.1 = 0 then
   Option.bind (kfX13_reads 111 q1.2) (fun q5 =>
    (fun (k48 : (knMem) → Option (Int × knMem)) =>
     if q5.1 = 0 then
      k48 q5.2
     else
      Option.bind (kfX13_reads 107 q5.2) (fun q51 =>
       if q51.1 = 0 then
        k48 q51.2
       else
        Option.bind (kfX13_reads 101 q51.2) (fun q55 =>
         if q55.1 = 0 then
          k48 q55.2
         else
          Option.bind (kfX13_reads 32 q55.2) (fun q59 =>
           if q59.1 = 0 then
            k48 q59.2
           else
            Option.bind (kfX13_readsNumber 0 q59.2) (fun q63 =>
             if q63.1 = 0 then
              k48 q63.2
             else
              Option.bind (kfX13_reads 32 q63.2) (fun q67 =>
               if q67.1 = 0 then
                k48 q67.2
               else
                Option.bind (kfX13_readsNumber 1 q67.2) (fun q71 =>
                 if q71.1 = 0 then
                  k48 q71.2
                 else
                  Option.bind (kfX13_readsOne 2 61 120 q71.2) (fun q75 =>
                   (fun (k83 : (knMem) → Option (Int × knMem)) =>
                    if q75.1 = 0 then
                     k83 q75.2
                    else
                     Option.bind (kfX13_readsOne 3 43 45 q75.2) (fun q86 =>
                      if q86.1 = 0 then
                       k83 q86.2
                      else
                       some (1, q86.2)))
                    (fun q83 =>
                    some (0, q83))))))))))
     (fun q48 =>
     some (0, q48)))
  else
   Option.bind (kfX13_reads 97 (knUp q1.2 142 26 108)) (fun q90 =>
    (fun (k106 : (knMem) → Option (Int × knMem)) =>
     if q90.1 = 0 then
      k106 q90.2
     else
      Option.bind (kfX13_reads 121 q90.2) (fun q109 =>
       if q109.1 = 0 then
        k106 q109.2
       else
        Option.bind (kfX13_reads 101 q109.2) (fun q113 =>
         if q113.1 = 0 then
          k106 q113.2
         else
          Option.bind (kfX13_reads 114 q113.2) (fun q117 =>
           if q117.1 = 0 then
            k106 q117.2
           else
            some (1, q117.2)))))
     (fun q106 =>
     some (0, q106))))

theorem knWvX13_readsP : knWv yX13_readsP cX13_readsP 1 (some .boolean) 0 := ⟨(knGm 2108 (by decide +kernel) rfl), (knGm 124 (by decide +kernel) rfl), (knGm 2107 (by decide +kernel) rfl), (knGm 106 (by decide +kernel) rfl), by decide +kernel, by decide +kernel, by decide +kernel⟩
set_option maxHeartbeats 4000000 in
set_option maxRecDepth 100000 in
theorem kcX13_readsP {G : knGT} (l : Launch)   {μ : knMem} {q : Int × knMem} (hf : kfX13_readsP  μ = some q) : knC0 G l yX13_readsP cX13_readsP 1 (some .boolean) 3 64 [knO G 142] μ (knZ q.1) (some (knV q.1)) q.2 := by
  unfold kfX13_readsP at hf
  refine kn_ofJ (plainFor_of_name (by decide)) (Nat.le_of_ble_eq_true rfl) (L := [(0, knO G 142)]) rfl ?_
  intro p e s m args below meth c X K hr hlk
  refine kj_aloadn X 0 dX13_readsP_0 rfl ?_
  refine kj_bipush X (n := 108) dX13_readsP_1 rfl ?_
  obtain ⟨q1, h2, hf⟩ := knBd_inv hf
  refine kj_callV (As := [knV 108]) (rest := []) X K (kcX13_reads l (show knC (108) from ⟨by omega, by omega⟩) h2) knWvX13_reads (knGm 2085 (by decide +kernel) rfl) (by decide) (knKd_in kdc_142 (by decide)) (knEnt_10 kdc_142) rfl rfl rfl (Nat.le_of_ble_eq_true rfl) (by decide) dX13_readsP_3 rfl (fun h3 => ?_)
  refine kj_if_eq X (tgt := 57) dX13_readsP_6 (by decide) (knZ_c h3) (fun h4 => ?_) (fun h4 => ?_)
  · replace hf := knIp hf h4
    refine kj_aloadn X 0 dX13_readsP_57 rfl ?_
    refine kj_bipush X (n := 111) dX13_readsP_58 rfl ?_
    obtain ⟨q5, h6, hf⟩ := knBd_inv hf
    refine kj_callV (As := [knV 111]) (rest := []) X K (kcX13_reads l (show knC (111) from ⟨by omega, by omega⟩) h6) knWvX13_reads (knGm 2085 (by decide +kernel) rfl) (by decide) (knKd_in kdc_142 (by decide)) (knEnt_10 kdc_142) rfl rfl rfl (Nat.le_of_ble_eq_true rfl) (by decide) dX13_readsP_60 rfl (fun h7 => ?_)
    have j48 : ∀ (m48 : knMem), (fun q48 =>
     some (0, q48)) m48 = some q → knJ G p l e { frames := 3, cells := 0, slots := 0, locals := 64 } s m args below meth c 1 0 0 (MQ below (knPo G (knZ q.1) (some (knV q.1)) q.2) args s 0 0 (knA G)) 118 [] [] m48 := by
      intro m48
      intro hf
      refine kj_iconst X dX13_readsP_118 ?_
      cases hf
      exact kj_zret X (Or.inl rfl) hr (kn_nb (Or.inl rfl)) dX13_readsP_119 hlk
    refine kj_if_eq X (tgt := 118) dX13_readsP_63 (by decide) (knZ_c h7) (fun h50 => ?_) (fun h50 => ?_)
    · replace hf := knIp hf h50
      refine kj_sub (L' := []) [] rfl ?_
      exact j48 _ hf
    · replace hf := knIq hf h50
      refine kj_aloadn X 0 dX13_readsP_66 rfl ?_
      refine kj_bipush X (n := 107) dX13_readsP_67 rfl ?_
      obtain ⟨q51, h52, hf⟩ := knBd_inv hf
      refine kj_callV (As := [knV 107]) (rest := []) X K (kcX13_reads l (show knC (107) from ⟨by omega, by omega⟩) h52) knWvX13_reads (knGm 2085 (by decide +kernel) rfl) (by decide) (knKd_in kdc_142 (by decide)) (knEnt_10 kdc_142) rfl rfl rfl (Nat.le_of_ble_eq_true rfl) (by decide) dX13_readsP_69 rfl (fun h53 => ?_)
      refine kj_if_eq X (tgt := 118) dX13_readsP_72 (by decide) (knZ_c h53) (fun h54 => ?_) (fun h54 => ?_)
      · replace hf := knIp hf h54
        refine kj_sub (L' := []) [] rfl ?_
        exact j48 _ hf
      · replace hf := knIq hf h54
        refine kj_aloadn X 0 dX13_readsP_75 rfl ?_
        refine kj_bipush X (n := 101) dX13_readsP_76 rfl ?_
        obtain ⟨q55, h56, hf⟩ := knBd_inv hf
        refine kj_callV (As := [knV 101]) (rest := []) X K (kcX13_reads l (show knC (101) from ⟨by omega, by omega⟩) h56) knWvX13_reads (knGm 2085 (by decide +kernel) rfl) (by decide) (knKd_in kdc_142 (by decide)) (knEnt_10 kdc_142) rfl rfl rfl (Nat.le_of_ble_eq_true rfl) (by decide) dX13_readsP_78 rfl (fun h57 => ?_)
        refine kj_if_eq X (tgt := 118) dX13_readsP_81 (by decide) (knZ_c h57) (fun h58 => ?_) (fun h58 => ?_)
        · replace hf := knIp hf h58
          refine kj_sub (L' := []) [] rfl ?_
          exact j48 _ hf
        · replace hf := knIq hf h58
          refine kj_aloadn X 0 dX13_readsP_84 rfl ?_
          refine kj_bipush X (n := 32) dX13_readsP_85 rfl ?_
          obtain ⟨q59, h60, hf⟩ := knBd_inv hf
          refine kj_callV (As := [knV 32]) (rest := []) X K (kcX13_reads l (show knC (32) from ⟨by omega, by omega⟩) h60) knWvX13_reads (knGm 2085 (by decide +kernel) rfl) (by decide) (knKd_in kdc_142 (by decide)) (knEnt_10 kdc_142) rfl rfl rfl (Nat.le_of_ble_eq_true rfl) (by decide) dX13_readsP_87 rfl (fun h61 => ?_)
          refine kj_if_eq X (tgt := 118) dX13_readsP_90 (by decide) (knZ_c h61) (fun h62 => ?_) (fun h62 => ?_)
          · replace hf := knIp hf h62
            refine kj_sub (L' := []) [] rfl ?_
            exact j48 _ hf
          · replace hf := knIq hf h62
            refine kj_aloadn X 0 dX13_readsP_93 rfl ?_
            refine kj_iconst X dX13_readsP_94 ?_
            obtain ⟨q63, h64, hf⟩ := knBd_inv hf
            refine kj_callV (As := [knV 0]) (rest := []) X K (kcX13_readsNumber l (show knC (0) from ⟨by omega, by omega⟩) h64) knWvX13_readsNumber (knGm 2089 (by decide +kernel) rfl) (by decide) (knKd_in kdc_142 (by decide)) (knEnt_10 kdc_142) rfl rfl rfl (Nat.le_of_ble_eq_true rfl) (by decide) dX13_readsP_95 rfl (fun h65 => ?_)
            refine kj_if_eq X (tgt := 118) dX13_readsP_98 (by decide) (knZ_c h65) (fun h66 => ?_) (fun h66 => ?_)
            · replace hf := knIp hf h66
              refine kj_sub (L' := []) [] rfl ?_
              exact j48 _ hf
            · replace hf := knIq hf h66
              refine kj_aloadn X 0 dX13_readsP_101 rfl ?_
              refine kj_bipush X (n := 32) dX13_readsP_102 rfl ?_
              obtain ⟨q67, h68, hf⟩ := knBd_inv hf
              refine kj_callV (As := [knV 32]) (rest := []) X K (kcX13_reads l (show knC (32) from ⟨by omega, by omega⟩) h68) knWvX13_reads (knGm 2085 (by decide +kernel) rfl) (by decide) (knKd_in kdc_142 (by decide)) (knEnt_10 kdc_142) rfl rfl rfl (Nat.le_of_ble_eq_true rfl) (by decide) dX13_readsP_104 rfl (fun h69 => ?_)
              refine kj_if_eq X (tgt := 118) dX13_readsP_107 (by decide) (knZ_c h69) (fun h70 => ?_) (fun h70 => ?_)
              · replace hf := knIp hf h70
                refine kj_sub (L' := []) [] rfl ?_
                exact j48 _ hf
              · replace hf := knIq hf h70
                refine kj_aloadn X 0 dX13_readsP_110 rfl ?_
                refine kj_iconst X dX13_readsP_111 ?_
                obtain ⟨q71, h72, hf⟩ := knBd_inv hf
                refine kj_callV (As := [knV 1]) (rest := []) X K (kcX13_readsNumber l (show knC (1) from ⟨by omega, by omega⟩) h72) knWvX13_readsNumber (knGm 2089 (by decide +kernel) rfl) (by decide) (knKd_in kdc_142 (by decide)) (knEnt_10 kdc_142) rfl rfl rfl (Nat.le_of_ble_eq_true rfl) (by decide) dX13_readsP_112 rfl (fun h73 => ?_)
                refine kj_if_ne X (tgt := 120) dX13_readsP_115 (by decide) (knZ_c h73) (fun h74 => ?_) (fun h74 => ?_)
                · replace hf := knIq hf h74
                  refine kj_aloadn X 0 dX13_readsP_120 rfl ?_
                  refine kj_iconst X dX13_readsP_121 ?_
                  refine kj_bipush X (n := 61) dX13_readsP_122 rfl ?_
                  refine kj_bipush X (n := 120) dX13_readsP_124 rfl ?_
                  obtain ⟨q75, h76, hf⟩ := knBd_inv hf
                  refine kj_callV (As := [knV 2, knV 61, knV 120]) (rest := []) X K (kcX13_readsOne l (show knC (2) from ⟨by omega, by omega⟩) (show knC (61) from ⟨by omega, by omega⟩) (show knC (120) from ⟨by omega, by omega⟩) h76) knWvX13_readsOne (knGm 2097 (by decide +kernel) rfl) (by decide) (knKd_in kdc_142 (by decide)) (knEnt_10 kdc_142) rfl rfl rfl (Nat.le_of_ble_eq_true rfl) (by decide) dX13_readsP_126 rfl (fun h77 => ?_)
                  have j83 : ∀ (m83 : knMem), (fun q83 =>
                   some (0, q83)) m83 = some q → knJ G p l e { frames := 3, cells := 0, slots := 0, locals := 64 } s m args below meth c 1 0 0 (MQ below (knPo G (knZ q.1) (some (knV q.1)) q.2) args s 0 0 (knA G)) 148 [] [] m83 := by
                    intro m83
                    intro hf
                    refine kj_iconst X dX13_readsP_148 ?_
                    cases hf
                    exact kj_zret X (Or.inl rfl) hr (kn_nb (Or.inl rfl)) dX13_readsP_149 hlk
                  refine kj_if_eq X (tgt := 148) dX13_readsP_129 (by decide) (knZ_c h77) (fun h85 => ?_) (fun h85 => ?_)
                  · replace hf := knIp hf h85
                    refine kj_sub (L' := []) [] rfl ?_
                    exact j83 _ hf
                  · replace hf := knIq hf h85
                    refine kj_aloadn X 0 dX13_readsP_132 rfl ?_
                    refine kj_iconst X dX13_readsP_133 ?_
                    refine kj_bipush X (n := 43) dX13_readsP_134 rfl ?_
                    refine kj_bipush X (n := 45) dX13_readsP_136 rfl ?_
                    obtain ⟨q86, h87, hf⟩ := knBd_inv hf
                    refine kj_callV (As := [knV 3, knV 43, knV 45]) (rest := []) X K (kcX13_readsOne l (show knC (3) from ⟨by omega, by omega⟩) (show knC (43) from ⟨by omega, by omega⟩) (show knC (45) from ⟨by omega, by omega⟩) h87) knWvX13_readsOne (knGm 2097 (by decide +kernel) rfl) (by decide) (knKd_in kdc_142 (by decide)) (knEnt_10 kdc_142) rfl rfl rfl (Nat.le_of_ble_eq_true rfl) (by decide) dX13_readsP_138 rfl (fun h88 => ?_)
                    refine kj_if_eq X (tgt := 148) dX13_readsP_141 (by decide) (knZ_c h88) (fun h89 => ?_) (fun h89 => ?_)
                    · replace hf := knIp hf h89
                      refine kj_sub (L' := []) [] rfl ?_
                      exact j83 _ hf
                    · replace hf := knIq hf h89
                      refine kj_iconst X dX13_readsP_144 ?_
                      refine kj_goto X (tgt := 149) dX13_readsP_145 (by decide) ?_
                      cases hf
                      exact kj_zret X (Or.inr rfl) hr (kn_nb (Or.inr rfl)) dX13_readsP_149 hlk
                · replace hf := knIp hf h74
                  refine kj_sub (L' := []) [] rfl ?_
                  exact j48 _ hf
  · replace hf := knIq hf h4
    refine kj_aloadn X 0 dX13_readsP_9 rfl ?_
    refine kj_bipush X (n := 108) dX13_readsP_10 rfl ?_
    refine kj_putf (k := 26) (ki := 26) (x := 108) (ty := .int) X K rfl (knKd_in kdc_142 (by decide)) (knEnt_10 kdc_142) rfl (by decide) knInX13 tyX13_ok nmX13 (knGm 1530 (by decide +kernel) rfl) rfl rfl (by decide +kernel) rfl rfl (by simp) (by rw [knEnt_10 kdc_142, knUp_row]; rfl) (fun _ => (show knC (108) from ⟨by omega, by omega⟩)) (fun h => by rw [kdc_142] at h; cases h) (fun h => by rw [kdc_142] at h; cases h) dX13_readsP_12 ?_
    refine kj_aloadn X 0 dX13_readsP_15 rfl ?_
    refine kj_bipush X (n := 97) dX13_readsP_16 rfl ?_
    obtain ⟨q90, h91, hf⟩ := knBd_inv hf
    refine kj_callV (As := [knV 97]) (rest := []) X K (kcX13_reads l (show knC (97) from ⟨by omega, by omega⟩) h91) knWvX13_reads (knGm 2085 (by decide +kernel) rfl) (by decide) (knKd_in kdc_142 (by decide)) (knEnt_10 kdc_142) rfl rfl rfl (Nat.le_of_ble_eq_true rfl) (by decide) dX13_readsP_18 rfl (fun h92 => ?_)
    have j106 : ∀ (m106 : knMem), (fun q106 =>
     some (0, q106)) m106 = some q → knJ G p l e { frames := 3, cells := 0, slots := 0, locals := 64 } s m args below meth c 1 0 0 (MQ below (knPo G (knZ q.1) (some (knV q.1)) q.2) args s 0 0 (knA G)) 55 [] [] m106 := by
      intro m106
      intro hf
      refine kj_iconst X dX13_readsP_55 ?_
      cases hf
      exact kj_zret X (Or.inl rfl) hr (kn_nb (Or.inl rfl)) dX13_readsP_56 hlk
    refine kj_if_eq X (tgt := 55) dX13_readsP_21 (by decide) (knZ_c h92) (fun h108 => ?_) (fun h108 => ?_)
    · replace hf := knIp hf h108
      refine kj_sub (L' := []) [] rfl ?_
      exact j106 _ hf
    · replace hf := knIq hf h108
      refine kj_aloadn X 0 dX13_readsP_24 rfl ?_
      refine kj_bipush X (n := 121) dX13_readsP_25 rfl ?_
      obtain ⟨q109, h110, hf⟩ := knBd_inv hf
      refine kj_callV (As := [knV 121]) (rest := []) X K (kcX13_reads l (show knC (121) from ⟨by omega, by omega⟩) h110) knWvX13_reads (knGm 2085 (by decide +kernel) rfl) (by decide) (knKd_in kdc_142 (by decide)) (knEnt_10 kdc_142) rfl rfl rfl (Nat.le_of_ble_eq_true rfl) (by decide) dX13_readsP_27 rfl (fun h111 => ?_)
      refine kj_if_eq X (tgt := 55) dX13_readsP_30 (by decide) (knZ_c h111) (fun h112 => ?_) (fun h112 => ?_)
      · replace hf := knIp hf h112
        refine kj_sub (L' := []) [] rfl ?_
        exact j106 _ hf
      · replace hf := knIq hf h112
        refine kj_aloadn X 0 dX13_readsP_33 rfl ?_
        refine kj_bipush X (n := 101) dX13_readsP_34 rfl ?_
        obtain ⟨q113, h114, hf⟩ := knBd_inv hf
        refine kj_callV (As := [knV 101]) (rest := []) X K (kcX13_reads l (show knC (101) from ⟨by omega, by omega⟩) h114) knWvX13_reads (knGm 2085 (by decide +kernel) rfl) (by decide) (knKd_in kdc_142 (by decide)) (knEnt_10 kdc_142) rfl rfl rfl (Nat.le_of_ble_eq_true rfl) (by decide) dX13_readsP_36 rfl (fun h115 => ?_)
        refine kj_if_eq X (tgt := 55) dX13_readsP_39 (by decide) (knZ_c h115) (fun h116 => ?_) (fun h116 => ?_)
        · replace hf := knIp hf h116
          refine kj_sub (L' := []) [] rfl ?_
          exact j106 _ hf
        · replace hf := knIq hf h116
          refine kj_aloadn X 0 dX13_readsP_42 rfl ?_
          refine kj_bipush X (n := 114) dX13_readsP_43 rfl ?_
          obtain ⟨q117, h118, hf⟩ := knBd_inv hf
          refine kj_callV (As := [knV 114]) (rest := []) X K (kcX13_reads l (show knC (114) from ⟨by omega, by omega⟩) h118) knWvX13_reads (knGm 2085 (by decide +kernel) rfl) (by decide) (knKd_in kdc_142 (by decide)) (knEnt_10 kdc_142) rfl rfl rfl (Nat.le_of_ble_eq_true rfl) (by decide) dX13_readsP_45 rfl (fun h119 => ?_)
          refine kj_if_eq X (tgt := 55) dX13_readsP_48 (by decide) (knZ_c h119) (fun h120 => ?_) (fun h120 => ?_)
          · replace hf := knIp hf h120
            refine kj_sub (L' := []) [] rfl ?_
            exact j106 _ hf
          · replace hf := knIq hf h120
            refine kj_iconst X dX13_readsP_51 ?_
            refine kj_goto X (tgt := 56) dX13_readsP_52 (by decide) ?_
            cases hf
            exact kj_zret X (Or.inr rfl) hr (kn_nb (Or.inr rfl)) dX13_readsP_56 hlk

def kfX13_readsS  (μ : knMem) : Option (Int × knMem) :=
 Option.bind (kfX13_reads 119 μ) (fun q1 =>
  if q1.1 = 0 then
   Option.bind (kfX13_reads 101 (knUp q1.2 142 26 101)) (fun q5 =>
    (fun (k25 : (knMem) → Option (Int × knMem)) =>
     if q5.1 = 0 then
      k25 q5.2
     else
      Option.bind (kfX13_reads 116 q5.2) (fun q28 =>
       if q28.1 = 0 then
        k25 q28.2
       else
        Option.bind (kfX13_reads 116 q28.2) (fun q32 =>
         if q32.1 = 0 then
          k25 q32.2
         else
          Option.bind (kfX13_reads 108 q32.2) (fun q36 =>
           if q36.1 = 0 then
            k25 q36.2
           else
            Option.bind (kfX13_reads 101 q36.2) (fun q40 =>
             if q40.1 = 0 then
              k25 q40.2
             else
              some (1, q40.2))))))
     (fun q25 =>
     some (0, q25)))
  else
   Option.bind (kfX13_reads 105 q1.2) (fun q44 =>
    (fun (k68 : (knMem) → Option (Int × knMem)) =>
     if q44.1 = 0 then
      k68 q44.2
     else
      Option.bind (kfX13_reads 116 q44.2) (fun q71 =>
       if q71.1 = 0 then
        k68 q71.2
       else
        Option.bind (kfX13_reads 99 q71.2) (fun q75 =>
         if q75.1 = 0 then
          k68 q75.2
         else
          Option.bind (kfX13_reads 104 q75.2) (fun q79 =>
           if q79.1 = 0 then
            k68 q79.2
           else
            Option.bind (kfX13_reads 32 q79.2) (fun q83 =>
             if q83.1 = 0 then
              k68 q83.2
             else
              Option.bind (kfX13_readsDigit 0 q83.2) (fun q87 =>
               if q87.1 = 0 then
                k68 q87.2
               else
                some (1, q87.2)))))))
     (fun q68 =>
     some (0, q68))))

theorem knWvX13_readsS : knWv yX13_readsS cX13_readsS 1 (some .boolean) 0 := ⟨(knGm 2112 (by decide +kernel) rfl), (knGm 124 (by decide +kernel) rfl), (knGm 2111 (by decide +kernel) rfl), (knGm 107 (by decide +kernel) rfl), by decide +kernel, by decide +kernel, by decide +kernel⟩
set_option maxHeartbeats 4000000 in
set_option maxRecDepth 100000 in
theorem kcX13_readsS {G : knGT} (l : Launch)   {μ : knMem} {q : Int × knMem} (hf : kfX13_readsS  μ = some q) : knC0 G l yX13_readsS cX13_readsS 1 (some .boolean) 2 43 [knO G 142] μ (knZ q.1) (some (knV q.1)) q.2 := by
  unfold kfX13_readsS at hf
  refine kn_ofJ (plainFor_of_name (by decide)) (Nat.le_of_ble_eq_true rfl) (L := [(0, knO G 142)]) rfl ?_
  intro p e s m args below meth c X K hr hlk
  refine kj_aloadn X 0 dX13_readsS_0 rfl ?_
  refine kj_bipush X (n := 119) dX13_readsS_1 rfl ?_
  obtain ⟨q1, h2, hf⟩ := knBd_inv hf
  refine kj_callV (As := [knV 119]) (rest := []) X K (kcX13_reads l (show knC (119) from ⟨by omega, by omega⟩) h2) knWvX13_reads (knGm 2085 (by decide +kernel) rfl) (by decide) (knKd_in kdc_142 (by decide)) (knEnt_10 kdc_142) rfl rfl rfl (Nat.le_of_ble_eq_true rfl) (by decide) dX13_readsS_3 rfl (fun h3 => ?_)
  refine kj_if_eq X (tgt := 68) dX13_readsS_6 (by decide) (knZ_c h3) (fun h4 => ?_) (fun h4 => ?_)
  · replace hf := knIp hf h4
    refine kj_aloadn X 0 dX13_readsS_68 rfl ?_
    refine kj_bipush X (n := 101) dX13_readsS_69 rfl ?_
    refine kj_putf (k := 26) (ki := 26) (x := 101) (ty := .int) X K rfl (knKd_in kdc_142 (by decide)) (knEnt_10 kdc_142) rfl (by decide) knInX13 tyX13_ok nmX13 (knGm 1530 (by decide +kernel) rfl) rfl rfl (by decide +kernel) rfl rfl (by simp) (by rw [knEnt_10 kdc_142, knUp_row]; rfl) (fun _ => (show knC (101) from ⟨by omega, by omega⟩)) (fun h => by rw [kdc_142] at h; cases h) (fun h => by rw [kdc_142] at h; cases h) dX13_readsS_71 ?_
    refine kj_aloadn X 0 dX13_readsS_74 rfl ?_
    refine kj_bipush X (n := 101) dX13_readsS_75 rfl ?_
    obtain ⟨q5, h6, hf⟩ := knBd_inv hf
    refine kj_callV (As := [knV 101]) (rest := []) X K (kcX13_reads l (show knC (101) from ⟨by omega, by omega⟩) h6) knWvX13_reads (knGm 2085 (by decide +kernel) rfl) (by decide) (knKd_in kdc_142 (by decide)) (knEnt_10 kdc_142) rfl rfl rfl (Nat.le_of_ble_eq_true rfl) (by decide) dX13_readsS_77 rfl (fun h7 => ?_)
    have j25 : ∀ (m25 : knMem), (fun q25 =>
     some (0, q25)) m25 = some q → knJ G p l e { frames := 2, cells := 0, slots := 0, locals := 43 } s m args below meth c 1 0 0 (MQ below (knPo G (knZ q.1) (some (knV q.1)) q.2) args s 0 0 (knA G)) 123 [] [] m25 := by
      intro m25
      intro hf
      refine kj_iconst X dX13_readsS_123 ?_
      cases hf
      exact kj_zret X (Or.inl rfl) hr (kn_nb (Or.inl rfl)) dX13_readsS_124 hlk
    refine kj_if_eq X (tgt := 123) dX13_readsS_80 (by decide) (knZ_c h7) (fun h27 => ?_) (fun h27 => ?_)
    · replace hf := knIp hf h27
      refine kj_sub (L' := []) [] rfl ?_
      exact j25 _ hf
    · replace hf := knIq hf h27
      refine kj_aloadn X 0 dX13_readsS_83 rfl ?_
      refine kj_bipush X (n := 116) dX13_readsS_84 rfl ?_
      obtain ⟨q28, h29, hf⟩ := knBd_inv hf
      refine kj_callV (As := [knV 116]) (rest := []) X K (kcX13_reads l (show knC (116) from ⟨by omega, by omega⟩) h29) knWvX13_reads (knGm 2085 (by decide +kernel) rfl) (by decide) (knKd_in kdc_142 (by decide)) (knEnt_10 kdc_142) rfl rfl rfl (Nat.le_of_ble_eq_true rfl) (by decide) dX13_readsS_86 rfl (fun h30 => ?_)
      refine kj_if_eq X (tgt := 123) dX13_readsS_89 (by decide) (knZ_c h30) (fun h31 => ?_) (fun h31 => ?_)
      · replace hf := knIp hf h31
        refine kj_sub (L' := []) [] rfl ?_
        exact j25 _ hf
      · replace hf := knIq hf h31
        refine kj_aloadn X 0 dX13_readsS_92 rfl ?_
        refine kj_bipush X (n := 116) dX13_readsS_93 rfl ?_
        obtain ⟨q32, h33, hf⟩ := knBd_inv hf
        refine kj_callV (As := [knV 116]) (rest := []) X K (kcX13_reads l (show knC (116) from ⟨by omega, by omega⟩) h33) knWvX13_reads (knGm 2085 (by decide +kernel) rfl) (by decide) (knKd_in kdc_142 (by decide)) (knEnt_10 kdc_142) rfl rfl rfl (Nat.le_of_ble_eq_true rfl) (by decide) dX13_readsS_95 rfl (fun h34 => ?_)
        refine kj_if_eq X (tgt := 123) dX13_readsS_98 (by decide) (knZ_c h34) (fun h35 => ?_) (fun h35 => ?_)
        · replace hf := knIp hf h35
          refine kj_sub (L' := []) [] rfl ?_
          exact j25 _ hf
        · replace hf := knIq hf h35
          refine kj_aloadn X 0 dX13_readsS_101 rfl ?_
          refine kj_bipush X (n := 108) dX13_readsS_102 rfl ?_
          obtain ⟨q36, h37, hf⟩ := knBd_inv hf
          refine kj_callV (As := [knV 108]) (rest := []) X K (kcX13_reads l (show knC (108) from ⟨by omega, by omega⟩) h37) knWvX13_reads (knGm 2085 (by decide +kernel) rfl) (by decide) (knKd_in kdc_142 (by decide)) (knEnt_10 kdc_142) rfl rfl rfl (Nat.le_of_ble_eq_true rfl) (by decide) dX13_readsS_104 rfl (fun h38 => ?_)
          refine kj_if_eq X (tgt := 123) dX13_readsS_107 (by decide) (knZ_c h38) (fun h39 => ?_) (fun h39 => ?_)
          · replace hf := knIp hf h39
            refine kj_sub (L' := []) [] rfl ?_
            exact j25 _ hf
          · replace hf := knIq hf h39
            refine kj_aloadn X 0 dX13_readsS_110 rfl ?_
            refine kj_bipush X (n := 101) dX13_readsS_111 rfl ?_
            obtain ⟨q40, h41, hf⟩ := knBd_inv hf
            refine kj_callV (As := [knV 101]) (rest := []) X K (kcX13_reads l (show knC (101) from ⟨by omega, by omega⟩) h41) knWvX13_reads (knGm 2085 (by decide +kernel) rfl) (by decide) (knKd_in kdc_142 (by decide)) (knEnt_10 kdc_142) rfl rfl rfl (Nat.le_of_ble_eq_true rfl) (by decide) dX13_readsS_113 rfl (fun h42 => ?_)
            refine kj_if_eq X (tgt := 123) dX13_readsS_116 (by decide) (knZ_c h42) (fun h43 => ?_) (fun h43 => ?_)
            · replace hf := knIp hf h43
              refine kj_sub (L' := []) [] rfl ?_
              exact j25 _ hf
            · replace hf := knIq hf h43
              refine kj_iconst X dX13_readsS_119 ?_
              refine kj_goto X (tgt := 124) dX13_readsS_120 (by decide) ?_
              cases hf
              exact kj_zret X (Or.inr rfl) hr (kn_nb (Or.inr rfl)) dX13_readsS_124 hlk
  · replace hf := knIq hf h4
    refine kj_aloadn X 0 dX13_readsS_9 rfl ?_
    refine kj_bipush X (n := 105) dX13_readsS_10 rfl ?_
    obtain ⟨q44, h45, hf⟩ := knBd_inv hf
    refine kj_callV (As := [knV 105]) (rest := []) X K (kcX13_reads l (show knC (105) from ⟨by omega, by omega⟩) h45) knWvX13_reads (knGm 2085 (by decide +kernel) rfl) (by decide) (knKd_in kdc_142 (by decide)) (knEnt_10 kdc_142) rfl rfl rfl (Nat.le_of_ble_eq_true rfl) (by decide) dX13_readsS_12 rfl (fun h46 => ?_)
    have j68 : ∀ (m68 : knMem), (fun q68 =>
     some (0, q68)) m68 = some q → knJ G p l e { frames := 2, cells := 0, slots := 0, locals := 43 } s m args below meth c 1 0 0 (MQ below (knPo G (knZ q.1) (some (knV q.1)) q.2) args s 0 0 (knA G)) 66 [] [] m68 := by
      intro m68
      intro hf
      refine kj_iconst X dX13_readsS_66 ?_
      cases hf
      exact kj_zret X (Or.inl rfl) hr (kn_nb (Or.inl rfl)) dX13_readsS_67 hlk
    refine kj_if_eq X (tgt := 66) dX13_readsS_15 (by decide) (knZ_c h46) (fun h70 => ?_) (fun h70 => ?_)
    · replace hf := knIp hf h70
      refine kj_sub (L' := []) [] rfl ?_
      exact j68 _ hf
    · replace hf := knIq hf h70
      refine kj_aloadn X 0 dX13_readsS_18 rfl ?_
      refine kj_bipush X (n := 116) dX13_readsS_19 rfl ?_
      obtain ⟨q71, h72, hf⟩ := knBd_inv hf
      refine kj_callV (As := [knV 116]) (rest := []) X K (kcX13_reads l (show knC (116) from ⟨by omega, by omega⟩) h72) knWvX13_reads (knGm 2085 (by decide +kernel) rfl) (by decide) (knKd_in kdc_142 (by decide)) (knEnt_10 kdc_142) rfl rfl rfl (Nat.le_of_ble_eq_true rfl) (by decide) dX13_readsS_21 rfl (fun h73 => ?_)
      refine kj_if_eq X (tgt := 66) dX13_readsS_24 (by decide) (knZ_c h73) (fun h74 => ?_) (fun h74 => ?_)
      · replace hf := knIp hf h74
        refine kj_sub (L' := []) [] rfl ?_
        exact j68 _ hf
      · replace hf := knIq hf h74
        refine kj_aloadn X 0 dX13_readsS_27 rfl ?_
        refine kj_bipush X (n := 99) dX13_readsS_28 rfl ?_
        obtain ⟨q75, h76, hf⟩ := knBd_inv hf
        refine kj_callV (As := [knV 99]) (rest := []) X K (kcX13_reads l (show knC (99) from ⟨by omega, by omega⟩) h76) knWvX13_reads (knGm 2085 (by decide +kernel) rfl) (by decide) (knKd_in kdc_142 (by decide)) (knEnt_10 kdc_142) rfl rfl rfl (Nat.le_of_ble_eq_true rfl) (by decide) dX13_readsS_30 rfl (fun h77 => ?_)
        refine kj_if_eq X (tgt := 66) dX13_readsS_33 (by decide) (knZ_c h77) (fun h78 => ?_) (fun h78 => ?_)
        · replace hf := knIp hf h78
          refine kj_sub (L' := []) [] rfl ?_
          exact j68 _ hf
        · replace hf := knIq hf h78
          refine kj_aloadn X 0 dX13_readsS_36 rfl ?_
          refine kj_bipush X (n := 104) dX13_readsS_37 rfl ?_
          obtain ⟨q79, h80, hf⟩ := knBd_inv hf
          refine kj_callV (As := [knV 104]) (rest := []) X K (kcX13_reads l (show knC (104) from ⟨by omega, by omega⟩) h80) knWvX13_reads (knGm 2085 (by decide +kernel) rfl) (by decide) (knKd_in kdc_142 (by decide)) (knEnt_10 kdc_142) rfl rfl rfl (Nat.le_of_ble_eq_true rfl) (by decide) dX13_readsS_39 rfl (fun h81 => ?_)
          refine kj_if_eq X (tgt := 66) dX13_readsS_42 (by decide) (knZ_c h81) (fun h82 => ?_) (fun h82 => ?_)
          · replace hf := knIp hf h82
            refine kj_sub (L' := []) [] rfl ?_
            exact j68 _ hf
          · replace hf := knIq hf h82
            refine kj_aloadn X 0 dX13_readsS_45 rfl ?_
            refine kj_bipush X (n := 32) dX13_readsS_46 rfl ?_
            obtain ⟨q83, h84, hf⟩ := knBd_inv hf
            refine kj_callV (As := [knV 32]) (rest := []) X K (kcX13_reads l (show knC (32) from ⟨by omega, by omega⟩) h84) knWvX13_reads (knGm 2085 (by decide +kernel) rfl) (by decide) (knKd_in kdc_142 (by decide)) (knEnt_10 kdc_142) rfl rfl rfl (Nat.le_of_ble_eq_true rfl) (by decide) dX13_readsS_48 rfl (fun h85 => ?_)
            refine kj_if_eq X (tgt := 66) dX13_readsS_51 (by decide) (knZ_c h85) (fun h86 => ?_) (fun h86 => ?_)
            · replace hf := knIp hf h86
              refine kj_sub (L' := []) [] rfl ?_
              exact j68 _ hf
            · replace hf := knIq hf h86
              refine kj_aloadn X 0 dX13_readsS_54 rfl ?_
              refine kj_iconst X dX13_readsS_55 ?_
              obtain ⟨q87, h88, hf⟩ := knBd_inv hf
              refine kj_callV (As := [knV 0]) (rest := []) X K (kcX13_readsDigit l (show knC (0) from ⟨by omega, by omega⟩) h88) knWvX13_readsDigit (knGm 2093 (by decide +kernel) rfl) (by decide) (knKd_in kdc_142 (by decide)) (knEnt_10 kdc_142) rfl rfl rfl (Nat.le_of_ble_eq_true rfl) (by decide) dX13_readsS_56 rfl (fun h89 => ?_)
              refine kj_if_eq X (tgt := 66) dX13_readsS_59 (by decide) (knZ_c h89) (fun h90 => ?_) (fun h90 => ?_)
              · replace hf := knIp hf h90
                refine kj_sub (L' := []) [] rfl ?_
                exact j68 _ hf
              · replace hf := knIq hf h90
                refine kj_iconst X dX13_readsS_62 ?_
                refine kj_goto X (tgt := 67) dX13_readsS_63 (by decide) ?_
                cases hf
                exact kj_zret X (Or.inr rfl) hr (kn_nb (Or.inr rfl)) dX13_readsS_67 hlk

def kfX13_readsR  (μ : knMem) : Option (Int × knMem) :=
 Option.bind (kfX13_reads 101 μ) (fun q1 =>
  if q1.1 = 0 then
   some (0, q1.2)
  else
   Option.bind (kfX13_reads 118 q1.2) (fun q5 =>
    if q5.1 = 0 then
     Option.bind (kfX13_reads 100 (knUp q5.2 142 26 100)) (fun q9 =>
      (fun (k25 : (knMem) → Option (Int × knMem)) =>
       if q9.1 = 0 then
        k25 q9.2
       else
        Option.bind (kfX13_reads 117 q9.2) (fun q28 =>
         if q28.1 = 0 then
          k25 q28.2
         else
          Option.bind (kfX13_reads 99 q28.2) (fun q32 =>
           if q32.1 = 0 then
            k25 q32.2
           else
            Option.bind (kfX13_reads 101 q32.2) (fun q36 =>
             if q36.1 = 0 then
              k25 q36.2
             else
              some (1, q36.2)))))
       (fun q25 =>
       some (0, q25)))
    else
     Option.bind (kfX13_reads 101 q5.2) (fun q40 =>
      (fun (k56 : (knMem) → Option (Int × knMem)) =>
       if q40.1 = 0 then
        k56 q40.2
       else
        Option.bind (kfX13_reads 114 q40.2) (fun q59 =>
         if q59.1 = 0 then
          k56 q59.2
         else
          Option.bind (kfX13_reads 115 q59.2) (fun q63 =>
           if q63.1 = 0 then
            k56 q63.2
           else
            Option.bind (kfX13_reads 101 q63.2) (fun q67 =>
             if q67.1 = 0 then
              k56 q67.2
             else
              some (1, q67.2)))))
       (fun q56 =>
       some (0, q56)))))

theorem knWvX13_readsR : knWv yX13_readsR cX13_readsR 1 (some .boolean) 0 := ⟨(knGm 2116 (by decide +kernel) rfl), (knGm 124 (by decide +kernel) rfl), (knGm 2115 (by decide +kernel) rfl), (knGm 108 (by decide +kernel) rfl), by decide +kernel, by decide +kernel, by decide +kernel⟩
set_option maxHeartbeats 4000000 in
set_option maxRecDepth 100000 in
theorem kcX13_readsR {G : knGT} (l : Launch)   {μ : knMem} {q : Int × knMem} (hf : kfX13_readsR  μ = some q) : knC0 G l yX13_readsR cX13_readsR 1 (some .boolean) 2 41 [knO G 142] μ (knZ q.1) (some (knV q.1)) q.2 := by
  unfold kfX13_readsR at hf
  refine kn_ofJ (plainFor_of_name (by decide)) (Nat.le_of_ble_eq_true rfl) (L := [(0, knO G 142)]) rfl ?_
  intro p e s m args below meth c X K hr hlk
  refine kj_aloadn X 0 dX13_readsR_0 rfl ?_
  refine kj_bipush X (n := 101) dX13_readsR_1 rfl ?_
  obtain ⟨q1, h2, hf⟩ := knBd_inv hf
  refine kj_callV (As := [knV 101]) (rest := []) X K (kcX13_reads l (show knC (101) from ⟨by omega, by omega⟩) h2) knWvX13_reads (knGm 2085 (by decide +kernel) rfl) (by decide) (knKd_in kdc_142 (by decide)) (knEnt_10 kdc_142) rfl rfl rfl (Nat.le_of_ble_eq_true rfl) (by decide) dX13_readsR_3 rfl (fun h3 => ?_)
  refine kj_if_ne X (tgt := 11) dX13_readsR_6 (by decide) (knZ_c h3) (fun h4 => ?_) (fun h4 => ?_)
  · replace hf := knIq hf h4
    refine kj_aloadn X 0 dX13_readsR_11 rfl ?_
    refine kj_bipush X (n := 118) dX13_readsR_12 rfl ?_
    obtain ⟨q5, h6, hf⟩ := knBd_inv hf
    refine kj_callV (As := [knV 118]) (rest := []) X K (kcX13_reads l (show knC (118) from ⟨by omega, by omega⟩) h6) knWvX13_reads (knGm 2085 (by decide +kernel) rfl) (by decide) (knKd_in kdc_142 (by decide)) (knEnt_10 kdc_142) rfl rfl rfl (Nat.le_of_ble_eq_true rfl) (by decide) dX13_readsR_14 rfl (fun h7 => ?_)
    refine kj_if_eq X (tgt := 62) dX13_readsR_17 (by decide) (knZ_c h7) (fun h8 => ?_) (fun h8 => ?_)
    · replace hf := knIp hf h8
      refine kj_aloadn X 0 dX13_readsR_62 rfl ?_
      refine kj_bipush X (n := 100) dX13_readsR_63 rfl ?_
      refine kj_putf (k := 26) (ki := 26) (x := 100) (ty := .int) X K rfl (knKd_in kdc_142 (by decide)) (knEnt_10 kdc_142) rfl (by decide) knInX13 tyX13_ok nmX13 (knGm 1530 (by decide +kernel) rfl) rfl rfl (by decide +kernel) rfl rfl (by simp) (by rw [knEnt_10 kdc_142, knUp_row]; rfl) (fun _ => (show knC (100) from ⟨by omega, by omega⟩)) (fun h => by rw [kdc_142] at h; cases h) (fun h => by rw [kdc_142] at h; cases h) dX13_readsR_65 ?_
      refine kj_aloadn X 0 dX13_readsR_68 rfl ?_
      refine kj_bipush X (n := 100) dX13_readsR_69 rfl ?_
      obtain ⟨q9, h10, hf⟩ := knBd_inv hf
      refine kj_callV (As := [knV 100]) (rest := []) X K (kcX13_reads l (show knC (100) from ⟨by omega, by omega⟩) h10) knWvX13_reads (knGm 2085 (by decide +kernel) rfl) (by decide) (knKd_in kdc_142 (by decide)) (knEnt_10 kdc_142) rfl rfl rfl (Nat.le_of_ble_eq_true rfl) (by decide) dX13_readsR_71 rfl (fun h11 => ?_)
      have j25 : ∀ (m25 : knMem), (fun q25 =>
       some (0, q25)) m25 = some q → knJ G p l e { frames := 2, cells := 0, slots := 0, locals := 41 } s m args below meth c 1 0 0 (MQ below (knPo G (knZ q.1) (some (knV q.1)) q.2) args s 0 0 (knA G)) 108 [] [] m25 := by
        intro m25
        intro hf
        refine kj_iconst X dX13_readsR_108 ?_
        cases hf
        exact kj_zret X (Or.inl rfl) hr (kn_nb (Or.inl rfl)) dX13_readsR_109 hlk
      refine kj_if_eq X (tgt := 108) dX13_readsR_74 (by decide) (knZ_c h11) (fun h27 => ?_) (fun h27 => ?_)
      · replace hf := knIp hf h27
        refine kj_sub (L' := []) [] rfl ?_
        exact j25 _ hf
      · replace hf := knIq hf h27
        refine kj_aloadn X 0 dX13_readsR_77 rfl ?_
        refine kj_bipush X (n := 117) dX13_readsR_78 rfl ?_
        obtain ⟨q28, h29, hf⟩ := knBd_inv hf
        refine kj_callV (As := [knV 117]) (rest := []) X K (kcX13_reads l (show knC (117) from ⟨by omega, by omega⟩) h29) knWvX13_reads (knGm 2085 (by decide +kernel) rfl) (by decide) (knKd_in kdc_142 (by decide)) (knEnt_10 kdc_142) rfl rfl rfl (Nat.le_of_ble_eq_true rfl) (by decide) dX13_readsR_80 rfl (fun h30 => ?_)
        refine kj_if_eq X (tgt := 108) dX13_readsR_83 (by decide) (knZ_c h30) (fun h31 => ?_) (fun h31 => ?_)
        · replace hf := knIp hf h31
          refine kj_sub (L' := []) [] rfl ?_
          exact j25 _ hf
        · replace hf := knIq hf h31
          refine kj_aloadn X 0 dX13_readsR_86 rfl ?_
          refine kj_bipush X (n := 99) dX13_readsR_87 rfl ?_
          obtain ⟨q32, h33, hf⟩ := knBd_inv hf
          refine kj_callV (As := [knV 99]) (rest := []) X K (kcX13_reads l (show knC (99) from ⟨by omega, by omega⟩) h33) knWvX13_reads (knGm 2085 (by decide +kernel) rfl) (by decide) (knKd_in kdc_142 (by decide)) (knEnt_10 kdc_142) rfl rfl rfl (Nat.le_of_ble_eq_true rfl) (by decide) dX13_readsR_89 rfl (fun h34 => ?_)
          refine kj_if_eq X (tgt := 108) dX13_readsR_92 (by decide) (knZ_c h34) (fun h35 => ?_) (fun h35 => ?_)
          · replace hf := knIp hf h35
            refine kj_sub (L' := []) [] rfl ?_
            exact j25 _ hf
          · replace hf := knIq hf h35
            refine kj_aloadn X 0 dX13_readsR_95 rfl ?_
            refine kj_bipush X (n := 101) dX13_readsR_96 rfl ?_
            obtain ⟨q36, h37, hf⟩ := knBd_inv hf
            refine kj_callV (As := [knV 101]) (rest := []) X K (kcX13_reads l (show knC (101) from ⟨by omega, by omega⟩) h37) knWvX13_reads (knGm 2085 (by decide +kernel) rfl) (by decide) (knKd_in kdc_142 (by decide)) (knEnt_10 kdc_142) rfl rfl rfl (Nat.le_of_ble_eq_true rfl) (by decide) dX13_readsR_98 rfl (fun h38 => ?_)
            refine kj_if_eq X (tgt := 108) dX13_readsR_101 (by decide) (knZ_c h38) (fun h39 => ?_) (fun h39 => ?_)
            · replace hf := knIp hf h39
              refine kj_sub (L' := []) [] rfl ?_
              exact j25 _ hf
            · replace hf := knIq hf h39
              refine kj_iconst X dX13_readsR_104 ?_
              refine kj_goto X (tgt := 109) dX13_readsR_105 (by decide) ?_
              cases hf
              exact kj_zret X (Or.inr rfl) hr (kn_nb (Or.inr rfl)) dX13_readsR_109 hlk
    · replace hf := knIq hf h8
      refine kj_aloadn X 0 dX13_readsR_20 rfl ?_
      refine kj_bipush X (n := 101) dX13_readsR_21 rfl ?_
      obtain ⟨q40, h41, hf⟩ := knBd_inv hf
      refine kj_callV (As := [knV 101]) (rest := []) X K (kcX13_reads l (show knC (101) from ⟨by omega, by omega⟩) h41) knWvX13_reads (knGm 2085 (by decide +kernel) rfl) (by decide) (knKd_in kdc_142 (by decide)) (knEnt_10 kdc_142) rfl rfl rfl (Nat.le_of_ble_eq_true rfl) (by decide) dX13_readsR_23 rfl (fun h42 => ?_)
      have j56 : ∀ (m56 : knMem), (fun q56 =>
       some (0, q56)) m56 = some q → knJ G p l e { frames := 2, cells := 0, slots := 0, locals := 41 } s m args below meth c 1 0 0 (MQ below (knPo G (knZ q.1) (some (knV q.1)) q.2) args s 0 0 (knA G)) 60 [] [] m56 := by
        intro m56
        intro hf
        refine kj_iconst X dX13_readsR_60 ?_
        cases hf
        exact kj_zret X (Or.inl rfl) hr (kn_nb (Or.inl rfl)) dX13_readsR_61 hlk
      refine kj_if_eq X (tgt := 60) dX13_readsR_26 (by decide) (knZ_c h42) (fun h58 => ?_) (fun h58 => ?_)
      · replace hf := knIp hf h58
        refine kj_sub (L' := []) [] rfl ?_
        exact j56 _ hf
      · replace hf := knIq hf h58
        refine kj_aloadn X 0 dX13_readsR_29 rfl ?_
        refine kj_bipush X (n := 114) dX13_readsR_30 rfl ?_
        obtain ⟨q59, h60, hf⟩ := knBd_inv hf
        refine kj_callV (As := [knV 114]) (rest := []) X K (kcX13_reads l (show knC (114) from ⟨by omega, by omega⟩) h60) knWvX13_reads (knGm 2085 (by decide +kernel) rfl) (by decide) (knKd_in kdc_142 (by decide)) (knEnt_10 kdc_142) rfl rfl rfl (Nat.le_of_ble_eq_true rfl) (by decide) dX13_readsR_32 rfl (fun h61 => ?_)
        refine kj_if_eq X (tgt := 60) dX13_readsR_35 (by decide) (knZ_c h61) (fun h62 => ?_) (fun h62 => ?_)
        · replace hf := knIp hf h62
          refine kj_sub (L' := []) [] rfl ?_
          exact j56 _ hf
        · replace hf := knIq hf h62
          refine kj_aloadn X 0 dX13_readsR_38 rfl ?_
          refine kj_bipush X (n := 115) dX13_readsR_39 rfl ?_
          obtain ⟨q63, h64, hf⟩ := knBd_inv hf
          refine kj_callV (As := [knV 115]) (rest := []) X K (kcX13_reads l (show knC (115) from ⟨by omega, by omega⟩) h64) knWvX13_reads (knGm 2085 (by decide +kernel) rfl) (by decide) (knKd_in kdc_142 (by decide)) (knEnt_10 kdc_142) rfl rfl rfl (Nat.le_of_ble_eq_true rfl) (by decide) dX13_readsR_41 rfl (fun h65 => ?_)
          refine kj_if_eq X (tgt := 60) dX13_readsR_44 (by decide) (knZ_c h65) (fun h66 => ?_) (fun h66 => ?_)
          · replace hf := knIp hf h66
            refine kj_sub (L' := []) [] rfl ?_
            exact j56 _ hf
          · replace hf := knIq hf h66
            refine kj_aloadn X 0 dX13_readsR_47 rfl ?_
            refine kj_bipush X (n := 101) dX13_readsR_48 rfl ?_
            obtain ⟨q67, h68, hf⟩ := knBd_inv hf
            refine kj_callV (As := [knV 101]) (rest := []) X K (kcX13_reads l (show knC (101) from ⟨by omega, by omega⟩) h68) knWvX13_reads (knGm 2085 (by decide +kernel) rfl) (by decide) (knKd_in kdc_142 (by decide)) (knEnt_10 kdc_142) rfl rfl rfl (Nat.le_of_ble_eq_true rfl) (by decide) dX13_readsR_50 rfl (fun h69 => ?_)
            refine kj_if_eq X (tgt := 60) dX13_readsR_53 (by decide) (knZ_c h69) (fun h70 => ?_) (fun h70 => ?_)
            · replace hf := knIp hf h70
              refine kj_sub (L' := []) [] rfl ?_
              exact j56 _ hf
            · replace hf := knIq hf h70
              refine kj_iconst X dX13_readsR_56 ?_
              refine kj_goto X (tgt := 61) dX13_readsR_57 (by decide) ?_
              cases hf
              exact kj_zret X (Or.inr rfl) hr (kn_nb (Or.inr rfl)) dX13_readsR_61 hlk
  · replace hf := knIp hf h4
    refine kj_iconst X dX13_readsR_9 ?_
    cases hf
    exact kj_zret X (Or.inl rfl) hr (kn_nb (Or.inl rfl)) dX13_readsR_10 hlk

def kfX13_readsCommand  (μ : knMem) : Option (Int × knMem) :=
 Option.bind (kfX13_nextChar  μ) (fun q1 =>
  Option.bind (kfX13_reads 99 (knUp μ 142 26 q1)) (fun q4 =>
   if q4.1 = 0 then
    Option.bind (kfX13_reads 117 q4.2) (fun q8 =>
     if q8.1 = 0 then
      Option.bind (kfX13_reads 112 q8.2) (fun q12 =>
       if q12.1 = 0 then
        Option.bind (kfX13_reads 115 q12.2) (fun q16 =>
         if q16.1 = 0 then
          Option.bind (kfX13_reads 109 q16.2) (fun q20 =>
           if q20.1 = 0 then
            Option.bind (kfX13_reads 114 q20.2) (fun q24 =>
             if q24.1 = 0 then
              Option.bind (kfX13_reads 116 q24.2) (fun q28 =>
               if q28.1 = 0 then
                Option.bind (kfX13_reads 98 q28.2) (fun q32 =>
                 (fun (k79 : (knMem) → Option (Int × knMem)) =>
                  if q32.1 = 0 then
                   k79 q32.2
                  else
                   Option.bind (kfX13_reads 101 q32.2) (fun q82 =>
                    if q82.1 = 0 then
                     k79 q82.2
                    else
                     Option.bind (kfX13_reads 116 q82.2) (fun q86 =>
                      if q86.1 = 0 then
                       k79 q86.2
                      else
                       Option.bind (kfX13_reads 32 q86.2) (fun q90 =>
                        if q90.1 = 0 then
                         k79 q90.2
                        else
                         Option.bind (kfX13_readsDigit 0 q90.2) (fun q94 =>
                          if q94.1 = 0 then
                           k79 q94.2
                          else
                           Option.bind (kfX13_reads 32 q94.2) (fun q98 =>
                            if q98.1 = 0 then
                             k79 q98.2
                            else
                             Option.bind (kfX13_readsDigit 1 q98.2) (fun q102 =>
                              (fun (k114 : (knMem) → Option (Int × knMem)) =>
                               if q102.1 = 0 then
                                k114 q102.2
                               else
                                Option.bind (kfX13_reads 58 q102.2) (fun q117 =>
                                 if q117.1 = 0 then
                                  k114 q117.2
                                 else
                                  Option.bind (kfX13_readsNumber 2 q117.2) (fun q121 =>
                                   if q121.1 = 0 then
                                    k114 q121.2
                                   else
                                    some (1, q121.2))))
                               (fun q114 =>
                               some (0, q114)))))))))
                  (fun q79 =>
                  some (0, q79)))
               else
                Option.bind (kfX13_reads 117 q28.2) (fun q125 =>
                 (fun (k145 : (knMem) → Option (Int × knMem)) =>
                  if q125.1 = 0 then
                   k145 q125.2
                  else
                   Option.bind (kfX13_reads 114 q125.2) (fun q148 =>
                    if q148.1 = 0 then
                     k145 q148.2
                    else
                     Option.bind (kfX13_reads 110 q148.2) (fun q152 =>
                      if q152.1 = 0 then
                       k145 q152.2
                      else
                       Option.bind (kfX13_reads 32 q152.2) (fun q156 =>
                        if q156.1 = 0 then
                         k145 q156.2
                        else
                         Option.bind (kfX13_readsNumber 0 q156.2) (fun q160 =>
                          if q160.1 = 0 then
                           k145 q160.2
                          else
                           some (1, q160.2))))))
                  (fun q145 =>
                  some (0, q145))))
             else
              Option.bind (kfX13_readsR  q24.2) (fun q164 =>
               some (q164.1, q164.2)))
           else
            Option.bind (kfX13_reads 105 q20.2) (fun q167 =>
             (fun (k187 : (knMem) → Option (Int × knMem)) =>
              if q167.1 = 0 then
               k187 q167.2
              else
               Option.bind (kfX13_reads 114 q167.2) (fun q190 =>
                if q190.1 = 0 then
                 k187 q190.2
                else
                 Option.bind (kfX13_reads 114 q190.2) (fun q194 =>
                  if q194.1 = 0 then
                   k187 q194.2
                  else
                   Option.bind (kfX13_reads 111 q194.2) (fun q198 =>
                    if q198.1 = 0 then
                     k187 q198.2
                    else
                     Option.bind (kfX13_reads 114 q198.2) (fun q202 =>
                      if q202.1 = 0 then
                       k187 q202.2
                      else
                       some (1, q202.2))))))
              (fun q187 =>
              some (0, q187))))
         else
          Option.bind (kfX13_readsS  q16.2) (fun q206 =>
           some (q206.1, q206.2)))
       else
        Option.bind (kfX13_readsP  q12.2) (fun q209 =>
         some (q209.1, q209.2)))
     else
      Option.bind (kfX13_readsU  q8.2) (fun q212 =>
       some (q212.1, q212.2)))
   else
    Option.bind (kfX13_reads 117 q4.2) (fun q215 =>
     (fun (k243 : (knMem) → Option (Int × knMem)) =>
      if q215.1 = 0 then
       k243 q215.2
      else
       Option.bind (kfX13_reads 114 q215.2) (fun q246 =>
        if q246.1 = 0 then
         k243 q246.2
        else
         Option.bind (kfX13_reads 108 q246.2) (fun q250 =>
          if q250.1 = 0 then
           k243 q250.2
          else
           Option.bind (kfX13_reads 32 q250.2) (fun q254 =>
            if q254.1 = 0 then
             k243 q254.2
            else
             Option.bind (kfX13_readsNumber 0 q254.2) (fun q258 =>
              if q258.1 = 0 then
               k243 q258.2
              else
               Option.bind (kfX13_readsOne 1 43 45 q258.2) (fun q262 =>
                if q262.1 = 0 then
                 k243 q262.2
                else
                 Option.bind (kfX13_readsOne 2 111 117 q262.2) (fun q266 =>
                  if q266.1 = 0 then
                   k243 q266.2
                  else
                   some (1, q266.2))))))))
      (fun q243 =>
      some (0, q243)))))

theorem knWvX13_readsCommand : knWv yX13_readsCommand cX13_readsCommand 1 (some .boolean) 0 := ⟨(knGm 2080 (by decide +kernel) rfl), (knGm 124 (by decide +kernel) rfl), (knGm 2079 (by decide +kernel) rfl), (knGm 99 (by decide +kernel) rfl), by decide +kernel, by decide +kernel, by decide +kernel⟩
set_option maxHeartbeats 4000000 in
set_option maxRecDepth 100000 in
theorem kcX13_readsCommand {G : knGT} (l : Launch)   {μ : knMem} {q : Int × knMem} (hf : kfX13_readsCommand  μ = some q) : knC0 G l yX13_readsCommand cX13_readsCommand 1 (some .boolean) 4 84 [knO G 142] μ (knZ q.1) (some (knV q.1)) q.2 := by
  unfold kfX13_readsCommand at hf
  refine kn_ofJ (plainFor_of_name (by decide)) (Nat.le_of_ble_eq_true rfl) (L := [(0, knO G 142)]) rfl ?_
  intro p e s m args below meth c X K hr hlk
  refine kj_aloadn X 0 dX13_readsCommand_0 rfl ?_
  refine kj_aloadn X 0 dX13_readsCommand_1 rfl ?_
  obtain ⟨q1, h2, hf⟩ := knBd_inv hf
  refine kj_callV (As := []) (rest := [knO G 142]) X K (kcX13_nextChar l  h2) knWvX13_nextChar (knGm 2081 (by decide +kernel) rfl) (by decide) (knKd_in kdc_142 (by decide)) (knEnt_10 kdc_142) rfl rfl rfl (Nat.le_of_ble_eq_true rfl) (by decide) dX13_readsCommand_2 rfl (fun h3 => ?_)
  refine kj_putf (k := 26) (ki := 26) (x := q1) (ty := .int) X K rfl (knKd_in kdc_142 (by decide)) (knEnt_10 kdc_142) rfl (by decide) knInX13 tyX13_ok nmX13 (knGm 1530 (by decide +kernel) rfl) rfl rfl (by decide +kernel) rfl rfl (by simp) (by rw [knEnt_10 kdc_142, knUp_row]; rfl) (fun _ => h3) (fun h => by rw [kdc_142] at h; cases h) (fun h => by rw [kdc_142] at h; cases h) dX13_readsCommand_5 ?_
  refine kj_aloadn X 0 dX13_readsCommand_8 rfl ?_
  refine kj_bipush X (n := 99) dX13_readsCommand_9 rfl ?_
  obtain ⟨q4, h5, hf⟩ := knBd_inv hf
  refine kj_callV (As := [knV 99]) (rest := []) X K (kcX13_reads l (show knC (99) from ⟨by omega, by omega⟩) h5) knWvX13_reads (knGm 2085 (by decide +kernel) rfl) (by decide) (knKd_in kdc_142 (by decide)) (knEnt_10 kdc_142) rfl rfl rfl (Nat.le_of_ble_eq_true rfl) (by decide) dX13_readsCommand_11 rfl (fun h6 => ?_)
  refine kj_if_eq X (tgt := 91) dX13_readsCommand_14 (by decide) (knZ_c h6) (fun h7 => ?_) (fun h7 => ?_)
  · replace hf := knIp hf h7
    refine kj_aloadn X 0 dX13_readsCommand_91 rfl ?_
    refine kj_bipush X (n := 117) dX13_readsCommand_92 rfl ?_
    obtain ⟨q8, h9, hf⟩ := knBd_inv hf
    refine kj_callV (As := [knV 117]) (rest := []) X K (kcX13_reads l (show knC (117) from ⟨by omega, by omega⟩) h9) knWvX13_reads (knGm 2085 (by decide +kernel) rfl) (by decide) (knKd_in kdc_142 (by decide)) (knEnt_10 kdc_142) rfl rfl rfl (Nat.le_of_ble_eq_true rfl) (by decide) dX13_readsCommand_94 rfl (fun h10 => ?_)
    refine kj_if_eq X (tgt := 105) dX13_readsCommand_97 (by decide) (knZ_c h10) (fun h11 => ?_) (fun h11 => ?_)
    · replace hf := knIp hf h11
      refine kj_aloadn X 0 dX13_readsCommand_105 rfl ?_
      refine kj_bipush X (n := 112) dX13_readsCommand_106 rfl ?_
      obtain ⟨q12, h13, hf⟩ := knBd_inv hf
      refine kj_callV (As := [knV 112]) (rest := []) X K (kcX13_reads l (show knC (112) from ⟨by omega, by omega⟩) h13) knWvX13_reads (knGm 2085 (by decide +kernel) rfl) (by decide) (knKd_in kdc_142 (by decide)) (knEnt_10 kdc_142) rfl rfl rfl (Nat.le_of_ble_eq_true rfl) (by decide) dX13_readsCommand_108 rfl (fun h14 => ?_)
      refine kj_if_eq X (tgt := 119) dX13_readsCommand_111 (by decide) (knZ_c h14) (fun h15 => ?_) (fun h15 => ?_)
      · replace hf := knIp hf h15
        refine kj_aloadn X 0 dX13_readsCommand_119 rfl ?_
        refine kj_bipush X (n := 115) dX13_readsCommand_120 rfl ?_
        obtain ⟨q16, h17, hf⟩ := knBd_inv hf
        refine kj_callV (As := [knV 115]) (rest := []) X K (kcX13_reads l (show knC (115) from ⟨by omega, by omega⟩) h17) knWvX13_reads (knGm 2085 (by decide +kernel) rfl) (by decide) (knKd_in kdc_142 (by decide)) (knEnt_10 kdc_142) rfl rfl rfl (Nat.le_of_ble_eq_true rfl) (by decide) dX13_readsCommand_122 rfl (fun h18 => ?_)
        refine kj_if_eq X (tgt := 133) dX13_readsCommand_125 (by decide) (knZ_c h18) (fun h19 => ?_) (fun h19 => ?_)
        · replace hf := knIp hf h19
          refine kj_aloadn X 0 dX13_readsCommand_133 rfl ?_
          refine kj_bipush X (n := 109) dX13_readsCommand_134 rfl ?_
          obtain ⟨q20, h21, hf⟩ := knBd_inv hf
          refine kj_callV (As := [knV 109]) (rest := []) X K (kcX13_reads l (show knC (109) from ⟨by omega, by omega⟩) h21) knWvX13_reads (knGm 2085 (by decide +kernel) rfl) (by decide) (knKd_in kdc_142 (by decide)) (knEnt_10 kdc_142) rfl rfl rfl (Nat.le_of_ble_eq_true rfl) (by decide) dX13_readsCommand_136 rfl (fun h22 => ?_)
          refine kj_if_eq X (tgt := 193) dX13_readsCommand_139 (by decide) (knZ_c h22) (fun h23 => ?_) (fun h23 => ?_)
          · replace hf := knIp hf h23
            refine kj_aloadn X 0 dX13_readsCommand_193 rfl ?_
            refine kj_bipush X (n := 114) dX13_readsCommand_194 rfl ?_
            obtain ⟨q24, h25, hf⟩ := knBd_inv hf
            refine kj_callV (As := [knV 114]) (rest := []) X K (kcX13_reads l (show knC (114) from ⟨by omega, by omega⟩) h25) knWvX13_reads (knGm 2085 (by decide +kernel) rfl) (by decide) (knKd_in kdc_142 (by decide)) (knEnt_10 kdc_142) rfl rfl rfl (Nat.le_of_ble_eq_true rfl) (by decide) dX13_readsCommand_196 rfl (fun h26 => ?_)
            refine kj_if_eq X (tgt := 207) dX13_readsCommand_199 (by decide) (knZ_c h26) (fun h27 => ?_) (fun h27 => ?_)
            · replace hf := knIp hf h27
              refine kj_aloadn X 0 dX13_readsCommand_207 rfl ?_
              refine kj_bipush X (n := 116) dX13_readsCommand_208 rfl ?_
              obtain ⟨q28, h29, hf⟩ := knBd_inv hf
              refine kj_callV (As := [knV 116]) (rest := []) X K (kcX13_reads l (show knC (116) from ⟨by omega, by omega⟩) h29) knWvX13_reads (knGm 2085 (by decide +kernel) rfl) (by decide) (knKd_in kdc_142 (by decide)) (knEnt_10 kdc_142) rfl rfl rfl (Nat.le_of_ble_eq_true rfl) (by decide) dX13_readsCommand_210 rfl (fun h30 => ?_)
              refine kj_if_eq X (tgt := 266) dX13_readsCommand_213 (by decide) (knZ_c h30) (fun h31 => ?_) (fun h31 => ?_)
              · replace hf := knIp hf h31
                refine kj_aloadn X 0 dX13_readsCommand_266 rfl ?_
                refine kj_bipush X (n := 98) dX13_readsCommand_267 rfl ?_
                obtain ⟨q32, h33, hf⟩ := knBd_inv hf
                refine kj_callV (As := [knV 98]) (rest := []) X K (kcX13_reads l (show knC (98) from ⟨by omega, by omega⟩) h33) knWvX13_reads (knGm 2085 (by decide +kernel) rfl) (by decide) (knKd_in kdc_142 (by decide)) (knEnt_10 kdc_142) rfl rfl rfl (Nat.le_of_ble_eq_true rfl) (by decide) dX13_readsCommand_269 rfl (fun h34 => ?_)
                have j79 : ∀ (m79 : knMem), (fun q79 =>
                 some (0, q79)) m79 = some q → knJ G p l e { frames := 4, cells := 0, slots := 0, locals := 84 } s m args below meth c 1 0 0 (MQ below (knPo G (knZ q.1) (some (knV q.1)) q.2) args s 0 0 (knA G)) 319 [] [] m79 := by
                  intro m79
                  intro hf
                  refine kj_iconst X dX13_readsCommand_319 ?_
                  cases hf
                  exact kj_zret X (Or.inl rfl) hr (kn_nb (Or.inl rfl)) dX13_readsCommand_320 hlk
                refine kj_if_eq X (tgt := 319) dX13_readsCommand_272 (by decide) (knZ_c h34) (fun h81 => ?_) (fun h81 => ?_)
                · replace hf := knIp hf h81
                  refine kj_sub (L' := []) [] rfl ?_
                  exact j79 _ hf
                · replace hf := knIq hf h81
                  refine kj_aloadn X 0 dX13_readsCommand_275 rfl ?_
                  refine kj_bipush X (n := 101) dX13_readsCommand_276 rfl ?_
                  obtain ⟨q82, h83, hf⟩ := knBd_inv hf
                  refine kj_callV (As := [knV 101]) (rest := []) X K (kcX13_reads l (show knC (101) from ⟨by omega, by omega⟩) h83) knWvX13_reads (knGm 2085 (by decide +kernel) rfl) (by decide) (knKd_in kdc_142 (by decide)) (knEnt_10 kdc_142) rfl rfl rfl (Nat.le_of_ble_eq_true rfl) (by decide) dX13_readsCommand_278 rfl (fun h84 => ?_)
                  refine kj_if_eq X (tgt := 319) dX13_readsCommand_281 (by decide) (knZ_c h84) (fun h85 => ?_) (fun h85 => ?_)
                  · replace hf := knIp hf h85
                    refine kj_sub (L' := []) [] rfl ?_
                    exact j79 _ hf
                  · replace hf := knIq hf h85
                    refine kj_aloadn X 0 dX13_readsCommand_284 rfl ?_
                    refine kj_bipush X (n := 116) dX13_readsCommand_285 rfl ?_
                    obtain ⟨q86, h87, hf⟩ := knBd_inv hf
                    refine kj_callV (As := [knV 116]) (rest := []) X K (kcX13_reads l (show knC (116) from ⟨by omega, by omega⟩) h87) knWvX13_reads (knGm 2085 (by decide +kernel) rfl) (by decide) (knKd_in kdc_142 (by decide)) (knEnt_10 kdc_142) rfl rfl rfl (Nat.le_of_ble_eq_true rfl) (by decide) dX13_readsCommand_287 rfl (fun h88 => ?_)
                    refine kj_if_eq X (tgt := 319) dX13_readsCommand_290 (by decide) (knZ_c h88) (fun h89 => ?_) (fun h89 => ?_)
                    · replace hf := knIp hf h89
                      refine kj_sub (L' := []) [] rfl ?_
                      exact j79 _ hf
                    · replace hf := knIq hf h89
                      refine kj_aloadn X 0 dX13_readsCommand_293 rfl ?_
                      refine kj_bipush X (n := 32) dX13_readsCommand_294 rfl ?_
                      obtain ⟨q90, h91, hf⟩ := knBd_inv hf
                      refine kj_callV (As := [knV 32]) (rest := []) X K (kcX13_reads l (show knC (32) from ⟨by omega, by omega⟩) h91) knWvX13_reads (knGm 2085 (by decide +kernel) rfl) (by decide) (knKd_in kdc_142 (by decide)) (knEnt_10 kdc_142) rfl rfl rfl (Nat.le_of_ble_eq_true rfl) (by decide) dX13_readsCommand_296 rfl (fun h92 => ?_)
                      refine kj_if_eq X (tgt := 319) dX13_readsCommand_299 (by decide) (knZ_c h92) (fun h93 => ?_) (fun h93 => ?_)
                      · replace hf := knIp hf h93
                        refine kj_sub (L' := []) [] rfl ?_
                        exact j79 _ hf
                      · replace hf := knIq hf h93
                        refine kj_aloadn X 0 dX13_readsCommand_302 rfl ?_
                        refine kj_iconst X dX13_readsCommand_303 ?_
                        obtain ⟨q94, h95, hf⟩ := knBd_inv hf
                        refine kj_callV (As := [knV 0]) (rest := []) X K (kcX13_readsDigit l (show knC (0) from ⟨by omega, by omega⟩) h95) knWvX13_readsDigit (knGm 2093 (by decide +kernel) rfl) (by decide) (knKd_in kdc_142 (by decide)) (knEnt_10 kdc_142) rfl rfl rfl (Nat.le_of_ble_eq_true rfl) (by decide) dX13_readsCommand_304 rfl (fun h96 => ?_)
                        refine kj_if_eq X (tgt := 319) dX13_readsCommand_307 (by decide) (knZ_c h96) (fun h97 => ?_) (fun h97 => ?_)
                        · replace hf := knIp hf h97
                          refine kj_sub (L' := []) [] rfl ?_
                          exact j79 _ hf
                        · replace hf := knIq hf h97
                          refine kj_aloadn X 0 dX13_readsCommand_310 rfl ?_
                          refine kj_bipush X (n := 32) dX13_readsCommand_311 rfl ?_
                          obtain ⟨q98, h99, hf⟩ := knBd_inv hf
                          refine kj_callV (As := [knV 32]) (rest := []) X K (kcX13_reads l (show knC (32) from ⟨by omega, by omega⟩) h99) knWvX13_reads (knGm 2085 (by decide +kernel) rfl) (by decide) (knKd_in kdc_142 (by decide)) (knEnt_10 kdc_142) rfl rfl rfl (Nat.le_of_ble_eq_true rfl) (by decide) dX13_readsCommand_313 rfl (fun h100 => ?_)
                          refine kj_if_ne X (tgt := 321) dX13_readsCommand_316 (by decide) (knZ_c h100) (fun h101 => ?_) (fun h101 => ?_)
                          · replace hf := knIq hf h101
                            refine kj_aloadn X 0 dX13_readsCommand_321 rfl ?_
                            refine kj_iconst X dX13_readsCommand_322 ?_
                            obtain ⟨q102, h103, hf⟩ := knBd_inv hf
                            refine kj_callV (As := [knV 1]) (rest := []) X K (kcX13_readsDigit l (show knC (1) from ⟨by omega, by omega⟩) h103) knWvX13_readsDigit (knGm 2093 (by decide +kernel) rfl) (by decide) (knKd_in kdc_142 (by decide)) (knEnt_10 kdc_142) rfl rfl rfl (Nat.le_of_ble_eq_true rfl) (by decide) dX13_readsCommand_323 rfl (fun h104 => ?_)
                            have j114 : ∀ (m114 : knMem), (fun q114 =>
                             some (0, q114)) m114 = some q → knJ G p l e { frames := 4, cells := 0, slots := 0, locals := 84 } s m args below meth c 1 0 0 (MQ below (knPo G (knZ q.1) (some (knV q.1)) q.2) args s 0 0 (knA G)) 350 [] [] m114 := by
                              intro m114
                              intro hf
                              refine kj_iconst X dX13_readsCommand_350 ?_
                              cases hf
                              exact kj_zret X (Or.inl rfl) hr (kn_nb (Or.inl rfl)) dX13_readsCommand_351 hlk
                            refine kj_if_eq X (tgt := 350) dX13_readsCommand_326 (by decide) (knZ_c h104) (fun h116 => ?_) (fun h116 => ?_)
                            · replace hf := knIp hf h116
                              refine kj_sub (L' := []) [] rfl ?_
                              exact j114 _ hf
                            · replace hf := knIq hf h116
                              refine kj_aloadn X 0 dX13_readsCommand_329 rfl ?_
                              refine kj_bipush X (n := 58) dX13_readsCommand_330 rfl ?_
                              obtain ⟨q117, h118, hf⟩ := knBd_inv hf
                              refine kj_callV (As := [knV 58]) (rest := []) X K (kcX13_reads l (show knC (58) from ⟨by omega, by omega⟩) h118) knWvX13_reads (knGm 2085 (by decide +kernel) rfl) (by decide) (knKd_in kdc_142 (by decide)) (knEnt_10 kdc_142) rfl rfl rfl (Nat.le_of_ble_eq_true rfl) (by decide) dX13_readsCommand_332 rfl (fun h119 => ?_)
                              refine kj_if_eq X (tgt := 350) dX13_readsCommand_335 (by decide) (knZ_c h119) (fun h120 => ?_) (fun h120 => ?_)
                              · replace hf := knIp hf h120
                                refine kj_sub (L' := []) [] rfl ?_
                                exact j114 _ hf
                              · replace hf := knIq hf h120
                                refine kj_aloadn X 0 dX13_readsCommand_338 rfl ?_
                                refine kj_iconst X dX13_readsCommand_339 ?_
                                obtain ⟨q121, h122, hf⟩ := knBd_inv hf
                                refine kj_callV (As := [knV 2]) (rest := []) X K (kcX13_readsNumber l (show knC (2) from ⟨by omega, by omega⟩) h122) knWvX13_readsNumber (knGm 2089 (by decide +kernel) rfl) (by decide) (knKd_in kdc_142 (by decide)) (knEnt_10 kdc_142) rfl rfl rfl (Nat.le_of_ble_eq_true rfl) (by decide) dX13_readsCommand_340 rfl (fun h123 => ?_)
                                refine kj_if_eq X (tgt := 350) dX13_readsCommand_343 (by decide) (knZ_c h123) (fun h124 => ?_) (fun h124 => ?_)
                                · replace hf := knIp hf h124
                                  refine kj_sub (L' := []) [] rfl ?_
                                  exact j114 _ hf
                                · replace hf := knIq hf h124
                                  refine kj_iconst X dX13_readsCommand_346 ?_
                                  refine kj_goto X (tgt := 351) dX13_readsCommand_347 (by decide) ?_
                                  cases hf
                                  exact kj_zret X (Or.inr rfl) hr (kn_nb (Or.inr rfl)) dX13_readsCommand_351 hlk
                          · replace hf := knIp hf h101
                            refine kj_sub (L' := []) [] rfl ?_
                            exact j79 _ hf
              · replace hf := knIq hf h31
                refine kj_aloadn X 0 dX13_readsCommand_216 rfl ?_
                refine kj_bipush X (n := 117) dX13_readsCommand_217 rfl ?_
                obtain ⟨q125, h126, hf⟩ := knBd_inv hf
                refine kj_callV (As := [knV 117]) (rest := []) X K (kcX13_reads l (show knC (117) from ⟨by omega, by omega⟩) h126) knWvX13_reads (knGm 2085 (by decide +kernel) rfl) (by decide) (knKd_in kdc_142 (by decide)) (knEnt_10 kdc_142) rfl rfl rfl (Nat.le_of_ble_eq_true rfl) (by decide) dX13_readsCommand_219 rfl (fun h127 => ?_)
                have j145 : ∀ (m145 : knMem), (fun q145 =>
                 some (0, q145)) m145 = some q → knJ G p l e { frames := 4, cells := 0, slots := 0, locals := 84 } s m args below meth c 1 0 0 (MQ below (knPo G (knZ q.1) (some (knV q.1)) q.2) args s 0 0 (knA G)) 264 [] [] m145 := by
                  intro m145
                  intro hf
                  refine kj_iconst X dX13_readsCommand_264 ?_
                  cases hf
                  exact kj_zret X (Or.inl rfl) hr (kn_nb (Or.inl rfl)) dX13_readsCommand_265 hlk
                refine kj_if_eq X (tgt := 264) dX13_readsCommand_222 (by decide) (knZ_c h127) (fun h147 => ?_) (fun h147 => ?_)
                · replace hf := knIp hf h147
                  refine kj_sub (L' := []) [] rfl ?_
                  exact j145 _ hf
                · replace hf := knIq hf h147
                  refine kj_aloadn X 0 dX13_readsCommand_225 rfl ?_
                  refine kj_bipush X (n := 114) dX13_readsCommand_226 rfl ?_
                  obtain ⟨q148, h149, hf⟩ := knBd_inv hf
                  refine kj_callV (As := [knV 114]) (rest := []) X K (kcX13_reads l (show knC (114) from ⟨by omega, by omega⟩) h149) knWvX13_reads (knGm 2085 (by decide +kernel) rfl) (by decide) (knKd_in kdc_142 (by decide)) (knEnt_10 kdc_142) rfl rfl rfl (Nat.le_of_ble_eq_true rfl) (by decide) dX13_readsCommand_228 rfl (fun h150 => ?_)
                  refine kj_if_eq X (tgt := 264) dX13_readsCommand_231 (by decide) (knZ_c h150) (fun h151 => ?_) (fun h151 => ?_)
                  · replace hf := knIp hf h151
                    refine kj_sub (L' := []) [] rfl ?_
                    exact j145 _ hf
                  · replace hf := knIq hf h151
                    refine kj_aloadn X 0 dX13_readsCommand_234 rfl ?_
                    refine kj_bipush X (n := 110) dX13_readsCommand_235 rfl ?_
                    obtain ⟨q152, h153, hf⟩ := knBd_inv hf
                    refine kj_callV (As := [knV 110]) (rest := []) X K (kcX13_reads l (show knC (110) from ⟨by omega, by omega⟩) h153) knWvX13_reads (knGm 2085 (by decide +kernel) rfl) (by decide) (knKd_in kdc_142 (by decide)) (knEnt_10 kdc_142) rfl rfl rfl (Nat.le_of_ble_eq_true rfl) (by decide) dX13_readsCommand_237 rfl (fun h154 => ?_)
                    refine kj_if_eq X (tgt := 264) dX13_readsCommand_240 (by decide) (knZ_c h154) (fun h155 => ?_) (fun h155 => ?_)
                    · replace hf := knIp hf h155
                      refine kj_sub (L' := []) [] rfl ?_
                      exact j145 _ hf
                    · replace hf := knIq hf h155
                      refine kj_aloadn X 0 dX13_readsCommand_243 rfl ?_
                      refine kj_bipush X (n := 32) dX13_readsCommand_244 rfl ?_
                      obtain ⟨q156, h157, hf⟩ := knBd_inv hf
                      refine kj_callV (As := [knV 32]) (rest := []) X K (kcX13_reads l (show knC (32) from ⟨by omega, by omega⟩) h157) knWvX13_reads (knGm 2085 (by decide +kernel) rfl) (by decide) (knKd_in kdc_142 (by decide)) (knEnt_10 kdc_142) rfl rfl rfl (Nat.le_of_ble_eq_true rfl) (by decide) dX13_readsCommand_246 rfl (fun h158 => ?_)
                      refine kj_if_eq X (tgt := 264) dX13_readsCommand_249 (by decide) (knZ_c h158) (fun h159 => ?_) (fun h159 => ?_)
                      · replace hf := knIp hf h159
                        refine kj_sub (L' := []) [] rfl ?_
                        exact j145 _ hf
                      · replace hf := knIq hf h159
                        refine kj_aloadn X 0 dX13_readsCommand_252 rfl ?_
                        refine kj_iconst X dX13_readsCommand_253 ?_
                        obtain ⟨q160, h161, hf⟩ := knBd_inv hf
                        refine kj_callV (As := [knV 0]) (rest := []) X K (kcX13_readsNumber l (show knC (0) from ⟨by omega, by omega⟩) h161) knWvX13_readsNumber (knGm 2089 (by decide +kernel) rfl) (by decide) (knKd_in kdc_142 (by decide)) (knEnt_10 kdc_142) rfl rfl rfl (Nat.le_of_ble_eq_true rfl) (by decide) dX13_readsCommand_254 rfl (fun h162 => ?_)
                        refine kj_if_eq X (tgt := 264) dX13_readsCommand_257 (by decide) (knZ_c h162) (fun h163 => ?_) (fun h163 => ?_)
                        · replace hf := knIp hf h163
                          refine kj_sub (L' := []) [] rfl ?_
                          exact j145 _ hf
                        · replace hf := knIq hf h163
                          refine kj_iconst X dX13_readsCommand_260 ?_
                          refine kj_goto X (tgt := 265) dX13_readsCommand_261 (by decide) ?_
                          cases hf
                          exact kj_zret X (Or.inr rfl) hr (kn_nb (Or.inr rfl)) dX13_readsCommand_265 hlk
            · replace hf := knIq hf h27
              refine kj_aloadn X 0 dX13_readsCommand_202 rfl ?_
              obtain ⟨q164, h165, hf⟩ := knBd_inv hf
              refine kj_callV (As := []) (rest := []) X K (kcX13_readsR l  h165) knWvX13_readsR (knGm 2113 (by decide +kernel) rfl) (by decide) (knKd_in kdc_142 (by decide)) (knEnt_10 kdc_142) rfl rfl rfl (Nat.le_of_ble_eq_true rfl) (by decide) dX13_readsCommand_203 rfl (fun h166 => ?_)
              cases hf
              exact kj_zret X h166 hr (kn_nb h166) dX13_readsCommand_206 hlk
          · replace hf := knIq hf h23
            refine kj_aloadn X 0 dX13_readsCommand_142 rfl ?_
            refine kj_bipush X (n := 105) dX13_readsCommand_143 rfl ?_
            obtain ⟨q167, h168, hf⟩ := knBd_inv hf
            refine kj_callV (As := [knV 105]) (rest := []) X K (kcX13_reads l (show knC (105) from ⟨by omega, by omega⟩) h168) knWvX13_reads (knGm 2085 (by decide +kernel) rfl) (by decide) (knKd_in kdc_142 (by decide)) (knEnt_10 kdc_142) rfl rfl rfl (Nat.le_of_ble_eq_true rfl) (by decide) dX13_readsCommand_145 rfl (fun h169 => ?_)
            have j187 : ∀ (m187 : knMem), (fun q187 =>
             some (0, q187)) m187 = some q → knJ G p l e { frames := 4, cells := 0, slots := 0, locals := 84 } s m args below meth c 1 0 0 (MQ below (knPo G (knZ q.1) (some (knV q.1)) q.2) args s 0 0 (knA G)) 191 [] [] m187 := by
              intro m187
              intro hf
              refine kj_iconst X dX13_readsCommand_191 ?_
              cases hf
              exact kj_zret X (Or.inl rfl) hr (kn_nb (Or.inl rfl)) dX13_readsCommand_192 hlk
            refine kj_if_eq X (tgt := 191) dX13_readsCommand_148 (by decide) (knZ_c h169) (fun h189 => ?_) (fun h189 => ?_)
            · replace hf := knIp hf h189
              refine kj_sub (L' := []) [] rfl ?_
              exact j187 _ hf
            · replace hf := knIq hf h189
              refine kj_aloadn X 0 dX13_readsCommand_151 rfl ?_
              refine kj_bipush X (n := 114) dX13_readsCommand_152 rfl ?_
              obtain ⟨q190, h191, hf⟩ := knBd_inv hf
              refine kj_callV (As := [knV 114]) (rest := []) X K (kcX13_reads l (show knC (114) from ⟨by omega, by omega⟩) h191) knWvX13_reads (knGm 2085 (by decide +kernel) rfl) (by decide) (knKd_in kdc_142 (by decide)) (knEnt_10 kdc_142) rfl rfl rfl (Nat.le_of_ble_eq_true rfl) (by decide) dX13_readsCommand_154 rfl (fun h192 => ?_)
              refine kj_if_eq X (tgt := 191) dX13_readsCommand_157 (by decide) (knZ_c h192) (fun h193 => ?_) (fun h193 => ?_)
              · replace hf := knIp hf h193
                refine kj_sub (L' := []) [] rfl ?_
                exact j187 _ hf
              · replace hf := knIq hf h193
                refine kj_aloadn X 0 dX13_readsCommand_160 rfl ?_
                refine kj_bipush X (n := 114) dX13_readsCommand_161 rfl ?_
                obtain ⟨q194, h195, hf⟩ := knBd_inv hf
                refine kj_callV (As := [knV 114]) (rest := []) X K (kcX13_reads l (show knC (114) from ⟨by omega, by omega⟩) h195) knWvX13_reads (knGm 2085 (by decide +kernel) rfl) (by decide) (knKd_in kdc_142 (by decide)) (knEnt_10 kdc_142) rfl rfl rfl (Nat.le_of_ble_eq_true rfl) (by decide) dX13_readsCommand_163 rfl (fun h196 => ?_)
                refine kj_if_eq X (tgt := 191) dX13_readsCommand_166 (by decide) (knZ_c h196) (fun h197 => ?_) (fun h197 => ?_)
                · replace hf := knIp hf h197
                  refine kj_sub (L' := []) [] rfl ?_
                  exact j187 _ hf
                · replace hf := knIq hf h197
                  refine kj_aloadn X 0 dX13_readsCommand_169 rfl ?_
                  refine kj_bipush X (n := 111) dX13_readsCommand_170 rfl ?_
                  obtain ⟨q198, h199, hf⟩ := knBd_inv hf
                  refine kj_callV (As := [knV 111]) (rest := []) X K (kcX13_reads l (show knC (111) from ⟨by omega, by omega⟩) h199) knWvX13_reads (knGm 2085 (by decide +kernel) rfl) (by decide) (knKd_in kdc_142 (by decide)) (knEnt_10 kdc_142) rfl rfl rfl (Nat.le_of_ble_eq_true rfl) (by decide) dX13_readsCommand_172 rfl (fun h200 => ?_)
                  refine kj_if_eq X (tgt := 191) dX13_readsCommand_175 (by decide) (knZ_c h200) (fun h201 => ?_) (fun h201 => ?_)
                  · replace hf := knIp hf h201
                    refine kj_sub (L' := []) [] rfl ?_
                    exact j187 _ hf
                  · replace hf := knIq hf h201
                    refine kj_aloadn X 0 dX13_readsCommand_178 rfl ?_
                    refine kj_bipush X (n := 114) dX13_readsCommand_179 rfl ?_
                    obtain ⟨q202, h203, hf⟩ := knBd_inv hf
                    refine kj_callV (As := [knV 114]) (rest := []) X K (kcX13_reads l (show knC (114) from ⟨by omega, by omega⟩) h203) knWvX13_reads (knGm 2085 (by decide +kernel) rfl) (by decide) (knKd_in kdc_142 (by decide)) (knEnt_10 kdc_142) rfl rfl rfl (Nat.le_of_ble_eq_true rfl) (by decide) dX13_readsCommand_181 rfl (fun h204 => ?_)
                    refine kj_if_eq X (tgt := 191) dX13_readsCommand_184 (by decide) (knZ_c h204) (fun h205 => ?_) (fun h205 => ?_)
                    · replace hf := knIp hf h205
                      refine kj_sub (L' := []) [] rfl ?_
                      exact j187 _ hf
                    · replace hf := knIq hf h205
                      refine kj_iconst X dX13_readsCommand_187 ?_
                      refine kj_goto X (tgt := 192) dX13_readsCommand_188 (by decide) ?_
                      cases hf
                      exact kj_zret X (Or.inr rfl) hr (kn_nb (Or.inr rfl)) dX13_readsCommand_192 hlk
        · replace hf := knIq hf h19
          refine kj_aloadn X 0 dX13_readsCommand_128 rfl ?_
          obtain ⟨q206, h207, hf⟩ := knBd_inv hf
          refine kj_callV (As := []) (rest := []) X K (kcX13_readsS l  h207) knWvX13_readsS (knGm 2109 (by decide +kernel) rfl) (by decide) (knKd_in kdc_142 (by decide)) (knEnt_10 kdc_142) rfl rfl rfl (Nat.le_of_ble_eq_true rfl) (by decide) dX13_readsCommand_129 rfl (fun h208 => ?_)
          cases hf
          exact kj_zret X h208 hr (kn_nb h208) dX13_readsCommand_132 hlk
      · replace hf := knIq hf h15
        refine kj_aloadn X 0 dX13_readsCommand_114 rfl ?_
        obtain ⟨q209, h210, hf⟩ := knBd_inv hf
        refine kj_callV (As := []) (rest := []) X K (kcX13_readsP l  h210) knWvX13_readsP (knGm 2105 (by decide +kernel) rfl) (by decide) (knKd_in kdc_142 (by decide)) (knEnt_10 kdc_142) rfl rfl rfl (Nat.le_of_ble_eq_true rfl) (by decide) dX13_readsCommand_115 rfl (fun h211 => ?_)
        cases hf
        exact kj_zret X h211 hr (kn_nb h211) dX13_readsCommand_118 hlk
    · replace hf := knIq hf h11
      refine kj_aloadn X 0 dX13_readsCommand_100 rfl ?_
      obtain ⟨q212, h213, hf⟩ := knBd_inv hf
      refine kj_callV (As := []) (rest := []) X K (kcX13_readsU l  h213) knWvX13_readsU (knGm 2101 (by decide +kernel) rfl) (by decide) (knKd_in kdc_142 (by decide)) (knEnt_10 kdc_142) rfl rfl rfl (Nat.le_of_ble_eq_true rfl) (by decide) dX13_readsCommand_101 rfl (fun h214 => ?_)
      cases hf
      exact kj_zret X h214 hr (kn_nb h214) dX13_readsCommand_104 hlk
  · replace hf := knIq hf h7
    refine kj_aloadn X 0 dX13_readsCommand_17 rfl ?_
    refine kj_bipush X (n := 117) dX13_readsCommand_18 rfl ?_
    obtain ⟨q215, h216, hf⟩ := knBd_inv hf
    refine kj_callV (As := [knV 117]) (rest := []) X K (kcX13_reads l (show knC (117) from ⟨by omega, by omega⟩) h216) knWvX13_reads (knGm 2085 (by decide +kernel) rfl) (by decide) (knKd_in kdc_142 (by decide)) (knEnt_10 kdc_142) rfl rfl rfl (Nat.le_of_ble_eq_true rfl) (by decide) dX13_readsCommand_20 rfl (fun h217 => ?_)
    have j243 : ∀ (m243 : knMem), (fun q243 =>
     some (0, q243)) m243 = some q → knJ G p l e { frames := 4, cells := 0, slots := 0, locals := 84 } s m args below meth c 1 0 0 (MQ below (knPo G (knZ q.1) (some (knV q.1)) q.2) args s 0 0 (knA G)) 89 [] [] m243 := by
      intro m243
      intro hf
      refine kj_iconst X dX13_readsCommand_89 ?_
      cases hf
      exact kj_zret X (Or.inl rfl) hr (kn_nb (Or.inl rfl)) dX13_readsCommand_90 hlk
    refine kj_if_eq X (tgt := 89) dX13_readsCommand_23 (by decide) (knZ_c h217) (fun h245 => ?_) (fun h245 => ?_)
    · replace hf := knIp hf h245
      refine kj_sub (L' := []) [] rfl ?_
      exact j243 _ hf
    · replace hf := knIq hf h245
      refine kj_aloadn X 0 dX13_readsCommand_26 rfl ?_
      refine kj_bipush X (n := 114) dX13_readsCommand_27 rfl ?_
      obtain ⟨q246, h247, hf⟩ := knBd_inv hf
      refine kj_callV (As := [knV 114]) (rest := []) X K (kcX13_reads l (show knC (114) from ⟨by omega, by omega⟩) h247) knWvX13_reads (knGm 2085 (by decide +kernel) rfl) (by decide) (knKd_in kdc_142 (by decide)) (knEnt_10 kdc_142) rfl rfl rfl (Nat.le_of_ble_eq_true rfl) (by decide) dX13_readsCommand_29 rfl (fun h248 => ?_)
      refine kj_if_eq X (tgt := 89) dX13_readsCommand_32 (by decide) (knZ_c h248) (fun h249 => ?_) (fun h249 => ?_)
      · replace hf := knIp hf h249
        refine kj_sub (L' := []) [] rfl ?_
        exact j243 _ hf
      · replace hf := knIq hf h249
        refine kj_aloadn X 0 dX13_readsCommand_35 rfl ?_
        refine kj_bipush X (n := 108) dX13_readsCommand_36 rfl ?_
        obtain ⟨q250, h251, hf⟩ := knBd_inv hf
        refine kj_callV (As := [knV 108]) (rest := []) X K (kcX13_reads l (show knC (108) from ⟨by omega, by omega⟩) h251) knWvX13_reads (knGm 2085 (by decide +kernel) rfl) (by decide) (knKd_in kdc_142 (by decide)) (knEnt_10 kdc_142) rfl rfl rfl (Nat.le_of_ble_eq_true rfl) (by decide) dX13_readsCommand_38 rfl (fun h252 => ?_)
        refine kj_if_eq X (tgt := 89) dX13_readsCommand_41 (by decide) (knZ_c h252) (fun h253 => ?_) (fun h253 => ?_)
        · replace hf := knIp hf h253
          refine kj_sub (L' := []) [] rfl ?_
          exact j243 _ hf
        · replace hf := knIq hf h253
          refine kj_aloadn X 0 dX13_readsCommand_44 rfl ?_
          refine kj_bipush X (n := 32) dX13_readsCommand_45 rfl ?_
          obtain ⟨q254, h255, hf⟩ := knBd_inv hf
          refine kj_callV (As := [knV 32]) (rest := []) X K (kcX13_reads l (show knC (32) from ⟨by omega, by omega⟩) h255) knWvX13_reads (knGm 2085 (by decide +kernel) rfl) (by decide) (knKd_in kdc_142 (by decide)) (knEnt_10 kdc_142) rfl rfl rfl (Nat.le_of_ble_eq_true rfl) (by decide) dX13_readsCommand_47 rfl (fun h256 => ?_)
          refine kj_if_eq X (tgt := 89) dX13_readsCommand_50 (by decide) (knZ_c h256) (fun h257 => ?_) (fun h257 => ?_)
          · replace hf := knIp hf h257
            refine kj_sub (L' := []) [] rfl ?_
            exact j243 _ hf
          · replace hf := knIq hf h257
            refine kj_aloadn X 0 dX13_readsCommand_53 rfl ?_
            refine kj_iconst X dX13_readsCommand_54 ?_
            obtain ⟨q258, h259, hf⟩ := knBd_inv hf
            refine kj_callV (As := [knV 0]) (rest := []) X K (kcX13_readsNumber l (show knC (0) from ⟨by omega, by omega⟩) h259) knWvX13_readsNumber (knGm 2089 (by decide +kernel) rfl) (by decide) (knKd_in kdc_142 (by decide)) (knEnt_10 kdc_142) rfl rfl rfl (Nat.le_of_ble_eq_true rfl) (by decide) dX13_readsCommand_55 rfl (fun h260 => ?_)
            refine kj_if_eq X (tgt := 89) dX13_readsCommand_58 (by decide) (knZ_c h260) (fun h261 => ?_) (fun h261 => ?_)
            · replace hf := knIp hf h261
              refine kj_sub (L' := []) [] rfl ?_
              exact j243 _ hf
            · replace hf := knIq hf h261
              refine kj_aloadn X 0 dX13_readsCommand_61 rfl ?_
              refine kj_iconst X dX13_readsCommand_62 ?_
              refine kj_bipush X (n := 43) dX13_readsCommand_63 rfl ?_
              refine kj_bipush X (n := 45) dX13_readsCommand_65 rfl ?_
              obtain ⟨q262, h263, hf⟩ := knBd_inv hf
              refine kj_callV (As := [knV 1, knV 43, knV 45]) (rest := []) X K (kcX13_readsOne l (show knC (1) from ⟨by omega, by omega⟩) (show knC (43) from ⟨by omega, by omega⟩) (show knC (45) from ⟨by omega, by omega⟩) h263) knWvX13_readsOne (knGm 2097 (by decide +kernel) rfl) (by decide) (knKd_in kdc_142 (by decide)) (knEnt_10 kdc_142) rfl rfl rfl (Nat.le_of_ble_eq_true rfl) (by decide) dX13_readsCommand_67 rfl (fun h264 => ?_)
              refine kj_if_eq X (tgt := 89) dX13_readsCommand_70 (by decide) (knZ_c h264) (fun h265 => ?_) (fun h265 => ?_)
              · replace hf := knIp hf h265
                refine kj_sub (L' := []) [] rfl ?_
                exact j243 _ hf
              · replace hf := knIq hf h265
                refine kj_aloadn X 0 dX13_readsCommand_73 rfl ?_
                refine kj_iconst X dX13_readsCommand_74 ?_
                refine kj_bipush X (n := 111) dX13_readsCommand_75 rfl ?_
                refine kj_bipush X (n := 117) dX13_readsCommand_77 rfl ?_
                obtain ⟨q266, h267, hf⟩ := knBd_inv hf
                refine kj_callV (As := [knV 2, knV 111, knV 117]) (rest := []) X K (kcX13_readsOne l (show knC (2) from ⟨by omega, by omega⟩) (show knC (111) from ⟨by omega, by omega⟩) (show knC (117) from ⟨by omega, by omega⟩) h267) knWvX13_readsOne (knGm 2097 (by decide +kernel) rfl) (by decide) (knKd_in kdc_142 (by decide)) (knEnt_10 kdc_142) rfl rfl rfl (Nat.le_of_ble_eq_true rfl) (by decide) dX13_readsCommand_79 rfl (fun h268 => ?_)
                refine kj_if_eq X (tgt := 89) dX13_readsCommand_82 (by decide) (knZ_c h268) (fun h269 => ?_) (fun h269 => ?_)
                · replace hf := knIp hf h269
                  refine kj_sub (L' := []) [] rfl ?_
                  exact j243 _ hf
                · replace hf := knIq hf h269
                  refine kj_iconst X dX13_readsCommand_85 ?_
                  refine kj_goto X (tgt := 90) dX13_readsCommand_86 (by decide) ?_
                  cases hf
                  exact kj_zret X (Or.inr rfl) hr (kn_nb (Or.inr rfl)) dX13_readsCommand_90 hlk

def kfX13_readsAll_l7    (kc : (knMem) → Option (Int × knMem)) : Nat → Int → knMem → Option (Int × knMem)
  | 0, _, _ => none
  | n + 1, x1, μ =>
    if x1 = 0 then
     kc μ
    else
     Option.bind (kfX13_readsCommand  μ) (fun q2 =>
      if q2.1 = 0 then
       some (0, q2.2)
      else
       Option.bind (kfX13_reads 59 q2.2) (fun q6 =>
        kfX13_readsAll_l7   kc n q6.1 q6.2))

def kfX13_readsAll  (μ : knMem) : Option (Int × knMem) :=
 kfX13_readsAll_l7   (fun w9 =>
  some ((if (w9 142 22) = (w9 142 21) then 1 else 0 : Int), w9)) knF 1 (knUp μ 142 22 0)

theorem knWvX13_readsAll : knWv yX13_readsAll cX13_readsAll 2 (some .boolean) 0 := ⟨(knGm 2076 (by decide +kernel) rfl), (knGm 124 (by decide +kernel) rfl), (knGm 2075 (by decide +kernel) rfl), (knGm 98 (by decide +kernel) rfl), by decide +kernel, by decide +kernel, by decide +kernel⟩
set_option maxHeartbeats 4000000 in
set_option maxRecDepth 100000 in
theorem kfX13_readsAll_l7_ok {q : Int × knMem} {kc : (knMem) → Option (Int × knMem)} {G : knGT} {p : Program} {l : Launch} {e : Env} {s : State} {m : MethodId} {args : Array Value} {below : List Frame} {meth : Method} {c : Code} (X : knX p m c cX13_readsAll 2 s args yX13_readsAll.cls) (K : knK G s s.heap) (hr : meth.sig.returnType = (some .boolean)) (hlk : meth.locks = false)    (hk : ∀ (μ1 : knMem), kc μ1 = some q → knJ G p l e { frames := 5, cells := 0, slots := 0, locals := 104 } s m args below meth c 2 0 0 (MQ below (knPo G (knZ q.1) (some (knV q.1)) q.2) args s 0 0 (knA G)) 30 [(0, knO G 142)] [] μ1) : ∀ (n : Nat) (x1 : Int) (hx1 : knC x1) (μ : knMem), kfX13_readsAll_l7   kc n x1 μ = some q → knJ G p l e { frames := 5, cells := 0, slots := 0, locals := 104 } s m args below meth c 2 0 0 (MQ below (knPo G (knZ q.1) (some (knV q.1)) q.2) args s 0 0 (knA G)) 7 [(0, knO G 142), (1, knV x1)] [] μ := by
  intro n
  induction n with
  | zero => intro x1 hx1 μ hf; cases hf
  | succ n ih =>
    intro x1 hx1 μ hf
    unfold kfX13_readsAll_l7 at hf
    refine kj_iloadn X 1 dX13_readsAll_7 rfl ?_
    refine kj_if_eq X (tgt := 30) dX13_readsAll_8 (by decide) hx1 (fun h1 => ?_) (fun h1 => ?_)
    · replace hf := knIp hf h1
      refine kj_sub (L' := [(0, knO G 142)]) [0] rfl ?_
      exact hk _ hf
    · replace hf := knIq hf h1
      refine kj_aloadn X 0 dX13_readsAll_11 rfl ?_
      obtain ⟨q2, h3, hf⟩ := knBd_inv hf
      refine kj_callV (As := []) (rest := []) X K (kcX13_readsCommand l  h3) knWvX13_readsCommand (knGm 2077 (by decide +kernel) rfl) (by decide) (knKd_in kdc_142 (by decide)) (knEnt_10 kdc_142) rfl rfl rfl (Nat.le_of_ble_eq_true rfl) (by decide) dX13_readsAll_12 rfl (fun h4 => ?_)
      refine kj_if_ne X (tgt := 20) dX13_readsAll_15 (by decide) (knZ_c h4) (fun h5 => ?_) (fun h5 => ?_)
      · replace hf := knIq hf h5
        refine kj_aloadn X 0 dX13_readsAll_20 rfl ?_
        refine kj_bipush X (n := 59) dX13_readsAll_21 rfl ?_
        obtain ⟨q6, h7, hf⟩ := knBd_inv hf
        refine kj_callV (As := [knV 59]) (rest := []) X K (kcX13_reads l (show knC (59) from ⟨by omega, by omega⟩) h7) knWvX13_reads (knGm 2085 (by decide +kernel) rfl) (by decide) (knKd_in kdc_142 (by decide)) (knEnt_10 kdc_142) rfl rfl rfl (Nat.le_of_ble_eq_true rfl) (by decide) dX13_readsAll_23 rfl (fun h8 => ?_)
        refine kj_istoren X (L' := [(1, knV q6.1), (0, knO G 142)]) dX13_readsAll_26 (by decide) rfl ?_
        refine kj_goto X (tgt := 7) dX13_readsAll_27 (by decide) ?_
        refine kj_sub (L' := [(0, knO G 142), (1, knV q6.1)]) [1, 0] rfl ?_
        exact ih _ (knZ_c h8) _ hf
      · replace hf := knIp hf h5
        refine kj_iconst X dX13_readsAll_18 ?_
        cases hf
        exact kj_zret X (Or.inl rfl) hr (kn_nb (Or.inl rfl)) dX13_readsAll_19 hlk

set_option maxHeartbeats 4000000 in
set_option maxRecDepth 100000 in
theorem kcX13_readsAll {G : knGT} (l : Launch)   {μ : knMem} {q : Int × knMem} (hf : kfX13_readsAll  μ = some q) : knC0 G l yX13_readsAll cX13_readsAll 2 (some .boolean) 5 104 [knO G 142] μ (knZ q.1) (some (knV q.1)) q.2 := by
  unfold kfX13_readsAll at hf
  refine kn_ofJ (plainFor_of_name (by decide)) (Nat.le_of_ble_eq_true rfl) (L := [(0, knO G 142)]) rfl ?_
  intro p e s m args below meth c X K hr hlk
  refine kj_aloadn X 0 dX13_readsAll_0 rfl ?_
  refine kj_iconst X dX13_readsAll_1 ?_
  refine kj_putf (k := 22) (ki := 22) (x := 0) (ty := .int) X K rfl (knKd_in kdc_142 (by decide)) (knEnt_10 kdc_142) rfl (by decide) knInX13 tyX13_ok nmX13 (knGm 1526 (by decide +kernel) rfl) rfl rfl (by decide +kernel) rfl rfl (by simp) (by rw [knEnt_10 kdc_142, knUp_row]; rfl) (fun _ => (show knC (0) from ⟨by omega, by omega⟩)) (fun h => by rw [kdc_142] at h; cases h) (fun h => by rw [kdc_142] at h; cases h) dX13_readsAll_2 ?_
  refine kj_iconst X dX13_readsAll_5 ?_
  refine kj_istoren X (L' := [(1, knV 1), (0, knO G 142)]) dX13_readsAll_6 (by decide) rfl ?_
  refine kj_sub (L' := [(0, knO G 142), (1, knV 1)]) [1, 0] rfl ?_
  refine kfX13_readsAll_l7_ok X K hr hlk    ?_ knF _ (show knC (1) from ⟨by omega, by omega⟩) _ hf
  intro w9_m
  intro hf
  refine kj_aloadn X 0 dX13_readsAll_30 rfl ?_
  refine kj_geti (k := 22) (ki := 22) X K rfl kdc_142 (by decide) (knEnt_10 kdc_142) rfl (by decide) knInX13 (knGm 1526 (by decide +kernel) rfl) rfl rfl dX13_readsAll_31 (fun h16 => ?_)
  refine kj_aloadn X 0 dX13_readsAll_34 rfl ?_
  refine kj_geti (k := 21) (ki := 21) X K rfl kdc_142 (by decide) (knEnt_10 kdc_142) rfl (by decide) knInX13 (knGm 1525 (by decide +kernel) rfl) rfl rfl dX13_readsAll_35 (fun h17 => ?_)
  have j19 : ∀ (t19_0 : Int) (et19_0 : t19_0 = (if (w9_m 142 22) = (w9_m 142 21) then 1 else 0 : Int)) (ht19_0 : knZ t19_0), knJ G p l e { frames := 5, cells := 0, slots := 0, locals := 104 } s m args below meth c 2 0 0 (MQ below (knPo G (knZ q.1) (some (knV q.1)) q.2) args s 0 0 (knA G)) 46 [] [knV t19_0] w9_m := by
    intro t19_0 et19_0 ht19_0
    subst et19_0
    cases hf
    exact kj_zret X ht19_0 hr (kn_nb ht19_0) dX13_readsAll_46 hlk
  refine kj_ic_ne X (tgt := 45) dX13_readsAll_38 (by decide) h16 h17 (fun h21 => ?_) (fun h21 => ?_)
  · refine kj_iconst X dX13_readsAll_45 ?_
    refine kj_sub (L' := []) [] rfl ?_
    exact j19 0 (by rw [if_neg h21]) (Or.inl rfl)
  · refine kj_iconst X dX13_readsAll_41 ?_
    refine kj_goto X (tgt := 46) dX13_readsAll_42 (by decide) ?_
    refine kj_sub (L' := []) [] rfl ?_
    exact j19 1 (by rw [if_pos h21]) (Or.inr rfl)

def kfX13_errorPosition  (μ : knMem) : Option (Int × knMem) :=
 Option.bind (α := Int × knMem)
  (if 0 ≤ ((knUp μ 142 0 0) 142 23) then
   some (((knUp μ 142 0 0) 142 23), (knUp μ 142 0 0))
  else
   Option.bind (kfX13_fails 1 (knUp μ 142 0 0)) (fun q11 =>
    some (q11.1, q11.2)))
  (fun q7 =>
  some (q7.1, q7.2))

theorem knWvX13_errorPosition : knWv yX13_errorPosition cX13_errorPosition 1 (some .int) 0 := ⟨(knGm 2136 (by decide +kernel) rfl), (knGm 124 (by decide +kernel) rfl), (knGm 2134 (by decide +kernel) rfl), (knGm 2135 (by decide +kernel) rfl), by decide +kernel, by decide +kernel, by decide +kernel⟩
set_option maxHeartbeats 4000000 in
set_option maxRecDepth 100000 in
theorem kcX13_errorPosition {G : knGT} (l : Launch)   {μ : knMem} {q : Int × knMem} (hf : kfX13_errorPosition  μ = some q) : knC0 G l yX13_errorPosition cX13_errorPosition 1 (some .int) 1 21 [knO G 142] μ (knC q.1) (some (knV q.1)) q.2 := by
  unfold kfX13_errorPosition at hf
  refine kn_ofJ (plainFor_of_name (by decide)) (Nat.le_of_ble_eq_true rfl) (L := [(0, knO G 142)]) rfl ?_
  intro p e s m args below meth c X K hr hlk
  refine kj_aloadn X 0 dX13_errorPosition_0 rfl ?_
  refine kj_iconst X dX13_errorPosition_1 ?_
  refine kj_putf (k := 0) (ki := 0) (x := 0) (ty := .int) X K rfl (knKd_in kdc_142 (by decide)) (knEnt_10 kdc_142) rfl (by decide) knInX13 tyX13_ok nmX13 (knGm 1504 (by decide +kernel) rfl) rfl rfl (by decide +kernel) rfl rfl (by simp) (by rw [knEnt_10 kdc_142, knUp_row]; rfl) (fun _ => (show knC (0) from ⟨by omega, by omega⟩)) (fun h => by rw [kdc_142] at h; cases h) (fun h => by rw [kdc_142] at h; cases h) dX13_errorPosition_2 ?_
  refine kj_aloadn X 0 dX13_errorPosition_5 rfl ?_
  refine kj_geti (k := 23) (ki := 23) X K rfl kdc_142 (by decide) (knEnt_10 kdc_142) rfl (by decide) knInX13 (knGm 1527 (by decide +kernel) rfl) rfl rfl dX13_errorPosition_6 (fun h1 => ?_)
  have j7 : ∀ (t7_0 : Int) (ht7_0 : knC t7_0) (m7 : knMem), (fun q7 =>
   some (q7.1, q7.2)) (t7_0, m7) = some q → knJ G p l e { frames := 1, cells := 0, slots := 0, locals := 21 } s m args below meth c 1 0 0 (MQ below (knPo G (knC q.1) (some (knV q.1)) q.2) args s 0 0 (knA G)) 24 [] [knV t7_0] m7 := by
    intro t7_0 ht7_0 m7
    intro hf
    cases hf
    exact kj_iret X ht7_0 hr dX13_errorPosition_24 hlk
  obtain ⟨b8, hb8, hf⟩ := knBd_inv hf
  refine kj_if_ge X (tgt := 20) dX13_errorPosition_9 (by decide) h1 (fun h9 => ?_) (fun h9 => ?_)
  · replace hb8 := knIp hb8 h9
    refine kj_aloadn X 0 dX13_errorPosition_20 rfl ?_
    refine kj_geti (k := 23) (ki := 23) X K rfl kdc_142 (by decide) (knEnt_10 kdc_142) rfl (by decide) knInX13 (knGm 1527 (by decide +kernel) rfl) rfl rfl dX13_errorPosition_21 (fun h10 => ?_)
    cases hb8
    refine kj_sub (L' := []) [] rfl ?_
    exact j7 _ h10 _ hf
  · replace hb8 := knIq hb8 h9
    refine kj_aloadn X 0 dX13_errorPosition_12 rfl ?_
    refine kj_iconst X dX13_errorPosition_13 ?_
    obtain ⟨q11, h12, hb8⟩ := knBd_inv hb8
    refine kj_callV (As := [knV 1]) (rest := []) X K (kcX13_fails l (show knC (1) from ⟨by omega, by omega⟩) h12) knWvX13_fails (knGm 1604 (by decide +kernel) rfl) (by decide) (knKd_in kdc_142 (by decide)) (knEnt_10 kdc_142) rfl rfl rfl (Nat.le_of_ble_eq_true rfl) (by decide) dX13_errorPosition_14 rfl (fun h13 => ?_)
    refine kj_goto X (tgt := 24) dX13_errorPosition_17 (by decide) ?_
    cases hb8
    refine kj_sub (L' := []) [] rfl ?_
    exact j7 _ h13 _ hf

def kfX13_failedCommand  (μ : knMem) : Option (Int × knMem) :=
 Option.bind (α := Int × knMem)
  (if 0 ≤ ((knUp μ 142 0 0) 142 24) then
   some (((knUp μ 142 0 0) 142 24), (knUp μ 142 0 0))
  else
   Option.bind (kfX13_fails 1 (knUp μ 142 0 0)) (fun q11 =>
    some (q11.1, q11.2)))
  (fun q7 =>
  some (q7.1, q7.2))

theorem knWvX13_failedCommand : knWv yX13_failedCommand cX13_failedCommand 1 (some .int) 0 := ⟨(knGm 2140 (by decide +kernel) rfl), (knGm 124 (by decide +kernel) rfl), (knGm 2138 (by decide +kernel) rfl), (knGm 2139 (by decide +kernel) rfl), by decide +kernel, by decide +kernel, by decide +kernel⟩
set_option maxHeartbeats 4000000 in
set_option maxRecDepth 100000 in
theorem kcX13_failedCommand {G : knGT} (l : Launch)   {μ : knMem} {q : Int × knMem} (hf : kfX13_failedCommand  μ = some q) : knC0 G l yX13_failedCommand cX13_failedCommand 1 (some .int) 1 21 [knO G 142] μ (knC q.1) (some (knV q.1)) q.2 := by
  unfold kfX13_failedCommand at hf
  refine kn_ofJ (plainFor_of_name (by decide)) (Nat.le_of_ble_eq_true rfl) (L := [(0, knO G 142)]) rfl ?_
  intro p e s m args below meth c X K hr hlk
  refine kj_aloadn X 0 dX13_failedCommand_0 rfl ?_
  refine kj_iconst X dX13_failedCommand_1 ?_
  refine kj_putf (k := 0) (ki := 0) (x := 0) (ty := .int) X K rfl (knKd_in kdc_142 (by decide)) (knEnt_10 kdc_142) rfl (by decide) knInX13 tyX13_ok nmX13 (knGm 1504 (by decide +kernel) rfl) rfl rfl (by decide +kernel) rfl rfl (by simp) (by rw [knEnt_10 kdc_142, knUp_row]; rfl) (fun _ => (show knC (0) from ⟨by omega, by omega⟩)) (fun h => by rw [kdc_142] at h; cases h) (fun h => by rw [kdc_142] at h; cases h) dX13_failedCommand_2 ?_
  refine kj_aloadn X 0 dX13_failedCommand_5 rfl ?_
  refine kj_geti (k := 24) (ki := 24) X K rfl kdc_142 (by decide) (knEnt_10 kdc_142) rfl (by decide) knInX13 (knGm 1528 (by decide +kernel) rfl) rfl rfl dX13_failedCommand_6 (fun h1 => ?_)
  have j7 : ∀ (t7_0 : Int) (ht7_0 : knC t7_0) (m7 : knMem), (fun q7 =>
   some (q7.1, q7.2)) (t7_0, m7) = some q → knJ G p l e { frames := 1, cells := 0, slots := 0, locals := 21 } s m args below meth c 1 0 0 (MQ below (knPo G (knC q.1) (some (knV q.1)) q.2) args s 0 0 (knA G)) 24 [] [knV t7_0] m7 := by
    intro t7_0 ht7_0 m7
    intro hf
    cases hf
    exact kj_iret X ht7_0 hr dX13_failedCommand_24 hlk
  obtain ⟨b8, hb8, hf⟩ := knBd_inv hf
  refine kj_if_ge X (tgt := 20) dX13_failedCommand_9 (by decide) h1 (fun h9 => ?_) (fun h9 => ?_)
  · replace hb8 := knIp hb8 h9
    refine kj_aloadn X 0 dX13_failedCommand_20 rfl ?_
    refine kj_geti (k := 24) (ki := 24) X K rfl kdc_142 (by decide) (knEnt_10 kdc_142) rfl (by decide) knInX13 (knGm 1528 (by decide +kernel) rfl) rfl rfl dX13_failedCommand_21 (fun h10 => ?_)
    cases hb8
    refine kj_sub (L' := []) [] rfl ?_
    exact j7 _ h10 _ hf
  · replace hb8 := knIq hb8 h9
    refine kj_aloadn X 0 dX13_failedCommand_12 rfl ?_
    refine kj_iconst X dX13_failedCommand_13 ?_
    obtain ⟨q11, h12, hb8⟩ := knBd_inv hb8
    refine kj_callV (As := [knV 1]) (rest := []) X K (kcX13_fails l (show knC (1) from ⟨by omega, by omega⟩) h12) knWvX13_fails (knGm 1604 (by decide +kernel) rfl) (by decide) (knKd_in kdc_142 (by decide)) (knEnt_10 kdc_142) rfl rfl rfl (Nat.le_of_ble_eq_true rfl) (by decide) dX13_failedCommand_14 rfl (fun h13 => ?_)
    refine kj_goto X (tgt := 24) dX13_failedCommand_17 (by decide) ?_
    cases hb8
    refine kj_sub (L' := []) [] rfl ?_
    exact j7 _ h13 _ hf

def kfX13_undo_l43  (x1 : Int)  (kc : (knMem) → Option (Int × knMem)) : Nat → Int → knMem → Option (Int × knMem)
  | 0, _, _ => none
  | n + 1, x2, μ =>
    if 50 ≤ x2 then
     kc μ
    else
     knGd (0 ≤ (knW ((knW (50 * x1)) + x2)) ∧ (knW ((knW (50 * x1)) + x2)) < 400)
      (knGd (0 ≤ x2 ∧ x2 < 50)
      (kfX13_undo_l43  x1 kc n (knW (x2 + 1)) (knUp μ 143 x2 (μ 144 (knW ((knW (50 * x1)) + x2))))))

def kfX13_undo  (μ : knMem) : Option (Int × knMem) :=
 if ((knUp μ 142 0 0) 142 5) = 0 then
  Option.bind (kfX13_fails 1 (knUp μ 142 0 0)) (fun q13 =>
   some (q13.1, q13.2))
 else
  kfX13_undo_l43 (knRem (knW (((knUp (knUp μ 142 0 0) 142 5 (knW (((knUp μ 142 0 0) 142 5) - 1))) 142 6) + ((knUp (knUp μ 142 0 0) 142 5 (knW (((knUp μ 142 0 0) 142 5) - 1))) 142 5))) 8)  (fun w10 =>
   some ((w10 142 5), w10)) knF 0 (knUp (knUp μ 142 0 0) 142 5 (knW (((knUp μ 142 0 0) 142 5) - 1)))

theorem knWvX13_undo : knWv yX13_undo cX13_undo 3 (some .int) 0 := ⟨(knGm 2144 (by decide +kernel) rfl), (knGm 124 (by decide +kernel) rfl), (knGm 2142 (by decide +kernel) rfl), (knGm 2143 (by decide +kernel) rfl), by decide +kernel, by decide +kernel, by decide +kernel⟩
set_option maxHeartbeats 4000000 in
set_option maxRecDepth 100000 in
theorem kfX13_undo_l43_ok {q : Int × knMem} {kc : (knMem) → Option (Int × knMem)} {G : knGT} {p : Program} {l : Launch} {e : Env} {s : State} {m : MethodId} {args : Array Value} {below : List Frame} {meth : Method} {c : Code} (X : knX p m c cX13_undo 3 s args yX13_undo.cls) (K : knK G s s.heap) (hr : meth.sig.returnType = (some .int)) (hlk : meth.locks = false) (x1 : Int) (hx1 : knC x1)  (hk : ∀ (μ1 : knMem), kc μ1 = some q → knJ G p l e { frames := 1, cells := 0, slots := 0, locals := 21 } s m args below meth c 3 0 0 (MQ below (knPo G (knC q.1) (some (knV q.1)) q.2) args s 0 0 (knA G)) 72 [(0, knO G 142)] [] μ1) : ∀ (n : Nat) (x2 : Int) (hx2 : knC x2) (μ : knMem), kfX13_undo_l43  x1 kc n x2 μ = some q → knJ G p l e { frames := 1, cells := 0, slots := 0, locals := 21 } s m args below meth c 3 0 0 (MQ below (knPo G (knC q.1) (some (knV q.1)) q.2) args s 0 0 (knA G)) 43 [(0, knO G 142), (1, knV x1), (2, knV x2)] [] μ := by
  intro n
  induction n with
  | zero => intro x2 hx2 μ hf; cases hf
  | succ n ih =>
    intro x2 hx2 μ hf
    unfold kfX13_undo_l43 at hf
    refine kj_iloadn X 2 dX13_undo_43 rfl ?_
    refine kj_bipush X (n := 50) dX13_undo_44 rfl ?_
    refine kj_ic_ge X (tgt := 72) dX13_undo_46 (by decide) hx2 (show knC (50) from ⟨by omega, by omega⟩) (fun h6 => ?_) (fun h6 => ?_)
    · replace hf := knIp hf h6
      refine kj_sub (L' := [(0, knO G 142)]) [0] rfl ?_
      exact hk _ hf
    · replace hf := knIq hf h6
      refine kj_aloadn X 0 dX13_undo_49 rfl ?_
      refine kj_geto (k := 1) (o2 := 143) X K kdc_142 (by decide) (knEnt_10 kdc_142) rfl (by decide) knInX13 (knGm 1505 (by decide +kernel) rfl) rfl rfl dX13_undo_50 ?_
      refine kj_iloadn X 2 dX13_undo_53 rfl ?_
      refine kj_aloadn X 0 dX13_undo_54 rfl ?_
      refine kj_geto (k := 2) (o2 := 144) X K kdc_142 (by decide) (knEnt_10 kdc_142) rfl (by decide) knInX13 (knGm 1506 (by decide +kernel) rfl) rfl rfl dX13_undo_55 ?_
      refine kj_bipush X (n := 50) dX13_undo_58 rfl ?_
      refine kj_iloadn X 1 dX13_undo_60 rfl ?_
      refine kj_imul X dX13_undo_61 ?_
      refine kj_iloadn X 2 dX13_undo_62 rfl ?_
      refine kj_iadd X dX13_undo_63 ?_
      obtain ⟨h7, hf⟩ := knGd_inv hf
      refine kj_iald X K kdc_144 (knCw _) lnc_144 h7 dX13_undo_64 (fun h8 => ?_)
      obtain ⟨h9, hf⟩ := knGd_inv hf
      refine kj_iast X K kdc_143 hx2 h8 lnc_143 h9 dX13_undo_65 ?_
      refine kj_iinc X 2 (L' := [(2, knV (knW (x2 + 1))), (0, knO G 142), (1, knV x1)]) dX13_undo_66 rfl (by decide) rfl ?_
      refine kj_goto X (tgt := 43) dX13_undo_69 (by decide) ?_
      refine kj_sub (L' := [(0, knO G 142), (1, knV x1), (2, knV (knW (x2 + 1)))]) [1, 2, 0] rfl ?_
      exact ih _ (knCw _) _ hf

set_option maxHeartbeats 4000000 in
set_option maxRecDepth 100000 in
theorem kcX13_undo {G : knGT} (l : Launch)   {μ : knMem} {q : Int × knMem} (hf : kfX13_undo  μ = some q) : knC0 G l yX13_undo cX13_undo 3 (some .int) 1 21 [knO G 142] μ (knC q.1) (some (knV q.1)) q.2 := by
  unfold kfX13_undo at hf
  refine kn_ofJ (plainFor_of_name (by decide)) (Nat.le_of_ble_eq_true rfl) (L := [(0, knO G 142)]) rfl ?_
  intro p e s m args below meth c X K hr hlk
  refine kj_aloadn X 0 dX13_undo_0 rfl ?_
  refine kj_iconst X dX13_undo_1 ?_
  refine kj_putf (k := 0) (ki := 0) (x := 0) (ty := .int) X K rfl (knKd_in kdc_142 (by decide)) (knEnt_10 kdc_142) rfl (by decide) knInX13 tyX13_ok nmX13 (knGm 1504 (by decide +kernel) rfl) rfl rfl (by decide +kernel) rfl rfl (by simp) (by rw [knEnt_10 kdc_142, knUp_row]; rfl) (fun _ => (show knC (0) from ⟨by omega, by omega⟩)) (fun h => by rw [kdc_142] at h; cases h) (fun h => by rw [kdc_142] at h; cases h) dX13_undo_2 ?_
  refine kj_aloadn X 0 dX13_undo_5 rfl ?_
  refine kj_geti (k := 5) (ki := 5) X K rfl kdc_142 (by decide) (knEnt_10 kdc_142) rfl (by decide) knInX13 (knGm 1509 (by decide +kernel) rfl) rfl rfl dX13_undo_6 (fun h1 => ?_)
  refine kj_if_ne X (tgt := 18) dX13_undo_9 (by decide) h1 (fun h2 => ?_) (fun h2 => ?_)
  · replace hf := knIq hf h2
    refine kj_aloadn X 0 dX13_undo_18 rfl ?_
    refine kj_dup X dX13_undo_19 rfl ?_
    refine kj_geti (k := 5) (ki := 5) X K rfl kdc_142 (by decide) (knEnt_10 kdc_142) rfl (by decide) knInX13 (knGm 1509 (by decide +kernel) rfl) rfl rfl dX13_undo_20 (fun h3 => ?_)
    refine kj_iconst X dX13_undo_23 ?_
    refine kj_isub X dX13_undo_24 ?_
    refine kj_putf (k := 5) (ki := 5) (x := (knW (((knUp μ 142 0 0) 142 5) - 1))) (ty := .int) X K rfl (knKd_in kdc_142 (by decide)) (knEnt_10 kdc_142) rfl (by decide) knInX13 tyX13_ok nmX13 (knGm 1509 (by decide +kernel) rfl) rfl rfl (by decide +kernel) rfl rfl (by simp) (by rw [knEnt_10 kdc_142, knUp_row]; rfl) (fun _ => (knCw _)) (fun h => by rw [kdc_142] at h; cases h) (fun h => by rw [kdc_142] at h; cases h) dX13_undo_25 ?_
    refine kj_aloadn X 0 dX13_undo_28 rfl ?_
    refine kj_geti (k := 6) (ki := 6) X K rfl kdc_142 (by decide) (knEnt_10 kdc_142) rfl (by decide) knInX13 (knGm 1510 (by decide +kernel) rfl) rfl rfl dX13_undo_29 (fun h4 => ?_)
    refine kj_aloadn X 0 dX13_undo_32 rfl ?_
    refine kj_geti (k := 5) (ki := 5) X K rfl kdc_142 (by decide) (knEnt_10 kdc_142) rfl (by decide) knInX13 (knGm 1509 (by decide +kernel) rfl) rfl rfl dX13_undo_33 (fun h5 => ?_)
    refine kj_iadd X dX13_undo_36 ?_
    refine kj_bipush X (n := 8) dX13_undo_37 rfl ?_
    refine kj_irem X dX13_undo_39 (show knC (8) from ⟨by omega, by omega⟩) (by decide) ?_
    refine kj_istoren X (L' := [(1, knV (knRem (knW (((knUp (knUp μ 142 0 0) 142 5 (knW (((knUp μ 142 0 0) 142 5) - 1))) 142 6) + ((knUp (knUp μ 142 0 0) 142 5 (knW (((knUp μ 142 0 0) 142 5) - 1))) 142 5))) 8)), (0, knO G 142)]) dX13_undo_40 (by decide) rfl ?_
    refine kj_iconst X dX13_undo_41 ?_
    refine kj_istoren X (L' := [(2, knV 0), (1, knV (knRem (knW (((knUp (knUp μ 142 0 0) 142 5 (knW (((knUp μ 142 0 0) 142 5) - 1))) 142 6) + ((knUp (knUp μ 142 0 0) 142 5 (knW (((knUp μ 142 0 0) 142 5) - 1))) 142 5))) 8)), (0, knO G 142)]) dX13_undo_42 (by decide) rfl ?_
    refine kj_sub (L' := [(0, knO G 142), (1, knV (knRem (knW (((knUp (knUp μ 142 0 0) 142 5 (knW (((knUp μ 142 0 0) 142 5) - 1))) 142 6) + ((knUp (knUp μ 142 0 0) 142 5 (knW (((knUp μ 142 0 0) 142 5) - 1))) 142 5))) 8)), (2, knV 0)]) [2, 1, 0] rfl ?_
    refine kfX13_undo_l43_ok X K hr hlk (knRem (knW (((knUp (knUp μ 142 0 0) 142 5 (knW (((knUp μ 142 0 0) 142 5) - 1))) 142 6) + ((knUp (knUp μ 142 0 0) 142 5 (knW (((knUp μ 142 0 0) 142 5) - 1))) 142 5))) 8) (knC_rem _ _)  ?_ knF _ (show knC (0) from ⟨by omega, by omega⟩) _ hf
    intro w10_m
    intro hf
    refine kj_aloadn X 0 dX13_undo_72 rfl ?_
    refine kj_geti (k := 5) (ki := 5) X K rfl kdc_142 (by decide) (knEnt_10 kdc_142) rfl (by decide) knInX13 (knGm 1509 (by decide +kernel) rfl) rfl rfl dX13_undo_73 (fun h12 => ?_)
    cases hf
    exact kj_iret X h12 hr dX13_undo_76 hlk
  · replace hf := knIp hf h2
    refine kj_aloadn X 0 dX13_undo_12 rfl ?_
    refine kj_iconst X dX13_undo_13 ?_
    obtain ⟨q13, h14, hf⟩ := knBd_inv hf
    refine kj_callV (As := [knV 1]) (rest := []) X K (kcX13_fails l (show knC (1) from ⟨by omega, by omega⟩) h14) knWvX13_fails (knGm 1604 (by decide +kernel) rfl) (by decide) (knKd_in kdc_142 (by decide)) (knEnt_10 kdc_142) rfl rfl rfl (Nat.le_of_ble_eq_true rfl) (by decide) dX13_undo_14 rfl (fun h15 => ?_)
    cases hf
    exact kj_iret X h15 hr dX13_undo_17 hlk

def kfX13_save_l7    (kc : (knMem) → Option (Int × knMem)) : Nat → Int → knMem → Option (Int × knMem)
  | 0, _, _ => none
  | n + 1, x1, μ =>
    if 50 ≤ x1 then
     kc μ
    else
     knGd (0 ≤ x1 ∧ x1 < 50)
      (kfX13_save_l7   kc n (knW (x1 + 1)) (knUp μ 145 x1 (μ 143 x1)))

def kfX13_save  (μ : knMem) : Option (Int × knMem) :=
 kfX13_save_l7   (fun w4 =>
  knGd ((0 : Int) ≤ 0 ∧ (0 : Int) < 50)
   (some (((knUp w4 142 7 1) 143 0), (knUp w4 142 7 1)))) knF 0 (knUp μ 142 0 0)

theorem knWvX13_save : knWv yX13_save cX13_save 2 (some .int) 0 := ⟨(knGm 2148 (by decide +kernel) rfl), (knGm 124 (by decide +kernel) rfl), (knGm 2146 (by decide +kernel) rfl), (knGm 2147 (by decide +kernel) rfl), by decide +kernel, by decide +kernel, by decide +kernel⟩
set_option maxHeartbeats 4000000 in
set_option maxRecDepth 100000 in
theorem kfX13_save_l7_ok {q : Int × knMem} {kc : (knMem) → Option (Int × knMem)} {G : knGT} {p : Program} {l : Launch} {e : Env} {s : State} {m : MethodId} {args : Array Value} {below : List Frame} {meth : Method} {c : Code} (X : knX p m c cX13_save 2 s args yX13_save.cls) (K : knK G s s.heap) (hr : meth.sig.returnType = (some .int)) (hlk : meth.locks = false)    (hk : ∀ (μ1 : knMem), kc μ1 = some q → knJ G p l e { frames := 0, cells := 0, slots := 0, locals := 0 } s m args below meth c 2 0 0 (MQ below (knPo G (knC q.1) (some (knV q.1)) q.2) args s 0 0 (knA G)) 31 [(0, knO G 142)] [] μ1) : ∀ (n : Nat) (x1 : Int) (hx1 : knC x1) (μ : knMem), kfX13_save_l7   kc n x1 μ = some q → knJ G p l e { frames := 0, cells := 0, slots := 0, locals := 0 } s m args below meth c 2 0 0 (MQ below (knPo G (knC q.1) (some (knV q.1)) q.2) args s 0 0 (knA G)) 7 [(0, knO G 142), (1, knV x1)] [] μ := by
  intro n
  induction n with
  | zero => intro x1 hx1 μ hf; cases hf
  | succ n ih =>
    intro x1 hx1 μ hf
    unfold kfX13_save_l7 at hf
    refine kj_iloadn X 1 dX13_save_7 rfl ?_
    refine kj_bipush X (n := 50) dX13_save_8 rfl ?_
    refine kj_ic_ge X (tgt := 31) dX13_save_10 (by decide) hx1 (show knC (50) from ⟨by omega, by omega⟩) (fun h1 => ?_) (fun h1 => ?_)
    · replace hf := knIp hf h1
      refine kj_sub (L' := [(0, knO G 142)]) [0] rfl ?_
      exact hk _ hf
    · replace hf := knIq hf h1
      refine kj_aloadn X 0 dX13_save_13 rfl ?_
      refine kj_geto (k := 3) (o2 := 145) X K kdc_142 (by decide) (knEnt_10 kdc_142) rfl (by decide) knInX13 (knGm 1507 (by decide +kernel) rfl) rfl rfl dX13_save_14 ?_
      refine kj_iloadn X 1 dX13_save_17 rfl ?_
      refine kj_aloadn X 0 dX13_save_18 rfl ?_
      refine kj_geto (k := 1) (o2 := 143) X K kdc_142 (by decide) (knEnt_10 kdc_142) rfl (by decide) knInX13 (knGm 1505 (by decide +kernel) rfl) rfl rfl dX13_save_19 ?_
      refine kj_iloadn X 1 dX13_save_22 rfl ?_
      obtain ⟨h2, hf⟩ := knGd_inv hf
      refine kj_iald X K kdc_143 hx1 lnc_143 h2 dX13_save_23 (fun h3 => ?_)
      refine kj_iast X K kdc_145 hx1 h3 lnc_145 h2 dX13_save_24 ?_
      refine kj_iinc X 1 (L' := [(1, knV (knW (x1 + 1))), (0, knO G 142)]) dX13_save_25 rfl (by decide) rfl ?_
      refine kj_goto X (tgt := 7) dX13_save_28 (by decide) ?_
      refine kj_sub (L' := [(0, knO G 142), (1, knV (knW (x1 + 1)))]) [1, 0] rfl ?_
      exact ih _ (knCw _) _ hf

set_option maxHeartbeats 4000000 in
set_option maxRecDepth 100000 in
theorem kcX13_save {G : knGT} (l : Launch)   {μ : knMem} {q : Int × knMem} (hf : kfX13_save  μ = some q) : knC0 G l yX13_save cX13_save 2 (some .int) 0 0 [knO G 142] μ (knC q.1) (some (knV q.1)) q.2 := by
  unfold kfX13_save at hf
  refine kn_ofJ (plainFor_of_name (by decide)) (Nat.le_of_ble_eq_true rfl) (L := [(0, knO G 142)]) rfl ?_
  intro p e s m args below meth c X K hr hlk
  refine kj_aloadn X 0 dX13_save_0 rfl ?_
  refine kj_iconst X dX13_save_1 ?_
  refine kj_putf (k := 0) (ki := 0) (x := 0) (ty := .int) X K rfl (knKd_in kdc_142 (by decide)) (knEnt_10 kdc_142) rfl (by decide) knInX13 tyX13_ok nmX13 (knGm 1504 (by decide +kernel) rfl) rfl rfl (by decide +kernel) rfl rfl (by simp) (by rw [knEnt_10 kdc_142, knUp_row]; rfl) (fun _ => (show knC (0) from ⟨by omega, by omega⟩)) (fun h => by rw [kdc_142] at h; cases h) (fun h => by rw [kdc_142] at h; cases h) dX13_save_2 ?_
  refine kj_iconst X dX13_save_5 ?_
  refine kj_istoren X (L' := [(1, knV 0), (0, knO G 142)]) dX13_save_6 (by decide) rfl ?_
  refine kj_sub (L' := [(0, knO G 142), (1, knV 0)]) [1, 0] rfl ?_
  refine kfX13_save_l7_ok X K hr hlk    ?_ knF _ (show knC (0) from ⟨by omega, by omega⟩) _ hf
  intro w4_m
  intro hf
  refine kj_aloadn X 0 dX13_save_31 rfl ?_
  refine kj_iconst X dX13_save_32 ?_
  refine kj_putf (k := 7) (ki := 7) (x := 1) (ty := .boolean) X K rfl (knKd_in kdc_142 (by decide)) (knEnt_10 kdc_142) rfl (by decide) knInX13 tyX13_ok nmX13 (knGm 1511 (by decide +kernel) rfl) rfl rfl (by decide +kernel) (kn_nb (Or.inr rfl)) (kn_fz (Or.inr rfl)) (by simp) (by rw [knEnt_10 kdc_142, knUp_row]; rfl) (fun _ => (show knC (1) from ⟨by omega, by omega⟩)) (fun h => by rw [kdc_142] at h; cases h) (fun h => by rw [kdc_142] at h; cases h) dX13_save_33 ?_
  refine kj_aloadn X 0 dX13_save_36 rfl ?_
  refine kj_geto (k := 1) (o2 := 143) X K kdc_142 (by decide) (knEnt_10 kdc_142) rfl (by decide) knInX13 (knGm 1505 (by decide +kernel) rfl) rfl rfl dX13_save_37 ?_
  refine kj_iconst X dX13_save_40 ?_
  obtain ⟨h7, hf⟩ := knGd_inv hf
  refine kj_iald X K kdc_143 (show knC (0) from ⟨by omega, by omega⟩) lnc_143 h7 dX13_save_41 (fun h8 => ?_)
  cases hf
  exact kj_iret X h8 hr dX13_save_42 hlk

def kfX13_restore_l20    (kc : (knMem) → Option (Int × knMem)) : Nat → Int → knMem → Option (Int × knMem)
  | 0, _, _ => none
  | n + 1, x1, μ =>
    if 50 ≤ x1 then
     kc μ
    else
     knGd (0 ≤ x1 ∧ x1 < 50)
      (kfX13_restore_l20   kc n (knW (x1 + 1)) (knUp μ 143 x1 (μ 145 x1)))

def kfX13_restore  (μ : knMem) : Option (Int × knMem) :=
 if ((knUp μ 142 0 0) 142 7) = 0 then
  Option.bind (kfX13_fails 1 (knUp μ 142 0 0)) (fun q11 =>
   some (q11.1, q11.2))
 else
  kfX13_restore_l20   (fun w6 =>
   knGd ((0 : Int) ≤ 0 ∧ (0 : Int) < 50)
    (some (((knUp (knUp w6 142 5 0) 142 6 0) 143 0), (knUp (knUp w6 142 5 0) 142 6 0)))) knF 0 (knUp μ 142 0 0)

theorem knWvX13_restore : knWv yX13_restore cX13_restore 2 (some .int) 0 := ⟨(knGm 2152 (by decide +kernel) rfl), (knGm 124 (by decide +kernel) rfl), (knGm 2150 (by decide +kernel) rfl), (knGm 2151 (by decide +kernel) rfl), by decide +kernel, by decide +kernel, by decide +kernel⟩
set_option maxHeartbeats 4000000 in
set_option maxRecDepth 100000 in
theorem kfX13_restore_l20_ok {q : Int × knMem} {kc : (knMem) → Option (Int × knMem)} {G : knGT} {p : Program} {l : Launch} {e : Env} {s : State} {m : MethodId} {args : Array Value} {below : List Frame} {meth : Method} {c : Code} (X : knX p m c cX13_restore 2 s args yX13_restore.cls) (K : knK G s s.heap) (hr : meth.sig.returnType = (some .int)) (hlk : meth.locks = false)    (hk : ∀ (μ1 : knMem), kc μ1 = some q → knJ G p l e { frames := 1, cells := 0, slots := 0, locals := 21 } s m args below meth c 2 0 0 (MQ below (knPo G (knC q.1) (some (knV q.1)) q.2) args s 0 0 (knA G)) 44 [(0, knO G 142)] [] μ1) : ∀ (n : Nat) (x1 : Int) (hx1 : knC x1) (μ : knMem), kfX13_restore_l20   kc n x1 μ = some q → knJ G p l e { frames := 1, cells := 0, slots := 0, locals := 21 } s m args below meth c 2 0 0 (MQ below (knPo G (knC q.1) (some (knV q.1)) q.2) args s 0 0 (knA G)) 20 [(0, knO G 142), (1, knV x1)] [] μ := by
  intro n
  induction n with
  | zero => intro x1 hx1 μ hf; cases hf
  | succ n ih =>
    intro x1 hx1 μ hf
    unfold kfX13_restore_l20 at hf
    refine kj_iloadn X 1 dX13_restore_20 rfl ?_
    refine kj_bipush X (n := 50) dX13_restore_21 rfl ?_
    refine kj_ic_ge X (tgt := 44) dX13_restore_23 (by decide) hx1 (show knC (50) from ⟨by omega, by omega⟩) (fun h3 => ?_) (fun h3 => ?_)
    · replace hf := knIp hf h3
      refine kj_sub (L' := [(0, knO G 142)]) [0] rfl ?_
      exact hk _ hf
    · replace hf := knIq hf h3
      refine kj_aloadn X 0 dX13_restore_26 rfl ?_
      refine kj_geto (k := 1) (o2 := 143) X K kdc_142 (by decide) (knEnt_10 kdc_142) rfl (by decide) knInX13 (knGm 1505 (by decide +kernel) rfl) rfl rfl dX13_restore_27 ?_
      refine kj_iloadn X 1 dX13_restore_30 rfl ?_
      refine kj_aloadn X 0 dX13_restore_31 rfl ?_
      refine kj_geto (k := 3) (o2 := 145) X K kdc_142 (by decide) (knEnt_10 kdc_142) rfl (by decide) knInX13 (knGm 1507 (by decide +kernel) rfl) rfl rfl dX13_restore_32 ?_
      refine kj_iloadn X 1 dX13_restore_35 rfl ?_
      obtain ⟨h4, hf⟩ := knGd_inv hf
      refine kj_iald X K kdc_145 hx1 lnc_145 h4 dX13_restore_36 (fun h5 => ?_)
      refine kj_iast X K kdc_143 hx1 h5 lnc_143 h4 dX13_restore_37 ?_
      refine kj_iinc X 1 (L' := [(1, knV (knW (x1 + 1))), (0, knO G 142)]) dX13_restore_38 rfl (by decide) rfl ?_
      refine kj_goto X (tgt := 20) dX13_restore_41 (by decide) ?_
      refine kj_sub (L' := [(0, knO G 142), (1, knV (knW (x1 + 1)))]) [1, 0] rfl ?_
      exact ih _ (knCw _) _ hf

set_option maxHeartbeats 4000000 in
set_option maxRecDepth 100000 in
theorem kcX13_restore {G : knGT} (l : Launch)   {μ : knMem} {q : Int × knMem} (hf : kfX13_restore  μ = some q) : knC0 G l yX13_restore cX13_restore 2 (some .int) 1 21 [knO G 142] μ (knC q.1) (some (knV q.1)) q.2 := by
  unfold kfX13_restore at hf
  refine kn_ofJ (plainFor_of_name (by decide)) (Nat.le_of_ble_eq_true rfl) (L := [(0, knO G 142)]) rfl ?_
  intro p e s m args below meth c X K hr hlk
  refine kj_aloadn X 0 dX13_restore_0 rfl ?_
  refine kj_iconst X dX13_restore_1 ?_
  refine kj_putf (k := 0) (ki := 0) (x := 0) (ty := .int) X K rfl (knKd_in kdc_142 (by decide)) (knEnt_10 kdc_142) rfl (by decide) knInX13 tyX13_ok nmX13 (knGm 1504 (by decide +kernel) rfl) rfl rfl (by decide +kernel) rfl rfl (by simp) (by rw [knEnt_10 kdc_142, knUp_row]; rfl) (fun _ => (show knC (0) from ⟨by omega, by omega⟩)) (fun h => by rw [kdc_142] at h; cases h) (fun h => by rw [kdc_142] at h; cases h) dX13_restore_2 ?_
  refine kj_aloadn X 0 dX13_restore_5 rfl ?_
  refine kj_geti (k := 7) (ki := 7) X K rfl kdc_142 (by decide) (knEnt_10 kdc_142) rfl (by decide) knInX13 (knGm 1511 (by decide +kernel) rfl) rfl rfl dX13_restore_6 (fun h1 => ?_)
  refine kj_if_ne X (tgt := 18) dX13_restore_9 (by decide) h1 (fun h2 => ?_) (fun h2 => ?_)
  · replace hf := knIq hf h2
    refine kj_iconst X dX13_restore_18 ?_
    refine kj_istoren X (L' := [(1, knV 0), (0, knO G 142)]) dX13_restore_19 (by decide) rfl ?_
    refine kj_sub (L' := [(0, knO G 142), (1, knV 0)]) [1, 0] rfl ?_
    refine kfX13_restore_l20_ok X K hr hlk    ?_ knF _ (show knC (0) from ⟨by omega, by omega⟩) _ hf
    intro w6_m
    intro hf
    refine kj_aloadn X 0 dX13_restore_44 rfl ?_
    refine kj_iconst X dX13_restore_45 ?_
    refine kj_putf (k := 5) (ki := 5) (x := 0) (ty := .int) X K rfl (knKd_in kdc_142 (by decide)) (knEnt_10 kdc_142) rfl (by decide) knInX13 tyX13_ok nmX13 (knGm 1509 (by decide +kernel) rfl) rfl rfl (by decide +kernel) rfl rfl (by simp) (by rw [knEnt_10 kdc_142, knUp_row]; rfl) (fun _ => (show knC (0) from ⟨by omega, by omega⟩)) (fun h => by rw [kdc_142] at h; cases h) (fun h => by rw [kdc_142] at h; cases h) dX13_restore_46 ?_
    refine kj_aloadn X 0 dX13_restore_49 rfl ?_
    refine kj_iconst X dX13_restore_50 ?_
    refine kj_putf (k := 6) (ki := 6) (x := 0) (ty := .int) X K rfl (knKd_in kdc_142 (by decide)) (knEnt_10 kdc_142) rfl (by decide) knInX13 tyX13_ok nmX13 (knGm 1510 (by decide +kernel) rfl) rfl rfl (by decide +kernel) rfl rfl (by simp) (by rw [knEnt_10 kdc_142, knUp_row]; rfl) (fun _ => (show knC (0) from ⟨by omega, by omega⟩)) (fun h => by rw [kdc_142] at h; cases h) (fun h => by rw [kdc_142] at h; cases h) dX13_restore_51 ?_
    refine kj_aloadn X 0 dX13_restore_54 rfl ?_
    refine kj_geto (k := 1) (o2 := 143) X K kdc_142 (by decide) (knEnt_10 kdc_142) rfl (by decide) knInX13 (knGm 1505 (by decide +kernel) rfl) rfl rfl dX13_restore_55 ?_
    refine kj_iconst X dX13_restore_58 ?_
    obtain ⟨h9, hf⟩ := knGd_inv hf
    refine kj_iald X K kdc_143 (show knC (0) from ⟨by omega, by omega⟩) lnc_143 h9 dX13_restore_59 (fun h10 => ?_)
    cases hf
    exact kj_iret X h10 hr dX13_restore_60 hlk
  · replace hf := knIp hf h2
    refine kj_aloadn X 0 dX13_restore_12 rfl ?_
    refine kj_iconst X dX13_restore_13 ?_
    obtain ⟨q11, h12, hf⟩ := knBd_inv hf
    refine kj_callV (As := [knV 1]) (rest := []) X K (kcX13_fails l (show knC (1) from ⟨by omega, by omega⟩) h12) knWvX13_fails (knGm 1604 (by decide +kernel) rfl) (by decide) (knKd_in kdc_142 (by decide)) (knEnt_10 kdc_142) rfl rfl rfl (Nat.le_of_ble_eq_true rfl) (by decide) dX13_restore_14 rfl (fun h13 => ?_)
    cases hf
    exact kj_iret X h13 hr dX13_restore_17 hlk

