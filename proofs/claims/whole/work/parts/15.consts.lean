theorem kdc_0 : knKd 0 = 9 := by decide +kernel
theorem kdc_1 : knKd 1 = 7 := by decide +kernel
theorem kdc_2 : knKd 2 = 3 := by decide +kernel
theorem kdc_3 : knKd 3 = 20 := by decide +kernel
theorem lnc_3 : knLn 3 = 7 := by decide +kernel
theorem kdc_4 : knKd 4 = 20 := by decide +kernel
theorem lnc_4 : knLn 4 = 7 := by decide +kernel
theorem kdc_5 : knKd 5 = 21 := by decide +kernel
theorem lnc_5 : knLn 5 = 7 := by decide +kernel
theorem kdc_6 : knKd 6 = 0 := by decide +kernel
theorem kdc_7 : knKd 7 = 20 := by decide +kernel
theorem lnc_7 : knLn 7 = 4 := by decide +kernel
theorem kdc_8 : knKd 8 = 20 := by decide +kernel
theorem lnc_8 : knLn 8 = 4 := by decide +kernel
theorem kdc_9 : knKd 9 = 20 := by decide +kernel
theorem lnc_9 : knLn 9 = 4 := by decide +kernel
theorem kdc_10 : knKd 10 = 7 := by decide +kernel
theorem kdc_11 : knKd 11 = 3 := by decide +kernel
theorem kdc_12 : knKd 12 = 20 := by decide +kernel
theorem lnc_12 : knLn 12 = 7 := by decide +kernel
theorem kdc_13 : knKd 13 = 20 := by decide +kernel
theorem lnc_13 : knLn 13 = 7 := by decide +kernel
theorem kdc_14 : knKd 14 = 21 := by decide +kernel
theorem lnc_14 : knLn 14 = 7 := by decide +kernel
theorem kdc_15 : knKd 15 = 0 := by decide +kernel
theorem kdc_16 : knKd 16 = 20 := by decide +kernel
theorem lnc_16 : knLn 16 = 4 := by decide +kernel
theorem kdc_17 : knKd 17 = 20 := by decide +kernel
theorem lnc_17 : knLn 17 = 4 := by decide +kernel
theorem kdc_18 : knKd 18 = 20 := by decide +kernel
theorem lnc_18 : knLn 18 = 4 := by decide +kernel
theorem kdc_19 : knKd 19 = 3 := by decide +kernel
theorem kdc_20 : knKd 20 = 20 := by decide +kernel
theorem lnc_20 : knLn 20 = 7 := by decide +kernel
theorem kdc_21 : knKd 21 = 20 := by decide +kernel
theorem lnc_21 : knLn 21 = 7 := by decide +kernel
theorem kdc_22 : knKd 22 = 21 := by decide +kernel
theorem lnc_22 : knLn 22 = 7 := by decide +kernel
theorem kdc_23 : knKd 23 = 4 := by decide +kernel
theorem kdc_24 : knKd 24 = 23 := by decide +kernel
theorem kdc_25 : knKd 25 = 7 := by decide +kernel
theorem kdc_26 : knKd 26 = 3 := by decide +kernel
theorem kdc_27 : knKd 27 = 20 := by decide +kernel
theorem lnc_27 : knLn 27 = 7 := by decide +kernel
theorem kdc_28 : knKd 28 = 20 := by decide +kernel
theorem lnc_28 : knLn 28 = 7 := by decide +kernel
theorem kdc_29 : knKd 29 = 21 := by decide +kernel
theorem lnc_29 : knLn 29 = 7 := by decide +kernel
theorem kdc_30 : knKd 30 = 0 := by decide +kernel
theorem kdc_31 : knKd 31 = 20 := by decide +kernel
theorem lnc_31 : knLn 31 = 4 := by decide +kernel
theorem kdc_32 : knKd 32 = 20 := by decide +kernel
theorem lnc_32 : knLn 32 = 4 := by decide +kernel
theorem kdc_33 : knKd 33 = 20 := by decide +kernel
theorem lnc_33 : knLn 33 = 4 := by decide +kernel
theorem kdc_34 : knKd 34 = 7 := by decide +kernel
theorem kdc_35 : knKd 35 = 3 := by decide +kernel
theorem kdc_36 : knKd 36 = 20 := by decide +kernel
theorem lnc_36 : knLn 36 = 7 := by decide +kernel
theorem kdc_37 : knKd 37 = 20 := by decide +kernel
theorem lnc_37 : knLn 37 = 7 := by decide +kernel
theorem kdc_38 : knKd 38 = 21 := by decide +kernel
theorem lnc_38 : knLn 38 = 7 := by decide +kernel
theorem kdc_39 : knKd 39 = 0 := by decide +kernel
theorem kdc_40 : knKd 40 = 20 := by decide +kernel
theorem lnc_40 : knLn 40 = 4 := by decide +kernel
theorem kdc_41 : knKd 41 = 20 := by decide +kernel
theorem lnc_41 : knLn 41 = 4 := by decide +kernel
theorem kdc_42 : knKd 42 = 20 := by decide +kernel
theorem lnc_42 : knLn 42 = 4 := by decide +kernel
theorem kdc_43 : knKd 43 = 7 := by decide +kernel
theorem kdc_44 : knKd 44 = 3 := by decide +kernel
theorem kdc_45 : knKd 45 = 20 := by decide +kernel
theorem lnc_45 : knLn 45 = 7 := by decide +kernel
theorem kdc_46 : knKd 46 = 20 := by decide +kernel
theorem lnc_46 : knLn 46 = 7 := by decide +kernel
theorem kdc_47 : knKd 47 = 21 := by decide +kernel
theorem lnc_47 : knLn 47 = 7 := by decide +kernel
theorem kdc_48 : knKd 48 = 0 := by decide +kernel
theorem kdc_49 : knKd 49 = 20 := by decide +kernel
theorem lnc_49 : knLn 49 = 4 := by decide +kernel
theorem kdc_50 : knKd 50 = 20 := by decide +kernel
theorem lnc_50 : knLn 50 = 4 := by decide +kernel
theorem kdc_51 : knKd 51 = 20 := by decide +kernel
theorem lnc_51 : knLn 51 = 4 := by decide +kernel
theorem kdc_52 : knKd 52 = 7 := by decide +kernel
theorem kdc_53 : knKd 53 = 3 := by decide +kernel
theorem kdc_54 : knKd 54 = 20 := by decide +kernel
theorem lnc_54 : knLn 54 = 7 := by decide +kernel
theorem kdc_55 : knKd 55 = 20 := by decide +kernel
theorem lnc_55 : knLn 55 = 7 := by decide +kernel
theorem kdc_56 : knKd 56 = 21 := by decide +kernel
theorem lnc_56 : knLn 56 = 7 := by decide +kernel
theorem kdc_57 : knKd 57 = 0 := by decide +kernel
theorem kdc_58 : knKd 58 = 20 := by decide +kernel
theorem lnc_58 : knLn 58 = 4 := by decide +kernel
theorem kdc_59 : knKd 59 = 20 := by decide +kernel
theorem lnc_59 : knLn 59 = 4 := by decide +kernel
theorem kdc_60 : knKd 60 = 20 := by decide +kernel
theorem lnc_60 : knLn 60 = 4 := by decide +kernel
theorem kdc_61 : knKd 61 = 7 := by decide +kernel
theorem kdc_62 : knKd 62 = 3 := by decide +kernel
theorem kdc_63 : knKd 63 = 20 := by decide +kernel
theorem lnc_63 : knLn 63 = 7 := by decide +kernel
theorem kdc_64 : knKd 64 = 20 := by decide +kernel
theorem lnc_64 : knLn 64 = 7 := by decide +kernel
theorem kdc_65 : knKd 65 = 21 := by decide +kernel
theorem lnc_65 : knLn 65 = 7 := by decide +kernel
theorem kdc_66 : knKd 66 = 0 := by decide +kernel
theorem kdc_67 : knKd 67 = 20 := by decide +kernel
theorem lnc_67 : knLn 67 = 4 := by decide +kernel
theorem kdc_68 : knKd 68 = 20 := by decide +kernel
theorem lnc_68 : knLn 68 = 4 := by decide +kernel
theorem kdc_69 : knKd 69 = 20 := by decide +kernel
theorem lnc_69 : knLn 69 = 4 := by decide +kernel
theorem kdc_70 : knKd 70 = 7 := by decide +kernel
theorem kdc_71 : knKd 71 = 3 := by decide +kernel
theorem kdc_72 : knKd 72 = 20 := by decide +kernel
theorem lnc_72 : knLn 72 = 7 := by decide +kernel
theorem kdc_73 : knKd 73 = 20 := by decide +kernel
theorem lnc_73 : knLn 73 = 7 := by decide +kernel
theorem kdc_74 : knKd 74 = 21 := by decide +kernel
theorem lnc_74 : knLn 74 = 7 := by decide +kernel
theorem kdc_75 : knKd 75 = 0 := by decide +kernel
theorem kdc_76 : knKd 76 = 20 := by decide +kernel
theorem lnc_76 : knLn 76 = 4 := by decide +kernel
theorem kdc_77 : knKd 77 = 20 := by decide +kernel
theorem lnc_77 : knLn 77 = 4 := by decide +kernel
theorem kdc_78 : knKd 78 = 20 := by decide +kernel
theorem lnc_78 : knLn 78 = 4 := by decide +kernel
theorem kdc_79 : knKd 79 = 7 := by decide +kernel
theorem kdc_80 : knKd 80 = 3 := by decide +kernel
theorem kdc_81 : knKd 81 = 20 := by decide +kernel
theorem lnc_81 : knLn 81 = 7 := by decide +kernel
theorem kdc_82 : knKd 82 = 20 := by decide +kernel
theorem lnc_82 : knLn 82 = 7 := by decide +kernel
theorem kdc_83 : knKd 83 = 21 := by decide +kernel
theorem lnc_83 : knLn 83 = 7 := by decide +kernel
theorem kdc_84 : knKd 84 = 0 := by decide +kernel
theorem kdc_85 : knKd 85 = 20 := by decide +kernel
theorem lnc_85 : knLn 85 = 4 := by decide +kernel
theorem kdc_86 : knKd 86 = 20 := by decide +kernel
theorem lnc_86 : knLn 86 = 4 := by decide +kernel
theorem kdc_87 : knKd 87 = 20 := by decide +kernel
theorem lnc_87 : knLn 87 = 4 := by decide +kernel
theorem kdc_88 : knKd 88 = 7 := by decide +kernel
theorem kdc_89 : knKd 89 = 3 := by decide +kernel
theorem kdc_90 : knKd 90 = 20 := by decide +kernel
theorem lnc_90 : knLn 90 = 7 := by decide +kernel
theorem kdc_91 : knKd 91 = 20 := by decide +kernel
theorem lnc_91 : knLn 91 = 7 := by decide +kernel
theorem kdc_92 : knKd 92 = 21 := by decide +kernel
theorem lnc_92 : knLn 92 = 7 := by decide +kernel
theorem kdc_93 : knKd 93 = 0 := by decide +kernel
theorem kdc_94 : knKd 94 = 20 := by decide +kernel
theorem lnc_94 : knLn 94 = 4 := by decide +kernel
theorem kdc_95 : knKd 95 = 20 := by decide +kernel
theorem lnc_95 : knLn 95 = 4 := by decide +kernel
theorem kdc_96 : knKd 96 = 20 := by decide +kernel
theorem lnc_96 : knLn 96 = 4 := by decide +kernel
theorem kdc_97 : knKd 97 = 7 := by decide +kernel
theorem kdc_98 : knKd 98 = 3 := by decide +kernel
theorem kdc_99 : knKd 99 = 20 := by decide +kernel
theorem lnc_99 : knLn 99 = 7 := by decide +kernel
theorem kdc_100 : knKd 100 = 20 := by decide +kernel
theorem lnc_100 : knLn 100 = 7 := by decide +kernel
theorem kdc_101 : knKd 101 = 21 := by decide +kernel
theorem lnc_101 : knLn 101 = 7 := by decide +kernel
theorem kdc_102 : knKd 102 = 0 := by decide +kernel
theorem kdc_103 : knKd 103 = 20 := by decide +kernel
theorem lnc_103 : knLn 103 = 4 := by decide +kernel
theorem kdc_104 : knKd 104 = 20 := by decide +kernel
theorem lnc_104 : knLn 104 = 4 := by decide +kernel
theorem kdc_105 : knKd 105 = 20 := by decide +kernel
theorem lnc_105 : knLn 105 = 4 := by decide +kernel
theorem kdc_106 : knKd 106 = 2 := by decide +kernel
theorem kdc_107 : knKd 107 = 20 := by decide +kernel
theorem lnc_107 : knLn 107 = 7 := by decide +kernel
theorem kdc_108 : knKd 108 = 20 := by decide +kernel
theorem lnc_108 : knLn 108 = 7 := by decide +kernel
theorem kdc_109 : knKd 109 = 20 := by decide +kernel
theorem lnc_109 : knLn 109 = 7 := by decide +kernel
theorem kdc_110 : knKd 110 = 24 := by decide +kernel
theorem lnc_110 : knLn 110 = 7 := by decide +kernel
theorem kdc_111 : knKd 111 = 20 := by decide +kernel
theorem lnc_111 : knLn 111 = 7 := by decide +kernel
theorem kdc_112 : knKd 112 = 20 := by decide +kernel
theorem lnc_112 : knLn 112 = 7 := by decide +kernel
theorem kdc_113 : knKd 113 = 20 := by decide +kernel
theorem lnc_113 : knLn 113 = 7 := by decide +kernel
theorem kdc_114 : knKd 114 = 20 := by decide +kernel
theorem lnc_114 : knLn 114 = 7 := by decide +kernel
theorem kdc_115 : knKd 115 = 20 := by decide +kernel
theorem lnc_115 : knLn 115 = 7 := by decide +kernel
theorem kdc_116 : knKd 116 = 20 := by decide +kernel
theorem lnc_116 : knLn 116 = 7 := by decide +kernel
theorem kdc_117 : knKd 117 = 20 := by decide +kernel
theorem lnc_117 : knLn 117 = 7 := by decide +kernel
theorem kdc_118 : knKd 118 = 20 := by decide +kernel
theorem lnc_118 : knLn 118 = 7 := by decide +kernel
theorem kdc_119 : knKd 119 = 1 := by decide +kernel
theorem kdc_120 : knKd 120 = 20 := by decide +kernel
theorem lnc_120 : knLn 120 = 101 := by decide +kernel
theorem kdc_121 : knKd 121 = 20 := by decide +kernel
theorem lnc_121 : knLn 121 = 101 := by decide +kernel
theorem kdc_122 : knKd 122 = 20 := by decide +kernel
theorem lnc_122 : knLn 122 = 101 := by decide +kernel
theorem kdc_123 : knKd 123 = 24 := by decide +kernel
theorem lnc_123 : knLn 123 = 8 := by decide +kernel
theorem kdc_124 : knKd 124 = 20 := by decide +kernel
theorem lnc_124 : knLn 124 = 14 := by decide +kernel
theorem kdc_125 : knKd 125 = 20 := by decide +kernel
theorem lnc_125 : knLn 125 = 14 := by decide +kernel
theorem kdc_126 : knKd 126 = 20 := by decide +kernel
theorem lnc_126 : knLn 126 = 14 := by decide +kernel
theorem kdc_127 : knKd 127 = 20 := by decide +kernel
theorem lnc_127 : knLn 127 = 14 := by decide +kernel
theorem kdc_128 : knKd 128 = 20 := by decide +kernel
theorem lnc_128 : knLn 128 = 14 := by decide +kernel
theorem kdc_129 : knKd 129 = 20 := by decide +kernel
theorem lnc_129 : knLn 129 = 14 := by decide +kernel
theorem kdc_130 : knKd 130 = 20 := by decide +kernel
theorem lnc_130 : knLn 130 = 14 := by decide +kernel
theorem kdc_131 : knKd 131 = 20 := by decide +kernel
theorem lnc_131 : knLn 131 = 14 := by decide +kernel
theorem kdc_132 : knKd 132 = 8 := by decide +kernel
theorem kdc_133 : knKd 133 = 3 := by decide +kernel
theorem kdc_134 : knKd 134 = 20 := by decide +kernel
theorem lnc_134 : knLn 134 = 7 := by decide +kernel
theorem kdc_135 : knKd 135 = 20 := by decide +kernel
theorem lnc_135 : knLn 135 = 7 := by decide +kernel
theorem kdc_136 : knKd 136 = 21 := by decide +kernel
theorem lnc_136 : knLn 136 = 7 := by decide +kernel
theorem kdc_137 : knKd 137 = 6 := by decide +kernel
theorem kdc_138 : knKd 138 = 22 := by decide +kernel
theorem lnc_138 : knLn 138 = 60 := by decide +kernel
theorem kdc_139 : knKd 139 = 20 := by decide +kernel
theorem lnc_139 : knLn 139 = 4 := by decide +kernel
theorem kdc_140 : knKd 140 = 5 := by decide +kernel
theorem kdc_141 : knKd 141 = 22 := by decide +kernel
theorem lnc_141 : knLn 141 = 256 := by decide +kernel
theorem kdc_142 : knKd 142 = 10 := by decide +kernel
theorem kdc_143 : knKd 143 = 20 := by decide +kernel
theorem lnc_143 : knLn 143 = 50 := by decide +kernel
theorem kdc_144 : knKd 144 = 20 := by decide +kernel
theorem lnc_144 : knLn 144 = 400 := by decide +kernel
theorem kdc_145 : knKd 145 = 20 := by decide +kernel
theorem lnc_145 : knLn 145 = 50 := by decide +kernel
theorem kdc_146 : knKd 146 = 20 := by decide +kernel
theorem lnc_146 : knLn 146 = 50 := by decide +kernel
theorem kdc_147 : knKd 147 = 20 := by decide +kernel
theorem lnc_147 : knLn 147 = 14 := by decide +kernel
theorem kdc_148 : knKd 148 = 20 := by decide +kernel
theorem lnc_148 : knLn 148 = 14 := by decide +kernel
theorem kdc_149 : knKd 149 = 20 := by decide +kernel
theorem lnc_149 : knLn 149 = 7 := by decide +kernel
theorem kdc_150 : knKd 150 = 20 := by decide +kernel
theorem lnc_150 : knLn 150 = 49 := by decide +kernel
theorem kdc_151 : knKd 151 = 20 := by decide +kernel
theorem lnc_151 : knLn 151 = 14 := by decide +kernel
theorem kdc_152 : knKd 152 = 20 := by decide +kernel
theorem lnc_152 : knLn 152 = 101 := by decide +kernel
theorem kdc_153 : knKd 153 = 20 := by decide +kernel
theorem lnc_153 : knLn 153 = 101 := by decide +kernel
theorem kdc_154 : knKd 154 = 20 := by decide +kernel
theorem lnc_154 : knLn 154 = 101 := by decide +kernel
theorem kdc_155 : knKd 155 = 20 := by decide +kernel
theorem lnc_155 : knLn 155 = 101 := by decide +kernel
theorem kdc_156 : knKd 156 = 22 := by decide +kernel
theorem lnc_156 : knLn 156 = 300 := by decide +kernel
theorem kdc_157 : knKd 157 = 22 := by decide +kernel
theorem lnc_157 : knLn 157 = 60 := by decide +kernel
theorem kdc_158 : knKd 158 = 20 := by decide +kernel
theorem lnc_158 : knLn 158 = 4 := by decide +kernel
theorem kdc_159 : knKd 159 = 25 := by decide +kernel
theorem kdc_160 : knKd 160 = 26 := by decide +kernel
theorem knInX1 : ∀ w ∈ u_ws RX1 TX1 5, w ∈ knGW := by
  have h : (u_ws RX1 TX1 5).all (fun w => decide (w ∈ lw_tbl) && goodWord w) = true := by decide +kernel
  intro w hw
  have h1 := List.all_eq_true.mp h w hw
  simp only [Bool.and_eq_true, decide_eq_true_eq] at h1
  exact List.mem_filter.mpr h1
theorem knInX2 : ∀ w ∈ u_ws RX2 TX2 4, w ∈ knGW := by
  have h : (u_ws RX2 TX2 4).all (fun w => decide (w ∈ lw_tbl) && goodWord w) = true := by decide +kernel
  intro w hw
  have h1 := List.all_eq_true.mp h w hw
  simp only [Bool.and_eq_true, decide_eq_true_eq] at h1
  exact List.mem_filter.mpr h1
theorem knInX3 : ∀ w ∈ u_ws RX3 TX3 6, w ∈ knGW := by
  have h : (u_ws RX3 TX3 6).all (fun w => decide (w ∈ lw_tbl) && goodWord w) = true := by decide +kernel
  intro w hw
  have h1 := List.all_eq_true.mp h w hw
  simp only [Bool.and_eq_true, decide_eq_true_eq] at h1
  exact List.mem_filter.mpr h1
theorem knInX5 : ∀ w ∈ u_ws RX5 TX5 4, w ∈ knGW := by
  have h : (u_ws RX5 TX5 4).all (fun w => decide (w ∈ lw_tbl) && goodWord w) = true := by decide +kernel
  intro w hw
  have h1 := List.all_eq_true.mp h w hw
  simp only [Bool.and_eq_true, decide_eq_true_eq] at h1
  exact List.mem_filter.mpr h1
theorem knInX6 : ∀ w ∈ u_ws RX6 TX6 3, w ∈ knGW := by
  have h : (u_ws RX6 TX6 3).all (fun w => decide (w ∈ lw_tbl) && goodWord w) = true := by decide +kernel
  intro w hw
  have h1 := List.all_eq_true.mp h w hw
  simp only [Bool.and_eq_true, decide_eq_true_eq] at h1
  exact List.mem_filter.mpr h1
theorem knInX7 : ∀ w ∈ u_ws RX7 TX7 2, w ∈ knGW := by
  have h : (u_ws RX7 TX7 2).all (fun w => decide (w ∈ lw_tbl) && goodWord w) = true := by decide +kernel
  intro w hw
  have h1 := List.all_eq_true.mp h w hw
  simp only [Bool.and_eq_true, decide_eq_true_eq] at h1
  exact List.mem_filter.mpr h1
theorem knInX9 : ∀ w ∈ u_ws RX9 TX9 6, w ∈ knGW := by
  have h : (u_ws RX9 TX9 6).all (fun w => decide (w ∈ lw_tbl) && goodWord w) = true := by decide +kernel
  intro w hw
  have h1 := List.all_eq_true.mp h w hw
  simp only [Bool.and_eq_true, decide_eq_true_eq] at h1
  exact List.mem_filter.mpr h1
theorem knInX10 : ∀ w ∈ u_ws RX10 TX10 2, w ∈ knGW := by
  have h : (u_ws RX10 TX10 2).all (fun w => decide (w ∈ lw_tbl) && goodWord w) = true := by decide +kernel
  intro w hw
  have h1 := List.all_eq_true.mp h w hw
  simp only [Bool.and_eq_true, decide_eq_true_eq] at h1
  exact List.mem_filter.mpr h1
theorem knInX11 : ∀ w ∈ u_ws RX11 TX11 2, w ∈ knGW := by
  have h : (u_ws RX11 TX11 2).all (fun w => decide (w ∈ lw_tbl) && goodWord w) = true := by decide +kernel
  intro w hw
  have h1 := List.all_eq_true.mp h w hw
  simp only [Bool.and_eq_true, decide_eq_true_eq] at h1
  exact List.mem_filter.mpr h1
theorem knInX12 : ∀ w ∈ u_ws RX12 TX12 14, w ∈ knGW := by
  have h : (u_ws RX12 TX12 14).all (fun w => decide (w ∈ lw_tbl) && goodWord w) = true := by decide +kernel
  intro w hw
  have h1 := List.all_eq_true.mp h w hw
  simp only [Bool.and_eq_true, decide_eq_true_eq] at h1
  exact List.mem_filter.mpr h1
theorem knInX13 : ∀ w ∈ u_ws RX13 TX13 28, w ∈ knGW := by
  have h : (u_ws RX13 TX13 28).all (fun w => decide (w ∈ lw_tbl) && goodWord w) = true := by decide +kernel
  intro w hw
  have h1 := List.all_eq_true.mp h w hw
  simp only [Bool.and_eq_true, decide_eq_true_eq] at h1
  exact List.mem_filter.mpr h1
theorem knTh1 : (∀ w ∈ knWx RX12 331 335 "java/lang/IndexOutOfBoundsException", w ∈ knGW ∨ w ∈ knBW) ∧ ∀ w ∈ knWx RX12 331 335 "java/lang/IndexOutOfBoundsException", vx_ot w = true := by
  have h : (knWx RX12 331 335 "java/lang/IndexOutOfBoundsException").all (fun w => (decide (w ∈ lw_tbl) && (goodWord w || knBad w)) && vx_ot w) = true := by decide +kernel
  refine ⟨fun w hw => ?_, fun w hw => ?_⟩ <;> have h1 := List.all_eq_true.mp h w hw <;> simp only [Bool.and_eq_true, Bool.or_eq_true, decide_eq_true_eq] at h1
  · rcases h1.1.2 with h2 | h2
    · exact Or.inl (List.mem_filter.mpr ⟨h1.1.1, h2⟩)
    · exact Or.inr (List.mem_filter.mpr ⟨h1.1.1, h2⟩)
  · exact h1.2
theorem knTh2 : (∀ w ∈ knWx RX12 191 195 "java/lang/IllegalArgumentException", w ∈ knGW ∨ w ∈ knBW) ∧ ∀ w ∈ knWx RX12 191 195 "java/lang/IllegalArgumentException", vx_ot w = true := by
  have h : (knWx RX12 191 195 "java/lang/IllegalArgumentException").all (fun w => (decide (w ∈ lw_tbl) && (goodWord w || knBad w)) && vx_ot w) = true := by decide +kernel
  refine ⟨fun w hw => ?_, fun w hw => ?_⟩ <;> have h1 := List.all_eq_true.mp h w hw <;> simp only [Bool.and_eq_true, Bool.or_eq_true, decide_eq_true_eq] at h1
  · rcases h1.1.2 with h2 | h2
    · exact Or.inl (List.mem_filter.mpr ⟨h1.1.1, h2⟩)
    · exact Or.inr (List.mem_filter.mpr ⟨h1.1.1, h2⟩)
  · exact h1.2
theorem knTh3 : (∀ w ∈ knWx RX12 343 347 "java/lang/IllegalStateException", w ∈ knGW ∨ w ∈ knBW) ∧ ∀ w ∈ knWx RX12 343 347 "java/lang/IllegalStateException", vx_ot w = true := by
  have h : (knWx RX12 343 347 "java/lang/IllegalStateException").all (fun w => (decide (w ∈ lw_tbl) && (goodWord w || knBad w)) && vx_ot w) = true := by decide +kernel
  refine ⟨fun w hw => ?_, fun w hw => ?_⟩ <;> have h1 := List.all_eq_true.mp h w hw <;> simp only [Bool.and_eq_true, Bool.or_eq_true, decide_eq_true_eq] at h1
  · rcases h1.1.2 with h2 | h2
    · exact Or.inl (List.mem_filter.mpr ⟨h1.1.1, h2⟩)
    · exact Or.inr (List.mem_filter.mpr ⟨h1.1.1, h2⟩)
  · exact h1.2
theorem knTh4 : (∀ w ∈ knWx RX12 433 437 "java/lang/UnsupportedOperationException", w ∈ knGW ∨ w ∈ knBW) ∧ ∀ w ∈ knWx RX12 433 437 "java/lang/UnsupportedOperationException", vx_ot w = true := by
  have h : (knWx RX12 433 437 "java/lang/UnsupportedOperationException").all (fun w => (decide (w ∈ lw_tbl) && (goodWord w || knBad w)) && vx_ot w) = true := by decide +kernel
  refine ⟨fun w hw => ?_, fun w hw => ?_⟩ <;> have h1 := List.all_eq_true.mp h w hw <;> simp only [Bool.and_eq_true, Bool.or_eq_true, decide_eq_true_eq] at h1
  · rcases h1.1.2 with h2 | h2
    · exact Or.inl (List.mem_filter.mpr ⟨h1.1.1, h2⟩)
    · exact Or.inr (List.mem_filter.mpr ⟨h1.1.1, h2⟩)
  · exact h1.2
theorem knTh6 : (∀ w ∈ knWx RX12 301 305 "java/lang/ArithmeticException", w ∈ knGW ∨ w ∈ knBW) ∧ ∀ w ∈ knWx RX12 301 305 "java/lang/ArithmeticException", vx_ot w = true := by
  have h : (knWx RX12 301 305 "java/lang/ArithmeticException").all (fun w => (decide (w ∈ lw_tbl) && (goodWord w || knBad w)) && vx_ot w) = true := by decide +kernel
  refine ⟨fun w hw => ?_, fun w hw => ?_⟩ <;> have h1 := List.all_eq_true.mp h w hw <;> simp only [Bool.and_eq_true, Bool.or_eq_true, decide_eq_true_eq] at h1
  · rcases h1.1.2 with h2 | h2
    · exact Or.inl (List.mem_filter.mpr ⟨h1.1.1, h2⟩)
    · exact Or.inr (List.mem_filter.mpr ⟨h1.1.1, h2⟩)
  · exact h1.2
