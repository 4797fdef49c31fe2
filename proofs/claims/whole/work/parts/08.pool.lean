set_option maxRecDepth 100000 in
theorem co_X0 : CO RX0 TX0 8 0 := ⟨rfl, fun w h => tb_in ((by decide +kernel : ∀ w ∈ u_ws RX0 TX0 8, w ∈ lw_tbl) w h) ((by decide +kernel : ∀ w ∈ u_ws RX0 TX0 8, goodWord w = true) w h), nmX0⟩
set_option maxRecDepth 100000 in
theorem co_X1 : CO RX1 TX1 6 1 := ⟨rfl, fun w h => tb_in ((by decide +kernel : ∀ w ∈ u_ws RX1 TX1 6, w ∈ lw_tbl) w h) ((by decide +kernel : ∀ w ∈ u_ws RX1 TX1 6, goodWord w = true) w h), nmX1⟩
set_option maxRecDepth 100000 in
theorem co_X2 : CO RX2 TX2 19 2 := ⟨rfl, fun w h => tb_in ((by decide +kernel : ∀ w ∈ u_ws RX2 TX2 19, w ∈ lw_tbl) w h) ((by decide +kernel : ∀ w ∈ u_ws RX2 TX2 19, goodWord w = true) w h), nmX2⟩
set_option maxRecDepth 100000 in
theorem co_X3 : CO RX3 TX3 8 3 := ⟨rfl, fun w h => tb_in ((by decide +kernel : ∀ w ∈ u_ws RX3 TX3 8, w ∈ lw_tbl) w h) ((by decide +kernel : ∀ w ∈ u_ws RX3 TX3 8, goodWord w = true) w h), nmX3⟩
set_option maxRecDepth 100000 in
theorem co_X4 : CO RX4 TX4 5 4 := ⟨rfl, fun w h => tb_in ((by decide +kernel : ∀ w ∈ u_ws RX4 TX4 5, w ∈ lw_tbl) w h) ((by decide +kernel : ∀ w ∈ u_ws RX4 TX4 5, goodWord w = true) w h), nmX4⟩
set_option maxRecDepth 100000 in
theorem co_X5 : CO RX5 TX5 11 5 := ⟨rfl, fun w h => tb_in ((by decide +kernel : ∀ w ∈ u_ws RX5 TX5 11, w ∈ lw_tbl) w h) ((by decide +kernel : ∀ w ∈ u_ws RX5 TX5 11, goodWord w = true) w h), nmX5⟩
set_option maxRecDepth 100000 in
theorem co_X6 : CO RX6 TX6 5 6 := ⟨rfl, fun w h => tb_in ((by decide +kernel : ∀ w ∈ u_ws RX6 TX6 5, w ∈ lw_tbl) w h) ((by decide +kernel : ∀ w ∈ u_ws RX6 TX6 5, goodWord w = true) w h), nmX6⟩
set_option maxRecDepth 100000 in
theorem co_X7 : CO RX7 TX7 5 7 := ⟨rfl, fun w h => tb_in ((by decide +kernel : ∀ w ∈ u_ws RX7 TX7 5, w ∈ lw_tbl) w h) ((by decide +kernel : ∀ w ∈ u_ws RX7 TX7 5, goodWord w = true) w h), nmX7⟩
set_option maxRecDepth 100000 in
theorem co_X8 : CO RX8 TX8 2 8 := ⟨rfl, fun w h => tb_in ((by decide +kernel : ∀ w ∈ u_ws RX8 TX8 2, w ∈ lw_tbl) w h) ((by decide +kernel : ∀ w ∈ u_ws RX8 TX8 2, goodWord w = true) w h), nmX8⟩
set_option maxRecDepth 100000 in
theorem co_X9 : CO RX9 TX9 3 9 := ⟨rfl, fun w h => tb_in ((by decide +kernel : ∀ w ∈ u_ws RX9 TX9 3, w ∈ lw_tbl) w h) ((by decide +kernel : ∀ w ∈ u_ws RX9 TX9 3, goodWord w = true) w h), nmX9⟩
set_option maxRecDepth 100000 in
theorem co_X10 : CO RX10 TX10 4 10 := ⟨rfl, fun w h => tb_in ((by decide +kernel : ∀ w ∈ u_ws RX10 TX10 4, w ∈ lw_tbl) w h) ((by decide +kernel : ∀ w ∈ u_ws RX10 TX10 4, goodWord w = true) w h), nmX10⟩
set_option maxRecDepth 100000 in
theorem co_X11 : CO RX11 TX11 6 11 := ⟨rfl, fun w h => tb_in ((by decide +kernel : ∀ w ∈ u_ws RX11 TX11 6, w ∈ lw_tbl) w h) ((by decide +kernel : ∀ w ∈ u_ws RX11 TX11 6, goodWord w = true) w h), nmX11⟩
set_option maxRecDepth 100000 in
theorem co_X12 : CO RX12 TX12 80 12 := ⟨rfl, fun w h => tb_in ((by decide +kernel : ∀ w ∈ u_ws RX12 TX12 80, w ∈ lw_tbl) w h) ((by decide +kernel : ∀ w ∈ u_ws RX12 TX12 80, goodWord w = true) w h), nmX12⟩
set_option maxRecDepth 100000 in
theorem fl_X11_10 : FL RX11 10 11 0 := ⟨_, TX11, 6, co_X11, by decide, tb2 170 rfl rfl⟩
set_option maxRecDepth 100000 in
theorem fl_X11_19 : FL RX11 19 11 1 := ⟨_, TX11, 6, co_X11, by decide, tb2 171 rfl rfl⟩
set_option maxRecDepth 100000 in
theorem fl_X11_26 : FL RX11 26 11 2 := ⟨_, TX11, 6, co_X11, by decide, tb2 172 rfl rfl⟩
set_option maxRecDepth 100000 in
theorem fl_X11_33 : FL RX11 33 11 3 := ⟨_, TX11, 6, co_X11, by decide, tb2 173 rfl rfl⟩
set_option maxRecDepth 100000 in
theorem fl_X11_37 : FL RX11 37 11 4 := ⟨_, TX11, 6, co_X11, by decide, tb2 174 rfl rfl⟩
set_option maxRecDepth 100000 in
theorem fl_X11_40 : FL RX11 40 11 5 := ⟨_, TX11, 6, co_X11, by decide, tb2 175 rfl rfl⟩
set_option maxRecDepth 100000 in
theorem fi_X11_40 : FI RX11 40 11 5 := ⟨_, TX11, 6, tyX11, co_X11, by decide, tb2 175 rfl rfl, tyX11_ok, rfl, rfl⟩
set_option maxRecDepth 100000 in
theorem fl_X11_44 : FL RX11 44 10 3 := ⟨_, TX10, 4, co_X10, by decide, tb2 49 rfl rfl⟩
set_option maxRecDepth 100000 in
theorem fl_X11_48 : FL RX11 48 0 0 := ⟨_, TX0, 8, co_X0, by decide, tb2 14 rfl rfl⟩
set_option maxRecDepth 100000 in
theorem fl_X11_54 : FL RX11 54 8 0 := ⟨_, TX8, 2, co_X8, by decide, tb1 150 rfl rfl⟩
set_option maxRecDepth 100000 in
theorem fi_X11_54 : FI RX11 54 8 0 := ⟨_, TX8, 2, tyX8, co_X8, by decide, tb1 150 rfl rfl, tyX8_ok, rfl, rfl⟩
set_option maxRecDepth 100000 in
theorem fl_X11_74 : FL RX11 74 0 2 := ⟨_, TX0, 8, co_X0, by decide, tb2 19 rfl rfl⟩
set_option maxRecDepth 100000 in
theorem fi_X11_74 : FI RX11 74 0 2 := ⟨_, TX0, 8, tyX0, co_X0, by decide, tb2 19 rfl rfl, tyX0_ok, rfl, rfl⟩
set_option maxRecDepth 100000 in
theorem fl_X11_77 : FL RX11 77 10 0 := ⟨_, TX10, 4, co_X10, by decide, tb2 43 rfl rfl⟩
set_option maxRecDepth 100000 in
theorem fl_X11_87 : FL RX11 87 3 5 := ⟨_, TX3, 8, co_X3, by decide, tb1 60 rfl rfl⟩
set_option maxRecDepth 100000 in
theorem fi_X11_87 : FI RX11 87 3 5 := ⟨_, TX3, 8, tyX3, co_X3, by decide, tb1 60 rfl rfl, tyX3_ok, rfl, rfl⟩
set_option maxRecDepth 100000 in
theorem fl_X11_104 : FL RX11 104 10 1 := ⟨_, TX10, 4, co_X10, by decide, tb2 45 rfl rfl⟩
set_option maxRecDepth 100000 in
theorem fl_X11_117 : FL RX11 117 10 2 := ⟨_, TX10, 4, co_X10, by decide, tb2 47 rfl rfl⟩
set_option maxRecDepth 100000 in
theorem fl_X11_139 : FL RX11 139 7 0 := ⟨_, TX7, 5, co_X7, by decide, tb2 109 rfl rfl⟩
set_option maxRecDepth 100000 in
theorem fl_X11_146 : FL RX11 146 3 4 := ⟨_, TX3, 8, co_X3, by decide, tb1 57 rfl rfl⟩
set_option maxRecDepth 100000 in
theorem fi_X11_146 : FI RX11 146 3 4 := ⟨_, TX3, 8, tyX3, co_X3, by decide, tb1 57 rfl rfl, tyX3_ok, rfl, rfl⟩
set_option maxRecDepth 100000 in
theorem fl_X11_155 : FL RX11 155 4 4 := ⟨_, TX4, 5, co_X4, by decide, tb1 123 rfl rfl⟩
set_option maxRecDepth 100000 in
theorem fi_X11_155 : FI RX11 155 4 4 := ⟨_, TX4, 5, tyX4, co_X4, by decide, tb1 123 rfl rfl, tyX4_ok, rfl, rfl⟩
set_option maxRecDepth 100000 in
theorem fl_X11_160 : FL RX11 160 4 0 := ⟨_, TX4, 5, co_X4, by decide, tb1 113 rfl rfl⟩
set_option maxRecDepth 100000 in
theorem fl_X11_164 : FL RX11 164 4 1 := ⟨_, TX4, 5, co_X4, by decide, tb1 116 rfl rfl⟩
set_option maxRecDepth 100000 in
theorem fl_X11_173 : FL RX11 173 7 4 := ⟨_, TX7, 5, co_X7, by decide, tb2 120 rfl rfl⟩
set_option maxRecDepth 100000 in
theorem fi_X11_173 : FI RX11 173 7 4 := ⟨_, TX7, 5, tyX7, co_X7, by decide, tb2 120 rfl rfl, tyX7_ok, rfl, rfl⟩
set_option maxRecDepth 100000 in
theorem fl_X11_180 : FL RX11 180 6 0 := ⟨_, TX6, 5, co_X6, by decide, tb1 89 rfl rfl⟩
set_option maxRecDepth 100000 in
theorem fi_X11_180 : FI RX11 180 6 0 := ⟨_, TX6, 5, tyX6, co_X6, by decide, tb1 89 rfl rfl, tyX6_ok, rfl, rfl⟩
set_option maxRecDepth 100000 in
theorem fl_X11_185 : FL RX11 185 5 1 := ⟨_, TX5, 11, co_X5, by decide, tb2 135 rfl rfl⟩
set_option maxRecDepth 100000 in
theorem fi_X11_185 : FI RX11 185 5 1 := ⟨_, TX5, 11, tyX5, co_X5, by decide, tb2 135 rfl rfl, tyX5_ok, rfl, rfl⟩
set_option maxRecDepth 100000 in
theorem fl_X11_186 : FL RX11 186 5 0 := ⟨_, TX5, 11, co_X5, by decide, tb2 133 rfl rfl⟩
set_option maxRecDepth 100000 in
theorem fl_X11_189 : FL RX11 189 1 5 := ⟨_, TX1, 6, co_X1, by decide, tb2 76 rfl rfl⟩
set_option maxRecDepth 100000 in
theorem fi_X11_189 : FI RX11 189 1 5 := ⟨_, TX1, 6, tyX1, co_X1, by decide, tb2 76 rfl rfl, tyX1_ok, rfl, rfl⟩
set_option maxRecDepth 100000 in
theorem fl_X11_190 : FL RX11 190 1 1 := ⟨_, TX1, 6, co_X1, by decide, tb2 68 rfl rfl⟩
set_option maxRecDepth 100000 in
theorem fl_X11_191 : FL RX11 191 1 2 := ⟨_, TX1, 6, co_X1, by decide, tb2 70 rfl rfl⟩
set_option maxRecDepth 100000 in
theorem fl_X11_194 : FL RX11 194 1 0 := ⟨_, TX1, 6, co_X1, by decide, tb2 66 rfl rfl⟩
set_option maxRecDepth 100000 in
theorem fl_X11_199 : FL RX11 199 1 4 := ⟨_, TX1, 6, co_X1, by decide, tb2 74 rfl rfl⟩
set_option maxRecDepth 100000 in
theorem fl_X11_202 : FL RX11 202 1 3 := ⟨_, TX1, 6, co_X1, by decide, tb2 72 rfl rfl⟩
set_option maxRecDepth 100000 in
theorem fl_X11_209 : FL RX11 209 0 1 := ⟨_, TX0, 8, co_X0, by decide, tb2 17 rfl rfl⟩
set_option maxRecDepth 100000 in
theorem fl_X11_213 : FL RX11 213 2 0 := ⟨_, TX2, 19, co_X2, by decide, tb1 166 rfl rfl⟩
set_option maxRecDepth 100000 in
theorem fi_X11_213 : FI RX11 213 2 0 := ⟨_, TX2, 19, tyX2, co_X2, by decide, tb1 166 rfl rfl, tyX2_ok, rfl, rfl⟩
set_option maxRecDepth 100000 in
theorem fl_X11_218 : FL RX11 218 2 1 := ⟨_, TX2, 19, co_X2, by decide, tb1 169 rfl rfl⟩
set_option maxRecDepth 100000 in
theorem fi_X11_218 : FI RX11 218 2 1 := ⟨_, TX2, 19, tyX2, co_X2, by decide, tb1 169 rfl rfl, tyX2_ok, rfl, rfl⟩
set_option maxRecDepth 100000 in
theorem fl_X11_221 : FL RX11 221 3 6 := ⟨_, TX3, 8, co_X3, by decide, tb1 62 rfl rfl⟩
set_option maxRecDepth 100000 in
theorem fi_X11_221 : FI RX11 221 3 6 := ⟨_, TX3, 8, tyX3, co_X3, by decide, tb1 62 rfl rfl, tyX3_ok, rfl, rfl⟩
set_option maxRecDepth 100000 in
theorem fl_X0_12 : FL RX0 12 0 0 := ⟨_, TX0, 8, co_X0, by decide, tb2 13 rfl rfl⟩
set_option maxRecDepth 100000 in
theorem fl_X0_21 : FL RX0 21 0 1 := ⟨_, TX0, 8, co_X0, by decide, tb2 15 rfl rfl⟩
set_option maxRecDepth 100000 in
theorem fl_X0_25 : FL RX0 25 0 2 := ⟨_, TX0, 8, co_X0, by decide, tb2 18 rfl rfl⟩
set_option maxRecDepth 100000 in
theorem fi_X0_25 : FI RX0 25 0 2 := ⟨_, TX0, 8, tyX0, co_X0, by decide, tb2 18 rfl rfl, tyX0_ok, rfl, rfl⟩
set_option maxRecDepth 100000 in
theorem fl_X0_32 : FL RX0 32 0 3 := ⟨_, TX0, 8, co_X0, by decide, tb2 20 rfl rfl⟩
set_option maxRecDepth 100000 in
theorem fl_X0_36 : FL RX0 36 0 4 := ⟨_, TX0, 8, co_X0, by decide, tb2 21 rfl rfl⟩
set_option maxRecDepth 100000 in
theorem fi_X0_36 : FI RX0 36 0 4 := ⟨_, TX0, 8, tyX0, co_X0, by decide, tb2 21 rfl rfl, tyX0_ok, rfl, rfl⟩
set_option maxRecDepth 100000 in
theorem fl_X0_39 : FL RX0 39 0 5 := ⟨_, TX0, 8, co_X0, by decide, tb2 22 rfl rfl⟩
set_option maxRecDepth 100000 in
theorem fi_X0_39 : FI RX0 39 0 5 := ⟨_, TX0, 8, tyX0, co_X0, by decide, tb2 22 rfl rfl, tyX0_ok, rfl, rfl⟩
set_option maxRecDepth 100000 in
theorem fl_X0_42 : FL RX0 42 0 6 := ⟨_, TX0, 8, co_X0, by decide, tb2 23 rfl rfl⟩
set_option maxRecDepth 100000 in
theorem fi_X0_42 : FI RX0 42 0 6 := ⟨_, TX0, 8, tyX0, co_X0, by decide, tb2 23 rfl rfl, tyX0_ok, rfl, rfl⟩
set_option maxRecDepth 100000 in
theorem fl_X0_45 : FL RX0 45 0 7 := ⟨_, TX0, 8, co_X0, by decide, tb2 24 rfl rfl⟩
set_option maxRecDepth 100000 in
theorem fi_X0_45 : FI RX0 45 0 7 := ⟨_, TX0, 8, tyX0, co_X0, by decide, tb2 24 rfl rfl, tyX0_ok, rfl, rfl⟩
set_option maxRecDepth 100000 in
theorem fl_X0_55 : FL RX0 55 8 0 := ⟨_, TX8, 2, co_X8, by decide, tb1 151 rfl rfl⟩
set_option maxRecDepth 100000 in
theorem fi_X0_55 : FI RX0 55 8 0 := ⟨_, TX8, 2, tyX8, co_X8, by decide, tb1 151 rfl rfl, tyX8_ok, rfl, rfl⟩
set_option maxRecDepth 100000 in
theorem fl_X0_58 : FL RX0 58 9 1 := ⟨_, TX9, 3, co_X9, by decide, tb2 3 rfl rfl⟩
set_option maxRecDepth 100000 in
theorem fl_X0_80 : FL RX0 80 2 2 := ⟨_, TX2, 19, co_X2, by decide, tb1 171 rfl rfl⟩
set_option maxRecDepth 100000 in
theorem fi_X0_80 : FI RX0 80 2 2 := ⟨_, TX2, 19, tyX2, co_X2, by decide, tb1 171 rfl rfl, tyX2_ok, rfl, rfl⟩
set_option maxRecDepth 100000 in
theorem fl_X0_95 : FL RX0 95 9 2 := ⟨_, TX9, 3, co_X9, by decide, tb2 5 rfl rfl⟩
set_option maxRecDepth 100000 in
theorem fl_X0_102 : FL RX0 102 2 3 := ⟨_, TX2, 19, co_X2, by decide, tb1 173 rfl rfl⟩
set_option maxRecDepth 100000 in
theorem fi_X0_102 : FI RX0 102 2 3 := ⟨_, TX2, 19, tyX2, co_X2, by decide, tb1 173 rfl rfl, tyX2_ok, rfl, rfl⟩
set_option maxRecDepth 100000 in
theorem fl_X0_111 : FL RX0 111 2 6 := ⟨_, TX2, 19, co_X2, by decide, tb1 179 rfl rfl⟩
set_option maxRecDepth 100000 in
theorem fl_X0_121 : FL RX0 121 2 7 := ⟨_, TX2, 19, co_X2, by decide, tb1 181 rfl rfl⟩
set_option maxRecDepth 100000 in
theorem fl_X0_124 : FL RX0 124 2 4 := ⟨_, TX2, 19, co_X2, by decide, tb1 175 rfl rfl⟩
set_option maxRecDepth 100000 in
theorem fi_X0_124 : FI RX0 124 2 4 := ⟨_, TX2, 19, tyX2, co_X2, by decide, tb1 175 rfl rfl, tyX2_ok, rfl, rfl⟩
set_option maxRecDepth 100000 in
theorem fl_X0_127 : FL RX0 127 2 8 := ⟨_, TX2, 19, co_X2, by decide, tb1 183 rfl rfl⟩
set_option maxRecDepth 100000 in
theorem fl_X0_130 : FL RX0 130 2 5 := ⟨_, TX2, 19, co_X2, by decide, tb1 177 rfl rfl⟩
set_option maxRecDepth 100000 in
theorem fl_X0_142 : FL RX0 142 9 0 := ⟨_, TX9, 3, co_X9, by decide, tb2 1 rfl rfl⟩
set_option maxRecDepth 100000 in
theorem fl_X1_11 : FL RX1 11 1 0 := ⟨_, TX1, 6, co_X1, by decide, tb2 65 rfl rfl⟩
set_option maxRecDepth 100000 in
theorem fl_X1_15 : FL RX1 15 1 1 := ⟨_, TX1, 6, co_X1, by decide, tb2 67 rfl rfl⟩
set_option maxRecDepth 100000 in
theorem fl_X1_18 : FL RX1 18 1 2 := ⟨_, TX1, 6, co_X1, by decide, tb2 69 rfl rfl⟩
set_option maxRecDepth 100000 in
theorem fl_X1_21 : FL RX1 21 1 3 := ⟨_, TX1, 6, co_X1, by decide, tb2 71 rfl rfl⟩
set_option maxRecDepth 100000 in
theorem fl_X1_24 : FL RX1 24 1 4 := ⟨_, TX1, 6, co_X1, by decide, tb2 73 rfl rfl⟩
set_option maxRecDepth 100000 in
theorem fl_X1_27 : FL RX1 27 1 5 := ⟨_, TX1, 6, co_X1, by decide, tb2 75 rfl rfl⟩
set_option maxRecDepth 100000 in
theorem fi_X1_27 : FI RX1 27 1 5 := ⟨_, TX1, 6, tyX1, co_X1, by decide, tb2 75 rfl rfl, tyX1_ok, rfl, rfl⟩
set_option maxRecDepth 100000 in
theorem fl_X2_9 : FL RX2 9 2 0 := ⟨_, TX2, 19, co_X2, by decide, tb1 165 rfl rfl⟩
set_option maxRecDepth 100000 in
theorem fi_X2_9 : FI RX2 9 2 0 := ⟨_, TX2, 19, tyX2, co_X2, by decide, tb1 165 rfl rfl, tyX2_ok, rfl, rfl⟩
set_option maxRecDepth 100000 in
theorem fl_X2_15 : FL RX2 15 2 1 := ⟨_, TX2, 19, co_X2, by decide, tb1 167 rfl rfl⟩
set_option maxRecDepth 100000 in
theorem fi_X2_15 : FI RX2 15 2 1 := ⟨_, TX2, 19, tyX2, co_X2, by decide, tb1 167 rfl rfl, tyX2_ok, rfl, rfl⟩
set_option maxRecDepth 100000 in
theorem fl_X2_18 : FL RX2 18 2 2 := ⟨_, TX2, 19, co_X2, by decide, tb1 170 rfl rfl⟩
set_option maxRecDepth 100000 in
theorem fi_X2_18 : FI RX2 18 2 2 := ⟨_, TX2, 19, tyX2, co_X2, by decide, tb1 170 rfl rfl, tyX2_ok, rfl, rfl⟩
set_option maxRecDepth 100000 in
theorem fl_X2_21 : FL RX2 21 2 3 := ⟨_, TX2, 19, co_X2, by decide, tb1 172 rfl rfl⟩
set_option maxRecDepth 100000 in
theorem fi_X2_21 : FI RX2 21 2 3 := ⟨_, TX2, 19, tyX2, co_X2, by decide, tb1 172 rfl rfl, tyX2_ok, rfl, rfl⟩
set_option maxRecDepth 100000 in
theorem fl_X2_24 : FL RX2 24 2 4 := ⟨_, TX2, 19, co_X2, by decide, tb1 174 rfl rfl⟩
set_option maxRecDepth 100000 in
theorem fi_X2_24 : FI RX2 24 2 4 := ⟨_, TX2, 19, tyX2, co_X2, by decide, tb1 174 rfl rfl, tyX2_ok, rfl, rfl⟩
set_option maxRecDepth 100000 in
theorem fl_X2_27 : FL RX2 27 2 5 := ⟨_, TX2, 19, co_X2, by decide, tb1 176 rfl rfl⟩
set_option maxRecDepth 100000 in
theorem fl_X2_31 : FL RX2 31 2 6 := ⟨_, TX2, 19, co_X2, by decide, tb1 178 rfl rfl⟩
set_option maxRecDepth 100000 in
theorem fl_X2_35 : FL RX2 35 2 7 := ⟨_, TX2, 19, co_X2, by decide, tb1 180 rfl rfl⟩
set_option maxRecDepth 100000 in
theorem fl_X2_38 : FL RX2 38 2 8 := ⟨_, TX2, 19, co_X2, by decide, tb1 182 rfl rfl⟩
set_option maxRecDepth 100000 in
theorem fl_X2_41 : FL RX2 41 2 9 := ⟨_, TX2, 19, co_X2, by decide, tb1 184 rfl rfl⟩
set_option maxRecDepth 100000 in
theorem fl_X2_44 : FL RX2 44 2 10 := ⟨_, TX2, 19, co_X2, by decide, tb1 185 rfl rfl⟩
set_option maxRecDepth 100000 in
theorem fl_X2_47 : FL RX2 47 2 11 := ⟨_, TX2, 19, co_X2, by decide, tb1 186 rfl rfl⟩
set_option maxRecDepth 100000 in
theorem fl_X2_51 : FL RX2 51 2 12 := ⟨_, TX2, 19, co_X2, by decide, tb1 187 rfl rfl⟩
set_option maxRecDepth 100000 in
theorem fl_X2_54 : FL RX2 54 2 13 := ⟨_, TX2, 19, co_X2, by decide, tb1 188 rfl rfl⟩
set_option maxRecDepth 100000 in
theorem fl_X2_59 : FL RX2 59 2 14 := ⟨_, TX2, 19, co_X2, by decide, tb1 189 rfl rfl⟩
set_option maxRecDepth 100000 in
theorem fl_X2_62 : FL RX2 62 2 15 := ⟨_, TX2, 19, co_X2, by decide, tb1 190 rfl rfl⟩
set_option maxRecDepth 100000 in
theorem fi_X2_62 : FI RX2 62 2 15 := ⟨_, TX2, 19, tyX2, co_X2, by decide, tb1 190 rfl rfl, tyX2_ok, rfl, rfl⟩
set_option maxRecDepth 100000 in
theorem fl_X2_65 : FL RX2 65 2 16 := ⟨_, TX2, 19, co_X2, by decide, tb1 191 rfl rfl⟩
set_option maxRecDepth 100000 in
theorem fl_X2_68 : FL RX2 68 2 17 := ⟨_, TX2, 19, co_X2, by decide, tb1 192 rfl rfl⟩
set_option maxRecDepth 100000 in
theorem fl_X2_71 : FL RX2 71 2 18 := ⟨_, TX2, 19, co_X2, by decide, tb1 193 rfl rfl⟩
set_option maxRecDepth 100000 in
theorem fi_X2_71 : FI RX2 71 2 18 := ⟨_, TX2, 19, tyX2, co_X2, by decide, tb1 193 rfl rfl, tyX2_ok, rfl, rfl⟩
set_option maxRecDepth 100000 in
theorem fl_X2_80 : FL RX2 80 7 1 := ⟨_, TX7, 5, co_X7, by decide, tb2 112 rfl rfl⟩
set_option maxRecDepth 100000 in
theorem fl_X2_97 : FL RX2 97 3 3 := ⟨_, TX3, 8, co_X3, by decide, tb1 53 rfl rfl⟩
set_option maxRecDepth 100000 in
theorem fl_X2_110 : FL RX2 110 7 2 := ⟨_, TX7, 5, co_X7, by decide, tb2 115 rfl rfl⟩
set_option maxRecDepth 100000 in
theorem fi_X2_110 : FI RX2 110 7 2 := ⟨_, TX7, 5, tyX7, co_X7, by decide, tb2 115 rfl rfl, tyX7_ok, rfl, rfl⟩
set_option maxRecDepth 100000 in
theorem fl_X2_113 : FL RX2 113 7 0 := ⟨_, TX7, 5, co_X7, by decide, tb2 108 rfl rfl⟩
set_option maxRecDepth 100000 in
theorem fl_X2_117 : FL RX2 117 3 1 := ⟨_, TX3, 8, co_X3, by decide, tb1 49 rfl rfl⟩
set_option maxRecDepth 100000 in
theorem fl_X2_120 : FL RX2 120 3 0 := ⟨_, TX3, 8, co_X3, by decide, tb1 46 rfl rfl⟩
set_option maxRecDepth 100000 in
theorem fl_X2_123 : FL RX2 123 3 4 := ⟨_, TX3, 8, co_X3, by decide, tb1 56 rfl rfl⟩
set_option maxRecDepth 100000 in
theorem fi_X2_123 : FI RX2 123 3 4 := ⟨_, TX3, 8, tyX3, co_X3, by decide, tb1 56 rfl rfl, tyX3_ok, rfl, rfl⟩
set_option maxRecDepth 100000 in
theorem fl_X3_9 : FL RX3 9 3 0 := ⟨_, TX3, 8, co_X3, by decide, tb1 44 rfl rfl⟩
set_option maxRecDepth 100000 in
theorem fl_X3_15 : FL RX3 15 3 1 := ⟨_, TX3, 8, co_X3, by decide, tb1 47 rfl rfl⟩
set_option maxRecDepth 100000 in
theorem fl_X3_18 : FL RX3 18 3 2 := ⟨_, TX3, 8, co_X3, by decide, tb1 50 rfl rfl⟩
set_option maxRecDepth 100000 in
theorem fl_X3_21 : FL RX3 21 3 3 := ⟨_, TX3, 8, co_X3, by decide, tb1 52 rfl rfl⟩
set_option maxRecDepth 100000 in
theorem fl_X3_24 : FL RX3 24 3 4 := ⟨_, TX3, 8, co_X3, by decide, tb1 54 rfl rfl⟩
set_option maxRecDepth 100000 in
theorem fi_X3_24 : FI RX3 24 3 4 := ⟨_, TX3, 8, tyX3, co_X3, by decide, tb1 54 rfl rfl, tyX3_ok, rfl, rfl⟩
set_option maxRecDepth 100000 in
theorem fl_X3_28 : FL RX3 28 3 5 := ⟨_, TX3, 8, co_X3, by decide, tb1 58 rfl rfl⟩
set_option maxRecDepth 100000 in
theorem fi_X3_28 : FI RX3 28 3 5 := ⟨_, TX3, 8, tyX3, co_X3, by decide, tb1 58 rfl rfl, tyX3_ok, rfl, rfl⟩
set_option maxRecDepth 100000 in
theorem fl_X3_31 : FL RX3 31 3 6 := ⟨_, TX3, 8, co_X3, by decide, tb1 61 rfl rfl⟩
set_option maxRecDepth 100000 in
theorem fi_X3_31 : FI RX3 31 3 6 := ⟨_, TX3, 8, tyX3, co_X3, by decide, tb1 61 rfl rfl, tyX3_ok, rfl, rfl⟩
set_option maxRecDepth 100000 in
theorem fl_X3_34 : FL RX3 34 3 7 := ⟨_, TX3, 8, co_X3, by decide, tb1 63 rfl rfl⟩
set_option maxRecDepth 100000 in
theorem fl_X4_11 : FL RX4 11 4 0 := ⟨_, TX4, 5, co_X4, by decide, tb1 111 rfl rfl⟩
set_option maxRecDepth 100000 in
theorem fl_X4_15 : FL RX4 15 4 1 := ⟨_, TX4, 5, co_X4, by decide, tb1 114 rfl rfl⟩
set_option maxRecDepth 100000 in
theorem fl_X4_18 : FL RX4 18 4 2 := ⟨_, TX4, 5, co_X4, by decide, tb1 117 rfl rfl⟩
set_option maxRecDepth 100000 in
theorem fl_X4_22 : FL RX4 22 4 3 := ⟨_, TX4, 5, co_X4, by decide, tb1 119 rfl rfl⟩
set_option maxRecDepth 100000 in
theorem fl_X4_25 : FL RX4 25 4 4 := ⟨_, TX4, 5, co_X4, by decide, tb1 121 rfl rfl⟩
set_option maxRecDepth 100000 in
theorem fi_X4_25 : FI RX4 25 4 4 := ⟨_, TX4, 5, tyX4, co_X4, by decide, tb1 121 rfl rfl, tyX4_ok, rfl, rfl⟩
set_option maxRecDepth 100000 in
theorem fl_X5_11 : FL RX5 11 5 0 := ⟨_, TX5, 11, co_X5, by decide, tb2 132 rfl rfl⟩
set_option maxRecDepth 100000 in
theorem fl_X5_15 : FL RX5 15 5 1 := ⟨_, TX5, 11, co_X5, by decide, tb2 134 rfl rfl⟩
set_option maxRecDepth 100000 in
theorem fi_X5_15 : FI RX5 15 5 1 := ⟨_, TX5, 11, tyX5, co_X5, by decide, tb2 134 rfl rfl, tyX5_ok, rfl, rfl⟩
set_option maxRecDepth 100000 in
theorem fl_X5_21 : FL RX5 21 5 2 := ⟨_, TX5, 11, co_X5, by decide, tb2 136 rfl rfl⟩
set_option maxRecDepth 100000 in
theorem fl_X5_25 : FL RX5 25 5 3 := ⟨_, TX5, 11, co_X5, by decide, tb2 137 rfl rfl⟩
set_option maxRecDepth 100000 in
theorem fl_X5_28 : FL RX5 28 5 4 := ⟨_, TX5, 11, co_X5, by decide, tb2 138 rfl rfl⟩
set_option maxRecDepth 100000 in
theorem fl_X5_32 : FL RX5 32 5 6 := ⟨_, TX5, 11, co_X5, by decide, tb2 140 rfl rfl⟩
set_option maxRecDepth 100000 in
theorem fi_X5_32 : FI RX5 32 5 6 := ⟨_, TX5, 11, tyX5, co_X5, by decide, tb2 140 rfl rfl, tyX5_ok, rfl, rfl⟩
set_option maxRecDepth 100000 in
theorem fl_X5_35 : FL RX5 35 5 7 := ⟨_, TX5, 11, co_X5, by decide, tb2 141 rfl rfl⟩
set_option maxRecDepth 100000 in
theorem fi_X5_35 : FI RX5 35 5 7 := ⟨_, TX5, 11, tyX5, co_X5, by decide, tb2 141 rfl rfl, tyX5_ok, rfl, rfl⟩
set_option maxRecDepth 100000 in
theorem fl_X5_38 : FL RX5 38 5 8 := ⟨_, TX5, 11, co_X5, by decide, tb2 142 rfl rfl⟩
set_option maxRecDepth 100000 in
theorem fi_X5_38 : FI RX5 38 5 8 := ⟨_, TX5, 11, tyX5, co_X5, by decide, tb2 142 rfl rfl, tyX5_ok, rfl, rfl⟩
set_option maxRecDepth 100000 in
theorem fl_X5_47 : FL RX5 47 5 9 := ⟨_, TX5, 11, co_X5, by decide, tb2 143 rfl rfl⟩
set_option maxRecDepth 100000 in
theorem fi_X5_47 : FI RX5 47 5 9 := ⟨_, TX5, 11, tyX5, co_X5, by decide, tb2 143 rfl rfl, tyX5_ok, rfl, rfl⟩
set_option maxRecDepth 100000 in
theorem fl_X5_49 : FL RX5 49 3 2 := ⟨_, TX3, 8, co_X3, by decide, tb1 51 rfl rfl⟩
set_option maxRecDepth 100000 in
theorem fl_X5_52 : FL RX5 52 5 10 := ⟨_, TX5, 11, co_X5, by decide, tb2 144 rfl rfl⟩
set_option maxRecDepth 100000 in
theorem fi_X5_52 : FI RX5 52 5 10 := ⟨_, TX5, 11, tyX5, co_X5, by decide, tb2 144 rfl rfl, tyX5_ok, rfl, rfl⟩
set_option maxRecDepth 100000 in
theorem fl_X5_58 : FL RX5 58 5 5 := ⟨_, TX5, 11, co_X5, by decide, tb2 139 rfl rfl⟩
set_option maxRecDepth 100000 in
theorem fi_X5_58 : FI RX5 58 5 5 := ⟨_, TX5, 11, tyX5, co_X5, by decide, tb2 139 rfl rfl, tyX5_ok, rfl, rfl⟩
set_option maxRecDepth 100000 in
theorem fl_X5_80 : FL RX5 80 7 0 := ⟨_, TX7, 5, co_X7, by decide, tb2 107 rfl rfl⟩
set_option maxRecDepth 100000 in
theorem fl_X6_9 : FL RX6 9 6 0 := ⟨_, TX6, 5, co_X6, by decide, tb1 88 rfl rfl⟩
set_option maxRecDepth 100000 in
theorem fi_X6_9 : FI RX6 9 6 0 := ⟨_, TX6, 5, tyX6, co_X6, by decide, tb1 88 rfl rfl, tyX6_ok, rfl, rfl⟩
set_option maxRecDepth 100000 in
theorem fl_X6_15 : FL RX6 15 6 1 := ⟨_, TX6, 5, co_X6, by decide, tb1 90 rfl rfl⟩
set_option maxRecDepth 100000 in
theorem fl_X6_19 : FL RX6 19 6 2 := ⟨_, TX6, 5, co_X6, by decide, tb1 91 rfl rfl⟩
set_option maxRecDepth 100000 in
theorem fl_X6_22 : FL RX6 22 6 3 := ⟨_, TX6, 5, co_X6, by decide, tb1 92 rfl rfl⟩
set_option maxRecDepth 100000 in
theorem fl_X6_25 : FL RX6 25 6 4 := ⟨_, TX6, 5, co_X6, by decide, tb1 93 rfl rfl⟩
set_option maxRecDepth 100000 in
theorem fi_X6_25 : FI RX6 25 6 4 := ⟨_, TX6, 5, tyX6, co_X6, by decide, tb1 93 rfl rfl, tyX6_ok, rfl, rfl⟩
set_option maxRecDepth 100000 in
theorem fl_X7_11 : FL RX7 11 7 0 := ⟨_, TX7, 5, co_X7, by decide, tb2 105 rfl rfl⟩
set_option maxRecDepth 100000 in
theorem fl_X7_16 : FL RX7 16 7 1 := ⟨_, TX7, 5, co_X7, by decide, tb2 110 rfl rfl⟩
set_option maxRecDepth 100000 in
theorem fl_X7_20 : FL RX7 20 7 2 := ⟨_, TX7, 5, co_X7, by decide, tb2 113 rfl rfl⟩
set_option maxRecDepth 100000 in
theorem fi_X7_20 : FI RX7 20 7 2 := ⟨_, TX7, 5, tyX7, co_X7, by decide, tb2 113 rfl rfl, tyX7_ok, rfl, rfl⟩
set_option maxRecDepth 100000 in
theorem fl_X7_24 : FL RX7 24 7 3 := ⟨_, TX7, 5, co_X7, by decide, tb2 116 rfl rfl⟩
set_option maxRecDepth 100000 in
theorem fi_X7_24 : FI RX7 24 7 3 := ⟨_, TX7, 5, tyX7, co_X7, by decide, tb2 116 rfl rfl, tyX7_ok, rfl, rfl⟩
set_option maxRecDepth 100000 in
theorem fl_X7_27 : FL RX7 27 7 4 := ⟨_, TX7, 5, co_X7, by decide, tb2 118 rfl rfl⟩
set_option maxRecDepth 100000 in
theorem fi_X7_27 : FI RX7 27 7 4 := ⟨_, TX7, 5, tyX7, co_X7, by decide, tb2 118 rfl rfl, tyX7_ok, rfl, rfl⟩
set_option maxRecDepth 100000 in
theorem fl_X8_7 : FL RX8 7 8 0 := ⟨_, TX8, 2, co_X8, by decide, tb1 148 rfl rfl⟩
set_option maxRecDepth 100000 in
theorem fi_X8_7 : FI RX8 7 8 0 := ⟨_, TX8, 2, tyX8, co_X8, by decide, tb1 148 rfl rfl, tyX8_ok, rfl, rfl⟩
set_option maxRecDepth 100000 in
theorem fl_X8_13 : FL RX8 13 8 1 := ⟨_, TX8, 2, co_X8, by decide, tb1 152 rfl rfl⟩
set_option maxRecDepth 100000 in
theorem fl_X9_9 : FL RX9 9 9 0 := ⟨_, TX9, 3, co_X9, by decide, tb2 0 rfl rfl⟩
set_option maxRecDepth 100000 in
theorem fl_X9_13 : FL RX9 13 9 1 := ⟨_, TX9, 3, co_X9, by decide, tb2 2 rfl rfl⟩
set_option maxRecDepth 100000 in
theorem fl_X9_16 : FL RX9 16 9 2 := ⟨_, TX9, 3, co_X9, by decide, tb2 4 rfl rfl⟩
set_option maxRecDepth 100000 in
theorem fl_X9_19 : FL RX9 19 8 0 := ⟨_, TX8, 2, co_X8, by decide, tb1 149 rfl rfl⟩
set_option maxRecDepth 100000 in
theorem fi_X9_19 : FI RX9 19 8 0 := ⟨_, TX8, 2, tyX8, co_X8, by decide, tb1 149 rfl rfl, tyX8_ok, rfl, rfl⟩
set_option maxRecDepth 100000 in
theorem fl_X10_12 : FL RX10 12 10 0 := ⟨_, TX10, 4, co_X10, by decide, tb2 42 rfl rfl⟩
set_option maxRecDepth 100000 in
theorem fl_X10_21 : FL RX10 21 10 1 := ⟨_, TX10, 4, co_X10, by decide, tb2 44 rfl rfl⟩
set_option maxRecDepth 100000 in
theorem fl_X10_28 : FL RX10 28 10 2 := ⟨_, TX10, 4, co_X10, by decide, tb2 46 rfl rfl⟩
set_option maxRecDepth 100000 in
theorem fl_X10_35 : FL RX10 35 10 3 := ⟨_, TX10, 4, co_X10, by decide, tb2 48 rfl rfl⟩
set_option maxRecDepth 100000 in
theorem fl_X10_48 : FL RX10 48 7 4 := ⟨_, TX7, 5, co_X7, by decide, tb2 119 rfl rfl⟩
set_option maxRecDepth 100000 in
theorem fi_X10_48 : FI RX10 48 7 4 := ⟨_, TX7, 5, tyX7, co_X7, by decide, tb2 119 rfl rfl, tyX7_ok, rfl, rfl⟩
set_option maxRecDepth 100000 in
theorem fl_X10_52 : FL RX10 52 7 2 := ⟨_, TX7, 5, co_X7, by decide, tb2 114 rfl rfl⟩
set_option maxRecDepth 100000 in
theorem fi_X10_52 : FI RX10 52 7 2 := ⟨_, TX7, 5, tyX7, co_X7, by decide, tb2 114 rfl rfl, tyX7_ok, rfl, rfl⟩
set_option maxRecDepth 100000 in
theorem fl_X10_59 : FL RX10 59 7 0 := ⟨_, TX7, 5, co_X7, by decide, tb2 106 rfl rfl⟩
set_option maxRecDepth 100000 in
theorem fl_X10_69 : FL RX10 69 3 4 := ⟨_, TX3, 8, co_X3, by decide, tb1 55 rfl rfl⟩
set_option maxRecDepth 100000 in
theorem fi_X10_69 : FI RX10 69 3 4 := ⟨_, TX3, 8, tyX3, co_X3, by decide, tb1 55 rfl rfl, tyX3_ok, rfl, rfl⟩
set_option maxRecDepth 100000 in
theorem fl_X10_76 : FL RX10 76 3 5 := ⟨_, TX3, 8, co_X3, by decide, tb1 59 rfl rfl⟩
set_option maxRecDepth 100000 in
theorem fi_X10_76 : FI RX10 76 3 5 := ⟨_, TX3, 8, tyX3, co_X3, by decide, tb1 59 rfl rfl, tyX3_ok, rfl, rfl⟩
set_option maxRecDepth 100000 in
theorem fl_X10_79 : FL RX10 79 7 3 := ⟨_, TX7, 5, co_X7, by decide, tb2 117 rfl rfl⟩
set_option maxRecDepth 100000 in
theorem fi_X10_79 : FI RX10 79 7 3 := ⟨_, TX7, 5, tyX7, co_X7, by decide, tb2 117 rfl rfl, tyX7_ok, rfl, rfl⟩
set_option maxRecDepth 100000 in
theorem fl_X10_82 : FL RX10 82 4 4 := ⟨_, TX4, 5, co_X4, by decide, tb1 122 rfl rfl⟩
set_option maxRecDepth 100000 in
theorem fi_X10_82 : FI RX10 82 4 4 := ⟨_, TX4, 5, tyX4, co_X4, by decide, tb1 122 rfl rfl, tyX4_ok, rfl, rfl⟩
set_option maxRecDepth 100000 in
theorem fl_X10_83 : FL RX10 83 4 0 := ⟨_, TX4, 5, co_X4, by decide, tb1 112 rfl rfl⟩
set_option maxRecDepth 100000 in
theorem fl_X10_86 : FL RX10 86 4 2 := ⟨_, TX4, 5, co_X4, by decide, tb1 118 rfl rfl⟩
set_option maxRecDepth 100000 in
theorem fl_X10_90 : FL RX10 90 7 1 := ⟨_, TX7, 5, co_X7, by decide, tb2 111 rfl rfl⟩
set_option maxRecDepth 100000 in
theorem fl_X10_93 : FL RX10 93 4 1 := ⟨_, TX4, 5, co_X4, by decide, tb1 115 rfl rfl⟩
set_option maxRecDepth 100000 in
theorem fl_X10_96 : FL RX10 96 4 3 := ⟨_, TX4, 5, co_X4, by decide, tb1 120 rfl rfl⟩
set_option maxRecDepth 100000 in
theorem fl_X10_99 : FL RX10 99 0 1 := ⟨_, TX0, 8, co_X0, by decide, tb2 16 rfl rfl⟩
set_option maxRecDepth 100000 in
theorem fl_X10_118 : FL RX10 118 3 0 := ⟨_, TX3, 8, co_X3, by decide, tb1 45 rfl rfl⟩
set_option maxRecDepth 100000 in
theorem fl_X10_128 : FL RX10 128 3 1 := ⟨_, TX3, 8, co_X3, by decide, tb1 48 rfl rfl⟩
set_option maxRecDepth 100000 in
theorem fl_X10_131 : FL RX10 131 2 1 := ⟨_, TX2, 19, co_X2, by decide, tb1 168 rfl rfl⟩
set_option maxRecDepth 100000 in
theorem fi_X10_131 : FI RX10 131 2 1 := ⟨_, TX2, 19, tyX2, co_X2, by decide, tb1 168 rfl rfl, tyX2_ok, rfl, rfl⟩
set_option maxRecDepth 100000 in
theorem fl_X12_13 : FL RX12 13 12 1 := ⟨_, TX12, 80, co_X12, by decide, tb4 184 rfl rfl⟩
set_option maxRecDepth 100000 in
theorem fl_X12_17 : FL RX12 17 12 3 := ⟨_, TX12, 80, co_X12, by decide, tb4 186 rfl rfl⟩
set_option maxRecDepth 100000 in
theorem fl_X12_20 : FL RX12 20 12 5 := ⟨_, TX12, 80, co_X12, by decide, tb4 188 rfl rfl⟩
set_option maxRecDepth 100000 in
theorem fl_X12_24 : FL RX12 24 12 6 := ⟨_, TX12, 80, co_X12, by decide, tb4 189 rfl rfl⟩
set_option maxRecDepth 100000 in
theorem fl_X12_27 : FL RX12 27 12 7 := ⟨_, TX12, 80, co_X12, by decide, tb4 190 rfl rfl⟩
set_option maxRecDepth 100000 in
theorem fl_X12_30 : FL RX12 30 12 8 := ⟨_, TX12, 80, co_X12, by decide, tb4 191 rfl rfl⟩
set_option maxRecDepth 100000 in
theorem fl_X12_34 : FL RX12 34 12 9 := ⟨_, TX12, 80, co_X12, by decide, tb4 192 rfl rfl⟩
set_option maxRecDepth 100000 in
theorem fl_X12_37 : FL RX12 37 12 17 := ⟨_, TX12, 80, co_X12, by decide, tb4 200 rfl rfl⟩
set_option maxRecDepth 100000 in
theorem fi_X12_37 : FI RX12 37 12 17 := ⟨_, TX12, 80, tyX12, co_X12, by decide, tb4 200 rfl rfl, tyX12_ok, rfl, rfl⟩
set_option maxRecDepth 100000 in
theorem fl_X12_40 : FL RX12 40 12 20 := ⟨_, TX12, 80, co_X12, by decide, tb4 203 rfl rfl⟩
set_option maxRecDepth 100000 in
theorem fl_X12_43 : FL RX12 43 12 21 := ⟨_, TX12, 80, co_X12, by decide, tb4 204 rfl rfl⟩
set_option maxRecDepth 100000 in
theorem fl_X12_46 : FL RX12 46 12 22 := ⟨_, TX12, 80, co_X12, by decide, tb4 205 rfl rfl⟩
set_option maxRecDepth 100000 in
theorem fl_X12_49 : FL RX12 49 12 25 := ⟨_, TX12, 80, co_X12, by decide, tb4 208 rfl rfl⟩
set_option maxRecDepth 100000 in
theorem fl_X12_52 : FL RX12 52 12 26 := ⟨_, TX12, 80, co_X12, by decide, tb4 209 rfl rfl⟩
set_option maxRecDepth 100000 in
theorem fl_X12_55 : FL RX12 55 12 27 := ⟨_, TX12, 80, co_X12, by decide, tb4 210 rfl rfl⟩
set_option maxRecDepth 100000 in
theorem fl_X12_59 : FL RX12 59 12 28 := ⟨_, TX12, 80, co_X12, by decide, tb4 211 rfl rfl⟩
set_option maxRecDepth 100000 in
theorem fl_X12_62 : FL RX12 62 12 29 := ⟨_, TX12, 80, co_X12, by decide, tb4 212 rfl rfl⟩
set_option maxRecDepth 100000 in
theorem fl_X12_65 : FL RX12 65 12 30 := ⟨_, TX12, 80, co_X12, by decide, tb4 213 rfl rfl⟩
set_option maxRecDepth 100000 in
theorem fl_X12_68 : FL RX12 68 12 31 := ⟨_, TX12, 80, co_X12, by decide, tb4 214 rfl rfl⟩
set_option maxRecDepth 100000 in
theorem fl_X12_71 : FL RX12 71 12 33 := ⟨_, TX12, 80, co_X12, by decide, tb4 216 rfl rfl⟩
set_option maxRecDepth 100000 in
theorem fl_X12_74 : FL RX12 74 12 34 := ⟨_, TX12, 80, co_X12, by decide, tb4 217 rfl rfl⟩
set_option maxRecDepth 100000 in
theorem fl_X12_77 : FL RX12 77 12 35 := ⟨_, TX12, 80, co_X12, by decide, tb4 218 rfl rfl⟩
set_option maxRecDepth 100000 in
theorem fl_X12_80 : FL RX12 80 12 36 := ⟨_, TX12, 80, co_X12, by decide, tb4 219 rfl rfl⟩
set_option maxRecDepth 100000 in
theorem fl_X12_83 : FL RX12 83 12 37 := ⟨_, TX12, 80, co_X12, by decide, tb4 220 rfl rfl⟩
set_option maxRecDepth 100000 in
theorem fl_X12_86 : FL RX12 86 12 39 := ⟨_, TX12, 80, co_X12, by decide, tb4 222 rfl rfl⟩
set_option maxRecDepth 100000 in
theorem fl_X12_89 : FL RX12 89 12 40 := ⟨_, TX12, 80, co_X12, by decide, tb4 223 rfl rfl⟩
set_option maxRecDepth 100000 in
theorem fl_X12_92 : FL RX12 92 12 41 := ⟨_, TX12, 80, co_X12, by decide, tb4 224 rfl rfl⟩
set_option maxRecDepth 100000 in
theorem fl_X12_95 : FL RX12 95 12 44 := ⟨_, TX12, 80, co_X12, by decide, tb4 227 rfl rfl⟩
set_option maxRecDepth 100000 in
theorem fl_X12_98 : FL RX12 98 12 45 := ⟨_, TX12, 80, co_X12, by decide, tb4 228 rfl rfl⟩
set_option maxRecDepth 100000 in
theorem fl_X12_101 : FL RX12 101 12 46 := ⟨_, TX12, 80, co_X12, by decide, tb4 229 rfl rfl⟩
set_option maxRecDepth 100000 in
theorem fl_X12_104 : FL RX12 104 12 47 := ⟨_, TX12, 80, co_X12, by decide, tb4 230 rfl rfl⟩
set_option maxRecDepth 100000 in
theorem fl_X12_107 : FL RX12 107 12 50 := ⟨_, TX12, 80, co_X12, by decide, tb4 233 rfl rfl⟩
set_option maxRecDepth 100000 in
theorem fl_X12_110 : FL RX12 110 12 53 := ⟨_, TX12, 80, co_X12, by decide, tb4 236 rfl rfl⟩
set_option maxRecDepth 100000 in
theorem fl_X12_113 : FL RX12 113 12 54 := ⟨_, TX12, 80, co_X12, by decide, tb4 237 rfl rfl⟩
set_option maxRecDepth 100000 in
theorem fl_X12_116 : FL RX12 116 12 55 := ⟨_, TX12, 80, co_X12, by decide, tb4 238 rfl rfl⟩
set_option maxRecDepth 100000 in
theorem fl_X12_119 : FL RX12 119 12 57 := ⟨_, TX12, 80, co_X12, by decide, tb5 0 rfl rfl⟩
set_option maxRecDepth 100000 in
theorem fl_X12_122 : FL RX12 122 12 58 := ⟨_, TX12, 80, co_X12, by decide, tb5 1 rfl rfl⟩
set_option maxRecDepth 100000 in
theorem fl_X12_125 : FL RX12 125 12 59 := ⟨_, TX12, 80, co_X12, by decide, tb5 2 rfl rfl⟩
set_option maxRecDepth 100000 in
theorem fl_X12_128 : FL RX12 128 12 60 := ⟨_, TX12, 80, co_X12, by decide, tb5 3 rfl rfl⟩
set_option maxRecDepth 100000 in
theorem fl_X12_131 : FL RX12 131 12 62 := ⟨_, TX12, 80, co_X12, by decide, tb5 5 rfl rfl⟩
set_option maxRecDepth 100000 in
theorem fl_X12_134 : FL RX12 134 12 63 := ⟨_, TX12, 80, co_X12, by decide, tb5 6 rfl rfl⟩
set_option maxRecDepth 100000 in
theorem fl_X12_137 : FL RX12 137 12 64 := ⟨_, TX12, 80, co_X12, by decide, tb5 7 rfl rfl⟩
set_option maxRecDepth 100000 in
theorem fl_X12_140 : FL RX12 140 12 65 := ⟨_, TX12, 80, co_X12, by decide, tb5 8 rfl rfl⟩
set_option maxRecDepth 100000 in
theorem fl_X12_143 : FL RX12 143 12 66 := ⟨_, TX12, 80, co_X12, by decide, tb5 9 rfl rfl⟩
set_option maxRecDepth 100000 in
theorem fi_X12_143 : FI RX12 143 12 66 := ⟨_, TX12, 80, tyX12, co_X12, by decide, tb5 9 rfl rfl, tyX12_ok, rfl, rfl⟩
set_option maxRecDepth 100000 in
theorem fl_X12_146 : FL RX12 146 12 67 := ⟨_, TX12, 80, co_X12, by decide, tb5 10 rfl rfl⟩
set_option maxRecDepth 100000 in
theorem fi_X12_146 : FI RX12 146 12 67 := ⟨_, TX12, 80, tyX12, co_X12, by decide, tb5 10 rfl rfl, tyX12_ok, rfl, rfl⟩
set_option maxRecDepth 100000 in
theorem fl_X12_149 : FL RX12 149 12 68 := ⟨_, TX12, 80, co_X12, by decide, tb5 11 rfl rfl⟩
set_option maxRecDepth 100000 in
theorem fl_X12_152 : FL RX12 152 12 69 := ⟨_, TX12, 80, co_X12, by decide, tb5 12 rfl rfl⟩
set_option maxRecDepth 100000 in
theorem fl_X12_155 : FL RX12 155 12 70 := ⟨_, TX12, 80, co_X12, by decide, tb5 13 rfl rfl⟩
set_option maxRecDepth 100000 in
theorem fl_X12_158 : FL RX12 158 12 71 := ⟨_, TX12, 80, co_X12, by decide, tb5 14 rfl rfl⟩
set_option maxRecDepth 100000 in
theorem fl_X12_161 : FL RX12 161 12 72 := ⟨_, TX12, 80, co_X12, by decide, tb5 15 rfl rfl⟩
set_option maxRecDepth 100000 in
theorem fl_X12_164 : FL RX12 164 12 73 := ⟨_, TX12, 80, co_X12, by decide, tb5 16 rfl rfl⟩
set_option maxRecDepth 100000 in
theorem fl_X12_167 : FL RX12 167 12 74 := ⟨_, TX12, 80, co_X12, by decide, tb5 17 rfl rfl⟩
set_option maxRecDepth 100000 in
theorem fl_X12_170 : FL RX12 170 12 76 := ⟨_, TX12, 80, co_X12, by decide, tb5 19 rfl rfl⟩
set_option maxRecDepth 100000 in
theorem fl_X12_173 : FL RX12 173 12 77 := ⟨_, TX12, 80, co_X12, by decide, tb5 20 rfl rfl⟩
set_option maxRecDepth 100000 in
theorem fl_X12_176 : FL RX12 176 12 78 := ⟨_, TX12, 80, co_X12, by decide, tb5 21 rfl rfl⟩
set_option maxRecDepth 100000 in
theorem fl_X12_179 : FL RX12 179 12 79 := ⟨_, TX12, 80, co_X12, by decide, tb5 22 rfl rfl⟩
set_option maxRecDepth 100000 in
theorem fl_X12_186 : FL RX12 186 12 49 := ⟨_, TX12, 80, co_X12, by decide, tb4 232 rfl rfl⟩
set_option maxRecDepth 100000 in
theorem fi_X12_186 : FI RX12 186 12 49 := ⟨_, TX12, 80, tyX12, co_X12, by decide, tb4 232 rfl rfl, tyX12_ok, rfl, rfl⟩
set_option maxRecDepth 100000 in
theorem fl_X12_189 : FL RX12 189 12 2 := ⟨_, TX12, 80, co_X12, by decide, tb4 185 rfl rfl⟩
set_option maxRecDepth 100000 in
theorem fi_X12_189 : FI RX12 189 12 2 := ⟨_, TX12, 80, tyX12, co_X12, by decide, tb4 185 rfl rfl, tyX12_ok, rfl, rfl⟩
set_option maxRecDepth 100000 in
theorem fl_X12_196 : FL RX12 196 12 4 := ⟨_, TX12, 80, co_X12, by decide, tb4 187 rfl rfl⟩
set_option maxRecDepth 100000 in
theorem fi_X12_196 : FI RX12 196 12 4 := ⟨_, TX12, 80, tyX12, co_X12, by decide, tb4 187 rfl rfl, tyX12_ok, rfl, rfl⟩
set_option maxRecDepth 100000 in
theorem fl_X12_205 : FL RX12 205 12 10 := ⟨_, TX12, 80, co_X12, by decide, tb4 193 rfl rfl⟩
set_option maxRecDepth 100000 in
theorem fi_X12_205 : FI RX12 205 12 10 := ⟨_, TX12, 80, tyX12, co_X12, by decide, tb4 193 rfl rfl, tyX12_ok, rfl, rfl⟩
set_option maxRecDepth 100000 in
theorem fl_X12_227 : FL RX12 227 12 13 := ⟨_, TX12, 80, co_X12, by decide, tb4 196 rfl rfl⟩
set_option maxRecDepth 100000 in
theorem fi_X12_227 : FI RX12 227 12 13 := ⟨_, TX12, 80, tyX12, co_X12, by decide, tb4 196 rfl rfl, tyX12_ok, rfl, rfl⟩
set_option maxRecDepth 100000 in
theorem fl_X12_230 : FL RX12 230 12 11 := ⟨_, TX12, 80, co_X12, by decide, tb4 194 rfl rfl⟩
set_option maxRecDepth 100000 in
theorem fi_X12_230 : FI RX12 230 12 11 := ⟨_, TX12, 80, tyX12, co_X12, by decide, tb4 194 rfl rfl, tyX12_ok, rfl, rfl⟩
set_option maxRecDepth 100000 in
theorem fl_X12_233 : FL RX12 233 12 14 := ⟨_, TX12, 80, co_X12, by decide, tb4 197 rfl rfl⟩
set_option maxRecDepth 100000 in
theorem fi_X12_233 : FI RX12 233 12 14 := ⟨_, TX12, 80, tyX12, co_X12, by decide, tb4 197 rfl rfl, tyX12_ok, rfl, rfl⟩
set_option maxRecDepth 100000 in
theorem fl_X12_236 : FL RX12 236 12 15 := ⟨_, TX12, 80, co_X12, by decide, tb4 198 rfl rfl⟩
set_option maxRecDepth 100000 in
theorem fi_X12_236 : FI RX12 236 12 15 := ⟨_, TX12, 80, tyX12, co_X12, by decide, tb4 198 rfl rfl, tyX12_ok, rfl, rfl⟩
set_option maxRecDepth 100000 in
theorem fl_X12_239 : FL RX12 239 12 16 := ⟨_, TX12, 80, co_X12, by decide, tb4 199 rfl rfl⟩
set_option maxRecDepth 100000 in
theorem fi_X12_239 : FI RX12 239 12 16 := ⟨_, TX12, 80, tyX12, co_X12, by decide, tb4 199 rfl rfl, tyX12_ok, rfl, rfl⟩
set_option maxRecDepth 100000 in
theorem fl_X12_254 : FL RX12 254 12 12 := ⟨_, TX12, 80, co_X12, by decide, tb4 195 rfl rfl⟩
set_option maxRecDepth 100000 in
theorem fi_X12_254 : FI RX12 254 12 12 := ⟨_, TX12, 80, tyX12, co_X12, by decide, tb4 195 rfl rfl, tyX12_ok, rfl, rfl⟩
set_option maxRecDepth 100000 in
theorem fl_X12_257 : FL RX12 257 12 18 := ⟨_, TX12, 80, co_X12, by decide, tb4 201 rfl rfl⟩
set_option maxRecDepth 100000 in
theorem fi_X12_257 : FI RX12 257 12 18 := ⟨_, TX12, 80, tyX12, co_X12, by decide, tb4 201 rfl rfl, tyX12_ok, rfl, rfl⟩
set_option maxRecDepth 100000 in
theorem fl_X12_260 : FL RX12 260 12 19 := ⟨_, TX12, 80, co_X12, by decide, tb4 202 rfl rfl⟩
set_option maxRecDepth 100000 in
theorem fi_X12_260 : FI RX12 260 12 19 := ⟨_, TX12, 80, tyX12, co_X12, by decide, tb4 202 rfl rfl, tyX12_ok, rfl, rfl⟩
set_option maxRecDepth 100000 in
theorem fl_X12_263 : FL RX12 263 12 23 := ⟨_, TX12, 80, co_X12, by decide, tb4 206 rfl rfl⟩
set_option maxRecDepth 100000 in
theorem fi_X12_263 : FI RX12 263 12 23 := ⟨_, TX12, 80, tyX12, co_X12, by decide, tb4 206 rfl rfl, tyX12_ok, rfl, rfl⟩
set_option maxRecDepth 100000 in
theorem fl_X12_266 : FL RX12 266 12 24 := ⟨_, TX12, 80, co_X12, by decide, tb4 207 rfl rfl⟩
set_option maxRecDepth 100000 in
theorem fi_X12_266 : FI RX12 266 12 24 := ⟨_, TX12, 80, tyX12, co_X12, by decide, tb4 207 rfl rfl, tyX12_ok, rfl, rfl⟩
set_option maxRecDepth 100000 in
theorem fl_X12_269 : FL RX12 269 12 32 := ⟨_, TX12, 80, co_X12, by decide, tb4 215 rfl rfl⟩
set_option maxRecDepth 100000 in
theorem fi_X12_269 : FI RX12 269 12 32 := ⟨_, TX12, 80, tyX12, co_X12, by decide, tb4 215 rfl rfl, tyX12_ok, rfl, rfl⟩
set_option maxRecDepth 100000 in
theorem fl_X12_272 : FL RX12 272 12 38 := ⟨_, TX12, 80, co_X12, by decide, tb4 221 rfl rfl⟩
set_option maxRecDepth 100000 in
theorem fi_X12_272 : FI RX12 272 12 38 := ⟨_, TX12, 80, tyX12, co_X12, by decide, tb4 221 rfl rfl, tyX12_ok, rfl, rfl⟩
set_option maxRecDepth 100000 in
theorem fl_X12_297 : FL RX12 297 12 42 := ⟨_, TX12, 80, co_X12, by decide, tb4 225 rfl rfl⟩
set_option maxRecDepth 100000 in
theorem fi_X12_297 : FI RX12 297 12 42 := ⟨_, TX12, 80, tyX12, co_X12, by decide, tb4 225 rfl rfl, tyX12_ok, rfl, rfl⟩
set_option maxRecDepth 100000 in
theorem fl_X12_307 : FL RX12 307 12 43 := ⟨_, TX12, 80, co_X12, by decide, tb4 226 rfl rfl⟩
set_option maxRecDepth 100000 in
theorem fi_X12_307 : FI RX12 307 12 43 := ⟨_, TX12, 80, tyX12, co_X12, by decide, tb4 226 rfl rfl, tyX12_ok, rfl, rfl⟩
set_option maxRecDepth 100000 in
theorem fl_X12_310 : FL RX12 310 12 51 := ⟨_, TX12, 80, co_X12, by decide, tb4 234 rfl rfl⟩
set_option maxRecDepth 100000 in
theorem fi_X12_310 : FI RX12 310 12 51 := ⟨_, TX12, 80, tyX12, co_X12, by decide, tb4 234 rfl rfl, tyX12_ok, rfl, rfl⟩
set_option maxRecDepth 100000 in
theorem fl_X12_313 : FL RX12 313 12 48 := ⟨_, TX12, 80, co_X12, by decide, tb4 231 rfl rfl⟩
set_option maxRecDepth 100000 in
theorem fi_X12_313 : FI RX12 313 12 48 := ⟨_, TX12, 80, tyX12, co_X12, by decide, tb4 231 rfl rfl, tyX12_ok, rfl, rfl⟩
set_option maxRecDepth 100000 in
theorem fl_X12_316 : FL RX12 316 12 52 := ⟨_, TX12, 80, co_X12, by decide, tb4 235 rfl rfl⟩
set_option maxRecDepth 100000 in
theorem fi_X12_316 : FI RX12 316 12 52 := ⟨_, TX12, 80, tyX12, co_X12, by decide, tb4 235 rfl rfl, tyX12_ok, rfl, rfl⟩
set_option maxRecDepth 100000 in
theorem fl_X12_322 : FL RX12 322 12 56 := ⟨_, TX12, 80, co_X12, by decide, tb4 239 rfl rfl⟩
set_option maxRecDepth 100000 in
theorem fi_X12_322 : FI RX12 322 12 56 := ⟨_, TX12, 80, tyX12, co_X12, by decide, tb4 239 rfl rfl, tyX12_ok, rfl, rfl⟩
set_option maxRecDepth 100000 in
theorem fl_X12_325 : FL RX12 325 12 61 := ⟨_, TX12, 80, co_X12, by decide, tb5 4 rfl rfl⟩
set_option maxRecDepth 100000 in
theorem fi_X12_325 : FI RX12 325 12 61 := ⟨_, TX12, 80, tyX12, co_X12, by decide, tb5 4 rfl rfl, tyX12_ok, rfl, rfl⟩
set_option maxRecDepth 100000 in
theorem fl_X12_377 : FL RX12 377 12 75 := ⟨_, TX12, 80, co_X12, by decide, tb5 18 rfl rfl⟩
set_option maxRecDepth 100000 in
theorem fi_X12_377 : FI RX12 377 12 75 := ⟨_, TX12, 80, tyX12, co_X12, by decide, tb5 18 rfl rfl, tyX12_ok, rfl, rfl⟩
set_option maxRecDepth 100000 in
theorem mb_X11_at : MB yX11_at RX11 cX11_at 5 (some .int) 4 := ⟨tb3 213 rfl rfl, tb3 211 rfl rfl, tb3 212 rfl rfl, tb1 1 rfl rfl, by decide +kernel⟩
set_option maxRecDepth 100000 in
theorem mb_X11_back : MB yX11_back RX11 cX11_back 3 (some .int) 1 := ⟨tb2 200 rfl rfl, tb2 198 rfl rfl, tb2 199 rfl rfl, tb1 1 rfl rfl, by decide +kernel⟩
set_option maxRecDepth 100000 in
theorem mb_X11_broken : MB yX11_broken RX11 cX11_broken 4 (some .int) 3 := ⟨tb4 67 rfl rfl, tb4 65 rfl rfl, tb4 66 rfl rfl, tb1 1 rfl rfl, by decide +kernel⟩
set_option maxRecDepth 100000 in
theorem mb_X11_clock : MB yX11_clock RX11 cX11_clock 2 (some .boolean) 1 := ⟨tb3 173 rfl rfl, tb3 171 rfl rfl, tb3 172 rfl rfl, tb1 1 rfl rfl, by decide +kernel⟩
set_option maxRecDepth 100000 in
theorem mb_X11_count : MB yX11_count RX11 cX11_count 2 (some .int) 1 := ⟨tb4 170 rfl rfl, tb4 168 rfl rfl, tb4 169 rfl rfl, tb1 1 rfl rfl, by decide +kernel⟩
set_option maxRecDepth 100000 in
theorem mb_X11_culprit : MB yX11_culprit RX11 cX11_culprit 11 (some .int) 4 := ⟨tb4 96 rfl rfl, tb4 94 rfl rfl, tb4 95 rfl rfl, tb1 1 rfl rfl, by decide +kernel⟩
set_option maxRecDepth 100000 in
theorem mb_X11_factor : MB yX11_factor RX11 cX11_factor 3 (some .boolean) 2 := ⟨tb3 165 rfl rfl, tb3 163 rfl rfl, tb3 164 rfl rfl, tb1 1 rfl rfl, by decide +kernel⟩
set_option maxRecDepth 100000 in
theorem mb_X11_factors : MB yX11_factors RX11 cX11_factors 2 (some .boolean) 1 := ⟨tb3 157 rfl rfl, tb3 155 rfl rfl, tb3 156 rfl rfl, tb1 1 rfl rfl, by decide +kernel⟩
set_option maxRecDepth 100000 in
theorem mb_X11_feed : MB yX11_feed RX11 cX11_feed 7 (some .int) 5 := ⟨tb2 192 rfl rfl, tb2 190 rfl rfl, tb2 191 rfl rfl, tb1 1 rfl rfl, by decide +kernel⟩
set_option maxRecDepth 100000 in
theorem mb_X11_first : MB yX11_first RX11 cX11_first 5 (some .int) 3 := ⟨tb4 84 rfl rfl, tb4 82 rfl rfl, tb4 83 rfl rfl, tb1 1 rfl rfl, by decide +kernel⟩
set_option maxRecDepth 100000 in
theorem mb_X11_grind : MB yX11_grind RX11 cX11_grind 5 none 3 := ⟨tb4 148 rfl rfl, tb4 147 rfl rfl, tb_sel 21 rfl rfl, tb1 1 rfl rfl, by decide +kernel⟩
set_option maxRecDepth 100000 in
theorem mb_X11_grist : MB yX11_grist RX11 cX11_grist 3 (some .int) 2 := ⟨tb3 205 rfl rfl, tb3 203 rfl rfl, tb3 204 rfl rfl, tb1 1 rfl rfl, by decide +kernel⟩
set_option maxRecDepth 100000 in
theorem mb_X11_isEnd : MB yX11_isEnd RX11 cX11_isEnd 2 (some .boolean) 1 := ⟨tb4 62 rfl rfl, tb4 61 rfl rfl, tb_sel 18 rfl rfl, tb1 1 rfl rfl, by decide +kernel⟩
set_option maxRecDepth 100000 in
theorem mb_X11_isHour : MB yX11_isHour RX11 cX11_isHour 2 (some .boolean) 1 := ⟨tb3 181 rfl rfl, tb3 180 rfl rfl, tb_sel 10 rfl rfl, tb1 1 rfl rfl, by decide +kernel⟩
set_option maxRecDepth 100000 in
theorem mb_X11_isKnown : MB yX11_isKnown RX11 cX11_isKnown 2 (some .boolean) 1 := ⟨tb3 217 rfl rfl, tb3 216 rfl rfl, tb_sel 12 rfl rfl, tb1 1 rfl rfl, by decide +kernel⟩
set_option maxRecDepth 100000 in
theorem mb_X11_isMill : MB yX11_isMill RX11 cX11_isMill 2 (some .boolean) 1 := ⟨tb3 185 rfl rfl, tb3 184 rfl rfl, tb_sel 11 rfl rfl, tb1 1 rfl rfl, by decide +kernel⟩
set_option maxRecDepth 100000 in
theorem mb_X11_loss : MB yX11_loss RX11 cX11_loss 6 (some .int) 5 := ⟨tb4 88 rfl rfl, tb4 86 rfl rfl, tb4 87 rfl rfl, tb1 1 rfl rfl, by decide +kernel⟩
set_option maxRecDepth 100000 in
theorem mb_X11_mill : MB yX11_mill RX11 cX11_mill 5 (some .int) 4 := ⟨tb3 145 rfl rfl, tb3 143 rfl rfl, tb3 144 rfl rfl, tb1 1 rfl rfl, by decide +kernel⟩
set_option maxRecDepth 100000 in
theorem mb_X11_order : MB yX11_order RX11 cX11_order 4 (some .int) 3 := ⟨tb3 193 rfl rfl, tb3 191 rfl rfl, tb3 192 rfl rfl, tb1 1 rfl rfl, by decide +kernel⟩
set_option maxRecDepth 100000 in
theorem mb_X11_place : MB yX11_place RX11 cX11_place 1 (some .int) 0 := ⟨tb3 141 rfl rfl, tb3 139 rfl rfl, tb3 140 rfl rfl, tb1 1 rfl rfl, by decide +kernel⟩
set_option maxRecDepth 100000 in
theorem mb_X11_plan : MB yX11_plan RX11 cX11_plan 4 (some .int) 3 := ⟨tb4 113 rfl rfl, tb4 111 rfl rfl, tb4 112 rfl rfl, tb1 1 rfl rfl, by decide +kernel⟩
set_option maxRecDepth 100000 in
theorem mb_X11_planned : MB yX11_planned RX11 cX11_planned 2 (some .int) 1 := ⟨tb4 140 rfl rfl, tb4 138 rfl rfl, tb4 139 rfl rfl, tb1 1 rfl rfl, by decide +kernel⟩
set_option maxRecDepth 100000 in
theorem mb_X11_rain : MB yX11_rain RX11 cX11_rain 4 (some .int) 3 := ⟨tb3 177 rfl rfl, tb3 175 rfl rfl, tb3 176 rfl rfl, tb1 1 rfl rfl, by decide +kernel⟩
set_option maxRecDepth 100000 in
theorem mb_X11_read : MB yX11_read RX11 cX11_read 3 (some .int) 0 := ⟨tb2 204 rfl rfl, tb2 202 rfl rfl, tb2 203 rfl rfl, tb1 1 rfl rfl, by decide +kernel⟩
set_option maxRecDepth 100000 in
theorem mb_X11_sea : MB yX11_sea RX11 cX11_sea 6 (some .int) 2 := ⟨tb4 58 rfl rfl, tb4 56 rfl rfl, tb4 57 rfl rfl, tb1 1 rfl rfl, by decide +kernel⟩
set_option maxRecDepth 100000 in
theorem mb_X11_spring : MB yX11_spring RX11 cX11_spring 2 (some .boolean) 1 := ⟨tb3 153 rfl rfl, tb3 151 rfl rfl, tb3 152 rfl rfl, tb1 1 rfl rfl, by decide +kernel⟩
set_option maxRecDepth 100000 in
theorem mb_X11_told : MB yX11_told RX11 cX11_told 4 (some .int) 3 := ⟨tb4 144 rfl rfl, tb4 142 rfl rfl, tb4 143 rfl rfl, tb1 1 rfl rfl, by decide +kernel⟩
set_option maxRecDepth 100000 in
theorem mb_X11_tolls : MB yX11_tolls RX11 cX11_tolls 4 (some .int) 3 := ⟨tb4 162 rfl rfl, tb4 160 rfl rfl, tb4 161 rfl rfl, tb1 1 rfl rfl, by decide +kernel⟩
set_option maxRecDepth 100000 in
theorem mb_X0_close : MB yX0_close RX0 cX0_close 2 (some .int) 1 := ⟨tb3 133 rfl rfl, tb3 131 rfl rfl, tb3 132 rfl rfl, tb1 7 rfl rfl, by decide +kernel⟩
set_option maxRecDepth 100000 in
theorem mb_X0_condition : MB yX0_condition RX0 cX0_condition 4 (some .boolean) 0 := ⟨tb3 125 rfl rfl, tb3 124 rfl rfl, tb_sel 8 rfl rfl, tb1 7 rfl rfl, by decide +kernel⟩
set_option maxRecDepth 100000 in
theorem mb_X0_heading : MB yX0_heading RX0 cX0_heading 8 (some .boolean) 0 := ⟨tb3 75 rfl rfl, tb3 74 rfl rfl, tb_sel 1 rfl rfl, tb1 7 rfl rfl, by decide +kernel⟩
set_option maxRecDepth 100000 in
theorem mb_X0_kind : MB yX0_kind RX0 cX0_kind 1 (some .int) 0 := ⟨tb3 71 rfl rfl, tb3 70 rfl rfl, tb_sel 0 rfl rfl, tb1 7 rfl rfl, by decide +kernel⟩
set_option maxRecDepth 100000 in
theorem mb_X0_note : MB yX0_note RX0 cX0_note 3 none 2 := ⟨tb3 93 rfl rfl, tb3 92 rfl rfl, tb_sel 3 rfl rfl, tb1 7 rfl rfl, by decide +kernel⟩
set_option maxRecDepth 100000 in
theorem mb_X0_open : MB yX0_open RX0 cX0_open 1 none 0 := ⟨tb2 208 rfl rfl, tb2 206 rfl rfl, tb2 207 rfl rfl, tb1 7 rfl rfl, by decide +kernel⟩
set_option maxRecDepth 100000 in
theorem mb_X0_relation : MB yX0_relation RX0 cX0_relation 2 (some .boolean) 0 := ⟨tb3 129 rfl rfl, tb3 128 rfl rfl, tb_sel 9 rfl rfl, tb1 7 rfl rfl, by decide +kernel⟩
set_option maxRecDepth 100000 in
theorem mb_X0_rule : MB yX0_rule RX0 cX0_rule 3 (some .boolean) 0 := ⟨tb3 101 rfl rfl, tb3 100 rfl rfl, tb_sel 4 rfl rfl, tb1 7 rfl rfl, by decide +kernel⟩
set_option maxRecDepth 100000 in
theorem mb_X0_sum : MB yX0_sum RX0 cX0_sum 5 (some .boolean) 1 := ⟨tb3 113 rfl rfl, tb3 112 rfl rfl, tb_sel 6 rfl rfl, tb1 7 rfl rfl, by decide +kernel⟩
set_option maxRecDepth 100000 in
theorem mb_X0_take : MB yX0_take RX0 cX0_take 2 (some .boolean) 1 := ⟨tb3 79 rfl rfl, tb3 78 rfl rfl, tb_sel 2 rfl rfl, tb1 7 rfl rfl, by decide +kernel⟩
set_option maxRecDepth 100000 in
theorem mb_X0_text : MB yX0_text RX0 cX0_text 3 (some .boolean) 0 := ⟨tb3 67 rfl rfl, tb3 65 rfl rfl, tb3 66 rfl rfl, tb1 7 rfl rfl, by decide +kernel⟩
set_option maxRecDepth 100000 in
theorem mb_X0_unit : MB yX0_unit RX0 cX0_unit 3 (some .boolean) 1 := ⟨tb3 117 rfl rfl, tb3 116 rfl rfl, tb_sel 7 rfl rfl, tb1 7 rfl rfl, by decide +kernel⟩
set_option maxRecDepth 100000 in
theorem mb_X0_who : MB yX0_who RX0 cX0_who 3 (some .boolean) 1 := ⟨tb3 109 rfl rfl, tb3 108 rfl rfl, tb_sel 5 rfl rfl, tb1 7 rfl rfl, by decide +kernel⟩
set_option maxRecDepth 100000 in
theorem mb_X1_add : MB yX1_add RX1 cX1_add 4 (some .int) 3 := ⟨tb3 209 rfl rfl, tb3 207 rfl rfl, tb3 208 rfl rfl, tb1 11 rfl rfl, by decide +kernel⟩
set_option maxRecDepth 100000 in
theorem mb_X1_restart : MB yX1_restart RX1 cX1_restart 1 none 0 := ⟨tb4 152 rfl rfl, tb4 150 rfl rfl, tb4 151 rfl rfl, tb1 11 rfl rfl, by decide +kernel⟩
set_option maxRecDepth 100000 in
theorem mb_X1_take : MB yX1_take RX1 cX1_take 7 none 3 := ⟨tb4 157 rfl rfl, tb4 155 rfl rfl, tb4 156 rfl rfl, tb1 11 rfl rfl, by decide +kernel⟩
set_option maxRecDepth 100000 in
theorem mb_X1_tollsOf : MB yX1_tollsOf RX1 cX1_tollsOf 4 (some .int) 1 := ⟨tb4 166 rfl rfl, tb4 164 rfl rfl, tb4 165 rfl rfl, tb1 11 rfl rfl, by decide +kernel⟩
set_option maxRecDepth 100000 in
theorem mb_X2_draftAct : MB yX2_draftAct RX2 cX2_draftAct 5 none 3 := ⟨tb3 97 rfl rfl, tb3 95 rfl rfl, tb3 96 rfl rfl, tb1 9 rfl rfl, by decide +kernel⟩
set_option maxRecDepth 100000 in
theorem mb_X2_draftRule : MB yX2_draftRule RX2 cX2_draftRule 1 none 0 := ⟨tb3 105 rfl rfl, tb3 103 rfl rfl, tb3 104 rfl rfl, tb1 9 rfl rfl, by decide +kernel⟩
set_option maxRecDepth 100000 in
theorem mb_X2_emit : MB yX2_emit RX2 cX2_emit 2 none 1 := ⟨tb3 121 rfl rfl, tb3 119 rfl rfl, tb3 120 rfl rfl, tb1 9 rfl rfl, by decide +kernel⟩
set_option maxRecDepth 100000 in
theorem mb_X2_hasAct : MB yX2_hasAct RX2 cX2_hasAct 4 (some .boolean) 1 := ⟨tb3 89 rfl rfl, tb3 87 rfl rfl, tb3 88 rfl rfl, tb1 9 rfl rfl, by decide +kernel⟩
set_option maxRecDepth 100000 in
theorem mb_X2_isBroken : MB yX2_isBroken RX2 cX2_isBroken 3 (some .boolean) 2 := ⟨tb4 80 rfl rfl, tb4 78 rfl rfl, tb4 79 rfl rfl, tb1 9 rfl rfl, by decide +kernel⟩
set_option maxRecDepth 100000 in
theorem mb_X2_isFor : MB yX2_isFor RX2 cX2_isFor 4 (some .boolean) 2 := ⟨tb4 24 rfl rfl, tb4 23 rfl rfl, tb_sel 13 rfl rfl, tb1 9 rfl rfl, by decide +kernel⟩
set_option maxRecDepth 100000 in
theorem mb_X2_isInForce : MB yX2_isInForce RX2 cX2_isInForce 2 (some .boolean) 1 := ⟨tb4 28 rfl rfl, tb4 27 rfl rfl, tb_sel 14 rfl rfl, tb1 9 rfl rfl, by decide +kernel⟩
set_option maxRecDepth 100000 in
theorem ms_X2_joined : MS yX2_joined cX2_joined 3 (some .int) 3 := ⟨tb4 39 rfl rfl, tb4 38 rfl rfl, tb1 9 rfl rfl, by decide +kernel⟩
set_option maxRecDepth 100000 in
theorem mb_X2_look : MB yX2_look RX2 cX2_look 4 none 3 := ⟨tb4 20 rfl rfl, tb4 18 rfl rfl, tb4 19 rfl rfl, tb1 9 rfl rfl, by decide +kernel⟩
set_option maxRecDepth 100000 in
theorem mb_X2_opened : MB yX2_opened RX2 cX2_opened 6 (some .int) 3 := ⟨tb4 16 rfl rfl, tb4 14 rfl rfl, tb4 15 rfl rfl, tb1 9 rfl rfl, by decide +kernel⟩
set_option maxRecDepth 100000 in
theorem mb_X2_seeOutcome : MB yX2_seeOutcome RX2 cX2_seeOutcome 3 none 2 := ⟨tb4 76 rfl rfl, tb4 74 rfl rfl, tb4 75 rfl rfl, tb1 9 rfl rfl, by decide +kernel⟩
set_option maxRecDepth 100000 in
theorem mb_X2_startDraft : MB yX2_startDraft RX2 cX2_startDraft 1 none 0 := ⟨tb3 47 rfl rfl, tb3 45 rfl rfl, tb3 46 rfl rfl, tb1 9 rfl rfl, by decide +kernel⟩
set_option maxRecDepth 100000 in
theorem mb_X2_takeDraft : MB yX2_takeDraft RX2 cX2_takeDraft 1 none 0 := ⟨tb3 137 rfl rfl, tb3 135 rfl rfl, tb3 136 rfl rfl, tb1 9 rfl rfl, by decide +kernel⟩
set_option maxRecDepth 100000 in
theorem mb_X2_valueOf : MB yX2_valueOf RX2 cX2_valueOf 6 (some .int) 2 := ⟨tb4 32 rfl rfl, tb4 31 rfl rfl, tb_sel 15 rfl rfl, tb1 9 rfl rfl, by decide +kernel⟩
set_option maxRecDepth 100000 in
theorem mb_X2_valueOfVar : MB yX2_valueOfVar RX2 cX2_valueOfVar 2 (some .int) 1 := ⟨tb4 36 rfl rfl, tb4 35 rfl rfl, tb_sel 16 rfl rfl, tb1 9 rfl rfl, by decide +kernel⟩
set_option maxRecDepth 100000 in
theorem mb_X3_add : MB yX3_add RX3 cX3_add 7 (some .int) 4 := ⟨tb3 149 rfl rfl, tb3 147 rfl rfl, tb3 148 rfl rfl, tb1 3 rfl rfl, by decide +kernel⟩
set_option maxRecDepth 100000 in
theorem mb_X3_factorOf : MB yX3_factorOf RX3 cX3_factorOf 2 (some .int) 1 := ⟨tb4 53 rfl rfl, tb4 51 rfl rfl, tb4 52 rfl rfl, tb1 3 rfl rfl, by decide +kernel⟩
set_option maxRecDepth 100000 in
theorem mb_X3_makeFactors : MB yX3_makeFactors RX3 cX3_makeFactors 2 (some .boolean) 1 := ⟨tb3 161 rfl rfl, tb3 159 rfl rfl, tb3 160 rfl rfl, tb1 3 rfl rfl, by decide +kernel⟩
set_option maxRecDepth 100000 in
theorem mb_X3_mostSetting : MB yX3_mostSetting RX3 cX3_mostSetting 3 (some .int) 2 := ⟨tb3 197 rfl rfl, tb3 195 rfl rfl, tb3 196 rfl rfl, tb1 3 rfl rfl, by decide +kernel⟩
set_option maxRecDepth 100000 in
theorem mb_X3_mostWork : MB yX3_mostWork RX3 cX3_mostWork 4 (some .int) 1 := ⟨tb4 121 rfl rfl, tb4 119 rfl rfl, tb4 120 rfl rfl, tb1 3 rfl rfl, by decide +kernel⟩
set_option maxRecDepth 100000 in
theorem mb_X3_setFactor : MB yX3_setFactor RX3 cX3_setFactor 3 (some .boolean) 2 := ⟨tb3 169 rfl rfl, tb3 167 rfl rfl, tb3 168 rfl rfl, tb1 3 rfl rfl, by decide +kernel⟩
set_option maxRecDepth 100000 in
theorem mb_X4_add : MB yX4_add RX4 cX4_add 5 (some .int) 4 := ⟨tb3 201 rfl rfl, tb3 199 rfl rfl, tb3 200 rfl rfl, tb1 6 rfl rfl, by decide +kernel⟩
set_option maxRecDepth 100000 in
theorem mb_X4_isOfSame : MB yX4_isOfSame RX4 cX4_isOfSame 3 (some .boolean) 2 := ⟨tb4 104 rfl rfl, tb4 103 rfl rfl, tb_sel 19 rfl rfl, tb1 6 rfl rfl, by decide +kernel⟩
set_option maxRecDepth 100000 in
theorem mb_X4_matters : MB yX4_matters RX4 cX4_matters 5 (some .boolean) 1 := ⟨tb4 100 rfl rfl, tb4 98 rfl rfl, tb4 99 rfl rfl, tb1 6 rfl rfl, by decide +kernel⟩
set_option maxRecDepth 100000 in
theorem mb_X5_ask : MB yX5_ask RX5 cX5_ask 5 none 4 := ⟨tb4 117 rfl rfl, tb4 115 rfl rfl, tb4 116 rfl rfl, tb1 12 rfl rfl, by decide +kernel⟩
set_option maxRecDepth 100000 in
theorem mb_X5_find : MB yX5_find RX5 cX5_find 3 (some .int) 2 := ⟨tb4 127 rfl rfl, tb4 125 rfl rfl, tb4 126 rfl rfl, tb1 12 rfl rfl, by decide +kernel⟩
set_option maxRecDepth 100000 in
theorem mb_X5_search : MB yX5_search RX5 cX5_search 11 none 5 := ⟨tb4 131 rfl rfl, tb4 130 rfl rfl, tb_sel 20 rfl rfl, tb1 12 rfl rfl, by decide +kernel⟩
set_option maxRecDepth 100000 in
theorem mb_X6_add : MB yX6_add RX6 cX6_add 4 (some .int) 3 := ⟨tb3 189 rfl rfl, tb3 187 rfl rfl, tb3 188 rfl rfl, tb1 5 rfl rfl, by decide +kernel⟩
set_option maxRecDepth 100000 in
theorem mb_X6_fallen : MB yX6_fallen RX6 cX6_fallen 4 (some .int) 2 := ⟨tb4 8 rfl rfl, tb4 6 rfl rfl, tb4 7 rfl rfl, tb1 5 rfl rfl, by decide +kernel⟩
set_option maxRecDepth 100000 in
theorem mb_X6_know : MB yX6_know RX6 cX6_know 2 none 1 := ⟨tb3 226 rfl rfl, tb3 224 rfl rfl, tb3 225 rfl rfl, tb1 5 rfl rfl, by decide +kernel⟩
set_option maxRecDepth 100000 in
theorem mb_X7_clear : MB yX7_clear RX7 cX7_clear 2 none 0 := ⟨tb3 231 rfl rfl, tb3 229 rfl rfl, tb3 230 rfl rfl, tb1 13 rfl rfl, by decide +kernel⟩
set_option maxRecDepth 100000 in
theorem mb_X7_copy : MB yX7_copy RX7 cX7_copy 3 none 1 := ⟨tb4 108 rfl rfl, tb4 106 rfl rfl, tb4 107 rfl rfl, tb1 13 rfl rfl, by decide +kernel⟩
set_option maxRecDepth 100000 in
theorem mb_X8_append : MB yX8_append RX8 cX8_append 3 none 1 := ⟨tb2 196 rfl rfl, tb2 194 rfl rfl, tb2 195 rfl rfl, tb1 8 rfl rfl, by decide +kernel⟩
set_option maxRecDepth 100000 in
theorem mb_X8_peek : MB yX8_peek RX8 cX8_peek 2 (some .int) 1 := ⟨tb2 216 rfl rfl, tb2 214 rfl rfl, tb2 215 rfl rfl, tb1 8 rfl rfl, by decide +kernel⟩
set_option maxRecDepth 100000 in
theorem ms_X9_endOf : MS yX9_endOf cX9_endOf 6 (some .int) 2 := ⟨tb2 222 rfl rfl, tb2 221 rfl rfl, tb1 10 rfl rfl, by decide +kernel⟩
set_option maxRecDepth 100000 in
theorem ms_X9_kindOf : MS yX9_kindOf cX9_kindOf 4 (some .int) 3 := ⟨tb2 225 rfl rfl, tb2 224 rfl rfl, tb1 10 rfl rfl, by decide +kernel⟩
set_option maxRecDepth 100000 in
theorem mb_X9_name : MB yX9_name RX9 cX9_name 7 (some .long) 2 := ⟨tb3 83 rfl rfl, tb3 81 rfl rfl, tb3 82 rfl rfl, tb1 10 rfl rfl, by decide +kernel⟩
set_option maxRecDepth 100000 in
theorem ms_X9_numberOf : MS yX9_numberOf cX9_numberOf 5 (some .int) 3 := ⟨tb3 43 rfl rfl, tb3 42 rfl rfl, tb1 10 rfl rfl, by decide +kernel⟩
set_option maxRecDepth 100000 in
theorem mb_X9_scan : MB yX9_scan RX9 cX9_scan 5 none 1 := ⟨tb2 212 rfl rfl, tb2 210 rfl rfl, tb2 211 rfl rfl, tb1 10 rfl rfl, by decide +kernel⟩
set_option maxRecDepth 100000 in
theorem ms_X9_signKind : MS yX9_signKind cX9_signKind 2 (some .int) 2 := ⟨tb3 40 rfl rfl, tb3 39 rfl rfl, tb1 10 rfl rfl, by decide +kernel⟩
set_option maxRecDepth 100000 in
theorem ms_X9_sortOf : MS yX9_sortOf cX9_sortOf 1 (some .int) 1 := ⟨tb2 219 rfl rfl, tb2 218 rfl rfl, tb1 10 rfl rfl, by decide +kernel⟩
set_option maxRecDepth 100000 in
theorem ms_X9_wordKind : MS yX9_wordKind cX9_wordKind 7 (some .int) 3 := ⟨tb2 228 rfl rfl, tb2 227 rfl rfl, tb1 10 rfl rfl, by decide +kernel⟩
set_option maxRecDepth 100000 in
theorem mb_X10_begin : MB yX10_begin RX10 cX10_begin 4 none 3 := ⟨tb3 222 rfl rfl, tb3 220 rfl rfl, tb3 221 rfl rfl, tb1 2 rfl rfl, by decide +kernel⟩
set_option maxRecDepth 100000 in
theorem mb_X10_breach : MB yX10_breach RX10 cX10_breach 7 (some .int) 2 := ⟨tb4 71 rfl rfl, tb4 69 rfl rfl, tb4 70 rfl rfl, tb1 2 rfl rfl, by decide +kernel⟩
set_option maxRecDepth 100000 in
theorem mb_X10_drowned : MB yX10_drowned RX10 cX10_drowned 4 (some .int) 2 := ⟨tb4 47 rfl rfl, tb4 46 rfl rfl, tb_sel 17 rfl rfl, tb1 2 rfl rfl, by decide +kernel⟩
set_option maxRecDepth 100000 in
theorem mb_X10_enter : MB yX10_enter RX10 cX10_enter 3 none 1 := ⟨tb4 4 rfl rfl, tb4 2 rfl rfl, tb4 3 rfl rfl, tb1 2 rfl rfl, by decide +kernel⟩
set_option maxRecDepth 100000 in
theorem mb_X10_run : MB yX10_run RX10 cX10_run 4 none 2 := ⟨tb3 236 rfl rfl, tb3 234 rfl rfl, tb3 235 rfl rfl, tb1 2 rfl rfl, by decide +kernel⟩
set_option maxRecDepth 100000 in
theorem mb_X10_settle : MB yX10_settle RX10 cX10_settle 10 none 1 := ⟨tb4 12 rfl rfl, tb4 10 rfl rfl, tb4 11 rfl rfl, tb1 2 rfl rfl, by decide +kernel⟩
set_option maxRecDepth 100000 in
theorem mb_X10_step : MB yX10_step RX10 cX10_step 2 none 1 := ⟨tb4 0 rfl rfl, tb3 238 rfl rfl, tb3 239 rfl rfl, tb1 2 rfl rfl, by decide +kernel⟩
set_option maxRecDepth 100000 in
theorem mb_X10_worked : MB yX10_worked RX10 cX10_worked 7 (some .int) 4 := ⟨tb4 92 rfl rfl, tb4 90 rfl rfl, tb4 91 rfl rfl, tb1 2 rfl rfl, by decide +kernel⟩
set_option maxRecDepth 100000 in
theorem mb_X12_at : MB yX12_at RX12 cX12_at 2 (some .int) 1 := ⟨tb5 207 rfl rfl, tb5 206 rfl rfl, tb_sel 24 rfl rfl, tb1 14 rfl rfl, by decide +kernel⟩
set_option maxRecDepth 100000 in
theorem mb_X12_at_ : MB yX12_at_ RX12 cX12_at_ 5 (some .int) 4 := ⟨tb6 73 rfl rfl, tb6 71 rfl rfl, tb6 72 rfl rfl, tb1 14 rfl rfl, by decide +kernel⟩
set_option maxRecDepth 100000 in
theorem mb_X12_back : MB yX12_back RX12 cX12_back 2 (some .int) 1 := ⟨tb5 195 rfl rfl, tb5 193 rfl rfl, tb5 194 rfl rfl, tb1 14 rfl rfl, by decide +kernel⟩
set_option maxRecDepth 100000 in
theorem mb_X12_breaks : MB yX12_breaks RX12 cX12_breaks 4 (some .boolean) 3 := ⟨tb6 129 rfl rfl, tb6 128 rfl rfl, tb_sel 50 rfl rfl, tb1 14 rfl rfl, by decide +kernel⟩
set_option maxRecDepth 100000 in
theorem mb_X12_broken : MB yX12_broken RX12 cX12_broken 7 (some .int) 3 := ⟨tb6 125 rfl rfl, tb6 123 rfl rfl, tb6 124 rfl rfl, tb1 14 rfl rfl, by decide +kernel⟩
set_option maxRecDepth 100000 in
theorem mb_X12_changes : MB yX12_changes RX12 cX12_changes 1 none 0 := ⟨tb6 29 rfl rfl, tb6 28 rfl rfl, tb_sel 38 rfl rfl, tb1 14 rfl rfl, by decide +kernel⟩
set_option maxRecDepth 100000 in
theorem mb_X12_clock : MB yX12_clock RX12 cX12_clock 2 (some .boolean) 1 := ⟨tb6 53 rfl rfl, tb6 51 rfl rfl, tb6 52 rfl rfl, tb1 14 rfl rfl, by decide +kernel⟩
set_option maxRecDepth 100000 in
theorem mb_X12_comesOut : MB yX12_comesOut RX12 cX12_comesOut 3 none 1 := ⟨tb6 21 rfl rfl, tb6 20 rfl rfl, tb_sel 36 rfl rfl, tb1 14 rfl rfl, by decide +kernel⟩
set_option maxRecDepth 100000 in
theorem mb_X12_condition : MB yX12_condition RX12 cX12_condition 6 none 0 := ⟨tb6 25 rfl rfl, tb6 24 rfl rfl, tb_sel 37 rfl rfl, tb1 14 rfl rfl, by decide +kernel⟩
set_option maxRecDepth 100000 in
theorem mb_X12_count : MB yX12_count RX12 cX12_count 2 (some .int) 1 := ⟨tb6 173 rfl rfl, tb6 171 rfl rfl, tb6 172 rfl rfl, tb1 14 rfl rfl, by decide +kernel⟩
set_option maxRecDepth 100000 in
theorem mb_X12_counts : MB yX12_counts RX12 cX12_counts 6 (some .boolean) 4 := ⟨tb6 98 rfl rfl, tb6 97 rfl rfl, tb_sel 45 rfl rfl, tb1 14 rfl rfl, by decide +kernel⟩
set_option maxRecDepth 100000 in
theorem mb_X12_culprit : MB yX12_culprit RX12 cX12_culprit 10 (some .int) 4 := ⟨tb6 145 rfl rfl, tb6 143 rfl rfl, tb6 144 rfl rfl, tb1 14 rfl rfl, by decide +kernel⟩
set_option maxRecDepth 100000 in
theorem mb_X12_cut : MB yX12_cut RX12 cX12_cut 8 none 0 := ⟨tb5 203 rfl rfl, tb5 202 rfl rfl, tb_sel 23 rfl rfl, tb1 14 rfl rfl, by decide +kernel⟩
set_option maxRecDepth 100000 in
theorem mb_X12_emit : MB yX12_emit RX12 cX12_emit 3 none 2 := ⟨tb6 17 rfl rfl, tb6 16 rfl rfl, tb_sel 35 rfl rfl, tb1 14 rfl rfl, by decide +kernel⟩
set_option maxRecDepth 100000 in
theorem mb_X12_expression : MB yX12_expression RX12 cX12_expression 6 none 0 := ⟨tb6 13 rfl rfl, tb6 12 rfl rfl, tb_sel 34 rfl rfl, tb1 14 rfl rfl, by decide +kernel⟩
set_option maxRecDepth 100000 in
theorem mb_X12_factor : MB yX12_factor RX12 cX12_factor 3 (some .boolean) 2 := ⟨tb6 49 rfl rfl, tb6 47 rfl rfl, tb6 48 rfl rfl, tb1 14 rfl rfl, by decide +kernel⟩
set_option maxRecDepth 100000 in
theorem mb_X12_factorOf : MB yX12_factorOf RX12 cX12_factorOf 2 (some .int) 1 := ⟨tb6 114 rfl rfl, tb6 113 rfl rfl, tb_sel 49 rfl rfl, tb1 14 rfl rfl, by decide +kernel⟩
set_option maxRecDepth 100000 in
theorem mb_X12_factors : MB yX12_factors RX12 cX12_factors 3 (some .boolean) 1 := ⟨tb6 45 rfl rfl, tb6 43 rfl rfl, tb6 44 rfl rfl, tb1 14 rfl rfl, by decide +kernel⟩
set_option maxRecDepth 100000 in
theorem mb_X12_fail : MB yX12_fail RX12 cX12_fail 2 none 1 := ⟨tb5 233 rfl rfl, tb5 232 rfl rfl, tb_sel 29 rfl rfl, tb1 14 rfl rfl, by decide +kernel⟩
set_option maxRecDepth 100000 in
theorem mb_X12_feed : MB yX12_feed RX12 cX12_feed 6 (some .int) 5 := ⟨tb5 187 rfl rfl, tb5 185 rfl rfl, tb5 186 rfl rfl, tb1 14 rfl rfl, by decide +kernel⟩
set_option maxRecDepth 100000 in
theorem mb_X12_first : MB yX12_first RX12 cX12_first 7 (some .int) 3 := ⟨tb6 133 rfl rfl, tb6 131 rfl rfl, tb6 132 rfl rfl, tb1 14 rfl rfl, by decide +kernel⟩
set_option maxRecDepth 100000 in
theorem mb_X12_grinds : MB yX12_grinds RX12 cX12_grinds 8 none 2 := ⟨tb6 165 rfl rfl, tb6 164 rfl rfl, tb_sel 53 rfl rfl, tb1 14 rfl rfl, by decide +kernel⟩
set_option maxRecDepth 100000 in
theorem mb_X12_grist : MB yX12_grist RX12 cX12_grist 3 (some .int) 2 := ⟨tb6 69 rfl rfl, tb6 67 rfl rfl, tb6 68 rfl rfl, tb1 14 rfl rfl, by decide +kernel⟩
set_option maxRecDepth 100000 in
theorem mb_X12_holds : MB yX12_holds RX12 cX12_holds 10 (some .boolean) 5 := ⟨tb6 102 rfl rfl, tb6 101 rfl rfl, tb_sel 46 rfl rfl, tb1 14 rfl rfl, by decide +kernel⟩
set_option maxRecDepth 100000 in
theorem mb_X12_is : MB yX12_is RX12 cX12_is 2 (some .boolean) 1 := ⟨tb5 225 rfl rfl, tb5 224 rfl rfl, tb_sel 27 rfl rfl, tb1 14 rfl rfl, by decide +kernel⟩
set_option maxRecDepth 100000 in
theorem ms_X12_isDigit : MS yX12_isDigit cX12_isDigit 1 (some .boolean) 1 := ⟨tb5 217 rfl rfl, tb5 216 rfl rfl, tb1 14 rfl rfl, by decide +kernel⟩
set_option maxRecDepth 100000 in
theorem ms_X12_isEnd : MS yX12_isEnd cX12_isEnd 1 (some .boolean) 1 := ⟨tb6 121 rfl rfl, tb6 120 rfl rfl, tb1 14 rfl rfl, by decide +kernel⟩
set_option maxRecDepth 100000 in
theorem mb_X12_isGood : MB yX12_isGood RX12 cX12_isGood 4 (some .boolean) 1 := ⟨tb6 153 rfl rfl, tb6 152 rfl rfl, tb_sel 52 rfl rfl, tb1 14 rfl rfl, by decide +kernel⟩
set_option maxRecDepth 100000 in
theorem mb_X12_isKnown : MB yX12_isKnown RX12 cX12_isKnown 2 (some .boolean) 1 := ⟨tb6 77 rfl rfl, tb6 76 rfl rfl, tb_sel 40 rfl rfl, tb1 14 rfl rfl, by decide +kernel⟩
set_option maxRecDepth 100000 in
theorem ms_X12_isLetter : MS yX12_isLetter cX12_isLetter 1 (some .boolean) 1 := ⟨tb5 214 rfl rfl, tb5 213 rfl rfl, tb1 14 rfl rfl, by decide +kernel⟩
set_option maxRecDepth 100000 in
theorem mb_X12_isMill : MB yX12_isMill RX12 cX12_isMill 2 (some .boolean) 1 := ⟨tb6 61 rfl rfl, tb6 60 rfl rfl, tb_sel 39 rfl rfl, tb1 14 rfl rfl, by decide +kernel⟩
set_option maxRecDepth 100000 in
theorem mb_X12_knows : MB yX12_knows RX12 cX12_knows 3 none 1 := ⟨tb6 86 rfl rfl, tb6 85 rfl rfl, tb_sel 42 rfl rfl, tb1 14 rfl rfl, by decide +kernel⟩
set_option maxRecDepth 100000 in
theorem mb_X12_loss : MB yX12_loss RX12 cX12_loss 6 (some .int) 5 := ⟨tb6 137 rfl rfl, tb6 135 rfl rfl, tb6 136 rfl rfl, tb1 14 rfl rfl, by decide +kernel⟩
set_option maxRecDepth 100000 in
theorem mb_X12_mill : MB yX12_mill RX12 cX12_mill 5 (some .int) 4 := ⟨tb6 37 rfl rfl, tb6 35 rfl rfl, tb6 36 rfl rfl, tb1 14 rfl rfl, by decide +kernel⟩
set_option maxRecDepth 100000 in
theorem ms_X12_more : MS yX12_more cX12_more 3 (some .long) 2 := ⟨tb4 182 rfl rfl, tb4 181 rfl rfl, tb1 14 rfl rfl, by decide +kernel⟩
set_option maxRecDepth 100000 in
theorem mb_X12_must : MB yX12_must RX12 cX12_must 2 none 1 := ⟨tb5 237 rfl rfl, tb5 236 rfl rfl, tb_sel 30 rfl rfl, tb1 14 rfl rfl, by decide +kernel⟩
set_option maxRecDepth 100000 in
theorem mb_X12_next : MB yX12_next RX12 cX12_next 1 none 0 := ⟨tb6 1 rfl rfl, tb6 0 rfl rfl, tb_sel 31 rfl rfl, tb1 14 rfl rfl, by decide +kernel⟩
set_option maxRecDepth 100000 in
theorem mb_X12_order : MB yX12_order RX12 cX12_order 4 (some .int) 3 := ⟨tb6 65 rfl rfl, tb6 63 rfl rfl, tb6 64 rfl rfl, tb1 14 rfl rfl, by decide +kernel⟩
set_option maxRecDepth 100000 in
theorem mb_X12_place : MB yX12_place RX12 cX12_place 1 (some .int) 0 := ⟨tb6 33 rfl rfl, tb6 31 rfl rfl, tb6 32 rfl rfl, tb1 14 rfl rfl, by decide +kernel⟩
set_option maxRecDepth 100000 in
theorem mb_X12_plan : MB yX12_plan RX12 cX12_plan 9 (some .int) 3 := ⟨tb6 149 rfl rfl, tb6 147 rfl rfl, tb6 148 rfl rfl, tb1 14 rfl rfl, by decide +kernel⟩
set_option maxRecDepth 100000 in
theorem mb_X12_planned : MB yX12_planned RX12 cX12_planned 2 (some .int) 1 := ⟨tb6 157 rfl rfl, tb6 155 rfl rfl, tb6 156 rfl rfl, tb1 14 rfl rfl, by decide +kernel⟩
set_option maxRecDepth 100000 in
theorem mb_X12_put : MB yX12_put RX12 cX12_put 3 none 1 := ⟨tb5 191 rfl rfl, tb5 190 rfl rfl, tb_sel 22 rfl rfl, tb1 14 rfl rfl, by decide +kernel⟩
set_option maxRecDepth 100000 in
theorem mb_X12_rain : MB yX12_rain RX12 cX12_rain 4 (some .int) 3 := ⟨tb6 57 rfl rfl, tb6 55 rfl rfl, tb6 56 rfl rfl, tb1 14 rfl rfl, by decide +kernel⟩
set_option maxRecDepth 100000 in
theorem mb_X12_read : MB yX12_read RX12 cX12_read 3 (some .int) 0 := ⟨tb5 199 rfl rfl, tb5 197 rfl rfl, tb5 198 rfl rfl, tb1 14 rfl rfl, by decide +kernel⟩
set_option maxRecDepth 100000 in
theorem mb_X12_sea : MB yX12_sea RX12 cX12_sea 5 (some .int) 2 := ⟨tb6 118 rfl rfl, tb6 116 rfl rfl, tb6 117 rfl rfl, tb1 14 rfl rfl, by decide +kernel⟩
set_option maxRecDepth 100000 in
theorem mb_X12_sets : MB yX12_sets RX12 cX12_sets 5 none 1 := ⟨tb6 90 rfl rfl, tb6 89 rfl rfl, tb_sel 43 rfl rfl, tb1 14 rfl rfl, by decide +kernel⟩
set_option maxRecDepth 100000 in
theorem mb_X12_sign : MB yX12_sign RX12 cX12_sign 6 (some .int) 3 := ⟨tb5 221 rfl rfl, tb5 220 rfl rfl, tb_sel 26 rfl rfl, tb1 14 rfl rfl, by decide +kernel⟩
set_option maxRecDepth 100000 in
theorem mb_X12_spring : MB yX12_spring RX12 cX12_spring 2 (some .boolean) 1 := ⟨tb6 41 rfl rfl, tb6 39 rfl rfl, tb6 40 rfl rfl, tb1 14 rfl rfl, by decide +kernel⟩
set_option maxRecDepth 100000 in
theorem mb_X12_steps : MB yX12_steps RX12 cX12_steps 14 none 3 := ⟨tb6 94 rfl rfl, tb6 93 rfl rfl, tb_sel 44 rfl rfl, tb1 14 rfl rfl, by decide +kernel⟩
set_option maxRecDepth 100000 in
theorem mb_X12_tellAct : MB yX12_tellAct RX12 cX12_tellAct 5 none 0 := ⟨tb5 229 rfl rfl, tb5 228 rfl rfl, tb_sel 28 rfl rfl, tb1 14 rfl rfl, by decide +kernel⟩
set_option maxRecDepth 100000 in
theorem mb_X12_tellRule : MB yX12_tellRule RX12 cX12_tellRule 5 none 1 := ⟨tb6 9 rfl rfl, tb6 8 rfl rfl, tb_sel 33 rfl rfl, tb1 14 rfl rfl, by decide +kernel⟩
set_option maxRecDepth 100000 in
theorem mb_X12_token : MB yX12_token RX12 cX12_token 6 none 4 := ⟨tb5 211 rfl rfl, tb5 210 rfl rfl, tb_sel 25 rfl rfl, tb1 14 rfl rfl, by decide +kernel⟩
set_option maxRecDepth 100000 in
theorem mb_X12_told : MB yX12_told RX12 cX12_told 4 (some .int) 3 := ⟨tb6 161 rfl rfl, tb6 159 rfl rfl, tb6 160 rfl rfl, tb1 14 rfl rfl, by decide +kernel⟩
set_option maxRecDepth 100000 in
theorem mb_X12_tolls : MB yX12_tolls RX12 cX12_tolls 6 (some .int) 3 := ⟨tb6 169 rfl rfl, tb6 167 rfl rfl, tb6 168 rfl rfl, tb1 14 rfl rfl, by decide +kernel⟩
set_option maxRecDepth 100000 in
theorem mb_X12_value : MB yX12_value RX12 cX12_value 10 (some .int) 5 := ⟨tb6 106 rfl rfl, tb6 105 rfl rfl, tb_sel 47 rfl rfl, tb1 14 rfl rfl, by decide +kernel⟩
set_option maxRecDepth 100000 in
theorem mb_X12_variable : MB yX12_variable RX12 cX12_variable 6 (some .int) 4 := ⟨tb6 110 rfl rfl, tb6 109 rfl rfl, tb_sel 48 rfl rfl, tb1 14 rfl rfl, by decide +kernel⟩
set_option maxRecDepth 100000 in
theorem ms_X12_word : MS yX12_word cX12_word 5 (some .long) 5 := ⟨tb4 179 rfl rfl, tb4 178 rfl rfl, tb1 14 rfl rfl, by decide +kernel⟩
set_option maxRecDepth 100000 in
theorem mb_X12_workOf : MB yX12_workOf RX12 cX12_workOf 8 (some .int) 5 := ⟨tb6 141 rfl rfl, tb6 140 rfl rfl, tb_sel 51 rfl rfl, tb1 14 rfl rfl, by decide +kernel⟩
set_option maxRecDepth 100000 in
theorem mb_X12_works : MB yX12_works RX12 cX12_works 4 none 2 := ⟨tb6 82 rfl rfl, tb6 81 rfl rfl, tb_sel 41 rfl rfl, tb1 14 rfl rfl, by decide +kernel⟩
set_option maxRecDepth 100000 in
theorem mb_X12_wrong : MB yX12_wrong RX12 cX12_wrong 4 none 2 := ⟨tb6 5 rfl rfl, tb6 4 rfl rfl, tb_sel 32 rfl rfl, tb1 14 rfl rfl, by decide +kernel⟩
set_option maxRecDepth 100000 in
theorem ms_J9_max_7cf53 : MS yJ9_max_7cf53 cJ9_max_7cf53 2 (some .int) 2 := ⟨tb4 43 rfl rfl, tb4 42 rfl rfl, tb1 19 rfl rfl, by decide +kernel⟩
set_option maxRecDepth 100000 in
theorem ms_J9_min_7cf53 : MS yJ9_min_7cf53 cJ9_min_7cf53 2 (some .int) 2 := ⟨tb3 60 rfl rfl, tb3 59 rfl rfl, tb1 19 rfl rfl, by decide +kernel⟩
set_option maxRecDepth 100000 in
theorem mb_J0_charAt_5068e : MB yJ0_charAt_5068e RJ0 cJ0_charAt_5068e 2 (some .char) 1 := ⟨tb3 3 rfl rfl, tb3 1 rfl rfl, tb3 2 rfl rfl, tb1 15 rfl rfl, by decide +kernel⟩
set_option maxRecDepth 100000 in
theorem ms_J0_checkIndex_df160 : MS yJ0_checkIndex_df160 cJ0_checkIndex_df160 2 none 2 := ⟨tb3 13 rfl rfl, tb3 12 rfl rfl, tb1 15 rfl rfl, by decide +kernel⟩
set_option maxRecDepth 100000 in
theorem mb_J0_coder_7d493 : MB yJ0_coder_7d493 RJ0 cJ0_coder_7d493 1 (some .byte) 0 := ⟨tb2 237 rfl rfl, tb2 235 rfl rfl, tb2 236 rfl rfl, tb1 15 rfl rfl, by decide +kernel⟩
set_option maxRecDepth 100000 in
theorem mb_J0_isLatin1_aae02 : MB yJ0_isLatin1_aae02 RJ0 cJ0_isLatin1_aae02 1 (some .boolean) 0 := ⟨tb3 7 rfl rfl, tb3 5 rfl rfl, tb3 6 rfl rfl, tb1 15 rfl rfl, by decide +kernel⟩
set_option maxRecDepth 100000 in
theorem mb_J0_length_8abf5 : MB yJ0_length_8abf5 RJ0 cJ0_length_8abf5 1 (some .int) 0 := ⟨tb2 233 rfl rfl, tb2 231 rfl rfl, tb2 232 rfl rfl, tb1 15 rfl rfl, by decide +kernel⟩
set_option maxRecDepth 100000 in
theorem ms_J1_charAt_3b067 : MS yJ1_charAt_3b067 cJ1_charAt_3b067 2 (some .char) 2 := ⟨tb3 10 rfl rfl, tb3 9 rfl rfl, tb1 16 rfl rfl, by decide +kernel⟩
set_option maxRecDepth 100000 in
theorem ms_J2_charAt_3b067 : MS yJ2_charAt_3b067 cJ2_charAt_3b067 2 (some .char) 2 := ⟨tb3 21 rfl rfl, tb3 20 rfl rfl, tb1 18 rfl rfl, by decide +kernel⟩
set_option maxRecDepth 100000 in
theorem ms_J2_checkIndex_2214a : MS yJ2_checkIndex_2214a cJ2_checkIndex_2214a 2 none 2 := ⟨tb3 24 rfl rfl, tb3 23 rfl rfl, tb1 18 rfl rfl, by decide +kernel⟩
set_option maxRecDepth 100000 in
theorem ms_J2_getChar_3b067 : MS yJ2_getChar_3b067 cJ2_getChar_3b067 2 (some .char) 2 := ⟨tb3 31 rfl rfl, tb3 30 rfl rfl, tb1 18 rfl rfl, by decide +kernel⟩
set_option maxRecDepth 100000 in
theorem ms_J2_length_9d52b : MS yJ2_length_9d52b cJ2_length_9d52b 1 (some .int) 1 := ⟨tb3 27 rfl rfl, tb3 26 rfl rfl, tb1 18 rfl rfl, by decide +kernel⟩
set_option maxRecDepth 100000 in
theorem ms_J7_copyOf_59c91 : MS yJ7_copyOf_59c91 cJ7_copyOf_59c91 3 (some (.array .int)) 2 := ⟨tb3 50 rfl rfl, tb3 49 rfl rfl, tb1 4 rfl rfl, by decide +kernel⟩
set_option maxRecDepth 100000 in
theorem ms_J7_fill_53178 : MS yJ7_fill_53178 cJ7_fill_53178 4 none 2 := ⟨tb1 43 rfl rfl, tb1 42 rfl rfl, tb1 4 rfl rfl, by decide +kernel⟩
set_option maxRecDepth 100000 in
theorem ms_J3_checkIndex_8e157 : MS yJ3_checkIndex_8e157 cJ3_checkIndex_8e157 3 (some .int) 3 := ⟨tb3 18 rfl rfl, tb3 17 rfl rfl, tb1 17 rfl rfl, by decide +kernel⟩
set_option maxRecDepth 100000 in
theorem ml_X11_25 : Cond.methodLink RX11 25 yX5_init ∈ tb := tb2 92 rfl rfl
set_option maxRecDepth 100000 in
theorem ml_X11_59 : Cond.methodLink RX11 59 yX8_append ∈ tb := tb2 193 rfl rfl
set_option maxRecDepth 100000 in
theorem ml_X11_63 : Cond.methodLink RX11 63 yX0_open ∈ tb := tb2 205 rfl rfl
set_option maxRecDepth 100000 in
theorem ml_X11_66 : Cond.methodLink RX11 66 yX0_text ∈ tb := tb3 64 rfl rfl
set_option maxRecDepth 100000 in
theorem ml_X11_70 : Cond.methodLink RX11 70 yX0_close ∈ tb := tb3 130 rfl rfl
set_option maxRecDepth 100000 in
theorem ml_X11_81 : Cond.methodLink RX11 81 yX3_add ∈ tb := tb3 146 rfl rfl
set_option maxRecDepth 100000 in
theorem ml_X11_90 : Cond.methodLink RX11 90 yX3_makeFactors ∈ tb := tb3 158 rfl rfl
set_option maxRecDepth 100000 in
theorem ml_X11_94 : Cond.methodLink RX11 94 yX3_setFactor ∈ tb := tb3 166 rfl rfl
set_option maxRecDepth 100000 in
theorem ml_X11_98 : Cond.methodLink RX11 98 yX11_isHour ∈ tb := tb3 178 rfl rfl
set_option maxRecDepth 100000 in
theorem ml_X11_101 : Cond.methodLink RX11 101 yX11_isMill ∈ tb := tb3 182 rfl rfl
set_option maxRecDepth 100000 in
theorem ml_X11_108 : Cond.methodLink RX11 108 yX6_add ∈ tb := tb3 186 rfl rfl
set_option maxRecDepth 100000 in
theorem ml_X11_113 : Cond.methodLink RX11 113 yX3_mostSetting ∈ tb := tb3 194 rfl rfl
set_option maxRecDepth 100000 in
theorem ml_X11_121 : Cond.methodLink RX11 121 yX4_add ∈ tb := tb3 198 rfl rfl
set_option maxRecDepth 100000 in
theorem ml_X11_126 : Cond.methodLink RX11 126 yX1_add ∈ tb := tb3 206 rfl rfl
set_option maxRecDepth 100000 in
theorem ml_X11_127 : Cond.methodLink RX11 127 yX11_isKnown ∈ tb := tb3 214 rfl rfl
set_option maxRecDepth 100000 in
theorem ml_X11_131 : Cond.methodLink RX11 131 yX10_begin ∈ tb := tb3 219 rfl rfl
set_option maxRecDepth 100000 in
theorem ml_X11_135 : Cond.methodLink RX11 135 yX10_run ∈ tb := tb3 233 rfl rfl
set_option maxRecDepth 100000 in
theorem ml_X11_143 : Cond.methodLink RX11 143 yX11_isEnd ∈ tb := tb4 59 rfl rfl
set_option maxRecDepth 100000 in
theorem ml_X11_147 : Cond.methodLink RX11 147 yX10_step ∈ tb := tb4 63 rfl rfl
set_option maxRecDepth 100000 in
theorem ml_X11_151 : Cond.methodLink RX11 151 yX10_breach ∈ tb := tb4 68 rfl rfl
set_option maxRecDepth 100000 in
theorem ml_X11_156 : Cond.methodLink RX11 156 yX10_worked ∈ tb := tb4 89 rfl rfl
set_option maxRecDepth 100000 in
theorem ml_X11_167 : Cond.methodLink RX11 167 yX4_matters ∈ tb := tb4 97 rfl rfl
set_option maxRecDepth 100000 in
theorem ml_X11_170 : Cond.methodLink RX11 170 yX7_copy ∈ tb := tb4 105 rfl rfl
set_option maxRecDepth 100000 in
theorem ml_X11_176 : Cond.methodLink RX11 176 yX5_ask ∈ tb := tb4 114 rfl rfl
set_option maxRecDepth 100000 in
theorem ml_X11_181 : Cond.methodLink RX11 181 yX5_find ∈ tb := tb4 124 rfl rfl
set_option maxRecDepth 100000 in
theorem ml_X11_195 : Cond.methodLink RX11 195 yX11_grind ∈ tb := tb4 145 rfl rfl
set_option maxRecDepth 100000 in
theorem ml_X11_205 : Cond.methodLink RX11 205 yX1_tollsOf ∈ tb := tb4 163 rfl rfl
set_option maxRecDepth 100000 in
theorem ml_X11_224 : Cond.methodLink RX11 224 yX1_restart ∈ tb := tb4 149 rfl rfl
set_option maxRecDepth 100000 in
theorem ml_X11_227 : Cond.methodLink RX11 227 yX1_take ∈ tb := tb4 154 rfl rfl
set_option maxRecDepth 100000 in
theorem ml_X0_48 : Cond.methodLink RX0 48 yX9_scan ∈ tb := tb2 209 rfl rfl
set_option maxRecDepth 100000 in
theorem ml_X0_52 : Cond.methodLink RX0 52 yX2_startDraft ∈ tb := tb3 44 rfl rfl
set_option maxRecDepth 100000 in
theorem ml_X0_62 : Cond.methodLink RX0 62 yX2_takeDraft ∈ tb := tb3 134 rfl rfl
set_option maxRecDepth 100000 in
theorem ml_X0_65 : Cond.methodLink RX0 65 yX0_kind ∈ tb := tb3 68 rfl rfl
set_option maxRecDepth 100000 in
theorem ml_X0_69 : Cond.methodLink RX0 69 yX0_heading ∈ tb := tb3 72 rfl rfl
set_option maxRecDepth 100000 in
theorem ml_X0_73 : Cond.methodLink RX0 73 yX0_rule ∈ tb := tb3 98 rfl rfl
set_option maxRecDepth 100000 in
theorem ml_X0_76 : Cond.methodLink RX0 76 yX0_take ∈ tb := tb3 76 rfl rfl
set_option maxRecDepth 100000 in
theorem ml_X0_83 : Cond.methodLink RX0 83 yX9_name ∈ tb := tb3 80 rfl rfl
set_option maxRecDepth 100000 in
theorem ml_X0_87 : Cond.methodLink RX0 87 yX2_hasAct ∈ tb := tb3 86 rfl rfl
set_option maxRecDepth 100000 in
theorem ml_X0_91 : Cond.methodLink RX0 91 yX0_note ∈ tb := tb3 90 rfl rfl
set_option maxRecDepth 100000 in
theorem ml_X0_98 : Cond.methodLink RX0 98 yX2_draftAct ∈ tb := tb3 94 rfl rfl
set_option maxRecDepth 100000 in
theorem ml_X0_105 : Cond.methodLink RX0 105 yX2_draftRule ∈ tb := tb3 102 rfl rfl
set_option maxRecDepth 100000 in
theorem ml_X0_108 : Cond.methodLink RX0 108 yX0_who ∈ tb := tb3 106 rfl rfl
set_option maxRecDepth 100000 in
theorem ml_X0_115 : Cond.methodLink RX0 115 yX0_sum ∈ tb := tb3 110 rfl rfl
set_option maxRecDepth 100000 in
theorem ml_X0_118 : Cond.methodLink RX0 118 yX0_condition ∈ tb := tb3 122 rfl rfl
set_option maxRecDepth 100000 in
theorem ml_X0_132 : Cond.methodLink RX0 132 yX0_relation ∈ tb := tb3 126 rfl rfl
set_option maxRecDepth 100000 in
theorem ml_X0_135 : Cond.methodLink RX0 135 yX2_emit ∈ tb := tb3 118 rfl rfl
set_option maxRecDepth 100000 in
theorem ml_X0_139 : Cond.methodLink RX0 139 yX0_unit ∈ tb := tb3 114 rfl rfl
set_option maxRecDepth 100000 in
theorem ml_X1_31 : Cond.methodLink RX1 31 yJ7_fill_53178 ∈ tb := tb4 153 rfl rfl
set_option maxRecDepth 100000 in
theorem ml_X1_37 : Cond.methodLink RX1 37 yJ9_min_7cf53 ∈ tb := tb4 158 rfl rfl
set_option maxRecDepth 100000 in
theorem ml_X2_74 : Cond.methodLink RX2 74 yJ7_copyOf_59c91 ∈ tb := tb3 48 rfl rfl
set_option maxRecDepth 100000 in
theorem ml_X2_85 : Cond.methodLink RX2 85 yX2_look ∈ tb := tb4 17 rfl rfl
set_option maxRecDepth 100000 in
theorem ml_X2_89 : Cond.methodLink RX2 89 yX2_isFor ∈ tb := tb4 21 rfl rfl
set_option maxRecDepth 100000 in
theorem ml_X2_93 : Cond.methodLink RX2 93 yX2_valueOf ∈ tb := tb4 29 rfl rfl
set_option maxRecDepth 100000 in
theorem ml_X2_102 : Cond.methodLink RX2 102 yJ9_min_7cf53 ∈ tb := tb4 40 rfl rfl
set_option maxRecDepth 100000 in
theorem ml_X2_107 : Cond.methodLink RX2 107 yJ9_max_7cf53 ∈ tb := tb4 41 rfl rfl
set_option maxRecDepth 100000 in
theorem ml_X2_126 : Cond.methodLink RX2 126 yX2_isInForce ∈ tb := tb4 25 rfl rfl
set_option maxRecDepth 100000 in
theorem ml_X2_130 : Cond.methodLink RX2 130 yX2_valueOfVar ∈ tb := tb4 33 rfl rfl
set_option maxRecDepth 100000 in
theorem ml_X2_134 : Cond.methodLink RX2 134 yX2_joined ∈ tb := tb4 37 rfl rfl
set_option maxRecDepth 100000 in
theorem ml_X3_37 : Cond.methodLink RX3 37 yJ7_fill_53178 ∈ tb := tb1 41 rfl rfl
set_option maxRecDepth 100000 in
theorem ml_X3_43 : Cond.methodLink RX3 43 yJ9_min_7cf53 ∈ tb := tb4 54 rfl rfl
set_option maxRecDepth 100000 in
theorem ml_X3_49 : Cond.methodLink RX3 49 yJ9_max_7cf53 ∈ tb := tb4 122 rfl rfl
set_option maxRecDepth 100000 in
theorem ml_X4_29 : Cond.methodLink RX4 29 yX4_isOfSame ∈ tb := tb4 101 rfl rfl
set_option maxRecDepth 100000 in
theorem ml_X5_41 : Cond.methodLink RX5 41 yX3_mostWork ∈ tb := tb4 118 rfl rfl
set_option maxRecDepth 100000 in
theorem ml_X5_61 : Cond.methodLink RX5 61 yX5_search ∈ tb := tb4 128 rfl rfl
set_option maxRecDepth 100000 in
theorem ml_X5_71 : Cond.methodLink RX5 71 yX7_copy ∈ tb := tb4 133 rfl rfl
set_option maxRecDepth 100000 in
theorem ml_X5_75 : Cond.methodLink RX5 75 yX10_enter ∈ tb := tb4 134 rfl rfl
set_option maxRecDepth 100000 in
theorem ml_X5_84 : Cond.methodLink RX5 84 yX10_settle ∈ tb := tb4 135 rfl rfl
set_option maxRecDepth 100000 in
theorem ml_X5_87 : Cond.methodLink RX5 87 yX10_breach ∈ tb := tb4 136 rfl rfl
set_option maxRecDepth 100000 in
theorem ml_X6_28 : Cond.methodLink RX6 28 yJ7_fill_53178 ∈ tb := tb3 227 rfl rfl
set_option maxRecDepth 100000 in
theorem ml_X7_30 : Cond.methodLink RX7 30 yJ7_fill_53178 ∈ tb := tb3 232 rfl rfl
set_option maxRecDepth 100000 in
theorem ml_X9_25 : Cond.methodLink RX9 25 yX8_peek ∈ tb := tb2 213 rfl rfl
set_option maxRecDepth 100000 in
theorem ml_X9_29 : Cond.methodLink RX9 29 yX9_sortOf ∈ tb := tb2 217 rfl rfl
set_option maxRecDepth 100000 in
theorem ml_X9_32 : Cond.methodLink RX9 32 yX9_endOf ∈ tb := tb2 220 rfl rfl
set_option maxRecDepth 100000 in
theorem ml_X9_36 : Cond.methodLink RX9 36 yX9_kindOf ∈ tb := tb2 223 rfl rfl
set_option maxRecDepth 100000 in
theorem ml_X9_40 : Cond.methodLink RX9 40 yX9_numberOf ∈ tb := tb3 41 rfl rfl
set_option maxRecDepth 100000 in
theorem ml_X9_47 : Cond.methodLink RX9 47 yX9_wordKind ∈ tb := tb2 226 rfl rfl
set_option maxRecDepth 100000 in
theorem ml_X9_50 : Cond.methodLink RX9 50 yX9_signKind ∈ tb := tb3 38 rfl rfl
set_option maxRecDepth 100000 in
theorem ml_X9_56 : Cond.methodLink RX9 56 yJ0_length_8abf5 ∈ tb := tb2 230 rfl rfl
set_option maxRecDepth 100000 in
theorem ml_X9_62 : Cond.methodLink RX9 62 yJ0_charAt_5068e ∈ tb := tb3 0 rfl rfl
set_option maxRecDepth 100000 in
theorem ml_X10_11 : Cond.methodLink RX10 11 yX3_init ∈ tb := tb1 37 rfl rfl
set_option maxRecDepth 100000 in
theorem ml_X10_39 : Cond.methodLink RX10 39 yX6_know ∈ tb := tb3 223 rfl rfl
set_option maxRecDepth 100000 in
theorem ml_X10_43 : Cond.methodLink RX10 43 yX7_clear ∈ tb := tb3 228 rfl rfl
set_option maxRecDepth 100000 in
theorem ml_X10_55 : Cond.methodLink RX10 55 yX10_step ∈ tb := tb3 237 rfl rfl
set_option maxRecDepth 100000 in
theorem ml_X10_63 : Cond.methodLink RX10 63 yX10_enter ∈ tb := tb4 1 rfl rfl
set_option maxRecDepth 100000 in
theorem ml_X10_66 : Cond.methodLink RX10 66 yX10_settle ∈ tb := tb4 9 rfl rfl
set_option maxRecDepth 100000 in
theorem ml_X10_72 : Cond.methodLink RX10 72 yX6_fallen ∈ tb := tb4 5 rfl rfl
set_option maxRecDepth 100000 in
theorem ml_X10_103 : Cond.methodLink RX10 103 yX2_opened ∈ tb := tb4 13 rfl rfl
set_option maxRecDepth 100000 in
theorem ml_X10_109 : Cond.methodLink RX10 109 yX10_drowned ∈ tb := tb4 44 rfl rfl
set_option maxRecDepth 100000 in
theorem ml_X10_113 : Cond.methodLink RX10 113 yJ9_min_7cf53 ∈ tb := tb4 49 rfl rfl
set_option maxRecDepth 100000 in
theorem ml_X10_121 : Cond.methodLink RX10 121 yJ9_max_7cf53 ∈ tb := tb4 48 rfl rfl
set_option maxRecDepth 100000 in
theorem ml_X10_124 : Cond.methodLink RX10 124 yX3_factorOf ∈ tb := tb4 50 rfl rfl
set_option maxRecDepth 100000 in
theorem ml_X10_134 : Cond.methodLink RX10 134 yX2_look ∈ tb := tb4 72 rfl rfl
set_option maxRecDepth 100000 in
theorem ml_X10_138 : Cond.methodLink RX10 138 yX2_seeOutcome ∈ tb := tb4 73 rfl rfl
set_option maxRecDepth 100000 in
theorem ml_X10_142 : Cond.methodLink RX10 142 yX2_isBroken ∈ tb := tb4 77 rfl rfl
set_option maxRecDepth 100000 in
theorem ml_L_9 : Cond.methodLink RL 9 yX11_init ∈ tb := tb1 23 rfl rfl
set_option maxRecDepth 100000 in
theorem ml_L_12 : Cond.methodLink RL 12 yX12_init ∈ tb := tb4 173 rfl rfl
set_option maxRecDepth 100000 in
theorem ml_L_13 : Cond.methodLink RL 13 yX11_feed ∈ tb := tb2 189 rfl rfl
set_option maxRecDepth 100000 in
theorem ml_L_17 : Cond.methodLink RL 17 yX12_feed ∈ tb := tb5 184 rfl rfl
set_option maxRecDepth 100000 in
theorem ml_L_18 : Cond.methodLink RL 18 yX11_back ∈ tb := tb2 197 rfl rfl
set_option maxRecDepth 100000 in
theorem ml_L_22 : Cond.methodLink RL 22 yX12_back ∈ tb := tb5 192 rfl rfl
set_option maxRecDepth 100000 in
theorem ml_L_23 : Cond.methodLink RL 23 yX11_read ∈ tb := tb2 201 rfl rfl
set_option maxRecDepth 100000 in
theorem ml_L_27 : Cond.methodLink RL 27 yX12_read ∈ tb := tb5 196 rfl rfl
set_option maxRecDepth 100000 in
theorem ml_L_28 : Cond.methodLink RL 28 yX11_place ∈ tb := tb3 138 rfl rfl
set_option maxRecDepth 100000 in
theorem ml_L_31 : Cond.methodLink RL 31 yX12_place ∈ tb := tb6 30 rfl rfl
set_option maxRecDepth 100000 in
theorem ml_L_32 : Cond.methodLink RL 32 yX11_mill ∈ tb := tb3 142 rfl rfl
set_option maxRecDepth 100000 in
theorem ml_L_36 : Cond.methodLink RL 36 yX12_mill ∈ tb := tb6 34 rfl rfl
set_option maxRecDepth 100000 in
theorem ml_L_37 : Cond.methodLink RL 37 yX11_spring ∈ tb := tb3 150 rfl rfl
set_option maxRecDepth 100000 in
theorem ml_L_41 : Cond.methodLink RL 41 yX12_spring ∈ tb := tb6 38 rfl rfl
set_option maxRecDepth 100000 in
theorem ml_L_42 : Cond.methodLink RL 42 yX11_factors ∈ tb := tb3 154 rfl rfl
set_option maxRecDepth 100000 in
theorem ml_L_45 : Cond.methodLink RL 45 yX12_factors ∈ tb := tb6 42 rfl rfl
set_option maxRecDepth 100000 in
theorem ml_L_46 : Cond.methodLink RL 46 yX11_factor ∈ tb := tb3 162 rfl rfl
set_option maxRecDepth 100000 in
theorem ml_L_50 : Cond.methodLink RL 50 yX12_factor ∈ tb := tb6 46 rfl rfl
set_option maxRecDepth 100000 in
theorem ml_L_51 : Cond.methodLink RL 51 yX11_clock ∈ tb := tb3 170 rfl rfl
set_option maxRecDepth 100000 in
theorem ml_L_54 : Cond.methodLink RL 54 yX12_clock ∈ tb := tb6 50 rfl rfl
set_option maxRecDepth 100000 in
theorem ml_L_55 : Cond.methodLink RL 55 yX11_rain ∈ tb := tb3 174 rfl rfl
set_option maxRecDepth 100000 in
theorem ml_L_59 : Cond.methodLink RL 59 yX12_rain ∈ tb := tb6 54 rfl rfl
set_option maxRecDepth 100000 in
theorem ml_L_60 : Cond.methodLink RL 60 yX11_order ∈ tb := tb3 190 rfl rfl
set_option maxRecDepth 100000 in
theorem ml_L_64 : Cond.methodLink RL 64 yX12_order ∈ tb := tb6 62 rfl rfl
set_option maxRecDepth 100000 in
theorem ml_L_65 : Cond.methodLink RL 65 yX11_grist ∈ tb := tb3 202 rfl rfl
set_option maxRecDepth 100000 in
theorem ml_L_69 : Cond.methodLink RL 69 yX12_grist ∈ tb := tb6 66 rfl rfl
set_option maxRecDepth 100000 in
theorem ml_L_70 : Cond.methodLink RL 70 yX11_at ∈ tb := tb3 210 rfl rfl
set_option maxRecDepth 100000 in
theorem ml_L_73 : Cond.methodLink RL 73 yX12_at_ ∈ tb := tb6 70 rfl rfl
set_option maxRecDepth 100000 in
theorem ml_L_74 : Cond.methodLink RL 74 yX11_sea ∈ tb := tb4 55 rfl rfl
set_option maxRecDepth 100000 in
theorem ml_L_77 : Cond.methodLink RL 77 yX12_sea ∈ tb := tb6 115 rfl rfl
set_option maxRecDepth 100000 in
theorem ml_L_78 : Cond.methodLink RL 78 yX11_broken ∈ tb := tb4 64 rfl rfl
set_option maxRecDepth 100000 in
theorem ml_L_81 : Cond.methodLink RL 81 yX12_broken ∈ tb := tb6 122 rfl rfl
set_option maxRecDepth 100000 in
theorem ml_L_82 : Cond.methodLink RL 82 yX11_first ∈ tb := tb4 81 rfl rfl
set_option maxRecDepth 100000 in
theorem ml_L_85 : Cond.methodLink RL 85 yX12_first ∈ tb := tb6 130 rfl rfl
set_option maxRecDepth 100000 in
theorem ml_L_86 : Cond.methodLink RL 86 yX11_loss ∈ tb := tb4 85 rfl rfl
set_option maxRecDepth 100000 in
theorem ml_L_89 : Cond.methodLink RL 89 yX12_loss ∈ tb := tb6 134 rfl rfl
set_option maxRecDepth 100000 in
theorem ml_L_90 : Cond.methodLink RL 90 yX11_culprit ∈ tb := tb4 93 rfl rfl
set_option maxRecDepth 100000 in
theorem ml_L_93 : Cond.methodLink RL 93 yX12_culprit ∈ tb := tb6 142 rfl rfl
set_option maxRecDepth 100000 in
theorem ml_L_94 : Cond.methodLink RL 94 yX11_plan ∈ tb := tb4 110 rfl rfl
set_option maxRecDepth 100000 in
theorem ml_L_97 : Cond.methodLink RL 97 yX12_plan ∈ tb := tb6 146 rfl rfl
set_option maxRecDepth 100000 in
theorem ml_L_98 : Cond.methodLink RL 98 yX11_planned ∈ tb := tb4 137 rfl rfl
set_option maxRecDepth 100000 in
theorem ml_L_101 : Cond.methodLink RL 101 yX12_planned ∈ tb := tb6 154 rfl rfl
set_option maxRecDepth 100000 in
theorem ml_L_102 : Cond.methodLink RL 102 yX11_told ∈ tb := tb4 141 rfl rfl
set_option maxRecDepth 100000 in
theorem ml_L_105 : Cond.methodLink RL 105 yX12_told ∈ tb := tb6 158 rfl rfl
set_option maxRecDepth 100000 in
theorem ml_L_106 : Cond.methodLink RL 106 yX11_tolls ∈ tb := tb4 159 rfl rfl
set_option maxRecDepth 100000 in
theorem ml_L_109 : Cond.methodLink RL 109 yX12_tolls ∈ tb := tb6 166 rfl rfl
set_option maxRecDepth 100000 in
theorem ml_L_110 : Cond.methodLink RL 110 yX11_count ∈ tb := tb4 167 rfl rfl
set_option maxRecDepth 100000 in
theorem ml_L_113 : Cond.methodLink RL 113 yX12_count ∈ tb := tb6 170 rfl rfl
set_option maxRecDepth 100000 in
theorem ml_X12_182 : Cond.methodLink RX12 182 yX12_word ∈ tb := tb4 177 rfl rfl
set_option maxRecDepth 100000 in
theorem ml_X12_192 : Cond.methodLink RX12 192 yX12_put ∈ tb := tb5 188 rfl rfl
set_option maxRecDepth 100000 in
theorem ml_X12_201 : Cond.methodLink RX12 201 yX12_more ∈ tb := tb4 180 rfl rfl
set_option maxRecDepth 100000 in
theorem ml_X12_208 : Cond.methodLink RX12 208 yX12_at ∈ tb := tb5 204 rfl rfl
set_option maxRecDepth 100000 in
theorem ml_X12_212 : Cond.methodLink RX12 212 yX12_token ∈ tb := tb5 208 rfl rfl
set_option maxRecDepth 100000 in
theorem ml_X12_216 : Cond.methodLink RX12 216 yX12_isLetter ∈ tb := tb5 212 rfl rfl
set_option maxRecDepth 100000 in
theorem ml_X12_220 : Cond.methodLink RX12 220 yX12_isDigit ∈ tb := tb5 215 rfl rfl
set_option maxRecDepth 100000 in
theorem ml_X12_223 : Cond.methodLink RX12 223 yX12_sign ∈ tb := tb5 218 rfl rfl
set_option maxRecDepth 100000 in
theorem ml_X12_242 : Cond.methodLink RX12 242 yX12_fail ∈ tb := tb5 230 rfl rfl
set_option maxRecDepth 100000 in
theorem ml_X12_245 : Cond.methodLink RX12 245 yX12_is ∈ tb := tb5 222 rfl rfl
set_option maxRecDepth 100000 in
theorem ml_X12_248 : Cond.methodLink RX12 248 yX12_next ∈ tb := tb5 238 rfl rfl
set_option maxRecDepth 100000 in
theorem ml_X12_251 : Cond.methodLink RX12 251 yX12_cut ∈ tb := tb5 200 rfl rfl
set_option maxRecDepth 100000 in
theorem ml_X12_275 : Cond.methodLink RX12 275 yX12_tellAct ∈ tb := tb5 226 rfl rfl
set_option maxRecDepth 100000 in
theorem ml_X12_278 : Cond.methodLink RX12 278 yX12_changes ∈ tb := tb6 26 rfl rfl
set_option maxRecDepth 100000 in
theorem ml_X12_281 : Cond.methodLink RX12 281 yX12_must ∈ tb := tb5 234 rfl rfl
set_option maxRecDepth 100000 in
theorem ml_X12_284 : Cond.methodLink RX12 284 yX12_wrong ∈ tb := tb6 2 rfl rfl
set_option maxRecDepth 100000 in
theorem ml_X12_288 : Cond.methodLink RX12 288 yX12_tellRule ∈ tb := tb6 6 rfl rfl
set_option maxRecDepth 100000 in
theorem ml_X12_291 : Cond.methodLink RX12 291 yX12_expression ∈ tb := tb6 10 rfl rfl
set_option maxRecDepth 100000 in
theorem ml_X12_294 : Cond.methodLink RX12 294 yX12_condition ∈ tb := tb6 22 rfl rfl
set_option maxRecDepth 100000 in
theorem ml_X12_300 : Cond.methodLink RX12 300 yX12_emit ∈ tb := tb6 14 rfl rfl
set_option maxRecDepth 100000 in
theorem ml_X12_303 : Cond.methodLink RX12 303 yX12_comesOut ∈ tb := tb6 18 rfl rfl
set_option maxRecDepth 100000 in
theorem ml_X12_319 : Cond.methodLink RX12 319 yX12_isMill ∈ tb := tb6 58 rfl rfl
set_option maxRecDepth 100000 in
theorem ml_X12_328 : Cond.methodLink RX12 328 yX12_variable ∈ tb := tb6 107 rfl rfl
set_option maxRecDepth 100000 in
theorem ml_X12_332 : Cond.methodLink RX12 332 yX12_value ∈ tb := tb6 103 rfl rfl
set_option maxRecDepth 100000 in
theorem ml_X12_336 : Cond.methodLink RX12 336 yX12_holds ∈ tb := tb6 99 rfl rfl
set_option maxRecDepth 100000 in
theorem ml_X12_340 : Cond.methodLink RX12 340 yX12_counts ∈ tb := tb6 95 rfl rfl
set_option maxRecDepth 100000 in
theorem ml_X12_344 : Cond.methodLink RX12 344 yX12_factorOf ∈ tb := tb6 111 rfl rfl
set_option maxRecDepth 100000 in
theorem ml_X12_347 : Cond.methodLink RX12 347 yX12_knows ∈ tb := tb6 83 rfl rfl
set_option maxRecDepth 100000 in
theorem ml_X12_350 : Cond.methodLink RX12 350 yX12_sets ∈ tb := tb6 87 rfl rfl
set_option maxRecDepth 100000 in
theorem ml_X12_353 : Cond.methodLink RX12 353 yX12_steps ∈ tb := tb6 91 rfl rfl
set_option maxRecDepth 100000 in
theorem ml_X12_357 : Cond.methodLink RX12 357 yX12_isKnown ∈ tb := tb6 74 rfl rfl
set_option maxRecDepth 100000 in
theorem ml_X12_361 : Cond.methodLink RX12 361 yX12_works ∈ tb := tb6 79 rfl rfl
set_option maxRecDepth 100000 in
theorem ml_X12_364 : Cond.methodLink RX12 364 yX12_isEnd ∈ tb := tb6 119 rfl rfl
set_option maxRecDepth 100000 in
theorem ml_X12_367 : Cond.methodLink RX12 367 yX12_breaks ∈ tb := tb6 126 rfl rfl
set_option maxRecDepth 100000 in
theorem ml_X12_371 : Cond.methodLink RX12 371 yX12_workOf ∈ tb := tb6 138 rfl rfl
set_option maxRecDepth 100000 in
theorem ml_X12_374 : Cond.methodLink RX12 374 yX12_isGood ∈ tb := tb6 150 rfl rfl
set_option maxRecDepth 100000 in
theorem ml_X12_380 : Cond.methodLink RX12 380 yX12_grinds ∈ tb := tb6 162 rfl rfl
set_option maxRecDepth 100000 in
theorem ml_J0_335 : Cond.methodLink RJ0 335 yJ0_coder_7d493 ∈ tb := tb2 234 rfl rfl
set_option maxRecDepth 100000 in
theorem ml_J0_492 : Cond.methodLink RJ0 492 yJ0_isLatin1_aae02 ∈ tb := tb3 4 rfl rfl
set_option maxRecDepth 100000 in
theorem ml_J0_495 : Cond.methodLink RJ0 495 yJ1_charAt_3b067 ∈ tb := tb3 8 rfl rfl
set_option maxRecDepth 100000 in
theorem ml_J0_498 : Cond.methodLink RJ0 498 yJ2_charAt_3b067 ∈ tb := tb3 19 rfl rfl
set_option maxRecDepth 100000 in
theorem ml_J0_1059 : Cond.methodLink RJ0 1059 yJ3_checkIndex_8e157 ∈ tb := tb3 16 rfl rfl
set_option maxRecDepth 100000 in
theorem ml_J1_9 : Cond.methodLink RJ1 9 yJ0_checkIndex_df160 ∈ tb := tb3 11 rfl rfl
set_option maxRecDepth 100000 in
theorem ml_J2_48 : Cond.methodLink RJ2 48 yJ2_length_9d52b ∈ tb := tb3 25 rfl rfl
set_option maxRecDepth 100000 in
theorem ml_J2_67 : Cond.methodLink RJ2 67 yJ2_checkIndex_2214a ∈ tb := tb3 22 rfl rfl
set_option maxRecDepth 100000 in
theorem ml_J2_71 : Cond.methodLink RJ2 71 yJ2_getChar_3b067 ∈ tb := tb3 29 rfl rfl
set_option maxRecDepth 100000 in
theorem ml_J2_414 : Cond.methodLink RJ2 414 yJ0_checkIndex_df160 ∈ tb := tb3 28 rfl rfl
set_option maxRecDepth 100000 in
theorem ml_J7_304 : Cond.methodLink RJ7 304 yJ9_min_7cf53 ∈ tb := tb3 58 rfl rfl
set_option maxRecDepth 100000 in
theorem ck_X5_57 : Cond.constant RX5 57 (2147483647) ∈ tb := tb4 123 rfl rfl
set_option maxRecDepth 100000 in
theorem ck_X11_130 : Cond.constant RX11 130 (-1000000) ∈ tb := tb3 218 rfl rfl
set_option maxRecDepth 100000 in
theorem ck_X12_360 : Cond.constant RX12 360 (-1000000) ∈ tb := tb6 78 rfl rfl
set_option maxRecDepth 100000 in
theorem ck_X9_43 : Cond.constantLong RX9 43 (32) ∈ tb := tb3 84 rfl rfl
set_option maxRecDepth 100000 in
theorem ck_X9_45 : Cond.constantLong RX9 45 (97) ∈ tb := tb3 85 rfl rfl
set_option maxRecDepth 100000 in
theorem ck_X12_199 : Cond.constantLong RX12 199 (27) ∈ tb := tb4 183 rfl rfl
set_option maxRecDepth 100000 in
theorem sh_0 : shs[0]? = some (.inl (11, [some 1, some 9, some 10, some 100, some 113, none])) := rfl
set_option maxRecDepth 100000 in
theorem sh_1 : shs[1]? = some (.inl (10, [some 2, some 3, some 4, some 5])) := rfl
set_option maxRecDepth 100000 in
theorem sh_2 : shs[2]? = some (.inl (3, [some 12, some 13, some 14, some 15, none, none, none, some 16])) := rfl
set_option maxRecDepth 100000 in
theorem sh_3 : shs[3]? = some (.inl (6, [none, some 17, some 18, some 19, none])) := rfl
set_option maxRecDepth 100000 in
theorem sh_4 : shs[4]? = some (.inl (4, [some 20, some 21, some 22, some 23, none])) := rfl
set_option maxRecDepth 100000 in
theorem sh_5 : shs[5]? = some (.inl (0, [some 6, some 8, none, some 7, none, none, none, none])) := rfl
set_option maxRecDepth 100000 in
theorem sh_6 : shs[6]? = some (.inl (8, [none, some 24])) := rfl
set_option maxRecDepth 100000 in
theorem sh_7 : shs[7]? = some (.inl (9, [some 25, some 26, some 204])) := rfl
set_option maxRecDepth 100000 in
theorem sh_8 : shs[8]? = some (.inl (2, [none, none, none, none, none, some 27, some 28, some 29, some 30, some 31, some 32, some 33, some 34, some 35, some 36, none, some 37, some 38, none])) := rfl
set_option maxRecDepth 100000 in
theorem sh_9 : shs[9]? = some (.inl (1, [some 39, some 40, some 41, some 42, some 43, none])) := rfl
set_option maxRecDepth 100000 in
theorem sh_10 : shs[10]? = some (.inl (5, [some 44, none, some 45, some 46, some 47, none, none, none, none, none, none])) := rfl
set_option maxRecDepth 100000 in
theorem sh_11 : shs[11]? = some (.inl (12, [none, some 48, none, some 49, none, some 50, some 51, some 52, some 53, some 54, none, none, none, none, none, none, none, none, none, none, some 55, some 56, some 57, none, none, some 58, some 59, some 60, some 61, some 62, some 63, some 64, none, some 65, some 66, some 67, some 68, some 69, none, some 70, some 71, some 72, none, none, some 73, some 74, some 75, some 76, none, none, some 77, none, none, some 78, some 79, some 80, none, some 81, some 82, some 83, some 84, none, some 85, some 86, some 87, some 88, none, none, some 89, some 90, some 91, some 92, some 93, some 94, some 95, none, some 96, some 97, some 98, some 99])) := rfl
set_option maxRecDepth 100000 in
theorem sh_12 : shs[12]? = some (.inr (0, some 7, [])) := rfl
set_option maxRecDepth 100000 in
theorem sh_13 : shs[13]? = some (.inr (0, some 7, [])) := rfl
set_option maxRecDepth 100000 in
theorem sh_14 : shs[14]? = some (.inr (0, some 7, [])) := rfl
set_option maxRecDepth 100000 in
theorem sh_15 : shs[15]? = some (.inr (0, some 7, [])) := rfl
set_option maxRecDepth 100000 in
theorem sh_16 : shs[16]? = some (.inr (0, some 20, [])) := rfl
set_option maxRecDepth 100000 in
theorem sh_17 : shs[17]? = some (.inr (0, some 400, [])) := rfl
set_option maxRecDepth 100000 in
theorem sh_18 : shs[18]? = some (.inr (0, some 400, [])) := rfl
set_option maxRecDepth 100000 in
theorem sh_19 : shs[19]? = some (.inr (0, some 1680, [])) := rfl
set_option maxRecDepth 100000 in
theorem sh_20 : shs[20]? = some (.inr (0, some 200, [])) := rfl
set_option maxRecDepth 100000 in
theorem sh_21 : shs[21]? = some (.inr (0, some 200, [])) := rfl
set_option maxRecDepth 100000 in
theorem sh_22 : shs[22]? = some (.inr (2, some 200, [])) := rfl
set_option maxRecDepth 100000 in
theorem sh_23 : shs[23]? = some (.inr (0, some 200, [])) := rfl
set_option maxRecDepth 100000 in
theorem sh_24 : shs[24]? = some (.inr (1, some 2000, [])) := rfl
set_option maxRecDepth 100000 in
theorem sh_25 : shs[25]? = some (.inr (0, some 601, [])) := rfl
set_option maxRecDepth 100000 in
theorem sh_26 : shs[26]? = some (.inr (0, some 601, [])) := rfl
set_option maxRecDepth 100000 in
theorem sh_27 : shs[27]? = some (.inr (0, some 30, [])) := rfl
set_option maxRecDepth 100000 in
theorem sh_28 : shs[28]? = some (.inr (2, some 30, [])) := rfl
set_option maxRecDepth 100000 in
theorem sh_29 : shs[29]? = some (.inr (0, some 30, [])) := rfl
set_option maxRecDepth 100000 in
theorem sh_30 : shs[30]? = some (.inr (0, some 30, [])) := rfl
set_option maxRecDepth 100000 in
theorem sh_31 : shs[31]? = some (.inr (0, some 30, [])) := rfl
set_option maxRecDepth 100000 in
theorem sh_32 : shs[32]? = some (.inr (0, some 30, [])) := rfl
set_option maxRecDepth 100000 in
theorem sh_33 : shs[33]? = some (.inr (3, some 10, [])) := rfl
set_option maxRecDepth 100000 in
theorem sh_34 : shs[34]? = some (.inr (0, some 10, [])) := rfl
set_option maxRecDepth 100000 in
theorem sh_35 : shs[35]? = some (.inr (0, some 10, [])) := rfl
set_option maxRecDepth 100000 in
theorem sh_36 : shs[36]? = some (.inr (0, none, [])) := rfl
set_option maxRecDepth 100000 in
theorem sh_37 : shs[37]? = some (.inr (0, some 12, [])) := rfl
set_option maxRecDepth 100000 in
theorem sh_38 : shs[38]? = some (.inr (0, some 32, [])) := rfl
set_option maxRecDepth 100000 in
theorem sh_39 : shs[39]? = some (.inr (0, some 60, [])) := rfl
set_option maxRecDepth 100000 in
theorem sh_40 : shs[40]? = some (.inr (0, some 60, [])) := rfl
set_option maxRecDepth 100000 in
theorem sh_41 : shs[41]? = some (.inr (0, some 60, [])) := rfl
set_option maxRecDepth 100000 in
theorem sh_42 : shs[42]? = some (.inr (0, some 60, [])) := rfl
set_option maxRecDepth 100000 in
theorem sh_43 : shs[43]? = some (.inr (0, some 60, [])) := rfl
set_option maxRecDepth 100000 in
theorem sh_44 : shs[44]? = some (.inr (0, some 6, [])) := rfl
set_option maxRecDepth 100000 in
theorem sh_45 : shs[45]? = some (.inr (4, some 6, [126, 139, 152, 165, 178, 191])) := rfl
set_option maxRecDepth 100000 in
theorem sh_46 : shs[46]? = some (.inr (0, some 6, [])) := rfl
set_option maxRecDepth 100000 in
theorem sh_47 : shs[47]? = some (.inr (0, some 6, [])) := rfl
set_option maxRecDepth 100000 in
theorem sh_48 : shs[48]? = some (.inr (1, some 2000, [])) := rfl
set_option maxRecDepth 100000 in
theorem sh_49 : shs[49]? = some (.inr (1, some 2000, [])) := rfl
set_option maxRecDepth 100000 in
theorem sh_50 : shs[50]? = some (.inr (0, some 603, [])) := rfl
set_option maxRecDepth 100000 in
theorem sh_51 : shs[51]? = some (.inr (0, some 603, [])) := rfl
set_option maxRecDepth 100000 in
theorem sh_52 : shs[52]? = some (.inr (0, some 603, [])) := rfl
set_option maxRecDepth 100000 in
theorem sh_53 : shs[53]? = some (.inr (3, some 603, [])) := rfl
set_option maxRecDepth 100000 in
theorem sh_54 : shs[54]? = some (.inr (3, some 23, [])) := rfl
set_option maxRecDepth 100000 in
theorem sh_55 : shs[55]? = some (.inr (3, some 11, [])) := rfl
set_option maxRecDepth 100000 in
theorem sh_56 : shs[56]? = some (.inr (0, some 11, [])) := rfl
set_option maxRecDepth 100000 in
theorem sh_57 : shs[57]? = some (.inr (0, some 11, [])) := rfl
set_option maxRecDepth 100000 in
theorem sh_58 : shs[58]? = some (.inr (0, some 31, [])) := rfl
set_option maxRecDepth 100000 in
theorem sh_59 : shs[59]? = some (.inr (0, some 31, [])) := rfl
set_option maxRecDepth 100000 in
theorem sh_60 : shs[60]? = some (.inr (2, some 31, [])) := rfl
set_option maxRecDepth 100000 in
theorem sh_61 : shs[61]? = some (.inr (0, some 31, [])) := rfl
set_option maxRecDepth 100000 in
theorem sh_62 : shs[62]? = some (.inr (0, some 31, [])) := rfl
set_option maxRecDepth 100000 in
theorem sh_63 : shs[63]? = some (.inr (0, some 31, [])) := rfl
set_option maxRecDepth 100000 in
theorem sh_64 : shs[64]? = some (.inr (0, some 31, [])) := rfl
set_option maxRecDepth 100000 in
theorem sh_65 : shs[65]? = some (.inr (0, some 6600, [])) := rfl
set_option maxRecDepth 100000 in
theorem sh_66 : shs[66]? = some (.inr (0, some 6600, [])) := rfl
set_option maxRecDepth 100000 in
theorem sh_67 : shs[67]? = some (.inr (0, some 6600, [])) := rfl
set_option maxRecDepth 100000 in
theorem sh_68 : shs[68]? = some (.inr (0, some 6600, [])) := rfl
set_option maxRecDepth 100000 in
theorem sh_69 : shs[69]? = some (.inr (2, some 6600, [])) := rfl
set_option maxRecDepth 100000 in
theorem sh_70 : shs[70]? = some (.inr (0, some 20000, [])) := rfl
set_option maxRecDepth 100000 in
theorem sh_71 : shs[71]? = some (.inr (0, some 20000, [])) := rfl
set_option maxRecDepth 100000 in
theorem sh_72 : shs[72]? = some (.inr (0, some 64, [])) := rfl
set_option maxRecDepth 100000 in
theorem sh_73 : shs[73]? = some (.inr (0, some 7, [])) := rfl
set_option maxRecDepth 100000 in
theorem sh_74 : shs[74]? = some (.inr (0, some 7, [])) := rfl
set_option maxRecDepth 100000 in
theorem sh_75 : shs[75]? = some (.inr (0, some 7, [])) := rfl
set_option maxRecDepth 100000 in
theorem sh_76 : shs[76]? = some (.inr (0, some 7, [])) := rfl
set_option maxRecDepth 100000 in
theorem sh_77 : shs[77]? = some (.inr (0, some 20, [])) := rfl
set_option maxRecDepth 100000 in
theorem sh_78 : shs[78]? = some (.inr (0, some 400, [])) := rfl
set_option maxRecDepth 100000 in
theorem sh_79 : shs[79]? = some (.inr (0, some 400, [])) := rfl
set_option maxRecDepth 100000 in
theorem sh_80 : shs[80]? = some (.inr (0, some 400, [])) := rfl
set_option maxRecDepth 100000 in
theorem sh_81 : shs[81]? = some (.inr (0, some 200, [])) := rfl
set_option maxRecDepth 100000 in
theorem sh_82 : shs[82]? = some (.inr (0, some 200, [])) := rfl
set_option maxRecDepth 100000 in
theorem sh_83 : shs[83]? = some (.inr (2, some 200, [])) := rfl
set_option maxRecDepth 100000 in
theorem sh_84 : shs[84]? = some (.inr (0, some 200, [])) := rfl
set_option maxRecDepth 100000 in
theorem sh_85 : shs[85]? = some (.inr (0, some 60, [])) := rfl
set_option maxRecDepth 100000 in
theorem sh_86 : shs[86]? = some (.inr (0, some 60, [])) := rfl
set_option maxRecDepth 100000 in
theorem sh_87 : shs[87]? = some (.inr (0, some 60, [])) := rfl
set_option maxRecDepth 100000 in
theorem sh_88 : shs[88]? = some (.inr (0, some 16800, [])) := rfl
set_option maxRecDepth 100000 in
theorem sh_89 : shs[89]? = some (.inr (0, some 1680, [])) := rfl
set_option maxRecDepth 100000 in
theorem sh_90 : shs[90]? = some (.inr (0, some 3360, [])) := rfl
set_option maxRecDepth 100000 in
theorem sh_91 : shs[91]? = some (.inr (0, some 14, [])) := rfl
set_option maxRecDepth 100000 in
theorem sh_92 : shs[92]? = some (.inr (0, some 700, [])) := rfl
set_option maxRecDepth 100000 in
theorem sh_93 : shs[93]? = some (.inr (0, some 7, [])) := rfl
set_option maxRecDepth 100000 in
theorem sh_94 : shs[94]? = some (.inr (0, some 6, [])) := rfl
set_option maxRecDepth 100000 in
theorem sh_95 : shs[95]? = some (.inr (0, some 6, [])) := rfl
set_option maxRecDepth 100000 in
theorem sh_96 : shs[96]? = some (.inr (0, some 7, [])) := rfl
set_option maxRecDepth 100000 in
theorem sh_97 : shs[97]? = some (.inr (0, some 7, [])) := rfl
set_option maxRecDepth 100000 in
theorem sh_98 : shs[98]? = some (.inr (0, some 60, [])) := rfl
set_option maxRecDepth 100000 in
theorem sh_99 : shs[99]? = some (.inr (0, some 60, [])) := rfl
set_option maxRecDepth 100000 in
theorem sh_100 : shs[100]? = some (.inl (7, [some 101, some 102, none, none, none])) := rfl
set_option maxRecDepth 100000 in
theorem sh_101 : shs[101]? = some (.inr (5, some 10, [103, 104, 105, 106, 107, 108, 109, 110, 111, 112])) := rfl
set_option maxRecDepth 100000 in
theorem sh_102 : shs[102]? = some (.inr (0, some 7, [])) := rfl
set_option maxRecDepth 100000 in
theorem sh_103 : shs[103]? = some (.inr (0, some 7, [])) := rfl
set_option maxRecDepth 100000 in
theorem sh_104 : shs[104]? = some (.inr (0, some 7, [])) := rfl
set_option maxRecDepth 100000 in
theorem sh_105 : shs[105]? = some (.inr (0, some 7, [])) := rfl
set_option maxRecDepth 100000 in
theorem sh_106 : shs[106]? = some (.inr (0, some 7, [])) := rfl
set_option maxRecDepth 100000 in
theorem sh_107 : shs[107]? = some (.inr (0, some 7, [])) := rfl
set_option maxRecDepth 100000 in
theorem sh_108 : shs[108]? = some (.inr (0, some 7, [])) := rfl
set_option maxRecDepth 100000 in
theorem sh_109 : shs[109]? = some (.inr (0, some 7, [])) := rfl
set_option maxRecDepth 100000 in
theorem sh_110 : shs[110]? = some (.inr (0, some 7, [])) := rfl
set_option maxRecDepth 100000 in
theorem sh_111 : shs[111]? = some (.inr (0, some 7, [])) := rfl
set_option maxRecDepth 100000 in
theorem sh_112 : shs[112]? = some (.inr (0, some 7, [])) := rfl
set_option maxRecDepth 100000 in
theorem sh_113 : shs[113]? = some (.inl (7, [some 114, some 115, none, none, none])) := rfl
set_option maxRecDepth 100000 in
theorem sh_114 : shs[114]? = some (.inr (5, some 10, [116, 117, 118, 119, 120, 121, 122, 123, 124, 125])) := rfl
set_option maxRecDepth 100000 in
theorem sh_115 : shs[115]? = some (.inr (0, some 7, [])) := rfl
set_option maxRecDepth 100000 in
theorem sh_116 : shs[116]? = some (.inr (0, some 7, [])) := rfl
set_option maxRecDepth 100000 in
theorem sh_117 : shs[117]? = some (.inr (0, some 7, [])) := rfl
set_option maxRecDepth 100000 in
theorem sh_118 : shs[118]? = some (.inr (0, some 7, [])) := rfl
set_option maxRecDepth 100000 in
theorem sh_119 : shs[119]? = some (.inr (0, some 7, [])) := rfl
set_option maxRecDepth 100000 in
theorem sh_120 : shs[120]? = some (.inr (0, some 7, [])) := rfl
set_option maxRecDepth 100000 in
theorem sh_121 : shs[121]? = some (.inr (0, some 7, [])) := rfl
set_option maxRecDepth 100000 in
theorem sh_122 : shs[122]? = some (.inr (0, some 7, [])) := rfl
set_option maxRecDepth 100000 in
theorem sh_123 : shs[123]? = some (.inr (0, some 7, [])) := rfl
set_option maxRecDepth 100000 in
theorem sh_124 : shs[124]? = some (.inr (0, some 7, [])) := rfl
set_option maxRecDepth 100000 in
theorem sh_125 : shs[125]? = some (.inr (0, some 7, [])) := rfl
set_option maxRecDepth 100000 in
theorem sh_126 : shs[126]? = some (.inl (7, [some 127, some 128, none, none, none])) := rfl
set_option maxRecDepth 100000 in
theorem sh_127 : shs[127]? = some (.inr (5, some 10, [129, 130, 131, 132, 133, 134, 135, 136, 137, 138])) := rfl
set_option maxRecDepth 100000 in
theorem sh_128 : shs[128]? = some (.inr (0, some 7, [])) := rfl
set_option maxRecDepth 100000 in
theorem sh_129 : shs[129]? = some (.inr (0, some 7, [])) := rfl
set_option maxRecDepth 100000 in
theorem sh_130 : shs[130]? = some (.inr (0, some 7, [])) := rfl
set_option maxRecDepth 100000 in
theorem sh_131 : shs[131]? = some (.inr (0, some 7, [])) := rfl
set_option maxRecDepth 100000 in
theorem sh_132 : shs[132]? = some (.inr (0, some 7, [])) := rfl
set_option maxRecDepth 100000 in
theorem sh_133 : shs[133]? = some (.inr (0, some 7, [])) := rfl
set_option maxRecDepth 100000 in
theorem sh_134 : shs[134]? = some (.inr (0, some 7, [])) := rfl
set_option maxRecDepth 100000 in
theorem sh_135 : shs[135]? = some (.inr (0, some 7, [])) := rfl
set_option maxRecDepth 100000 in
theorem sh_136 : shs[136]? = some (.inr (0, some 7, [])) := rfl
set_option maxRecDepth 100000 in
theorem sh_137 : shs[137]? = some (.inr (0, some 7, [])) := rfl
set_option maxRecDepth 100000 in
theorem sh_138 : shs[138]? = some (.inr (0, some 7, [])) := rfl
set_option maxRecDepth 100000 in
theorem sh_139 : shs[139]? = some (.inl (7, [some 140, some 141, none, none, none])) := rfl
set_option maxRecDepth 100000 in
theorem sh_140 : shs[140]? = some (.inr (5, some 10, [142, 143, 144, 145, 146, 147, 148, 149, 150, 151])) := rfl
set_option maxRecDepth 100000 in
theorem sh_141 : shs[141]? = some (.inr (0, some 7, [])) := rfl
set_option maxRecDepth 100000 in
theorem sh_142 : shs[142]? = some (.inr (0, some 7, [])) := rfl
set_option maxRecDepth 100000 in
theorem sh_143 : shs[143]? = some (.inr (0, some 7, [])) := rfl
set_option maxRecDepth 100000 in
theorem sh_144 : shs[144]? = some (.inr (0, some 7, [])) := rfl
set_option maxRecDepth 100000 in
theorem sh_145 : shs[145]? = some (.inr (0, some 7, [])) := rfl
set_option maxRecDepth 100000 in
theorem sh_146 : shs[146]? = some (.inr (0, some 7, [])) := rfl
set_option maxRecDepth 100000 in
theorem sh_147 : shs[147]? = some (.inr (0, some 7, [])) := rfl
set_option maxRecDepth 100000 in
theorem sh_148 : shs[148]? = some (.inr (0, some 7, [])) := rfl
set_option maxRecDepth 100000 in
theorem sh_149 : shs[149]? = some (.inr (0, some 7, [])) := rfl
set_option maxRecDepth 100000 in
theorem sh_150 : shs[150]? = some (.inr (0, some 7, [])) := rfl
set_option maxRecDepth 100000 in
theorem sh_151 : shs[151]? = some (.inr (0, some 7, [])) := rfl
set_option maxRecDepth 100000 in
theorem sh_152 : shs[152]? = some (.inl (7, [some 153, some 154, none, none, none])) := rfl
set_option maxRecDepth 100000 in
theorem sh_153 : shs[153]? = some (.inr (5, some 10, [155, 156, 157, 158, 159, 160, 161, 162, 163, 164])) := rfl
set_option maxRecDepth 100000 in
theorem sh_154 : shs[154]? = some (.inr (0, some 7, [])) := rfl
set_option maxRecDepth 100000 in
theorem sh_155 : shs[155]? = some (.inr (0, some 7, [])) := rfl
set_option maxRecDepth 100000 in
theorem sh_156 : shs[156]? = some (.inr (0, some 7, [])) := rfl
set_option maxRecDepth 100000 in
theorem sh_157 : shs[157]? = some (.inr (0, some 7, [])) := rfl
set_option maxRecDepth 100000 in
theorem sh_158 : shs[158]? = some (.inr (0, some 7, [])) := rfl
set_option maxRecDepth 100000 in
theorem sh_159 : shs[159]? = some (.inr (0, some 7, [])) := rfl
set_option maxRecDepth 100000 in
theorem sh_160 : shs[160]? = some (.inr (0, some 7, [])) := rfl
set_option maxRecDepth 100000 in
theorem sh_161 : shs[161]? = some (.inr (0, some 7, [])) := rfl
set_option maxRecDepth 100000 in
theorem sh_162 : shs[162]? = some (.inr (0, some 7, [])) := rfl
set_option maxRecDepth 100000 in
theorem sh_163 : shs[163]? = some (.inr (0, some 7, [])) := rfl
set_option maxRecDepth 100000 in
theorem sh_164 : shs[164]? = some (.inr (0, some 7, [])) := rfl
set_option maxRecDepth 100000 in
theorem sh_165 : shs[165]? = some (.inl (7, [some 166, some 167, none, none, none])) := rfl
set_option maxRecDepth 100000 in
theorem sh_166 : shs[166]? = some (.inr (5, some 10, [168, 169, 170, 171, 172, 173, 174, 175, 176, 177])) := rfl
set_option maxRecDepth 100000 in
theorem sh_167 : shs[167]? = some (.inr (0, some 7, [])) := rfl
set_option maxRecDepth 100000 in
theorem sh_168 : shs[168]? = some (.inr (0, some 7, [])) := rfl
set_option maxRecDepth 100000 in
theorem sh_169 : shs[169]? = some (.inr (0, some 7, [])) := rfl
set_option maxRecDepth 100000 in
theorem sh_170 : shs[170]? = some (.inr (0, some 7, [])) := rfl
set_option maxRecDepth 100000 in
theorem sh_171 : shs[171]? = some (.inr (0, some 7, [])) := rfl
set_option maxRecDepth 100000 in
theorem sh_172 : shs[172]? = some (.inr (0, some 7, [])) := rfl
set_option maxRecDepth 100000 in
theorem sh_173 : shs[173]? = some (.inr (0, some 7, [])) := rfl
set_option maxRecDepth 100000 in
theorem sh_174 : shs[174]? = some (.inr (0, some 7, [])) := rfl
set_option maxRecDepth 100000 in
theorem sh_175 : shs[175]? = some (.inr (0, some 7, [])) := rfl
set_option maxRecDepth 100000 in
theorem sh_176 : shs[176]? = some (.inr (0, some 7, [])) := rfl
set_option maxRecDepth 100000 in
theorem sh_177 : shs[177]? = some (.inr (0, some 7, [])) := rfl
set_option maxRecDepth 100000 in
theorem sh_178 : shs[178]? = some (.inl (7, [some 179, some 180, none, none, none])) := rfl
set_option maxRecDepth 100000 in
theorem sh_179 : shs[179]? = some (.inr (5, some 10, [181, 182, 183, 184, 185, 186, 187, 188, 189, 190])) := rfl
set_option maxRecDepth 100000 in
theorem sh_180 : shs[180]? = some (.inr (0, some 7, [])) := rfl
set_option maxRecDepth 100000 in
theorem sh_181 : shs[181]? = some (.inr (0, some 7, [])) := rfl
set_option maxRecDepth 100000 in
theorem sh_182 : shs[182]? = some (.inr (0, some 7, [])) := rfl
set_option maxRecDepth 100000 in
theorem sh_183 : shs[183]? = some (.inr (0, some 7, [])) := rfl
set_option maxRecDepth 100000 in
theorem sh_184 : shs[184]? = some (.inr (0, some 7, [])) := rfl
set_option maxRecDepth 100000 in
theorem sh_185 : shs[185]? = some (.inr (0, some 7, [])) := rfl
set_option maxRecDepth 100000 in
theorem sh_186 : shs[186]? = some (.inr (0, some 7, [])) := rfl
set_option maxRecDepth 100000 in
theorem sh_187 : shs[187]? = some (.inr (0, some 7, [])) := rfl
set_option maxRecDepth 100000 in
theorem sh_188 : shs[188]? = some (.inr (0, some 7, [])) := rfl
set_option maxRecDepth 100000 in
theorem sh_189 : shs[189]? = some (.inr (0, some 7, [])) := rfl
set_option maxRecDepth 100000 in
theorem sh_190 : shs[190]? = some (.inr (0, some 7, [])) := rfl
set_option maxRecDepth 100000 in
theorem sh_191 : shs[191]? = some (.inl (7, [some 192, some 193, none, none, none])) := rfl
set_option maxRecDepth 100000 in
theorem sh_192 : shs[192]? = some (.inr (5, some 10, [194, 195, 196, 197, 198, 199, 200, 201, 202, 203])) := rfl
set_option maxRecDepth 100000 in
theorem sh_193 : shs[193]? = some (.inr (0, some 7, [])) := rfl
set_option maxRecDepth 100000 in
theorem sh_194 : shs[194]? = some (.inr (0, some 7, [])) := rfl
set_option maxRecDepth 100000 in
theorem sh_195 : shs[195]? = some (.inr (0, some 7, [])) := rfl
set_option maxRecDepth 100000 in
theorem sh_196 : shs[196]? = some (.inr (0, some 7, [])) := rfl
set_option maxRecDepth 100000 in
theorem sh_197 : shs[197]? = some (.inr (0, some 7, [])) := rfl
set_option maxRecDepth 100000 in
theorem sh_198 : shs[198]? = some (.inr (0, some 7, [])) := rfl
set_option maxRecDepth 100000 in
theorem sh_199 : shs[199]? = some (.inr (0, some 7, [])) := rfl
set_option maxRecDepth 100000 in
theorem sh_200 : shs[200]? = some (.inr (0, some 7, [])) := rfl
set_option maxRecDepth 100000 in
theorem sh_201 : shs[201]? = some (.inr (0, some 7, [])) := rfl
set_option maxRecDepth 100000 in
theorem sh_202 : shs[202]? = some (.inr (0, some 7, [])) := rfl
set_option maxRecDepth 100000 in
theorem sh_203 : shs[203]? = some (.inr (0, some 7, [])) := rfl
set_option maxRecDepth 100000 in
theorem sh_204 : shs[204]? = some (.inr (0, some 601, [])) := rfl
