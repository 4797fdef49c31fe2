set_option maxRecDepth 100000 in
theorem co_X0 : CO RX0 TX0 8 0 := ⟨rfl, fun w h => tb_in ((by decide +kernel : ∀ w ∈ u_ws RX0 TX0 8, w ∈ lw_tbl) w h) ((by decide +kernel : ∀ w ∈ u_ws RX0 TX0 8, goodWord w = true) w h), nmX0⟩
set_option maxRecDepth 100000 in
theorem co_X1 : CO RX1 TX1 6 1 := ⟨rfl, fun w h => tb_in ((by decide +kernel : ∀ w ∈ u_ws RX1 TX1 6, w ∈ lw_tbl) w h) ((by decide +kernel : ∀ w ∈ u_ws RX1 TX1 6, goodWord w = true) w h), nmX1⟩
set_option maxRecDepth 100000 in
theorem co_X2 : CO RX2 TX2 19 2 := ⟨rfl, fun w h => tb_in ((by decide +kernel : ∀ w ∈ u_ws RX2 TX2 19, w ∈ lw_tbl) w h) ((by decide +kernel : ∀ w ∈ u_ws RX2 TX2 19, goodWord w = true) w h), nmX2⟩
set_option maxRecDepth 100000 in
theorem co_X3 : CO RX3 TX3 8 3 := ⟨rfl, fun w h => tb_in ((by decide +kernel : ∀ w ∈ u_ws RX3 TX3 8, w ∈ lw_tbl) w h) ((by decide +kernel : ∀ w ∈ u_ws RX3 TX3 8, goodWord w = true) w h), nmX3⟩
set_option maxRecDepth 100000 in
theorem co_X4 : CO RX4 TX4 5 4 := ⟨rfl, fun w h => tb_in ((by decide +kernel : ∀ w ∈ u_ws RX4 TX4 5, w ∈ lw_tbl) w h) ((by decide +kernel : ∀ w ∈ u_ws RX4 TX4 5, goodWord w = true) w h), nmX4⟩
set_option maxRecDepth 100000 in
theorem co_X5 : CO RX5 TX5 11 5 := ⟨rfl, fun w h => tb_in ((by decide +kernel : ∀ w ∈ u_ws RX5 TX5 11, w ∈ lw_tbl) w h) ((by decide +kernel : ∀ w ∈ u_ws RX5 TX5 11, goodWord w = true) w h), nmX5⟩
set_option maxRecDepth 100000 in
theorem co_X6 : CO RX6 TX6 5 6 := ⟨rfl, fun w h => tb_in ((by decide +kernel : ∀ w ∈ u_ws RX6 TX6 5, w ∈ lw_tbl) w h) ((by decide +kernel : ∀ w ∈ u_ws RX6 TX6 5, goodWord w = true) w h), nmX6⟩
set_option maxRecDepth 100000 in
theorem co_X7 : CO RX7 TX7 5 7 := ⟨rfl, fun w h => tb_in ((by decide +kernel : ∀ w ∈ u_ws RX7 TX7 5, w ∈ lw_tbl) w h) ((by decide +kernel : ∀ w ∈ u_ws RX7 TX7 5, goodWord w = true) w h), nmX7⟩
set_option maxRecDepth 100000 in
theorem co_X8 : CO RX8 TX8 2 8 := ⟨rfl, fun w h => tb_in ((by decide +kernel : ∀ w ∈ u_ws RX8 TX8 2, w ∈ lw_tbl) w h) ((by decide +kernel : ∀ w ∈ u_ws RX8 TX8 2, goodWord w = true) w h), nmX8⟩
set_option maxRecDepth 100000 in
theorem co_X9 : CO RX9 TX9 2 9 := ⟨rfl, fun w h => tb_in ((by decide +kernel : ∀ w ∈ u_ws RX9 TX9 2, w ∈ lw_tbl) w h) ((by decide +kernel : ∀ w ∈ u_ws RX9 TX9 2, goodWord w = true) w h), nmX9⟩
set_option maxRecDepth 100000 in
theorem co_X10 : CO RX10 TX10 4 10 := ⟨rfl, fun w h => tb_in ((by decide +kernel : ∀ w ∈ u_ws RX10 TX10 4, w ∈ lw_tbl) w h) ((by decide +kernel : ∀ w ∈ u_ws RX10 TX10 4, goodWord w = true) w h), nmX10⟩
set_option maxRecDepth 100000 in
theorem co_X11 : CO RX11 TX11 6 11 := ⟨rfl, fun w h => tb_in ((by decide +kernel : ∀ w ∈ u_ws RX11 TX11 6, w ∈ lw_tbl) w h) ((by decide +kernel : ∀ w ∈ u_ws RX11 TX11 6, goodWord w = true) w h), nmX11⟩
set_option maxRecDepth 100000 in
theorem co_X12 : CO RX12 TX12 80 12 := ⟨rfl, fun w h => tb_in ((by decide +kernel : ∀ w ∈ u_ws RX12 TX12 80, w ∈ lw_tbl) w h) ((by decide +kernel : ∀ w ∈ u_ws RX12 TX12 80, goodWord w = true) w h), nmX12⟩
theorem fl_X11_10 : FL RX11 10 11 0 := ⟨_, TX11, 6, co_X11, by decide, tb_at 406 (by decide +kernel) rfl⟩
theorem fl_X11_19 : FL RX11 19 11 1 := ⟨_, TX11, 6, co_X11, by decide, tb_at 407 (by decide +kernel) rfl⟩
theorem fl_X11_26 : FL RX11 26 11 2 := ⟨_, TX11, 6, co_X11, by decide, tb_at 408 (by decide +kernel) rfl⟩
theorem fl_X11_33 : FL RX11 33 11 3 := ⟨_, TX11, 6, co_X11, by decide, tb_at 409 (by decide +kernel) rfl⟩
theorem fl_X11_37 : FL RX11 37 11 4 := ⟨_, TX11, 6, co_X11, by decide, tb_at 410 (by decide +kernel) rfl⟩
theorem fl_X11_40 : FL RX11 40 11 5 := ⟨_, TX11, 6, co_X11, by decide, tb_at 411 (by decide +kernel) rfl⟩
theorem fi_X11_40 : FI RX11 40 11 5 := ⟨_, TX11, 6, tyX11, co_X11, by decide, tb_at 411 (by decide +kernel) rfl, tyX11_ok, rfl, rfl⟩
theorem fl_X11_44 : FL RX11 44 10 3 := ⟨_, TX10, 4, co_X10, by decide, tb_at 285 (by decide +kernel) rfl⟩
theorem fl_X11_48 : FL RX11 48 0 0 := ⟨_, TX0, 8, co_X0, by decide, tb_at 250 (by decide +kernel) rfl⟩
theorem fl_X11_54 : FL RX11 54 8 0 := ⟨_, TX8, 2, co_X8, by decide, tb_at 150 (by decide +kernel) rfl⟩
theorem fi_X11_54 : FI RX11 54 8 0 := ⟨_, TX8, 2, tyX8, co_X8, by decide, tb_at 150 (by decide +kernel) rfl, tyX8_ok, rfl, rfl⟩
theorem fl_X11_74 : FL RX11 74 0 2 := ⟨_, TX0, 8, co_X0, by decide, tb_at 255 (by decide +kernel) rfl⟩
theorem fi_X11_74 : FI RX11 74 0 2 := ⟨_, TX0, 8, tyX0, co_X0, by decide, tb_at 255 (by decide +kernel) rfl, tyX0_ok, rfl, rfl⟩
theorem fl_X11_77 : FL RX11 77 10 0 := ⟨_, TX10, 4, co_X10, by decide, tb_at 279 (by decide +kernel) rfl⟩
theorem fl_X11_87 : FL RX11 87 3 5 := ⟨_, TX3, 8, co_X3, by decide, tb_at 60 (by decide +kernel) rfl⟩
theorem fi_X11_87 : FI RX11 87 3 5 := ⟨_, TX3, 8, tyX3, co_X3, by decide, tb_at 60 (by decide +kernel) rfl, tyX3_ok, rfl, rfl⟩
theorem fl_X11_104 : FL RX11 104 10 1 := ⟨_, TX10, 4, co_X10, by decide, tb_at 281 (by decide +kernel) rfl⟩
theorem fl_X11_117 : FL RX11 117 10 2 := ⟨_, TX10, 4, co_X10, by decide, tb_at 283 (by decide +kernel) rfl⟩
theorem fl_X11_139 : FL RX11 139 7 0 := ⟨_, TX7, 5, co_X7, by decide, tb_at 345 (by decide +kernel) rfl⟩
theorem fl_X11_146 : FL RX11 146 3 4 := ⟨_, TX3, 8, co_X3, by decide, tb_at 57 (by decide +kernel) rfl⟩
theorem fi_X11_146 : FI RX11 146 3 4 := ⟨_, TX3, 8, tyX3, co_X3, by decide, tb_at 57 (by decide +kernel) rfl, tyX3_ok, rfl, rfl⟩
theorem fl_X11_155 : FL RX11 155 4 4 := ⟨_, TX4, 5, co_X4, by decide, tb_at 123 (by decide +kernel) rfl⟩
theorem fi_X11_155 : FI RX11 155 4 4 := ⟨_, TX4, 5, tyX4, co_X4, by decide, tb_at 123 (by decide +kernel) rfl, tyX4_ok, rfl, rfl⟩
theorem fl_X11_160 : FL RX11 160 4 0 := ⟨_, TX4, 5, co_X4, by decide, tb_at 113 (by decide +kernel) rfl⟩
theorem fl_X11_164 : FL RX11 164 4 1 := ⟨_, TX4, 5, co_X4, by decide, tb_at 116 (by decide +kernel) rfl⟩
theorem fl_X11_173 : FL RX11 173 7 4 := ⟨_, TX7, 5, co_X7, by decide, tb_at 356 (by decide +kernel) rfl⟩
theorem fi_X11_173 : FI RX11 173 7 4 := ⟨_, TX7, 5, tyX7, co_X7, by decide, tb_at 356 (by decide +kernel) rfl, tyX7_ok, rfl, rfl⟩
theorem fl_X11_180 : FL RX11 180 6 0 := ⟨_, TX6, 5, co_X6, by decide, tb_at 89 (by decide +kernel) rfl⟩
theorem fi_X11_180 : FI RX11 180 6 0 := ⟨_, TX6, 5, tyX6, co_X6, by decide, tb_at 89 (by decide +kernel) rfl, tyX6_ok, rfl, rfl⟩
theorem fl_X11_189 : FL RX11 189 5 1 := ⟨_, TX5, 11, co_X5, by decide, tb_at 371 (by decide +kernel) rfl⟩
theorem fi_X11_189 : FI RX11 189 5 1 := ⟨_, TX5, 11, tyX5, co_X5, by decide, tb_at 371 (by decide +kernel) rfl, tyX5_ok, rfl, rfl⟩
theorem fl_X11_190 : FL RX11 190 5 0 := ⟨_, TX5, 11, co_X5, by decide, tb_at 369 (by decide +kernel) rfl⟩
theorem fl_X11_193 : FL RX11 193 1 5 := ⟨_, TX1, 6, co_X1, by decide, tb_at 312 (by decide +kernel) rfl⟩
theorem fi_X11_193 : FI RX11 193 1 5 := ⟨_, TX1, 6, tyX1, co_X1, by decide, tb_at 312 (by decide +kernel) rfl, tyX1_ok, rfl, rfl⟩
theorem fl_X11_194 : FL RX11 194 1 1 := ⟨_, TX1, 6, co_X1, by decide, tb_at 304 (by decide +kernel) rfl⟩
theorem fl_X11_195 : FL RX11 195 1 2 := ⟨_, TX1, 6, co_X1, by decide, tb_at 306 (by decide +kernel) rfl⟩
theorem fl_X11_198 : FL RX11 198 1 0 := ⟨_, TX1, 6, co_X1, by decide, tb_at 302 (by decide +kernel) rfl⟩
theorem fl_X11_203 : FL RX11 203 1 4 := ⟨_, TX1, 6, co_X1, by decide, tb_at 310 (by decide +kernel) rfl⟩
theorem fl_X11_206 : FL RX11 206 1 3 := ⟨_, TX1, 6, co_X1, by decide, tb_at 308 (by decide +kernel) rfl⟩
theorem fl_X11_213 : FL RX11 213 0 1 := ⟨_, TX0, 8, co_X0, by decide, tb_at 253 (by decide +kernel) rfl⟩
theorem fl_X11_217 : FL RX11 217 2 0 := ⟨_, TX2, 19, co_X2, by decide, tb_at 166 (by decide +kernel) rfl⟩
theorem fi_X11_217 : FI RX11 217 2 0 := ⟨_, TX2, 19, tyX2, co_X2, by decide, tb_at 166 (by decide +kernel) rfl, tyX2_ok, rfl, rfl⟩
theorem fl_X11_222 : FL RX11 222 2 1 := ⟨_, TX2, 19, co_X2, by decide, tb_at 169 (by decide +kernel) rfl⟩
theorem fi_X11_222 : FI RX11 222 2 1 := ⟨_, TX2, 19, tyX2, co_X2, by decide, tb_at 169 (by decide +kernel) rfl, tyX2_ok, rfl, rfl⟩
theorem fl_X11_225 : FL RX11 225 3 6 := ⟨_, TX3, 8, co_X3, by decide, tb_at 62 (by decide +kernel) rfl⟩
theorem fi_X11_225 : FI RX11 225 3 6 := ⟨_, TX3, 8, tyX3, co_X3, by decide, tb_at 62 (by decide +kernel) rfl, tyX3_ok, rfl, rfl⟩
theorem fl_X0_12 : FL RX0 12 0 0 := ⟨_, TX0, 8, co_X0, by decide, tb_at 249 (by decide +kernel) rfl⟩
theorem fl_X0_21 : FL RX0 21 0 1 := ⟨_, TX0, 8, co_X0, by decide, tb_at 251 (by decide +kernel) rfl⟩
theorem fl_X0_25 : FL RX0 25 0 2 := ⟨_, TX0, 8, co_X0, by decide, tb_at 254 (by decide +kernel) rfl⟩
theorem fi_X0_25 : FI RX0 25 0 2 := ⟨_, TX0, 8, tyX0, co_X0, by decide, tb_at 254 (by decide +kernel) rfl, tyX0_ok, rfl, rfl⟩
theorem fl_X0_32 : FL RX0 32 0 3 := ⟨_, TX0, 8, co_X0, by decide, tb_at 256 (by decide +kernel) rfl⟩
theorem fl_X0_36 : FL RX0 36 0 4 := ⟨_, TX0, 8, co_X0, by decide, tb_at 257 (by decide +kernel) rfl⟩
theorem fi_X0_36 : FI RX0 36 0 4 := ⟨_, TX0, 8, tyX0, co_X0, by decide, tb_at 257 (by decide +kernel) rfl, tyX0_ok, rfl, rfl⟩
theorem fl_X0_39 : FL RX0 39 0 5 := ⟨_, TX0, 8, co_X0, by decide, tb_at 258 (by decide +kernel) rfl⟩
theorem fi_X0_39 : FI RX0 39 0 5 := ⟨_, TX0, 8, tyX0, co_X0, by decide, tb_at 258 (by decide +kernel) rfl, tyX0_ok, rfl, rfl⟩
theorem fl_X0_42 : FL RX0 42 0 6 := ⟨_, TX0, 8, co_X0, by decide, tb_at 259 (by decide +kernel) rfl⟩
theorem fi_X0_42 : FI RX0 42 0 6 := ⟨_, TX0, 8, tyX0, co_X0, by decide, tb_at 259 (by decide +kernel) rfl, tyX0_ok, rfl, rfl⟩
theorem fl_X0_45 : FL RX0 45 0 7 := ⟨_, TX0, 8, co_X0, by decide, tb_at 260 (by decide +kernel) rfl⟩
theorem fi_X0_45 : FI RX0 45 0 7 := ⟨_, TX0, 8, tyX0, co_X0, by decide, tb_at 260 (by decide +kernel) rfl, tyX0_ok, rfl, rfl⟩
theorem fl_X0_55 : FL RX0 55 8 0 := ⟨_, TX8, 2, co_X8, by decide, tb_at 151 (by decide +kernel) rfl⟩
theorem fi_X0_55 : FI RX0 55 8 0 := ⟨_, TX8, 2, tyX8, co_X8, by decide, tb_at 151 (by decide +kernel) rfl, tyX8_ok, rfl, rfl⟩
theorem fl_X0_79 : FL RX0 79 2 2 := ⟨_, TX2, 19, co_X2, by decide, tb_at 171 (by decide +kernel) rfl⟩
theorem fi_X0_79 : FI RX0 79 2 2 := ⟨_, TX2, 19, tyX2, co_X2, by decide, tb_at 171 (by decide +kernel) rfl, tyX2_ok, rfl, rfl⟩
theorem fl_X0_102 : FL RX0 102 2 3 := ⟨_, TX2, 19, co_X2, by decide, tb_at 173 (by decide +kernel) rfl⟩
theorem fi_X0_102 : FI RX0 102 2 3 := ⟨_, TX2, 19, tyX2, co_X2, by decide, tb_at 173 (by decide +kernel) rfl, tyX2_ok, rfl, rfl⟩
theorem fl_X0_111 : FL RX0 111 2 6 := ⟨_, TX2, 19, co_X2, by decide, tb_at 179 (by decide +kernel) rfl⟩
theorem fl_X0_121 : FL RX0 121 2 7 := ⟨_, TX2, 19, co_X2, by decide, tb_at 181 (by decide +kernel) rfl⟩
theorem fl_X0_125 : FL RX0 125 2 4 := ⟨_, TX2, 19, co_X2, by decide, tb_at 175 (by decide +kernel) rfl⟩
theorem fi_X0_125 : FI RX0 125 2 4 := ⟨_, TX2, 19, tyX2, co_X2, by decide, tb_at 175 (by decide +kernel) rfl, tyX2_ok, rfl, rfl⟩
theorem fl_X0_128 : FL RX0 128 2 8 := ⟨_, TX2, 19, co_X2, by decide, tb_at 183 (by decide +kernel) rfl⟩
theorem fl_X0_131 : FL RX0 131 2 5 := ⟨_, TX2, 19, co_X2, by decide, tb_at 177 (by decide +kernel) rfl⟩
theorem fl_X0_146 : FL RX0 146 9 0 := ⟨_, TX9, 2, co_X9, by decide, tb_at 241 (by decide +kernel) rfl⟩
theorem fl_X0_148 : FL RX0 148 9 1 := ⟨_, TX9, 2, co_X9, by decide, tb_at 243 (by decide +kernel) rfl⟩
theorem fl_X1_11 : FL RX1 11 1 0 := ⟨_, TX1, 6, co_X1, by decide, tb_at 301 (by decide +kernel) rfl⟩
theorem fl_X1_15 : FL RX1 15 1 1 := ⟨_, TX1, 6, co_X1, by decide, tb_at 303 (by decide +kernel) rfl⟩
theorem fl_X1_18 : FL RX1 18 1 2 := ⟨_, TX1, 6, co_X1, by decide, tb_at 305 (by decide +kernel) rfl⟩
theorem fl_X1_21 : FL RX1 21 1 3 := ⟨_, TX1, 6, co_X1, by decide, tb_at 307 (by decide +kernel) rfl⟩
theorem fl_X1_24 : FL RX1 24 1 4 := ⟨_, TX1, 6, co_X1, by decide, tb_at 309 (by decide +kernel) rfl⟩
theorem fl_X1_27 : FL RX1 27 1 5 := ⟨_, TX1, 6, co_X1, by decide, tb_at 311 (by decide +kernel) rfl⟩
theorem fi_X1_27 : FI RX1 27 1 5 := ⟨_, TX1, 6, tyX1, co_X1, by decide, tb_at 311 (by decide +kernel) rfl, tyX1_ok, rfl, rfl⟩
theorem fl_X2_9 : FL RX2 9 2 0 := ⟨_, TX2, 19, co_X2, by decide, tb_at 165 (by decide +kernel) rfl⟩
theorem fi_X2_9 : FI RX2 9 2 0 := ⟨_, TX2, 19, tyX2, co_X2, by decide, tb_at 165 (by decide +kernel) rfl, tyX2_ok, rfl, rfl⟩
theorem fl_X2_15 : FL RX2 15 2 1 := ⟨_, TX2, 19, co_X2, by decide, tb_at 167 (by decide +kernel) rfl⟩
theorem fi_X2_15 : FI RX2 15 2 1 := ⟨_, TX2, 19, tyX2, co_X2, by decide, tb_at 167 (by decide +kernel) rfl, tyX2_ok, rfl, rfl⟩
theorem fl_X2_18 : FL RX2 18 2 2 := ⟨_, TX2, 19, co_X2, by decide, tb_at 170 (by decide +kernel) rfl⟩
theorem fi_X2_18 : FI RX2 18 2 2 := ⟨_, TX2, 19, tyX2, co_X2, by decide, tb_at 170 (by decide +kernel) rfl, tyX2_ok, rfl, rfl⟩
theorem fl_X2_21 : FL RX2 21 2 3 := ⟨_, TX2, 19, co_X2, by decide, tb_at 172 (by decide +kernel) rfl⟩
theorem fi_X2_21 : FI RX2 21 2 3 := ⟨_, TX2, 19, tyX2, co_X2, by decide, tb_at 172 (by decide +kernel) rfl, tyX2_ok, rfl, rfl⟩
theorem fl_X2_24 : FL RX2 24 2 4 := ⟨_, TX2, 19, co_X2, by decide, tb_at 174 (by decide +kernel) rfl⟩
theorem fi_X2_24 : FI RX2 24 2 4 := ⟨_, TX2, 19, tyX2, co_X2, by decide, tb_at 174 (by decide +kernel) rfl, tyX2_ok, rfl, rfl⟩
theorem fl_X2_27 : FL RX2 27 2 5 := ⟨_, TX2, 19, co_X2, by decide, tb_at 176 (by decide +kernel) rfl⟩
theorem fl_X2_31 : FL RX2 31 2 6 := ⟨_, TX2, 19, co_X2, by decide, tb_at 178 (by decide +kernel) rfl⟩
theorem fl_X2_35 : FL RX2 35 2 7 := ⟨_, TX2, 19, co_X2, by decide, tb_at 180 (by decide +kernel) rfl⟩
theorem fl_X2_38 : FL RX2 38 2 8 := ⟨_, TX2, 19, co_X2, by decide, tb_at 182 (by decide +kernel) rfl⟩
theorem fl_X2_41 : FL RX2 41 2 9 := ⟨_, TX2, 19, co_X2, by decide, tb_at 184 (by decide +kernel) rfl⟩
theorem fl_X2_44 : FL RX2 44 2 10 := ⟨_, TX2, 19, co_X2, by decide, tb_at 185 (by decide +kernel) rfl⟩
theorem fl_X2_47 : FL RX2 47 2 11 := ⟨_, TX2, 19, co_X2, by decide, tb_at 186 (by decide +kernel) rfl⟩
theorem fl_X2_51 : FL RX2 51 2 12 := ⟨_, TX2, 19, co_X2, by decide, tb_at 187 (by decide +kernel) rfl⟩
theorem fl_X2_54 : FL RX2 54 2 13 := ⟨_, TX2, 19, co_X2, by decide, tb_at 188 (by decide +kernel) rfl⟩
theorem fl_X2_59 : FL RX2 59 2 14 := ⟨_, TX2, 19, co_X2, by decide, tb_at 189 (by decide +kernel) rfl⟩
theorem fl_X2_62 : FL RX2 62 2 15 := ⟨_, TX2, 19, co_X2, by decide, tb_at 190 (by decide +kernel) rfl⟩
theorem fi_X2_62 : FI RX2 62 2 15 := ⟨_, TX2, 19, tyX2, co_X2, by decide, tb_at 190 (by decide +kernel) rfl, tyX2_ok, rfl, rfl⟩
theorem fl_X2_65 : FL RX2 65 2 16 := ⟨_, TX2, 19, co_X2, by decide, tb_at 191 (by decide +kernel) rfl⟩
theorem fl_X2_68 : FL RX2 68 2 17 := ⟨_, TX2, 19, co_X2, by decide, tb_at 192 (by decide +kernel) rfl⟩
theorem fl_X2_71 : FL RX2 71 2 18 := ⟨_, TX2, 19, co_X2, by decide, tb_at 193 (by decide +kernel) rfl⟩
theorem fi_X2_71 : FI RX2 71 2 18 := ⟨_, TX2, 19, tyX2, co_X2, by decide, tb_at 193 (by decide +kernel) rfl, tyX2_ok, rfl, rfl⟩
theorem fl_X2_80 : FL RX2 80 7 1 := ⟨_, TX7, 5, co_X7, by decide, tb_at 348 (by decide +kernel) rfl⟩
theorem fl_X2_97 : FL RX2 97 3 3 := ⟨_, TX3, 8, co_X3, by decide, tb_at 53 (by decide +kernel) rfl⟩
theorem fl_X2_110 : FL RX2 110 7 2 := ⟨_, TX7, 5, co_X7, by decide, tb_at 351 (by decide +kernel) rfl⟩
theorem fi_X2_110 : FI RX2 110 7 2 := ⟨_, TX7, 5, tyX7, co_X7, by decide, tb_at 351 (by decide +kernel) rfl, tyX7_ok, rfl, rfl⟩
theorem fl_X2_113 : FL RX2 113 7 0 := ⟨_, TX7, 5, co_X7, by decide, tb_at 344 (by decide +kernel) rfl⟩
theorem fl_X2_117 : FL RX2 117 3 1 := ⟨_, TX3, 8, co_X3, by decide, tb_at 49 (by decide +kernel) rfl⟩
theorem fl_X2_120 : FL RX2 120 3 0 := ⟨_, TX3, 8, co_X3, by decide, tb_at 46 (by decide +kernel) rfl⟩
theorem fl_X2_123 : FL RX2 123 3 4 := ⟨_, TX3, 8, co_X3, by decide, tb_at 56 (by decide +kernel) rfl⟩
theorem fi_X2_123 : FI RX2 123 3 4 := ⟨_, TX3, 8, tyX3, co_X3, by decide, tb_at 56 (by decide +kernel) rfl, tyX3_ok, rfl, rfl⟩
theorem fl_X3_9 : FL RX3 9 3 0 := ⟨_, TX3, 8, co_X3, by decide, tb_at 44 (by decide +kernel) rfl⟩
theorem fl_X3_15 : FL RX3 15 3 1 := ⟨_, TX3, 8, co_X3, by decide, tb_at 47 (by decide +kernel) rfl⟩
theorem fl_X3_18 : FL RX3 18 3 2 := ⟨_, TX3, 8, co_X3, by decide, tb_at 50 (by decide +kernel) rfl⟩
theorem fl_X3_21 : FL RX3 21 3 3 := ⟨_, TX3, 8, co_X3, by decide, tb_at 52 (by decide +kernel) rfl⟩
theorem fl_X3_24 : FL RX3 24 3 4 := ⟨_, TX3, 8, co_X3, by decide, tb_at 54 (by decide +kernel) rfl⟩
theorem fi_X3_24 : FI RX3 24 3 4 := ⟨_, TX3, 8, tyX3, co_X3, by decide, tb_at 54 (by decide +kernel) rfl, tyX3_ok, rfl, rfl⟩
theorem fl_X3_28 : FL RX3 28 3 5 := ⟨_, TX3, 8, co_X3, by decide, tb_at 58 (by decide +kernel) rfl⟩
theorem fi_X3_28 : FI RX3 28 3 5 := ⟨_, TX3, 8, tyX3, co_X3, by decide, tb_at 58 (by decide +kernel) rfl, tyX3_ok, rfl, rfl⟩
theorem fl_X3_31 : FL RX3 31 3 6 := ⟨_, TX3, 8, co_X3, by decide, tb_at 61 (by decide +kernel) rfl⟩
theorem fi_X3_31 : FI RX3 31 3 6 := ⟨_, TX3, 8, tyX3, co_X3, by decide, tb_at 61 (by decide +kernel) rfl, tyX3_ok, rfl, rfl⟩
theorem fl_X3_34 : FL RX3 34 3 7 := ⟨_, TX3, 8, co_X3, by decide, tb_at 63 (by decide +kernel) rfl⟩
theorem fl_X4_11 : FL RX4 11 4 0 := ⟨_, TX4, 5, co_X4, by decide, tb_at 111 (by decide +kernel) rfl⟩
theorem fl_X4_15 : FL RX4 15 4 1 := ⟨_, TX4, 5, co_X4, by decide, tb_at 114 (by decide +kernel) rfl⟩
theorem fl_X4_18 : FL RX4 18 4 2 := ⟨_, TX4, 5, co_X4, by decide, tb_at 117 (by decide +kernel) rfl⟩
theorem fl_X4_22 : FL RX4 22 4 3 := ⟨_, TX4, 5, co_X4, by decide, tb_at 119 (by decide +kernel) rfl⟩
theorem fl_X4_25 : FL RX4 25 4 4 := ⟨_, TX4, 5, co_X4, by decide, tb_at 121 (by decide +kernel) rfl⟩
theorem fi_X4_25 : FI RX4 25 4 4 := ⟨_, TX4, 5, tyX4, co_X4, by decide, tb_at 121 (by decide +kernel) rfl, tyX4_ok, rfl, rfl⟩
theorem fl_X5_11 : FL RX5 11 5 0 := ⟨_, TX5, 11, co_X5, by decide, tb_at 368 (by decide +kernel) rfl⟩
theorem fl_X5_15 : FL RX5 15 5 1 := ⟨_, TX5, 11, co_X5, by decide, tb_at 370 (by decide +kernel) rfl⟩
theorem fi_X5_15 : FI RX5 15 5 1 := ⟨_, TX5, 11, tyX5, co_X5, by decide, tb_at 370 (by decide +kernel) rfl, tyX5_ok, rfl, rfl⟩
theorem fl_X5_21 : FL RX5 21 5 2 := ⟨_, TX5, 11, co_X5, by decide, tb_at 372 (by decide +kernel) rfl⟩
theorem fl_X5_25 : FL RX5 25 5 3 := ⟨_, TX5, 11, co_X5, by decide, tb_at 373 (by decide +kernel) rfl⟩
theorem fl_X5_28 : FL RX5 28 5 4 := ⟨_, TX5, 11, co_X5, by decide, tb_at 374 (by decide +kernel) rfl⟩
theorem fl_X5_32 : FL RX5 32 5 6 := ⟨_, TX5, 11, co_X5, by decide, tb_at 376 (by decide +kernel) rfl⟩
theorem fi_X5_32 : FI RX5 32 5 6 := ⟨_, TX5, 11, tyX5, co_X5, by decide, tb_at 376 (by decide +kernel) rfl, tyX5_ok, rfl, rfl⟩
theorem fl_X5_35 : FL RX5 35 5 7 := ⟨_, TX5, 11, co_X5, by decide, tb_at 377 (by decide +kernel) rfl⟩
theorem fi_X5_35 : FI RX5 35 5 7 := ⟨_, TX5, 11, tyX5, co_X5, by decide, tb_at 377 (by decide +kernel) rfl, tyX5_ok, rfl, rfl⟩
theorem fl_X5_38 : FL RX5 38 5 8 := ⟨_, TX5, 11, co_X5, by decide, tb_at 378 (by decide +kernel) rfl⟩
theorem fi_X5_38 : FI RX5 38 5 8 := ⟨_, TX5, 11, tyX5, co_X5, by decide, tb_at 378 (by decide +kernel) rfl, tyX5_ok, rfl, rfl⟩
theorem fl_X5_47 : FL RX5 47 5 9 := ⟨_, TX5, 11, co_X5, by decide, tb_at 379 (by decide +kernel) rfl⟩
theorem fi_X5_47 : FI RX5 47 5 9 := ⟨_, TX5, 11, tyX5, co_X5, by decide, tb_at 379 (by decide +kernel) rfl, tyX5_ok, rfl, rfl⟩
theorem fl_X5_49 : FL RX5 49 3 2 := ⟨_, TX3, 8, co_X3, by decide, tb_at 51 (by decide +kernel) rfl⟩
theorem fl_X5_52 : FL RX5 52 5 10 := ⟨_, TX5, 11, co_X5, by decide, tb_at 380 (by decide +kernel) rfl⟩
theorem fi_X5_52 : FI RX5 52 5 10 := ⟨_, TX5, 11, tyX5, co_X5, by decide, tb_at 380 (by decide +kernel) rfl, tyX5_ok, rfl, rfl⟩
theorem fl_X5_58 : FL RX5 58 5 5 := ⟨_, TX5, 11, co_X5, by decide, tb_at 375 (by decide +kernel) rfl⟩
theorem fi_X5_58 : FI RX5 58 5 5 := ⟨_, TX5, 11, tyX5, co_X5, by decide, tb_at 375 (by decide +kernel) rfl, tyX5_ok, rfl, rfl⟩
theorem fl_X5_76 : FL RX5 76 7 0 := ⟨_, TX7, 5, co_X7, by decide, tb_at 342 (by decide +kernel) rfl⟩
theorem fl_X6_9 : FL RX6 9 6 0 := ⟨_, TX6, 5, co_X6, by decide, tb_at 88 (by decide +kernel) rfl⟩
theorem fi_X6_9 : FI RX6 9 6 0 := ⟨_, TX6, 5, tyX6, co_X6, by decide, tb_at 88 (by decide +kernel) rfl, tyX6_ok, rfl, rfl⟩
theorem fl_X6_15 : FL RX6 15 6 1 := ⟨_, TX6, 5, co_X6, by decide, tb_at 90 (by decide +kernel) rfl⟩
theorem fl_X6_19 : FL RX6 19 6 2 := ⟨_, TX6, 5, co_X6, by decide, tb_at 91 (by decide +kernel) rfl⟩
theorem fl_X6_22 : FL RX6 22 6 3 := ⟨_, TX6, 5, co_X6, by decide, tb_at 92 (by decide +kernel) rfl⟩
theorem fl_X6_25 : FL RX6 25 6 4 := ⟨_, TX6, 5, co_X6, by decide, tb_at 93 (by decide +kernel) rfl⟩
theorem fi_X6_25 : FI RX6 25 6 4 := ⟨_, TX6, 5, tyX6, co_X6, by decide, tb_at 93 (by decide +kernel) rfl, tyX6_ok, rfl, rfl⟩
theorem fl_X7_11 : FL RX7 11 7 0 := ⟨_, TX7, 5, co_X7, by decide, tb_at 341 (by decide +kernel) rfl⟩
theorem fl_X7_16 : FL RX7 16 7 1 := ⟨_, TX7, 5, co_X7, by decide, tb_at 346 (by decide +kernel) rfl⟩
theorem fl_X7_20 : FL RX7 20 7 2 := ⟨_, TX7, 5, co_X7, by decide, tb_at 349 (by decide +kernel) rfl⟩
theorem fi_X7_20 : FI RX7 20 7 2 := ⟨_, TX7, 5, tyX7, co_X7, by decide, tb_at 349 (by decide +kernel) rfl, tyX7_ok, rfl, rfl⟩
theorem fl_X7_24 : FL RX7 24 7 3 := ⟨_, TX7, 5, co_X7, by decide, tb_at 352 (by decide +kernel) rfl⟩
theorem fi_X7_24 : FI RX7 24 7 3 := ⟨_, TX7, 5, tyX7, co_X7, by decide, tb_at 352 (by decide +kernel) rfl, tyX7_ok, rfl, rfl⟩
theorem fl_X7_27 : FL RX7 27 7 4 := ⟨_, TX7, 5, co_X7, by decide, tb_at 354 (by decide +kernel) rfl⟩
theorem fi_X7_27 : FI RX7 27 7 4 := ⟨_, TX7, 5, tyX7, co_X7, by decide, tb_at 354 (by decide +kernel) rfl, tyX7_ok, rfl, rfl⟩
theorem fl_X8_7 : FL RX8 7 8 0 := ⟨_, TX8, 2, co_X8, by decide, tb_at 148 (by decide +kernel) rfl⟩
theorem fi_X8_7 : FI RX8 7 8 0 := ⟨_, TX8, 2, tyX8, co_X8, by decide, tb_at 148 (by decide +kernel) rfl, tyX8_ok, rfl, rfl⟩
theorem fl_X8_13 : FL RX8 13 8 1 := ⟨_, TX8, 2, co_X8, by decide, tb_at 152 (by decide +kernel) rfl⟩
theorem fl_X9_9 : FL RX9 9 9 0 := ⟨_, TX9, 2, co_X9, by decide, tb_at 240 (by decide +kernel) rfl⟩
theorem fl_X9_13 : FL RX9 13 9 1 := ⟨_, TX9, 2, co_X9, by decide, tb_at 242 (by decide +kernel) rfl⟩
theorem fl_X9_16 : FL RX9 16 8 0 := ⟨_, TX8, 2, co_X8, by decide, tb_at 149 (by decide +kernel) rfl⟩
theorem fi_X9_16 : FI RX9 16 8 0 := ⟨_, TX8, 2, tyX8, co_X8, by decide, tb_at 149 (by decide +kernel) rfl, tyX8_ok, rfl, rfl⟩
theorem fl_X10_12 : FL RX10 12 10 0 := ⟨_, TX10, 4, co_X10, by decide, tb_at 278 (by decide +kernel) rfl⟩
theorem fl_X10_21 : FL RX10 21 10 1 := ⟨_, TX10, 4, co_X10, by decide, tb_at 280 (by decide +kernel) rfl⟩
theorem fl_X10_28 : FL RX10 28 10 2 := ⟨_, TX10, 4, co_X10, by decide, tb_at 282 (by decide +kernel) rfl⟩
theorem fl_X10_35 : FL RX10 35 10 3 := ⟨_, TX10, 4, co_X10, by decide, tb_at 284 (by decide +kernel) rfl⟩
theorem fl_X10_48 : FL RX10 48 7 4 := ⟨_, TX7, 5, co_X7, by decide, tb_at 355 (by decide +kernel) rfl⟩
theorem fi_X10_48 : FI RX10 48 7 4 := ⟨_, TX7, 5, tyX7, co_X7, by decide, tb_at 355 (by decide +kernel) rfl, tyX7_ok, rfl, rfl⟩
theorem fl_X10_52 : FL RX10 52 7 2 := ⟨_, TX7, 5, co_X7, by decide, tb_at 350 (by decide +kernel) rfl⟩
theorem fi_X10_52 : FI RX10 52 7 2 := ⟨_, TX7, 5, tyX7, co_X7, by decide, tb_at 350 (by decide +kernel) rfl, tyX7_ok, rfl, rfl⟩
theorem fl_X10_59 : FL RX10 59 7 0 := ⟨_, TX7, 5, co_X7, by decide, tb_at 343 (by decide +kernel) rfl⟩
theorem fl_X10_69 : FL RX10 69 3 4 := ⟨_, TX3, 8, co_X3, by decide, tb_at 55 (by decide +kernel) rfl⟩
theorem fi_X10_69 : FI RX10 69 3 4 := ⟨_, TX3, 8, tyX3, co_X3, by decide, tb_at 55 (by decide +kernel) rfl, tyX3_ok, rfl, rfl⟩
theorem fl_X10_76 : FL RX10 76 3 5 := ⟨_, TX3, 8, co_X3, by decide, tb_at 59 (by decide +kernel) rfl⟩
theorem fi_X10_76 : FI RX10 76 3 5 := ⟨_, TX3, 8, tyX3, co_X3, by decide, tb_at 59 (by decide +kernel) rfl, tyX3_ok, rfl, rfl⟩
theorem fl_X10_79 : FL RX10 79 7 3 := ⟨_, TX7, 5, co_X7, by decide, tb_at 353 (by decide +kernel) rfl⟩
theorem fi_X10_79 : FI RX10 79 7 3 := ⟨_, TX7, 5, tyX7, co_X7, by decide, tb_at 353 (by decide +kernel) rfl, tyX7_ok, rfl, rfl⟩
theorem fl_X10_82 : FL RX10 82 4 4 := ⟨_, TX4, 5, co_X4, by decide, tb_at 122 (by decide +kernel) rfl⟩
theorem fi_X10_82 : FI RX10 82 4 4 := ⟨_, TX4, 5, tyX4, co_X4, by decide, tb_at 122 (by decide +kernel) rfl, tyX4_ok, rfl, rfl⟩
theorem fl_X10_83 : FL RX10 83 4 0 := ⟨_, TX4, 5, co_X4, by decide, tb_at 112 (by decide +kernel) rfl⟩
theorem fl_X10_86 : FL RX10 86 4 2 := ⟨_, TX4, 5, co_X4, by decide, tb_at 118 (by decide +kernel) rfl⟩
theorem fl_X10_90 : FL RX10 90 7 1 := ⟨_, TX7, 5, co_X7, by decide, tb_at 347 (by decide +kernel) rfl⟩
theorem fl_X10_93 : FL RX10 93 4 1 := ⟨_, TX4, 5, co_X4, by decide, tb_at 115 (by decide +kernel) rfl⟩
theorem fl_X10_96 : FL RX10 96 4 3 := ⟨_, TX4, 5, co_X4, by decide, tb_at 120 (by decide +kernel) rfl⟩
theorem fl_X10_99 : FL RX10 99 0 1 := ⟨_, TX0, 8, co_X0, by decide, tb_at 252 (by decide +kernel) rfl⟩
theorem fl_X10_118 : FL RX10 118 3 0 := ⟨_, TX3, 8, co_X3, by decide, tb_at 45 (by decide +kernel) rfl⟩
theorem fl_X10_128 : FL RX10 128 3 1 := ⟨_, TX3, 8, co_X3, by decide, tb_at 48 (by decide +kernel) rfl⟩
theorem fl_X10_131 : FL RX10 131 2 1 := ⟨_, TX2, 19, co_X2, by decide, tb_at 168 (by decide +kernel) rfl⟩
theorem fi_X10_131 : FI RX10 131 2 1 := ⟨_, TX2, 19, tyX2, co_X2, by decide, tb_at 168 (by decide +kernel) rfl, tyX2_ok, rfl, rfl⟩
theorem fl_X12_13 : FL RX12 13 12 1 := ⟨_, TX12, 80, co_X12, by decide, tb_at 910 (by decide +kernel) rfl⟩
theorem fl_X12_17 : FL RX12 17 12 3 := ⟨_, TX12, 80, co_X12, by decide, tb_at 912 (by decide +kernel) rfl⟩
theorem fl_X12_20 : FL RX12 20 12 5 := ⟨_, TX12, 80, co_X12, by decide, tb_at 914 (by decide +kernel) rfl⟩
theorem fl_X12_24 : FL RX12 24 12 6 := ⟨_, TX12, 80, co_X12, by decide, tb_at 915 (by decide +kernel) rfl⟩
theorem fl_X12_27 : FL RX12 27 12 7 := ⟨_, TX12, 80, co_X12, by decide, tb_at 916 (by decide +kernel) rfl⟩
theorem fl_X12_30 : FL RX12 30 12 8 := ⟨_, TX12, 80, co_X12, by decide, tb_at 917 (by decide +kernel) rfl⟩
theorem fl_X12_34 : FL RX12 34 12 9 := ⟨_, TX12, 80, co_X12, by decide, tb_at 918 (by decide +kernel) rfl⟩
theorem fl_X12_37 : FL RX12 37 12 17 := ⟨_, TX12, 80, co_X12, by decide, tb_at 926 (by decide +kernel) rfl⟩
theorem fi_X12_37 : FI RX12 37 12 17 := ⟨_, TX12, 80, tyX12, co_X12, by decide, tb_at 926 (by decide +kernel) rfl, tyX12_ok, rfl, rfl⟩
theorem fl_X12_40 : FL RX12 40 12 20 := ⟨_, TX12, 80, co_X12, by decide, tb_at 929 (by decide +kernel) rfl⟩
theorem fl_X12_43 : FL RX12 43 12 21 := ⟨_, TX12, 80, co_X12, by decide, tb_at 930 (by decide +kernel) rfl⟩
theorem fl_X12_46 : FL RX12 46 12 22 := ⟨_, TX12, 80, co_X12, by decide, tb_at 931 (by decide +kernel) rfl⟩
theorem fl_X12_49 : FL RX12 49 12 25 := ⟨_, TX12, 80, co_X12, by decide, tb_at 934 (by decide +kernel) rfl⟩
theorem fl_X12_52 : FL RX12 52 12 26 := ⟨_, TX12, 80, co_X12, by decide, tb_at 935 (by decide +kernel) rfl⟩
theorem fl_X12_55 : FL RX12 55 12 27 := ⟨_, TX12, 80, co_X12, by decide, tb_at 936 (by decide +kernel) rfl⟩
theorem fl_X12_59 : FL RX12 59 12 28 := ⟨_, TX12, 80, co_X12, by decide, tb_at 937 (by decide +kernel) rfl⟩
theorem fl_X12_62 : FL RX12 62 12 29 := ⟨_, TX12, 80, co_X12, by decide, tb_at 938 (by decide +kernel) rfl⟩
theorem fl_X12_65 : FL RX12 65 12 30 := ⟨_, TX12, 80, co_X12, by decide, tb_at 939 (by decide +kernel) rfl⟩
theorem fl_X12_68 : FL RX12 68 12 31 := ⟨_, TX12, 80, co_X12, by decide, tb_at 940 (by decide +kernel) rfl⟩
theorem fl_X12_71 : FL RX12 71 12 33 := ⟨_, TX12, 80, co_X12, by decide, tb_at 942 (by decide +kernel) rfl⟩
theorem fl_X12_74 : FL RX12 74 12 34 := ⟨_, TX12, 80, co_X12, by decide, tb_at 943 (by decide +kernel) rfl⟩
theorem fl_X12_77 : FL RX12 77 12 35 := ⟨_, TX12, 80, co_X12, by decide, tb_at 944 (by decide +kernel) rfl⟩
theorem fl_X12_80 : FL RX12 80 12 36 := ⟨_, TX12, 80, co_X12, by decide, tb_at 945 (by decide +kernel) rfl⟩
theorem fl_X12_83 : FL RX12 83 12 37 := ⟨_, TX12, 80, co_X12, by decide, tb_at 946 (by decide +kernel) rfl⟩
theorem fl_X12_86 : FL RX12 86 12 39 := ⟨_, TX12, 80, co_X12, by decide, tb_at 948 (by decide +kernel) rfl⟩
theorem fl_X12_89 : FL RX12 89 12 40 := ⟨_, TX12, 80, co_X12, by decide, tb_at 949 (by decide +kernel) rfl⟩
theorem fl_X12_92 : FL RX12 92 12 41 := ⟨_, TX12, 80, co_X12, by decide, tb_at 950 (by decide +kernel) rfl⟩
theorem fl_X12_95 : FL RX12 95 12 44 := ⟨_, TX12, 80, co_X12, by decide, tb_at 953 (by decide +kernel) rfl⟩
theorem fl_X12_98 : FL RX12 98 12 45 := ⟨_, TX12, 80, co_X12, by decide, tb_at 954 (by decide +kernel) rfl⟩
theorem fl_X12_101 : FL RX12 101 12 46 := ⟨_, TX12, 80, co_X12, by decide, tb_at 955 (by decide +kernel) rfl⟩
theorem fl_X12_104 : FL RX12 104 12 47 := ⟨_, TX12, 80, co_X12, by decide, tb_at 956 (by decide +kernel) rfl⟩
theorem fl_X12_107 : FL RX12 107 12 50 := ⟨_, TX12, 80, co_X12, by decide, tb_at 959 (by decide +kernel) rfl⟩
theorem fl_X12_110 : FL RX12 110 12 53 := ⟨_, TX12, 80, co_X12, by decide, tb_at 962 (by decide +kernel) rfl⟩
theorem fl_X12_113 : FL RX12 113 12 54 := ⟨_, TX12, 80, co_X12, by decide, tb_at 963 (by decide +kernel) rfl⟩
theorem fl_X12_116 : FL RX12 116 12 55 := ⟨_, TX12, 80, co_X12, by decide, tb_at 964 (by decide +kernel) rfl⟩
theorem fl_X12_119 : FL RX12 119 12 57 := ⟨_, TX12, 80, co_X12, by decide, tb_at 966 (by decide +kernel) rfl⟩
theorem fl_X12_122 : FL RX12 122 12 58 := ⟨_, TX12, 80, co_X12, by decide, tb_at 967 (by decide +kernel) rfl⟩
theorem fl_X12_125 : FL RX12 125 12 59 := ⟨_, TX12, 80, co_X12, by decide, tb_at 968 (by decide +kernel) rfl⟩
theorem fl_X12_128 : FL RX12 128 12 60 := ⟨_, TX12, 80, co_X12, by decide, tb_at 969 (by decide +kernel) rfl⟩
theorem fl_X12_131 : FL RX12 131 12 62 := ⟨_, TX12, 80, co_X12, by decide, tb_at 971 (by decide +kernel) rfl⟩
theorem fl_X12_134 : FL RX12 134 12 63 := ⟨_, TX12, 80, co_X12, by decide, tb_at 972 (by decide +kernel) rfl⟩
theorem fl_X12_137 : FL RX12 137 12 64 := ⟨_, TX12, 80, co_X12, by decide, tb_at 973 (by decide +kernel) rfl⟩
theorem fl_X12_140 : FL RX12 140 12 65 := ⟨_, TX12, 80, co_X12, by decide, tb_at 974 (by decide +kernel) rfl⟩
theorem fl_X12_143 : FL RX12 143 12 66 := ⟨_, TX12, 80, co_X12, by decide, tb_at 975 (by decide +kernel) rfl⟩
theorem fi_X12_143 : FI RX12 143 12 66 := ⟨_, TX12, 80, tyX12, co_X12, by decide, tb_at 975 (by decide +kernel) rfl, tyX12_ok, rfl, rfl⟩
theorem fl_X12_146 : FL RX12 146 12 67 := ⟨_, TX12, 80, co_X12, by decide, tb_at 976 (by decide +kernel) rfl⟩
theorem fi_X12_146 : FI RX12 146 12 67 := ⟨_, TX12, 80, tyX12, co_X12, by decide, tb_at 976 (by decide +kernel) rfl, tyX12_ok, rfl, rfl⟩
theorem fl_X12_149 : FL RX12 149 12 68 := ⟨_, TX12, 80, co_X12, by decide, tb_at 977 (by decide +kernel) rfl⟩
theorem fl_X12_152 : FL RX12 152 12 69 := ⟨_, TX12, 80, co_X12, by decide, tb_at 978 (by decide +kernel) rfl⟩
theorem fl_X12_155 : FL RX12 155 12 70 := ⟨_, TX12, 80, co_X12, by decide, tb_at 979 (by decide +kernel) rfl⟩
theorem fl_X12_158 : FL RX12 158 12 71 := ⟨_, TX12, 80, co_X12, by decide, tb_at 980 (by decide +kernel) rfl⟩
theorem fl_X12_161 : FL RX12 161 12 72 := ⟨_, TX12, 80, co_X12, by decide, tb_at 981 (by decide +kernel) rfl⟩
theorem fl_X12_164 : FL RX12 164 12 73 := ⟨_, TX12, 80, co_X12, by decide, tb_at 982 (by decide +kernel) rfl⟩
theorem fl_X12_167 : FL RX12 167 12 74 := ⟨_, TX12, 80, co_X12, by decide, tb_at 983 (by decide +kernel) rfl⟩
theorem fl_X12_170 : FL RX12 170 12 76 := ⟨_, TX12, 80, co_X12, by decide, tb_at 985 (by decide +kernel) rfl⟩
theorem fl_X12_173 : FL RX12 173 12 77 := ⟨_, TX12, 80, co_X12, by decide, tb_at 986 (by decide +kernel) rfl⟩
theorem fl_X12_176 : FL RX12 176 12 78 := ⟨_, TX12, 80, co_X12, by decide, tb_at 987 (by decide +kernel) rfl⟩
theorem fl_X12_179 : FL RX12 179 12 79 := ⟨_, TX12, 80, co_X12, by decide, tb_at 988 (by decide +kernel) rfl⟩
theorem fl_X12_186 : FL RX12 186 12 49 := ⟨_, TX12, 80, co_X12, by decide, tb_at 958 (by decide +kernel) rfl⟩
theorem fi_X12_186 : FI RX12 186 12 49 := ⟨_, TX12, 80, tyX12, co_X12, by decide, tb_at 958 (by decide +kernel) rfl, tyX12_ok, rfl, rfl⟩
theorem fl_X12_189 : FL RX12 189 12 2 := ⟨_, TX12, 80, co_X12, by decide, tb_at 911 (by decide +kernel) rfl⟩
theorem fi_X12_189 : FI RX12 189 12 2 := ⟨_, TX12, 80, tyX12, co_X12, by decide, tb_at 911 (by decide +kernel) rfl, tyX12_ok, rfl, rfl⟩
theorem fl_X12_196 : FL RX12 196 12 4 := ⟨_, TX12, 80, co_X12, by decide, tb_at 913 (by decide +kernel) rfl⟩
theorem fi_X12_196 : FI RX12 196 12 4 := ⟨_, TX12, 80, tyX12, co_X12, by decide, tb_at 913 (by decide +kernel) rfl, tyX12_ok, rfl, rfl⟩
theorem fl_X12_205 : FL RX12 205 12 10 := ⟨_, TX12, 80, co_X12, by decide, tb_at 919 (by decide +kernel) rfl⟩
theorem fi_X12_205 : FI RX12 205 12 10 := ⟨_, TX12, 80, tyX12, co_X12, by decide, tb_at 919 (by decide +kernel) rfl, tyX12_ok, rfl, rfl⟩
theorem fl_X12_227 : FL RX12 227 12 13 := ⟨_, TX12, 80, co_X12, by decide, tb_at 922 (by decide +kernel) rfl⟩
theorem fi_X12_227 : FI RX12 227 12 13 := ⟨_, TX12, 80, tyX12, co_X12, by decide, tb_at 922 (by decide +kernel) rfl, tyX12_ok, rfl, rfl⟩
theorem fl_X12_230 : FL RX12 230 12 11 := ⟨_, TX12, 80, co_X12, by decide, tb_at 920 (by decide +kernel) rfl⟩
theorem fi_X12_230 : FI RX12 230 12 11 := ⟨_, TX12, 80, tyX12, co_X12, by decide, tb_at 920 (by decide +kernel) rfl, tyX12_ok, rfl, rfl⟩
theorem fl_X12_233 : FL RX12 233 12 14 := ⟨_, TX12, 80, co_X12, by decide, tb_at 923 (by decide +kernel) rfl⟩
theorem fi_X12_233 : FI RX12 233 12 14 := ⟨_, TX12, 80, tyX12, co_X12, by decide, tb_at 923 (by decide +kernel) rfl, tyX12_ok, rfl, rfl⟩
theorem fl_X12_236 : FL RX12 236 12 15 := ⟨_, TX12, 80, co_X12, by decide, tb_at 924 (by decide +kernel) rfl⟩
theorem fi_X12_236 : FI RX12 236 12 15 := ⟨_, TX12, 80, tyX12, co_X12, by decide, tb_at 924 (by decide +kernel) rfl, tyX12_ok, rfl, rfl⟩
theorem fl_X12_239 : FL RX12 239 12 16 := ⟨_, TX12, 80, co_X12, by decide, tb_at 925 (by decide +kernel) rfl⟩
theorem fi_X12_239 : FI RX12 239 12 16 := ⟨_, TX12, 80, tyX12, co_X12, by decide, tb_at 925 (by decide +kernel) rfl, tyX12_ok, rfl, rfl⟩
theorem fl_X12_254 : FL RX12 254 12 12 := ⟨_, TX12, 80, co_X12, by decide, tb_at 921 (by decide +kernel) rfl⟩
theorem fi_X12_254 : FI RX12 254 12 12 := ⟨_, TX12, 80, tyX12, co_X12, by decide, tb_at 921 (by decide +kernel) rfl, tyX12_ok, rfl, rfl⟩
theorem fl_X12_257 : FL RX12 257 12 18 := ⟨_, TX12, 80, co_X12, by decide, tb_at 927 (by decide +kernel) rfl⟩
theorem fi_X12_257 : FI RX12 257 12 18 := ⟨_, TX12, 80, tyX12, co_X12, by decide, tb_at 927 (by decide +kernel) rfl, tyX12_ok, rfl, rfl⟩
theorem fl_X12_260 : FL RX12 260 12 19 := ⟨_, TX12, 80, co_X12, by decide, tb_at 928 (by decide +kernel) rfl⟩
theorem fi_X12_260 : FI RX12 260 12 19 := ⟨_, TX12, 80, tyX12, co_X12, by decide, tb_at 928 (by decide +kernel) rfl, tyX12_ok, rfl, rfl⟩
theorem fl_X12_263 : FL RX12 263 12 23 := ⟨_, TX12, 80, co_X12, by decide, tb_at 932 (by decide +kernel) rfl⟩
theorem fi_X12_263 : FI RX12 263 12 23 := ⟨_, TX12, 80, tyX12, co_X12, by decide, tb_at 932 (by decide +kernel) rfl, tyX12_ok, rfl, rfl⟩
theorem fl_X12_266 : FL RX12 266 12 24 := ⟨_, TX12, 80, co_X12, by decide, tb_at 933 (by decide +kernel) rfl⟩
theorem fi_X12_266 : FI RX12 266 12 24 := ⟨_, TX12, 80, tyX12, co_X12, by decide, tb_at 933 (by decide +kernel) rfl, tyX12_ok, rfl, rfl⟩
theorem fl_X12_269 : FL RX12 269 12 32 := ⟨_, TX12, 80, co_X12, by decide, tb_at 941 (by decide +kernel) rfl⟩
theorem fi_X12_269 : FI RX12 269 12 32 := ⟨_, TX12, 80, tyX12, co_X12, by decide, tb_at 941 (by decide +kernel) rfl, tyX12_ok, rfl, rfl⟩
theorem fl_X12_272 : FL RX12 272 12 38 := ⟨_, TX12, 80, co_X12, by decide, tb_at 947 (by decide +kernel) rfl⟩
theorem fi_X12_272 : FI RX12 272 12 38 := ⟨_, TX12, 80, tyX12, co_X12, by decide, tb_at 947 (by decide +kernel) rfl, tyX12_ok, rfl, rfl⟩
theorem fl_X12_297 : FL RX12 297 12 42 := ⟨_, TX12, 80, co_X12, by decide, tb_at 951 (by decide +kernel) rfl⟩
theorem fi_X12_297 : FI RX12 297 12 42 := ⟨_, TX12, 80, tyX12, co_X12, by decide, tb_at 951 (by decide +kernel) rfl, tyX12_ok, rfl, rfl⟩
theorem fl_X12_307 : FL RX12 307 12 43 := ⟨_, TX12, 80, co_X12, by decide, tb_at 952 (by decide +kernel) rfl⟩
theorem fi_X12_307 : FI RX12 307 12 43 := ⟨_, TX12, 80, tyX12, co_X12, by decide, tb_at 952 (by decide +kernel) rfl, tyX12_ok, rfl, rfl⟩
theorem fl_X12_310 : FL RX12 310 12 51 := ⟨_, TX12, 80, co_X12, by decide, tb_at 960 (by decide +kernel) rfl⟩
theorem fi_X12_310 : FI RX12 310 12 51 := ⟨_, TX12, 80, tyX12, co_X12, by decide, tb_at 960 (by decide +kernel) rfl, tyX12_ok, rfl, rfl⟩
theorem fl_X12_313 : FL RX12 313 12 48 := ⟨_, TX12, 80, co_X12, by decide, tb_at 957 (by decide +kernel) rfl⟩
theorem fi_X12_313 : FI RX12 313 12 48 := ⟨_, TX12, 80, tyX12, co_X12, by decide, tb_at 957 (by decide +kernel) rfl, tyX12_ok, rfl, rfl⟩
theorem fl_X12_316 : FL RX12 316 12 52 := ⟨_, TX12, 80, co_X12, by decide, tb_at 961 (by decide +kernel) rfl⟩
theorem fi_X12_316 : FI RX12 316 12 52 := ⟨_, TX12, 80, tyX12, co_X12, by decide, tb_at 961 (by decide +kernel) rfl, tyX12_ok, rfl, rfl⟩
theorem fl_X12_322 : FL RX12 322 12 56 := ⟨_, TX12, 80, co_X12, by decide, tb_at 965 (by decide +kernel) rfl⟩
theorem fi_X12_322 : FI RX12 322 12 56 := ⟨_, TX12, 80, tyX12, co_X12, by decide, tb_at 965 (by decide +kernel) rfl, tyX12_ok, rfl, rfl⟩
theorem fl_X12_325 : FL RX12 325 12 61 := ⟨_, TX12, 80, co_X12, by decide, tb_at 970 (by decide +kernel) rfl⟩
theorem fi_X12_325 : FI RX12 325 12 61 := ⟨_, TX12, 80, tyX12, co_X12, by decide, tb_at 970 (by decide +kernel) rfl, tyX12_ok, rfl, rfl⟩
theorem fl_X12_377 : FL RX12 377 12 75 := ⟨_, TX12, 80, co_X12, by decide, tb_at 984 (by decide +kernel) rfl⟩
theorem fi_X12_377 : FI RX12 377 12 75 := ⟨_, TX12, 80, tyX12, co_X12, by decide, tb_at 984 (by decide +kernel) rfl, tyX12_ok, rfl, rfl⟩
theorem mb_X11_at : MB yX11_at RX11 cX11_at 5 (some .int) 4 := ⟨tb_at 698 (by decide +kernel) rfl, tb_at 696 (by decide +kernel) rfl, tb_at 697 (by decide +kernel) rfl, tb_at 1 (by decide +kernel) rfl, by decide +kernel⟩
theorem mb_X11_back : MB yX11_back RX11 cX11_back 3 (some .int) 1 := ⟨tb_at 436 (by decide +kernel) rfl, tb_at 434 (by decide +kernel) rfl, tb_at 435 (by decide +kernel) rfl, tb_at 1 (by decide +kernel) rfl, by decide +kernel⟩
theorem mb_X11_broken : MB yX11_broken RX11 cX11_broken 4 (some .int) 3 := ⟨tb_at 792 (by decide +kernel) rfl, tb_at 790 (by decide +kernel) rfl, tb_at 791 (by decide +kernel) rfl, tb_at 1 (by decide +kernel) rfl, by decide +kernel⟩
theorem mb_X11_clock : MB yX11_clock RX11 cX11_clock 2 (some .boolean) 1 := ⟨tb_at 658 (by decide +kernel) rfl, tb_at 656 (by decide +kernel) rfl, tb_at 657 (by decide +kernel) rfl, tb_at 1 (by decide +kernel) rfl, by decide +kernel⟩
theorem mb_X11_count : MB yX11_count RX11 cX11_count 2 (some .int) 1 := ⟨tb_at 896 (by decide +kernel) rfl, tb_at 894 (by decide +kernel) rfl, tb_at 895 (by decide +kernel) rfl, tb_at 1 (by decide +kernel) rfl, by decide +kernel⟩
theorem mb_X11_culprit : MB yX11_culprit RX11 cX11_culprit 11 (some .int) 4 := ⟨tb_at 821 (by decide +kernel) rfl, tb_at 819 (by decide +kernel) rfl, tb_at 820 (by decide +kernel) rfl, tb_at 1 (by decide +kernel) rfl, by decide +kernel⟩
theorem mb_X11_factor : MB yX11_factor RX11 cX11_factor 3 (some .boolean) 2 := ⟨tb_at 650 (by decide +kernel) rfl, tb_at 648 (by decide +kernel) rfl, tb_at 649 (by decide +kernel) rfl, tb_at 1 (by decide +kernel) rfl, by decide +kernel⟩
theorem mb_X11_factors : MB yX11_factors RX11 cX11_factors 2 (some .boolean) 1 := ⟨tb_at 642 (by decide +kernel) rfl, tb_at 640 (by decide +kernel) rfl, tb_at 641 (by decide +kernel) rfl, tb_at 1 (by decide +kernel) rfl, by decide +kernel⟩
theorem mb_X11_feed : MB yX11_feed RX11 cX11_feed 7 (some .int) 5 := ⟨tb_at 428 (by decide +kernel) rfl, tb_at 426 (by decide +kernel) rfl, tb_at 427 (by decide +kernel) rfl, tb_at 1 (by decide +kernel) rfl, by decide +kernel⟩
theorem mb_X11_first : MB yX11_first RX11 cX11_first 5 (some .int) 3 := ⟨tb_at 809 (by decide +kernel) rfl, tb_at 807 (by decide +kernel) rfl, tb_at 808 (by decide +kernel) rfl, tb_at 1 (by decide +kernel) rfl, by decide +kernel⟩
theorem mb_X11_grind : MB yX11_grind RX11 cX11_grind 5 none 3 := ⟨tb_at 874 (by decide +kernel) rfl, tb_at 873 (by decide +kernel) rfl, tb_sel 22 (by decide +kernel) rfl, tb_at 1 (by decide +kernel) rfl, by decide +kernel⟩
theorem mb_X11_grist : MB yX11_grist RX11 cX11_grist 3 (some .int) 2 := ⟨tb_at 690 (by decide +kernel) rfl, tb_at 688 (by decide +kernel) rfl, tb_at 689 (by decide +kernel) rfl, tb_at 1 (by decide +kernel) rfl, by decide +kernel⟩
theorem mb_X11_isEnd : MB yX11_isEnd RX11 cX11_isEnd 2 (some .boolean) 1 := ⟨tb_at 787 (by decide +kernel) rfl, tb_at 786 (by decide +kernel) rfl, tb_sel 20 (by decide +kernel) rfl, tb_at 1 (by decide +kernel) rfl, by decide +kernel⟩
theorem mb_X11_isHour : MB yX11_isHour RX11 cX11_isHour 2 (some .boolean) 1 := ⟨tb_at 666 (by decide +kernel) rfl, tb_at 665 (by decide +kernel) rfl, tb_sel 12 (by decide +kernel) rfl, tb_at 1 (by decide +kernel) rfl, by decide +kernel⟩
theorem mb_X11_isKnown : MB yX11_isKnown RX11 cX11_isKnown 2 (some .boolean) 1 := ⟨tb_at 702 (by decide +kernel) rfl, tb_at 701 (by decide +kernel) rfl, tb_sel 14 (by decide +kernel) rfl, tb_at 1 (by decide +kernel) rfl, by decide +kernel⟩
theorem mb_X11_isMill : MB yX11_isMill RX11 cX11_isMill 2 (some .boolean) 1 := ⟨tb_at 670 (by decide +kernel) rfl, tb_at 669 (by decide +kernel) rfl, tb_sel 13 (by decide +kernel) rfl, tb_at 1 (by decide +kernel) rfl, by decide +kernel⟩
theorem mb_X11_loss : MB yX11_loss RX11 cX11_loss 6 (some .int) 5 := ⟨tb_at 813 (by decide +kernel) rfl, tb_at 811 (by decide +kernel) rfl, tb_at 812 (by decide +kernel) rfl, tb_at 1 (by decide +kernel) rfl, by decide +kernel⟩
theorem mb_X11_mill : MB yX11_mill RX11 cX11_mill 5 (some .int) 4 := ⟨tb_at 630 (by decide +kernel) rfl, tb_at 628 (by decide +kernel) rfl, tb_at 629 (by decide +kernel) rfl, tb_at 1 (by decide +kernel) rfl, by decide +kernel⟩
theorem mb_X11_order : MB yX11_order RX11 cX11_order 4 (some .int) 3 := ⟨tb_at 678 (by decide +kernel) rfl, tb_at 676 (by decide +kernel) rfl, tb_at 677 (by decide +kernel) rfl, tb_at 1 (by decide +kernel) rfl, by decide +kernel⟩
theorem mb_X11_place : MB yX11_place RX11 cX11_place 1 (some .int) 0 := ⟨tb_at 626 (by decide +kernel) rfl, tb_at 624 (by decide +kernel) rfl, tb_at 625 (by decide +kernel) rfl, tb_at 1 (by decide +kernel) rfl, by decide +kernel⟩
theorem mb_X11_plan : MB yX11_plan RX11 cX11_plan 4 (some .int) 3 := ⟨tb_at 838 (by decide +kernel) rfl, tb_at 836 (by decide +kernel) rfl, tb_at 837 (by decide +kernel) rfl, tb_at 1 (by decide +kernel) rfl, by decide +kernel⟩
theorem mb_X11_planned : MB yX11_planned RX11 cX11_planned 2 (some .int) 1 := ⟨tb_at 866 (by decide +kernel) rfl, tb_at 864 (by decide +kernel) rfl, tb_at 865 (by decide +kernel) rfl, tb_at 1 (by decide +kernel) rfl, by decide +kernel⟩
theorem mb_X11_rain : MB yX11_rain RX11 cX11_rain 4 (some .int) 3 := ⟨tb_at 662 (by decide +kernel) rfl, tb_at 660 (by decide +kernel) rfl, tb_at 661 (by decide +kernel) rfl, tb_at 1 (by decide +kernel) rfl, by decide +kernel⟩
theorem mb_X11_read : MB yX11_read RX11 cX11_read 3 (some .int) 0 := ⟨tb_at 440 (by decide +kernel) rfl, tb_at 438 (by decide +kernel) rfl, tb_at 439 (by decide +kernel) rfl, tb_at 1 (by decide +kernel) rfl, by decide +kernel⟩
theorem mb_X11_sea : MB yX11_sea RX11 cX11_sea 6 (some .int) 2 := ⟨tb_at 783 (by decide +kernel) rfl, tb_at 781 (by decide +kernel) rfl, tb_at 782 (by decide +kernel) rfl, tb_at 1 (by decide +kernel) rfl, by decide +kernel⟩
theorem mb_X11_spring : MB yX11_spring RX11 cX11_spring 2 (some .boolean) 1 := ⟨tb_at 638 (by decide +kernel) rfl, tb_at 636 (by decide +kernel) rfl, tb_at 637 (by decide +kernel) rfl, tb_at 1 (by decide +kernel) rfl, by decide +kernel⟩
theorem mb_X11_told : MB yX11_told RX11 cX11_told 4 (some .int) 3 := ⟨tb_at 870 (by decide +kernel) rfl, tb_at 868 (by decide +kernel) rfl, tb_at 869 (by decide +kernel) rfl, tb_at 1 (by decide +kernel) rfl, by decide +kernel⟩
theorem mb_X11_tolls : MB yX11_tolls RX11 cX11_tolls 4 (some .int) 3 := ⟨tb_at 888 (by decide +kernel) rfl, tb_at 886 (by decide +kernel) rfl, tb_at 887 (by decide +kernel) rfl, tb_at 1 (by decide +kernel) rfl, by decide +kernel⟩
theorem mb_X0_close : MB yX0_close RX0 cX0_close 2 (some .int) 1 := ⟨tb_at 618 (by decide +kernel) rfl, tb_at 616 (by decide +kernel) rfl, tb_at 617 (by decide +kernel) rfl, tb_at 7 (by decide +kernel) rfl, by decide +kernel⟩
theorem mb_X0_condition : MB yX0_condition RX0 cX0_condition 4 (some .boolean) 0 := ⟨tb_at 610 (by decide +kernel) rfl, tb_at 609 (by decide +kernel) rfl, tb_sel 10 (by decide +kernel) rfl, tb_at 7 (by decide +kernel) rfl, by decide +kernel⟩
theorem mb_X0_heading : MB yX0_heading RX0 cX0_heading 8 (some .boolean) 0 := ⟨tb_at 548 (by decide +kernel) rfl, tb_at 547 (by decide +kernel) rfl, tb_sel 1 (by decide +kernel) rfl, tb_at 7 (by decide +kernel) rfl, by decide +kernel⟩
theorem mb_X0_kind : MB yX0_kind RX0 cX0_kind 1 (some .int) 0 := ⟨tb_at 544 (by decide +kernel) rfl, tb_at 543 (by decide +kernel) rfl, tb_sel 0 (by decide +kernel) rfl, tb_at 7 (by decide +kernel) rfl, by decide +kernel⟩
theorem mb_X0_note : MB yX0_note RX0 cX0_note 3 none 2 := ⟨tb_at 570 (by decide +kernel) rfl, tb_at 569 (by decide +kernel) rfl, tb_sel 4 (by decide +kernel) rfl, tb_at 7 (by decide +kernel) rfl, by decide +kernel⟩
theorem mb_X0_open : MB yX0_open RX0 cX0_open 1 none 0 := ⟨tb_at 444 (by decide +kernel) rfl, tb_at 442 (by decide +kernel) rfl, tb_at 443 (by decide +kernel) rfl, tb_at 7 (by decide +kernel) rfl, by decide +kernel⟩
theorem mb_X0_product : MB yX0_product RX0 cX0_product 3 (some .boolean) 1 := ⟨tb_at 598 (by decide +kernel) rfl, tb_at 597 (by decide +kernel) rfl, tb_sel 8 (by decide +kernel) rfl, tb_at 7 (by decide +kernel) rfl, by decide +kernel⟩
theorem mb_X0_relation : MB yX0_relation RX0 cX0_relation 2 (some .boolean) 0 := ⟨tb_at 614 (by decide +kernel) rfl, tb_at 613 (by decide +kernel) rfl, tb_sel 11 (by decide +kernel) rfl, tb_at 7 (by decide +kernel) rfl, by decide +kernel⟩
theorem mb_X0_rule : MB yX0_rule RX0 cX0_rule 3 (some .boolean) 0 := ⟨tb_at 582 (by decide +kernel) rfl, tb_at 581 (by decide +kernel) rfl, tb_sel 5 (by decide +kernel) rfl, tb_at 7 (by decide +kernel) rfl, by decide +kernel⟩
theorem mb_X0_stop : MB yX0_stop RX0 cX0_stop 2 (some .boolean) 1 := ⟨tb_at 552 (by decide +kernel) rfl, tb_at 551 (by decide +kernel) rfl, tb_sel 2 (by decide +kernel) rfl, tb_at 7 (by decide +kernel) rfl, by decide +kernel⟩
theorem mb_X0_sum : MB yX0_sum RX0 cX0_sum 5 (some .boolean) 1 := ⟨tb_at 594 (by decide +kernel) rfl, tb_at 593 (by decide +kernel) rfl, tb_sel 7 (by decide +kernel) rfl, tb_at 7 (by decide +kernel) rfl, by decide +kernel⟩
theorem mb_X0_take : MB yX0_take RX0 cX0_take 2 (some .boolean) 1 := ⟨tb_at 556 (by decide +kernel) rfl, tb_at 555 (by decide +kernel) rfl, tb_sel 3 (by decide +kernel) rfl, tb_at 7 (by decide +kernel) rfl, by decide +kernel⟩
theorem mb_X0_text : MB yX0_text RX0 cX0_text 3 (some .boolean) 0 := ⟨tb_at 540 (by decide +kernel) rfl, tb_at 538 (by decide +kernel) rfl, tb_at 539 (by decide +kernel) rfl, tb_at 7 (by decide +kernel) rfl, by decide +kernel⟩
theorem mb_X0_unit : MB yX0_unit RX0 cX0_unit 3 (some .boolean) 1 := ⟨tb_at 602 (by decide +kernel) rfl, tb_at 601 (by decide +kernel) rfl, tb_sel 9 (by decide +kernel) rfl, tb_at 7 (by decide +kernel) rfl, by decide +kernel⟩
theorem mb_X0_who : MB yX0_who RX0 cX0_who 3 (some .boolean) 1 := ⟨tb_at 590 (by decide +kernel) rfl, tb_at 589 (by decide +kernel) rfl, tb_sel 6 (by decide +kernel) rfl, tb_at 7 (by decide +kernel) rfl, by decide +kernel⟩
theorem mb_X1_add : MB yX1_add RX1 cX1_add 4 (some .int) 3 := ⟨tb_at 694 (by decide +kernel) rfl, tb_at 692 (by decide +kernel) rfl, tb_at 693 (by decide +kernel) rfl, tb_at 11 (by decide +kernel) rfl, by decide +kernel⟩
theorem mb_X1_restart : MB yX1_restart RX1 cX1_restart 1 none 0 := ⟨tb_at 878 (by decide +kernel) rfl, tb_at 876 (by decide +kernel) rfl, tb_at 877 (by decide +kernel) rfl, tb_at 11 (by decide +kernel) rfl, by decide +kernel⟩
theorem mb_X1_take : MB yX1_take RX1 cX1_take 7 none 3 := ⟨tb_at 883 (by decide +kernel) rfl, tb_at 881 (by decide +kernel) rfl, tb_at 882 (by decide +kernel) rfl, tb_at 11 (by decide +kernel) rfl, by decide +kernel⟩
theorem mb_X1_tollsOf : MB yX1_tollsOf RX1 cX1_tollsOf 4 (some .int) 1 := ⟨tb_at 892 (by decide +kernel) rfl, tb_at 890 (by decide +kernel) rfl, tb_at 891 (by decide +kernel) rfl, tb_at 11 (by decide +kernel) rfl, by decide +kernel⟩
theorem mb_X2_draftAct : MB yX2_draftAct RX2 cX2_draftAct 5 none 3 := ⟨tb_at 578 (by decide +kernel) rfl, tb_at 576 (by decide +kernel) rfl, tb_at 577 (by decide +kernel) rfl, tb_at 9 (by decide +kernel) rfl, by decide +kernel⟩
theorem mb_X2_draftRule : MB yX2_draftRule RX2 cX2_draftRule 1 none 0 := ⟨tb_at 586 (by decide +kernel) rfl, tb_at 584 (by decide +kernel) rfl, tb_at 585 (by decide +kernel) rfl, tb_at 9 (by decide +kernel) rfl, by decide +kernel⟩
theorem mb_X2_emit : MB yX2_emit RX2 cX2_emit 2 none 1 := ⟨tb_at 606 (by decide +kernel) rfl, tb_at 604 (by decide +kernel) rfl, tb_at 605 (by decide +kernel) rfl, tb_at 9 (by decide +kernel) rfl, by decide +kernel⟩
theorem mb_X2_hasAct : MB yX2_hasAct RX2 cX2_hasAct 4 (some .boolean) 1 := ⟨tb_at 566 (by decide +kernel) rfl, tb_at 564 (by decide +kernel) rfl, tb_at 565 (by decide +kernel) rfl, tb_at 9 (by decide +kernel) rfl, by decide +kernel⟩
theorem mb_X2_isBroken : MB yX2_isBroken RX2 cX2_isBroken 3 (some .boolean) 2 := ⟨tb_at 805 (by decide +kernel) rfl, tb_at 803 (by decide +kernel) rfl, tb_at 804 (by decide +kernel) rfl, tb_at 9 (by decide +kernel) rfl, by decide +kernel⟩
theorem mb_X2_isFor : MB yX2_isFor RX2 cX2_isFor 4 (some .boolean) 2 := ⟨tb_at 749 (by decide +kernel) rfl, tb_at 748 (by decide +kernel) rfl, tb_sel 15 (by decide +kernel) rfl, tb_at 9 (by decide +kernel) rfl, by decide +kernel⟩
theorem mb_X2_isInForce : MB yX2_isInForce RX2 cX2_isInForce 2 (some .boolean) 1 := ⟨tb_at 753 (by decide +kernel) rfl, tb_at 752 (by decide +kernel) rfl, tb_sel 16 (by decide +kernel) rfl, tb_at 9 (by decide +kernel) rfl, by decide +kernel⟩
theorem ms_X2_joined : MS yX2_joined cX2_joined 3 (some .int) 3 := ⟨tb_at 764 (by decide +kernel) rfl, tb_at 763 (by decide +kernel) rfl, tb_at 9 (by decide +kernel) rfl, by decide +kernel⟩
theorem mb_X2_look : MB yX2_look RX2 cX2_look 4 none 3 := ⟨tb_at 745 (by decide +kernel) rfl, tb_at 743 (by decide +kernel) rfl, tb_at 744 (by decide +kernel) rfl, tb_at 9 (by decide +kernel) rfl, by decide +kernel⟩
theorem mb_X2_opened : MB yX2_opened RX2 cX2_opened 6 (some .int) 3 := ⟨tb_at 741 (by decide +kernel) rfl, tb_at 739 (by decide +kernel) rfl, tb_at 740 (by decide +kernel) rfl, tb_at 9 (by decide +kernel) rfl, by decide +kernel⟩
theorem mb_X2_seeOutcome : MB yX2_seeOutcome RX2 cX2_seeOutcome 3 none 2 := ⟨tb_at 801 (by decide +kernel) rfl, tb_at 799 (by decide +kernel) rfl, tb_at 800 (by decide +kernel) rfl, tb_at 9 (by decide +kernel) rfl, by decide +kernel⟩
theorem mb_X2_startDraft : MB yX2_startDraft RX2 cX2_startDraft 1 none 0 := ⟨tb_at 520 (by decide +kernel) rfl, tb_at 518 (by decide +kernel) rfl, tb_at 519 (by decide +kernel) rfl, tb_at 9 (by decide +kernel) rfl, by decide +kernel⟩
theorem mb_X2_takeDraft : MB yX2_takeDraft RX2 cX2_takeDraft 1 none 0 := ⟨tb_at 622 (by decide +kernel) rfl, tb_at 620 (by decide +kernel) rfl, tb_at 621 (by decide +kernel) rfl, tb_at 9 (by decide +kernel) rfl, by decide +kernel⟩
theorem mb_X2_valueOf : MB yX2_valueOf RX2 cX2_valueOf 6 (some .int) 2 := ⟨tb_at 757 (by decide +kernel) rfl, tb_at 756 (by decide +kernel) rfl, tb_sel 17 (by decide +kernel) rfl, tb_at 9 (by decide +kernel) rfl, by decide +kernel⟩
theorem mb_X2_valueOfVar : MB yX2_valueOfVar RX2 cX2_valueOfVar 2 (some .int) 1 := ⟨tb_at 761 (by decide +kernel) rfl, tb_at 760 (by decide +kernel) rfl, tb_sel 18 (by decide +kernel) rfl, tb_at 9 (by decide +kernel) rfl, by decide +kernel⟩
theorem mb_X3_add : MB yX3_add RX3 cX3_add 7 (some .int) 4 := ⟨tb_at 634 (by decide +kernel) rfl, tb_at 632 (by decide +kernel) rfl, tb_at 633 (by decide +kernel) rfl, tb_at 3 (by decide +kernel) rfl, by decide +kernel⟩
theorem mb_X3_factorOf : MB yX3_factorOf RX3 cX3_factorOf 2 (some .int) 1 := ⟨tb_at 778 (by decide +kernel) rfl, tb_at 776 (by decide +kernel) rfl, tb_at 777 (by decide +kernel) rfl, tb_at 3 (by decide +kernel) rfl, by decide +kernel⟩
theorem mb_X3_makeFactors : MB yX3_makeFactors RX3 cX3_makeFactors 2 (some .boolean) 1 := ⟨tb_at 646 (by decide +kernel) rfl, tb_at 644 (by decide +kernel) rfl, tb_at 645 (by decide +kernel) rfl, tb_at 3 (by decide +kernel) rfl, by decide +kernel⟩
theorem mb_X3_mostSetting : MB yX3_mostSetting RX3 cX3_mostSetting 3 (some .int) 2 := ⟨tb_at 682 (by decide +kernel) rfl, tb_at 680 (by decide +kernel) rfl, tb_at 681 (by decide +kernel) rfl, tb_at 3 (by decide +kernel) rfl, by decide +kernel⟩
theorem mb_X3_mostWork : MB yX3_mostWork RX3 cX3_mostWork 4 (some .int) 1 := ⟨tb_at 846 (by decide +kernel) rfl, tb_at 844 (by decide +kernel) rfl, tb_at 845 (by decide +kernel) rfl, tb_at 3 (by decide +kernel) rfl, by decide +kernel⟩
theorem mb_X3_setFactor : MB yX3_setFactor RX3 cX3_setFactor 3 (some .boolean) 2 := ⟨tb_at 654 (by decide +kernel) rfl, tb_at 652 (by decide +kernel) rfl, tb_at 653 (by decide +kernel) rfl, tb_at 3 (by decide +kernel) rfl, by decide +kernel⟩
theorem mb_X4_add : MB yX4_add RX4 cX4_add 5 (some .int) 4 := ⟨tb_at 686 (by decide +kernel) rfl, tb_at 684 (by decide +kernel) rfl, tb_at 685 (by decide +kernel) rfl, tb_at 6 (by decide +kernel) rfl, by decide +kernel⟩
theorem mb_X4_isOfSame : MB yX4_isOfSame RX4 cX4_isOfSame 3 (some .boolean) 2 := ⟨tb_at 829 (by decide +kernel) rfl, tb_at 828 (by decide +kernel) rfl, tb_sel 21 (by decide +kernel) rfl, tb_at 6 (by decide +kernel) rfl, by decide +kernel⟩
theorem mb_X4_matters : MB yX4_matters RX4 cX4_matters 5 (some .boolean) 1 := ⟨tb_at 825 (by decide +kernel) rfl, tb_at 823 (by decide +kernel) rfl, tb_at 824 (by decide +kernel) rfl, tb_at 6 (by decide +kernel) rfl, by decide +kernel⟩
theorem mb_X5_ask : MB yX5_ask RX5 cX5_ask 5 none 4 := ⟨tb_at 842 (by decide +kernel) rfl, tb_at 840 (by decide +kernel) rfl, tb_at 841 (by decide +kernel) rfl, tb_at 12 (by decide +kernel) rfl, by decide +kernel⟩
theorem mb_X5_keep : MB yX5_keep RX5 cX5_keep 1 (some .int) 0 := ⟨tb_at 862 (by decide +kernel) rfl, tb_at 860 (by decide +kernel) rfl, tb_at 861 (by decide +kernel) rfl, tb_at 12 (by decide +kernel) rfl, by decide +kernel⟩
theorem mb_X5_search : MB yX5_search RX5 cX5_search 11 none 5 := ⟨tb_at 852 (by decide +kernel) rfl, tb_at 850 (by decide +kernel) rfl, tb_at 851 (by decide +kernel) rfl, tb_at 12 (by decide +kernel) rfl, by decide +kernel⟩
theorem mb_X6_add : MB yX6_add RX6 cX6_add 4 (some .int) 3 := ⟨tb_at 674 (by decide +kernel) rfl, tb_at 672 (by decide +kernel) rfl, tb_at 673 (by decide +kernel) rfl, tb_at 5 (by decide +kernel) rfl, by decide +kernel⟩
theorem mb_X6_fallen : MB yX6_fallen RX6 cX6_fallen 4 (some .int) 2 := ⟨tb_at 733 (by decide +kernel) rfl, tb_at 731 (by decide +kernel) rfl, tb_at 732 (by decide +kernel) rfl, tb_at 5 (by decide +kernel) rfl, by decide +kernel⟩
theorem mb_X6_know : MB yX6_know RX6 cX6_know 2 none 1 := ⟨tb_at 711 (by decide +kernel) rfl, tb_at 709 (by decide +kernel) rfl, tb_at 710 (by decide +kernel) rfl, tb_at 5 (by decide +kernel) rfl, by decide +kernel⟩
theorem mb_X7_clear : MB yX7_clear RX7 cX7_clear 2 none 0 := ⟨tb_at 716 (by decide +kernel) rfl, tb_at 714 (by decide +kernel) rfl, tb_at 715 (by decide +kernel) rfl, tb_at 13 (by decide +kernel) rfl, by decide +kernel⟩
theorem mb_X7_copy : MB yX7_copy RX7 cX7_copy 3 none 1 := ⟨tb_at 833 (by decide +kernel) rfl, tb_at 831 (by decide +kernel) rfl, tb_at 832 (by decide +kernel) rfl, tb_at 13 (by decide +kernel) rfl, by decide +kernel⟩
theorem mb_X8_append : MB yX8_append RX8 cX8_append 3 none 1 := ⟨tb_at 432 (by decide +kernel) rfl, tb_at 430 (by decide +kernel) rfl, tb_at 431 (by decide +kernel) rfl, tb_at 8 (by decide +kernel) rfl, by decide +kernel⟩
theorem mb_X8_peek : MB yX8_peek RX8 cX8_peek 2 (some .int) 1 := ⟨tb_at 452 (by decide +kernel) rfl, tb_at 450 (by decide +kernel) rfl, tb_at 451 (by decide +kernel) rfl, tb_at 8 (by decide +kernel) rfl, by decide +kernel⟩
theorem ms_X9_endOf : MS yX9_endOf cX9_endOf 6 (some .int) 2 := ⟨tb_at 458 (by decide +kernel) rfl, tb_at 457 (by decide +kernel) rfl, tb_at 10 (by decide +kernel) rfl, by decide +kernel⟩
theorem ms_X9_kindOf : MS yX9_kindOf cX9_kindOf 4 (some .int) 3 := ⟨tb_at 461 (by decide +kernel) rfl, tb_at 460 (by decide +kernel) rfl, tb_at 10 (by decide +kernel) rfl, by decide +kernel⟩
theorem mb_X9_name : MB yX9_name RX9 cX9_name 7 (some .long) 2 := ⟨tb_at 560 (by decide +kernel) rfl, tb_at 558 (by decide +kernel) rfl, tb_at 559 (by decide +kernel) rfl, tb_at 10 (by decide +kernel) rfl, by decide +kernel⟩
theorem mb_X9_number : MB yX9_number RX9 cX9_number 6 (some .int) 2 := ⟨tb_at 574 (by decide +kernel) rfl, tb_at 572 (by decide +kernel) rfl, tb_at 573 (by decide +kernel) rfl, tb_at 10 (by decide +kernel) rfl, by decide +kernel⟩
theorem mb_X9_scan : MB yX9_scan RX9 cX9_scan 5 none 1 := ⟨tb_at 448 (by decide +kernel) rfl, tb_at 446 (by decide +kernel) rfl, tb_at 447 (by decide +kernel) rfl, tb_at 10 (by decide +kernel) rfl, by decide +kernel⟩
theorem ms_X9_signKind : MS yX9_signKind cX9_signKind 2 (some .int) 2 := ⟨tb_at 516 (by decide +kernel) rfl, tb_at 515 (by decide +kernel) rfl, tb_at 10 (by decide +kernel) rfl, by decide +kernel⟩
theorem ms_X9_sortOf : MS yX9_sortOf cX9_sortOf 1 (some .int) 1 := ⟨tb_at 455 (by decide +kernel) rfl, tb_at 454 (by decide +kernel) rfl, tb_at 10 (by decide +kernel) rfl, by decide +kernel⟩
theorem ms_X9_wordKind : MS yX9_wordKind cX9_wordKind 7 (some .int) 3 := ⟨tb_at 464 (by decide +kernel) rfl, tb_at 463 (by decide +kernel) rfl, tb_at 10 (by decide +kernel) rfl, by decide +kernel⟩
theorem mb_X10_begin : MB yX10_begin RX10 cX10_begin 4 none 3 := ⟨tb_at 707 (by decide +kernel) rfl, tb_at 705 (by decide +kernel) rfl, tb_at 706 (by decide +kernel) rfl, tb_at 2 (by decide +kernel) rfl, by decide +kernel⟩
theorem mb_X10_breach : MB yX10_breach RX10 cX10_breach 7 (some .int) 2 := ⟨tb_at 796 (by decide +kernel) rfl, tb_at 794 (by decide +kernel) rfl, tb_at 795 (by decide +kernel) rfl, tb_at 2 (by decide +kernel) rfl, by decide +kernel⟩
theorem mb_X10_drowned : MB yX10_drowned RX10 cX10_drowned 4 (some .int) 2 := ⟨tb_at 772 (by decide +kernel) rfl, tb_at 771 (by decide +kernel) rfl, tb_sel 19 (by decide +kernel) rfl, tb_at 2 (by decide +kernel) rfl, by decide +kernel⟩
theorem mb_X10_enter : MB yX10_enter RX10 cX10_enter 3 none 1 := ⟨tb_at 729 (by decide +kernel) rfl, tb_at 727 (by decide +kernel) rfl, tb_at 728 (by decide +kernel) rfl, tb_at 2 (by decide +kernel) rfl, by decide +kernel⟩
theorem mb_X10_run : MB yX10_run RX10 cX10_run 4 none 2 := ⟨tb_at 721 (by decide +kernel) rfl, tb_at 719 (by decide +kernel) rfl, tb_at 720 (by decide +kernel) rfl, tb_at 2 (by decide +kernel) rfl, by decide +kernel⟩
theorem mb_X10_settle : MB yX10_settle RX10 cX10_settle 10 none 1 := ⟨tb_at 737 (by decide +kernel) rfl, tb_at 735 (by decide +kernel) rfl, tb_at 736 (by decide +kernel) rfl, tb_at 2 (by decide +kernel) rfl, by decide +kernel⟩
theorem mb_X10_step : MB yX10_step RX10 cX10_step 2 none 1 := ⟨tb_at 725 (by decide +kernel) rfl, tb_at 723 (by decide +kernel) rfl, tb_at 724 (by decide +kernel) rfl, tb_at 2 (by decide +kernel) rfl, by decide +kernel⟩
theorem mb_X10_worked : MB yX10_worked RX10 cX10_worked 7 (some .int) 4 := ⟨tb_at 817 (by decide +kernel) rfl, tb_at 815 (by decide +kernel) rfl, tb_at 816 (by decide +kernel) rfl, tb_at 2 (by decide +kernel) rfl, by decide +kernel⟩
theorem mb_X12_at : MB yX12_at RX12 cX12_at 2 (some .int) 1 := ⟨tb_at 1173 (by decide +kernel) rfl, tb_at 1172 (by decide +kernel) rfl, tb_sel 25 (by decide +kernel) rfl, tb_at 14 (by decide +kernel) rfl, by decide +kernel⟩
theorem mb_X12_at_ : MB yX12_at_ RX12 cX12_at_ 5 (some .int) 4 := ⟨tb_at 1279 (by decide +kernel) rfl, tb_at 1277 (by decide +kernel) rfl, tb_at 1278 (by decide +kernel) rfl, tb_at 14 (by decide +kernel) rfl, by decide +kernel⟩
theorem mb_X12_back : MB yX12_back RX12 cX12_back 2 (some .int) 1 := ⟨tb_at 1161 (by decide +kernel) rfl, tb_at 1159 (by decide +kernel) rfl, tb_at 1160 (by decide +kernel) rfl, tb_at 14 (by decide +kernel) rfl, by decide +kernel⟩
theorem mb_X12_breaks : MB yX12_breaks RX12 cX12_breaks 4 (some .boolean) 3 := ⟨tb_at 1335 (by decide +kernel) rfl, tb_at 1334 (by decide +kernel) rfl, tb_sel 51 (by decide +kernel) rfl, tb_at 14 (by decide +kernel) rfl, by decide +kernel⟩
theorem mb_X12_broken : MB yX12_broken RX12 cX12_broken 7 (some .int) 3 := ⟨tb_at 1331 (by decide +kernel) rfl, tb_at 1329 (by decide +kernel) rfl, tb_at 1330 (by decide +kernel) rfl, tb_at 14 (by decide +kernel) rfl, by decide +kernel⟩
theorem mb_X12_changes : MB yX12_changes RX12 cX12_changes 1 none 0 := ⟨tb_at 1235 (by decide +kernel) rfl, tb_at 1234 (by decide +kernel) rfl, tb_sel 39 (by decide +kernel) rfl, tb_at 14 (by decide +kernel) rfl, by decide +kernel⟩
theorem mb_X12_clock : MB yX12_clock RX12 cX12_clock 2 (some .boolean) 1 := ⟨tb_at 1259 (by decide +kernel) rfl, tb_at 1257 (by decide +kernel) rfl, tb_at 1258 (by decide +kernel) rfl, tb_at 14 (by decide +kernel) rfl, by decide +kernel⟩
theorem mb_X12_comesOut : MB yX12_comesOut RX12 cX12_comesOut 3 none 1 := ⟨tb_at 1227 (by decide +kernel) rfl, tb_at 1226 (by decide +kernel) rfl, tb_sel 37 (by decide +kernel) rfl, tb_at 14 (by decide +kernel) rfl, by decide +kernel⟩
theorem mb_X12_condition : MB yX12_condition RX12 cX12_condition 6 none 0 := ⟨tb_at 1231 (by decide +kernel) rfl, tb_at 1230 (by decide +kernel) rfl, tb_sel 38 (by decide +kernel) rfl, tb_at 14 (by decide +kernel) rfl, by decide +kernel⟩
theorem mb_X12_count : MB yX12_count RX12 cX12_count 2 (some .int) 1 := ⟨tb_at 1379 (by decide +kernel) rfl, tb_at 1377 (by decide +kernel) rfl, tb_at 1378 (by decide +kernel) rfl, tb_at 14 (by decide +kernel) rfl, by decide +kernel⟩
theorem mb_X12_counts : MB yX12_counts RX12 cX12_counts 6 (some .boolean) 4 := ⟨tb_at 1304 (by decide +kernel) rfl, tb_at 1303 (by decide +kernel) rfl, tb_sel 46 (by decide +kernel) rfl, tb_at 14 (by decide +kernel) rfl, by decide +kernel⟩
theorem mb_X12_culprit : MB yX12_culprit RX12 cX12_culprit 10 (some .int) 4 := ⟨tb_at 1351 (by decide +kernel) rfl, tb_at 1349 (by decide +kernel) rfl, tb_at 1350 (by decide +kernel) rfl, tb_at 14 (by decide +kernel) rfl, by decide +kernel⟩
theorem mb_X12_cut : MB yX12_cut RX12 cX12_cut 8 none 0 := ⟨tb_at 1169 (by decide +kernel) rfl, tb_at 1168 (by decide +kernel) rfl, tb_sel 24 (by decide +kernel) rfl, tb_at 14 (by decide +kernel) rfl, by decide +kernel⟩
theorem mb_X12_emit : MB yX12_emit RX12 cX12_emit 3 none 2 := ⟨tb_at 1223 (by decide +kernel) rfl, tb_at 1222 (by decide +kernel) rfl, tb_sel 36 (by decide +kernel) rfl, tb_at 14 (by decide +kernel) rfl, by decide +kernel⟩
theorem mb_X12_expression : MB yX12_expression RX12 cX12_expression 6 none 0 := ⟨tb_at 1219 (by decide +kernel) rfl, tb_at 1218 (by decide +kernel) rfl, tb_sel 35 (by decide +kernel) rfl, tb_at 14 (by decide +kernel) rfl, by decide +kernel⟩
theorem mb_X12_factor : MB yX12_factor RX12 cX12_factor 3 (some .boolean) 2 := ⟨tb_at 1255 (by decide +kernel) rfl, tb_at 1253 (by decide +kernel) rfl, tb_at 1254 (by decide +kernel) rfl, tb_at 14 (by decide +kernel) rfl, by decide +kernel⟩
theorem mb_X12_factorOf : MB yX12_factorOf RX12 cX12_factorOf 2 (some .int) 1 := ⟨tb_at 1320 (by decide +kernel) rfl, tb_at 1319 (by decide +kernel) rfl, tb_sel 50 (by decide +kernel) rfl, tb_at 14 (by decide +kernel) rfl, by decide +kernel⟩
theorem mb_X12_factors : MB yX12_factors RX12 cX12_factors 3 (some .boolean) 1 := ⟨tb_at 1251 (by decide +kernel) rfl, tb_at 1249 (by decide +kernel) rfl, tb_at 1250 (by decide +kernel) rfl, tb_at 14 (by decide +kernel) rfl, by decide +kernel⟩
theorem mb_X12_fail : MB yX12_fail RX12 cX12_fail 2 none 1 := ⟨tb_at 1199 (by decide +kernel) rfl, tb_at 1198 (by decide +kernel) rfl, tb_sel 30 (by decide +kernel) rfl, tb_at 14 (by decide +kernel) rfl, by decide +kernel⟩
theorem mb_X12_feed : MB yX12_feed RX12 cX12_feed 6 (some .int) 5 := ⟨tb_at 1153 (by decide +kernel) rfl, tb_at 1151 (by decide +kernel) rfl, tb_at 1152 (by decide +kernel) rfl, tb_at 14 (by decide +kernel) rfl, by decide +kernel⟩
theorem mb_X12_first : MB yX12_first RX12 cX12_first 7 (some .int) 3 := ⟨tb_at 1339 (by decide +kernel) rfl, tb_at 1337 (by decide +kernel) rfl, tb_at 1338 (by decide +kernel) rfl, tb_at 14 (by decide +kernel) rfl, by decide +kernel⟩
theorem mb_X12_grinds : MB yX12_grinds RX12 cX12_grinds 8 none 2 := ⟨tb_at 1371 (by decide +kernel) rfl, tb_at 1370 (by decide +kernel) rfl, tb_sel 54 (by decide +kernel) rfl, tb_at 14 (by decide +kernel) rfl, by decide +kernel⟩
theorem mb_X12_grist : MB yX12_grist RX12 cX12_grist 3 (some .int) 2 := ⟨tb_at 1275 (by decide +kernel) rfl, tb_at 1273 (by decide +kernel) rfl, tb_at 1274 (by decide +kernel) rfl, tb_at 14 (by decide +kernel) rfl, by decide +kernel⟩
theorem mb_X12_holds : MB yX12_holds RX12 cX12_holds 10 (some .boolean) 5 := ⟨tb_at 1308 (by decide +kernel) rfl, tb_at 1307 (by decide +kernel) rfl, tb_sel 47 (by decide +kernel) rfl, tb_at 14 (by decide +kernel) rfl, by decide +kernel⟩
theorem mb_X12_is : MB yX12_is RX12 cX12_is 2 (some .boolean) 1 := ⟨tb_at 1191 (by decide +kernel) rfl, tb_at 1190 (by decide +kernel) rfl, tb_sel 28 (by decide +kernel) rfl, tb_at 14 (by decide +kernel) rfl, by decide +kernel⟩
theorem ms_X12_isDigit : MS yX12_isDigit cX12_isDigit 1 (some .boolean) 1 := ⟨tb_at 1183 (by decide +kernel) rfl, tb_at 1182 (by decide +kernel) rfl, tb_at 14 (by decide +kernel) rfl, by decide +kernel⟩
theorem ms_X12_isEnd : MS yX12_isEnd cX12_isEnd 1 (some .boolean) 1 := ⟨tb_at 1327 (by decide +kernel) rfl, tb_at 1326 (by decide +kernel) rfl, tb_at 14 (by decide +kernel) rfl, by decide +kernel⟩
theorem mb_X12_isGood : MB yX12_isGood RX12 cX12_isGood 4 (some .boolean) 1 := ⟨tb_at 1359 (by decide +kernel) rfl, tb_at 1358 (by decide +kernel) rfl, tb_sel 53 (by decide +kernel) rfl, tb_at 14 (by decide +kernel) rfl, by decide +kernel⟩
theorem mb_X12_isKnown : MB yX12_isKnown RX12 cX12_isKnown 2 (some .boolean) 1 := ⟨tb_at 1283 (by decide +kernel) rfl, tb_at 1282 (by decide +kernel) rfl, tb_sel 41 (by decide +kernel) rfl, tb_at 14 (by decide +kernel) rfl, by decide +kernel⟩
theorem ms_X12_isLetter : MS yX12_isLetter cX12_isLetter 1 (some .boolean) 1 := ⟨tb_at 1180 (by decide +kernel) rfl, tb_at 1179 (by decide +kernel) rfl, tb_at 14 (by decide +kernel) rfl, by decide +kernel⟩
theorem mb_X12_isMill : MB yX12_isMill RX12 cX12_isMill 2 (some .boolean) 1 := ⟨tb_at 1267 (by decide +kernel) rfl, tb_at 1266 (by decide +kernel) rfl, tb_sel 40 (by decide +kernel) rfl, tb_at 14 (by decide +kernel) rfl, by decide +kernel⟩
theorem mb_X12_knows : MB yX12_knows RX12 cX12_knows 3 none 1 := ⟨tb_at 1292 (by decide +kernel) rfl, tb_at 1291 (by decide +kernel) rfl, tb_sel 43 (by decide +kernel) rfl, tb_at 14 (by decide +kernel) rfl, by decide +kernel⟩
theorem mb_X12_loss : MB yX12_loss RX12 cX12_loss 6 (some .int) 5 := ⟨tb_at 1343 (by decide +kernel) rfl, tb_at 1341 (by decide +kernel) rfl, tb_at 1342 (by decide +kernel) rfl, tb_at 14 (by decide +kernel) rfl, by decide +kernel⟩
theorem mb_X12_mill : MB yX12_mill RX12 cX12_mill 5 (some .int) 4 := ⟨tb_at 1243 (by decide +kernel) rfl, tb_at 1241 (by decide +kernel) rfl, tb_at 1242 (by decide +kernel) rfl, tb_at 14 (by decide +kernel) rfl, by decide +kernel⟩
theorem ms_X12_more : MS yX12_more cX12_more 3 (some .long) 2 := ⟨tb_at 908 (by decide +kernel) rfl, tb_at 907 (by decide +kernel) rfl, tb_at 14 (by decide +kernel) rfl, by decide +kernel⟩
theorem mb_X12_must : MB yX12_must RX12 cX12_must 2 none 1 := ⟨tb_at 1203 (by decide +kernel) rfl, tb_at 1202 (by decide +kernel) rfl, tb_sel 31 (by decide +kernel) rfl, tb_at 14 (by decide +kernel) rfl, by decide +kernel⟩
theorem mb_X12_next : MB yX12_next RX12 cX12_next 1 none 0 := ⟨tb_at 1207 (by decide +kernel) rfl, tb_at 1206 (by decide +kernel) rfl, tb_sel 32 (by decide +kernel) rfl, tb_at 14 (by decide +kernel) rfl, by decide +kernel⟩
theorem mb_X12_order : MB yX12_order RX12 cX12_order 4 (some .int) 3 := ⟨tb_at 1271 (by decide +kernel) rfl, tb_at 1269 (by decide +kernel) rfl, tb_at 1270 (by decide +kernel) rfl, tb_at 14 (by decide +kernel) rfl, by decide +kernel⟩
theorem mb_X12_place : MB yX12_place RX12 cX12_place 1 (some .int) 0 := ⟨tb_at 1239 (by decide +kernel) rfl, tb_at 1237 (by decide +kernel) rfl, tb_at 1238 (by decide +kernel) rfl, tb_at 14 (by decide +kernel) rfl, by decide +kernel⟩
theorem mb_X12_plan : MB yX12_plan RX12 cX12_plan 9 (some .int) 3 := ⟨tb_at 1355 (by decide +kernel) rfl, tb_at 1353 (by decide +kernel) rfl, tb_at 1354 (by decide +kernel) rfl, tb_at 14 (by decide +kernel) rfl, by decide +kernel⟩
theorem mb_X12_planned : MB yX12_planned RX12 cX12_planned 2 (some .int) 1 := ⟨tb_at 1363 (by decide +kernel) rfl, tb_at 1361 (by decide +kernel) rfl, tb_at 1362 (by decide +kernel) rfl, tb_at 14 (by decide +kernel) rfl, by decide +kernel⟩
theorem mb_X12_put : MB yX12_put RX12 cX12_put 3 none 1 := ⟨tb_at 1157 (by decide +kernel) rfl, tb_at 1156 (by decide +kernel) rfl, tb_sel 23 (by decide +kernel) rfl, tb_at 14 (by decide +kernel) rfl, by decide +kernel⟩
theorem mb_X12_rain : MB yX12_rain RX12 cX12_rain 4 (some .int) 3 := ⟨tb_at 1263 (by decide +kernel) rfl, tb_at 1261 (by decide +kernel) rfl, tb_at 1262 (by decide +kernel) rfl, tb_at 14 (by decide +kernel) rfl, by decide +kernel⟩
theorem mb_X12_read : MB yX12_read RX12 cX12_read 3 (some .int) 0 := ⟨tb_at 1165 (by decide +kernel) rfl, tb_at 1163 (by decide +kernel) rfl, tb_at 1164 (by decide +kernel) rfl, tb_at 14 (by decide +kernel) rfl, by decide +kernel⟩
theorem mb_X12_sea : MB yX12_sea RX12 cX12_sea 5 (some .int) 2 := ⟨tb_at 1324 (by decide +kernel) rfl, tb_at 1322 (by decide +kernel) rfl, tb_at 1323 (by decide +kernel) rfl, tb_at 14 (by decide +kernel) rfl, by decide +kernel⟩
theorem mb_X12_sets : MB yX12_sets RX12 cX12_sets 5 none 1 := ⟨tb_at 1296 (by decide +kernel) rfl, tb_at 1295 (by decide +kernel) rfl, tb_sel 44 (by decide +kernel) rfl, tb_at 14 (by decide +kernel) rfl, by decide +kernel⟩
theorem mb_X12_sign : MB yX12_sign RX12 cX12_sign 6 (some .int) 3 := ⟨tb_at 1187 (by decide +kernel) rfl, tb_at 1186 (by decide +kernel) rfl, tb_sel 27 (by decide +kernel) rfl, tb_at 14 (by decide +kernel) rfl, by decide +kernel⟩
theorem mb_X12_spring : MB yX12_spring RX12 cX12_spring 2 (some .boolean) 1 := ⟨tb_at 1247 (by decide +kernel) rfl, tb_at 1245 (by decide +kernel) rfl, tb_at 1246 (by decide +kernel) rfl, tb_at 14 (by decide +kernel) rfl, by decide +kernel⟩
theorem mb_X12_steps : MB yX12_steps RX12 cX12_steps 14 none 3 := ⟨tb_at 1300 (by decide +kernel) rfl, tb_at 1299 (by decide +kernel) rfl, tb_sel 45 (by decide +kernel) rfl, tb_at 14 (by decide +kernel) rfl, by decide +kernel⟩
theorem mb_X12_tellAct : MB yX12_tellAct RX12 cX12_tellAct 5 none 0 := ⟨tb_at 1195 (by decide +kernel) rfl, tb_at 1194 (by decide +kernel) rfl, tb_sel 29 (by decide +kernel) rfl, tb_at 14 (by decide +kernel) rfl, by decide +kernel⟩
theorem mb_X12_tellRule : MB yX12_tellRule RX12 cX12_tellRule 5 none 1 := ⟨tb_at 1215 (by decide +kernel) rfl, tb_at 1214 (by decide +kernel) rfl, tb_sel 34 (by decide +kernel) rfl, tb_at 14 (by decide +kernel) rfl, by decide +kernel⟩
theorem mb_X12_token : MB yX12_token RX12 cX12_token 6 none 4 := ⟨tb_at 1177 (by decide +kernel) rfl, tb_at 1176 (by decide +kernel) rfl, tb_sel 26 (by decide +kernel) rfl, tb_at 14 (by decide +kernel) rfl, by decide +kernel⟩
theorem mb_X12_told : MB yX12_told RX12 cX12_told 4 (some .int) 3 := ⟨tb_at 1367 (by decide +kernel) rfl, tb_at 1365 (by decide +kernel) rfl, tb_at 1366 (by decide +kernel) rfl, tb_at 14 (by decide +kernel) rfl, by decide +kernel⟩
theorem mb_X12_tolls : MB yX12_tolls RX12 cX12_tolls 6 (some .int) 3 := ⟨tb_at 1375 (by decide +kernel) rfl, tb_at 1373 (by decide +kernel) rfl, tb_at 1374 (by decide +kernel) rfl, tb_at 14 (by decide +kernel) rfl, by decide +kernel⟩
theorem mb_X12_value : MB yX12_value RX12 cX12_value 10 (some .int) 5 := ⟨tb_at 1312 (by decide +kernel) rfl, tb_at 1311 (by decide +kernel) rfl, tb_sel 48 (by decide +kernel) rfl, tb_at 14 (by decide +kernel) rfl, by decide +kernel⟩
theorem mb_X12_variable : MB yX12_variable RX12 cX12_variable 6 (some .int) 4 := ⟨tb_at 1316 (by decide +kernel) rfl, tb_at 1315 (by decide +kernel) rfl, tb_sel 49 (by decide +kernel) rfl, tb_at 14 (by decide +kernel) rfl, by decide +kernel⟩
theorem ms_X12_word : MS yX12_word cX12_word 5 (some .long) 5 := ⟨tb_at 905 (by decide +kernel) rfl, tb_at 904 (by decide +kernel) rfl, tb_at 14 (by decide +kernel) rfl, by decide +kernel⟩
theorem mb_X12_workOf : MB yX12_workOf RX12 cX12_workOf 8 (some .int) 5 := ⟨tb_at 1347 (by decide +kernel) rfl, tb_at 1346 (by decide +kernel) rfl, tb_sel 52 (by decide +kernel) rfl, tb_at 14 (by decide +kernel) rfl, by decide +kernel⟩
theorem mb_X12_works : MB yX12_works RX12 cX12_works 4 none 2 := ⟨tb_at 1288 (by decide +kernel) rfl, tb_at 1287 (by decide +kernel) rfl, tb_sel 42 (by decide +kernel) rfl, tb_at 14 (by decide +kernel) rfl, by decide +kernel⟩
theorem mb_X12_wrong : MB yX12_wrong RX12 cX12_wrong 4 none 2 := ⟨tb_at 1211 (by decide +kernel) rfl, tb_at 1210 (by decide +kernel) rfl, tb_sel 33 (by decide +kernel) rfl, tb_at 14 (by decide +kernel) rfl, by decide +kernel⟩
theorem ms_J9_max_7cf53 : MS yJ9_max_7cf53 cJ9_max_7cf53 2 (some .int) 2 := ⟨tb_at 768 (by decide +kernel) rfl, tb_at 767 (by decide +kernel) rfl, tb_at 19 (by decide +kernel) rfl, by decide +kernel⟩
theorem ms_J9_min_7cf53 : MS yJ9_min_7cf53 cJ9_min_7cf53 2 (some .int) 2 := ⟨tb_at 533 (by decide +kernel) rfl, tb_at 532 (by decide +kernel) rfl, tb_at 19 (by decide +kernel) rfl, by decide +kernel⟩
theorem mb_J0_charAt_5068e : MB yJ0_charAt_5068e RJ0 cJ0_charAt_5068e 2 (some .char) 1 := ⟨tb_at 479 (by decide +kernel) rfl, tb_at 477 (by decide +kernel) rfl, tb_at 478 (by decide +kernel) rfl, tb_at 15 (by decide +kernel) rfl, by decide +kernel⟩
theorem ms_J0_checkIndex_df160 : MS yJ0_checkIndex_df160 cJ0_checkIndex_df160 2 none 2 := ⟨tb_at 489 (by decide +kernel) rfl, tb_at 488 (by decide +kernel) rfl, tb_at 15 (by decide +kernel) rfl, by decide +kernel⟩
theorem mb_J0_coder_7d493 : MB yJ0_coder_7d493 RJ0 cJ0_coder_7d493 1 (some .byte) 0 := ⟨tb_at 473 (by decide +kernel) rfl, tb_at 471 (by decide +kernel) rfl, tb_at 472 (by decide +kernel) rfl, tb_at 15 (by decide +kernel) rfl, by decide +kernel⟩
theorem mb_J0_isLatin1_aae02 : MB yJ0_isLatin1_aae02 RJ0 cJ0_isLatin1_aae02 1 (some .boolean) 0 := ⟨tb_at 483 (by decide +kernel) rfl, tb_at 481 (by decide +kernel) rfl, tb_at 482 (by decide +kernel) rfl, tb_at 15 (by decide +kernel) rfl, by decide +kernel⟩
theorem mb_J0_length_8abf5 : MB yJ0_length_8abf5 RJ0 cJ0_length_8abf5 1 (some .int) 0 := ⟨tb_at 469 (by decide +kernel) rfl, tb_at 467 (by decide +kernel) rfl, tb_at 468 (by decide +kernel) rfl, tb_at 15 (by decide +kernel) rfl, by decide +kernel⟩
theorem ms_J1_charAt_3b067 : MS yJ1_charAt_3b067 cJ1_charAt_3b067 2 (some .char) 2 := ⟨tb_at 486 (by decide +kernel) rfl, tb_at 485 (by decide +kernel) rfl, tb_at 16 (by decide +kernel) rfl, by decide +kernel⟩
theorem ms_J2_charAt_3b067 : MS yJ2_charAt_3b067 cJ2_charAt_3b067 2 (some .char) 2 := ⟨tb_at 497 (by decide +kernel) rfl, tb_at 496 (by decide +kernel) rfl, tb_at 18 (by decide +kernel) rfl, by decide +kernel⟩
theorem ms_J2_checkIndex_2214a : MS yJ2_checkIndex_2214a cJ2_checkIndex_2214a 2 none 2 := ⟨tb_at 500 (by decide +kernel) rfl, tb_at 499 (by decide +kernel) rfl, tb_at 18 (by decide +kernel) rfl, by decide +kernel⟩
theorem ms_J2_getChar_3b067 : MS yJ2_getChar_3b067 cJ2_getChar_3b067 2 (some .char) 2 := ⟨tb_at 507 (by decide +kernel) rfl, tb_at 506 (by decide +kernel) rfl, tb_at 18 (by decide +kernel) rfl, by decide +kernel⟩
theorem ms_J2_length_9d52b : MS yJ2_length_9d52b cJ2_length_9d52b 1 (some .int) 1 := ⟨tb_at 503 (by decide +kernel) rfl, tb_at 502 (by decide +kernel) rfl, tb_at 18 (by decide +kernel) rfl, by decide +kernel⟩
theorem ms_J7_copyOf_59c91 : MS yJ7_copyOf_59c91 cJ7_copyOf_59c91 3 (some (.array .int)) 2 := ⟨tb_at 523 (by decide +kernel) rfl, tb_at 522 (by decide +kernel) rfl, tb_at 4 (by decide +kernel) rfl, by decide +kernel⟩
theorem ms_J7_fill_53178 : MS yJ7_fill_53178 cJ7_fill_53178 4 none 2 := ⟨tb_at 43 (by decide +kernel) rfl, tb_at 42 (by decide +kernel) rfl, tb_at 4 (by decide +kernel) rfl, by decide +kernel⟩
theorem ms_J3_checkIndex_8e157 : MS yJ3_checkIndex_8e157 cJ3_checkIndex_8e157 3 (some .int) 3 := ⟨tb_at 494 (by decide +kernel) rfl, tb_at 493 (by decide +kernel) rfl, tb_at 17 (by decide +kernel) rfl, by decide +kernel⟩
theorem ml_X11_25 : Cond.methodLink RX11 25 yX5_init ∈ tb := tb_at 328 (by decide +kernel) rfl
theorem ml_X11_59 : Cond.methodLink RX11 59 yX8_append ∈ tb := tb_at 429 (by decide +kernel) rfl
theorem ml_X11_63 : Cond.methodLink RX11 63 yX0_open ∈ tb := tb_at 441 (by decide +kernel) rfl
theorem ml_X11_66 : Cond.methodLink RX11 66 yX0_text ∈ tb := tb_at 537 (by decide +kernel) rfl
theorem ml_X11_70 : Cond.methodLink RX11 70 yX0_close ∈ tb := tb_at 615 (by decide +kernel) rfl
theorem ml_X11_81 : Cond.methodLink RX11 81 yX3_add ∈ tb := tb_at 631 (by decide +kernel) rfl
theorem ml_X11_90 : Cond.methodLink RX11 90 yX3_makeFactors ∈ tb := tb_at 643 (by decide +kernel) rfl
theorem ml_X11_94 : Cond.methodLink RX11 94 yX3_setFactor ∈ tb := tb_at 651 (by decide +kernel) rfl
theorem ml_X11_98 : Cond.methodLink RX11 98 yX11_isHour ∈ tb := tb_at 663 (by decide +kernel) rfl
theorem ml_X11_101 : Cond.methodLink RX11 101 yX11_isMill ∈ tb := tb_at 667 (by decide +kernel) rfl
theorem ml_X11_108 : Cond.methodLink RX11 108 yX6_add ∈ tb := tb_at 671 (by decide +kernel) rfl
theorem ml_X11_113 : Cond.methodLink RX11 113 yX3_mostSetting ∈ tb := tb_at 679 (by decide +kernel) rfl
theorem ml_X11_121 : Cond.methodLink RX11 121 yX4_add ∈ tb := tb_at 683 (by decide +kernel) rfl
theorem ml_X11_126 : Cond.methodLink RX11 126 yX1_add ∈ tb := tb_at 691 (by decide +kernel) rfl
theorem ml_X11_127 : Cond.methodLink RX11 127 yX11_isKnown ∈ tb := tb_at 699 (by decide +kernel) rfl
theorem ml_X11_131 : Cond.methodLink RX11 131 yX10_begin ∈ tb := tb_at 704 (by decide +kernel) rfl
theorem ml_X11_135 : Cond.methodLink RX11 135 yX10_run ∈ tb := tb_at 718 (by decide +kernel) rfl
theorem ml_X11_143 : Cond.methodLink RX11 143 yX11_isEnd ∈ tb := tb_at 784 (by decide +kernel) rfl
theorem ml_X11_147 : Cond.methodLink RX11 147 yX10_step ∈ tb := tb_at 788 (by decide +kernel) rfl
theorem ml_X11_151 : Cond.methodLink RX11 151 yX10_breach ∈ tb := tb_at 793 (by decide +kernel) rfl
theorem ml_X11_156 : Cond.methodLink RX11 156 yX10_worked ∈ tb := tb_at 814 (by decide +kernel) rfl
theorem ml_X11_167 : Cond.methodLink RX11 167 yX4_matters ∈ tb := tb_at 822 (by decide +kernel) rfl
theorem ml_X11_170 : Cond.methodLink RX11 170 yX7_copy ∈ tb := tb_at 830 (by decide +kernel) rfl
theorem ml_X11_176 : Cond.methodLink RX11 176 yX5_ask ∈ tb := tb_at 839 (by decide +kernel) rfl
theorem ml_X11_181 : Cond.methodLink RX11 181 yX5_search ∈ tb := tb_at 849 (by decide +kernel) rfl
theorem ml_X11_185 : Cond.methodLink RX11 185 yX5_keep ∈ tb := tb_at 859 (by decide +kernel) rfl
theorem ml_X11_199 : Cond.methodLink RX11 199 yX11_grind ∈ tb := tb_at 871 (by decide +kernel) rfl
theorem ml_X11_209 : Cond.methodLink RX11 209 yX1_tollsOf ∈ tb := tb_at 889 (by decide +kernel) rfl
theorem ml_X11_228 : Cond.methodLink RX11 228 yX1_restart ∈ tb := tb_at 875 (by decide +kernel) rfl
theorem ml_X11_231 : Cond.methodLink RX11 231 yX1_take ∈ tb := tb_at 880 (by decide +kernel) rfl
theorem ml_X0_48 : Cond.methodLink RX0 48 yX9_scan ∈ tb := tb_at 445 (by decide +kernel) rfl
theorem ml_X0_52 : Cond.methodLink RX0 52 yX2_startDraft ∈ tb := tb_at 517 (by decide +kernel) rfl
theorem ml_X0_58 : Cond.methodLink RX0 58 yX2_takeDraft ∈ tb := tb_at 619 (by decide +kernel) rfl
theorem ml_X0_61 : Cond.methodLink RX0 61 yX0_kind ∈ tb := tb_at 541 (by decide +kernel) rfl
theorem ml_X0_65 : Cond.methodLink RX0 65 yX0_heading ∈ tb := tb_at 545 (by decide +kernel) rfl
theorem ml_X0_69 : Cond.methodLink RX0 69 yX0_rule ∈ tb := tb_at 579 (by decide +kernel) rfl
theorem ml_X0_72 : Cond.methodLink RX0 72 yX0_take ∈ tb := tb_at 553 (by decide +kernel) rfl
theorem ml_X0_76 : Cond.methodLink RX0 76 yX0_stop ∈ tb := tb_at 549 (by decide +kernel) rfl
theorem ml_X0_82 : Cond.methodLink RX0 82 yX9_name ∈ tb := tb_at 557 (by decide +kernel) rfl
theorem ml_X0_86 : Cond.methodLink RX0 86 yX2_hasAct ∈ tb := tb_at 563 (by decide +kernel) rfl
theorem ml_X0_90 : Cond.methodLink RX0 90 yX0_note ∈ tb := tb_at 567 (by decide +kernel) rfl
theorem ml_X0_94 : Cond.methodLink RX0 94 yX9_number ∈ tb := tb_at 571 (by decide +kernel) rfl
theorem ml_X0_98 : Cond.methodLink RX0 98 yX2_draftAct ∈ tb := tb_at 575 (by decide +kernel) rfl
theorem ml_X0_105 : Cond.methodLink RX0 105 yX2_draftRule ∈ tb := tb_at 583 (by decide +kernel) rfl
theorem ml_X0_108 : Cond.methodLink RX0 108 yX0_who ∈ tb := tb_at 587 (by decide +kernel) rfl
theorem ml_X0_115 : Cond.methodLink RX0 115 yX0_sum ∈ tb := tb_at 591 (by decide +kernel) rfl
theorem ml_X0_118 : Cond.methodLink RX0 118 yX0_condition ∈ tb := tb_at 607 (by decide +kernel) rfl
theorem ml_X0_133 : Cond.methodLink RX0 133 yX0_relation ∈ tb := tb_at 611 (by decide +kernel) rfl
theorem ml_X0_136 : Cond.methodLink RX0 136 yX2_emit ∈ tb := tb_at 603 (by decide +kernel) rfl
theorem ml_X0_140 : Cond.methodLink RX0 140 yX0_product ∈ tb := tb_at 595 (by decide +kernel) rfl
theorem ml_X0_143 : Cond.methodLink RX0 143 yX0_unit ∈ tb := tb_at 599 (by decide +kernel) rfl
theorem ml_X1_31 : Cond.methodLink RX1 31 yJ7_fill_53178 ∈ tb := tb_at 879 (by decide +kernel) rfl
theorem ml_X1_37 : Cond.methodLink RX1 37 yJ9_min_7cf53 ∈ tb := tb_at 884 (by decide +kernel) rfl
theorem ml_X2_74 : Cond.methodLink RX2 74 yJ7_copyOf_59c91 ∈ tb := tb_at 521 (by decide +kernel) rfl
theorem ml_X2_85 : Cond.methodLink RX2 85 yX2_look ∈ tb := tb_at 742 (by decide +kernel) rfl
theorem ml_X2_89 : Cond.methodLink RX2 89 yX2_isFor ∈ tb := tb_at 746 (by decide +kernel) rfl
theorem ml_X2_93 : Cond.methodLink RX2 93 yX2_valueOf ∈ tb := tb_at 754 (by decide +kernel) rfl
theorem ml_X2_102 : Cond.methodLink RX2 102 yJ9_min_7cf53 ∈ tb := tb_at 765 (by decide +kernel) rfl
theorem ml_X2_107 : Cond.methodLink RX2 107 yJ9_max_7cf53 ∈ tb := tb_at 766 (by decide +kernel) rfl
theorem ml_X2_126 : Cond.methodLink RX2 126 yX2_isInForce ∈ tb := tb_at 750 (by decide +kernel) rfl
theorem ml_X2_130 : Cond.methodLink RX2 130 yX2_valueOfVar ∈ tb := tb_at 758 (by decide +kernel) rfl
theorem ml_X2_134 : Cond.methodLink RX2 134 yX2_joined ∈ tb := tb_at 762 (by decide +kernel) rfl
theorem ml_X3_37 : Cond.methodLink RX3 37 yJ7_fill_53178 ∈ tb := tb_at 41 (by decide +kernel) rfl
theorem ml_X3_43 : Cond.methodLink RX3 43 yJ9_min_7cf53 ∈ tb := tb_at 779 (by decide +kernel) rfl
theorem ml_X3_49 : Cond.methodLink RX3 49 yJ9_max_7cf53 ∈ tb := tb_at 847 (by decide +kernel) rfl
theorem ml_X4_29 : Cond.methodLink RX4 29 yX4_isOfSame ∈ tb := tb_at 826 (by decide +kernel) rfl
theorem ml_X5_41 : Cond.methodLink RX5 41 yX3_mostWork ∈ tb := tb_at 843 (by decide +kernel) rfl
theorem ml_X5_67 : Cond.methodLink RX5 67 yX7_copy ∈ tb := tb_at 854 (by decide +kernel) rfl
theorem ml_X5_71 : Cond.methodLink RX5 71 yX10_enter ∈ tb := tb_at 855 (by decide +kernel) rfl
theorem ml_X5_80 : Cond.methodLink RX5 80 yX10_settle ∈ tb := tb_at 856 (by decide +kernel) rfl
theorem ml_X5_83 : Cond.methodLink RX5 83 yX10_breach ∈ tb := tb_at 857 (by decide +kernel) rfl
theorem ml_X5_87 : Cond.methodLink RX5 87 yX5_search ∈ tb := tb_at 858 (by decide +kernel) rfl
theorem ml_X6_28 : Cond.methodLink RX6 28 yJ7_fill_53178 ∈ tb := tb_at 712 (by decide +kernel) rfl
theorem ml_X7_30 : Cond.methodLink RX7 30 yJ7_fill_53178 ∈ tb := tb_at 717 (by decide +kernel) rfl
theorem ml_X9_22 : Cond.methodLink RX9 22 yX8_peek ∈ tb := tb_at 449 (by decide +kernel) rfl
theorem ml_X9_26 : Cond.methodLink RX9 26 yX9_sortOf ∈ tb := tb_at 453 (by decide +kernel) rfl
theorem ml_X9_29 : Cond.methodLink RX9 29 yX9_endOf ∈ tb := tb_at 456 (by decide +kernel) rfl
theorem ml_X9_33 : Cond.methodLink RX9 33 yX9_kindOf ∈ tb := tb_at 459 (by decide +kernel) rfl
theorem ml_X9_41 : Cond.methodLink RX9 41 yX9_wordKind ∈ tb := tb_at 462 (by decide +kernel) rfl
theorem ml_X9_44 : Cond.methodLink RX9 44 yX9_signKind ∈ tb := tb_at 514 (by decide +kernel) rfl
theorem ml_X9_50 : Cond.methodLink RX9 50 yJ0_length_8abf5 ∈ tb := tb_at 466 (by decide +kernel) rfl
theorem ml_X9_56 : Cond.methodLink RX9 56 yJ0_charAt_5068e ∈ tb := tb_at 476 (by decide +kernel) rfl
theorem ml_X10_11 : Cond.methodLink RX10 11 yX3_init ∈ tb := tb_at 37 (by decide +kernel) rfl
theorem ml_X10_39 : Cond.methodLink RX10 39 yX6_know ∈ tb := tb_at 708 (by decide +kernel) rfl
theorem ml_X10_43 : Cond.methodLink RX10 43 yX7_clear ∈ tb := tb_at 713 (by decide +kernel) rfl
theorem ml_X10_55 : Cond.methodLink RX10 55 yX10_step ∈ tb := tb_at 722 (by decide +kernel) rfl
theorem ml_X10_63 : Cond.methodLink RX10 63 yX10_enter ∈ tb := tb_at 726 (by decide +kernel) rfl
theorem ml_X10_66 : Cond.methodLink RX10 66 yX10_settle ∈ tb := tb_at 734 (by decide +kernel) rfl
theorem ml_X10_72 : Cond.methodLink RX10 72 yX6_fallen ∈ tb := tb_at 730 (by decide +kernel) rfl
theorem ml_X10_103 : Cond.methodLink RX10 103 yX2_opened ∈ tb := tb_at 738 (by decide +kernel) rfl
theorem ml_X10_109 : Cond.methodLink RX10 109 yX10_drowned ∈ tb := tb_at 769 (by decide +kernel) rfl
theorem ml_X10_113 : Cond.methodLink RX10 113 yJ9_min_7cf53 ∈ tb := tb_at 774 (by decide +kernel) rfl
theorem ml_X10_121 : Cond.methodLink RX10 121 yJ9_max_7cf53 ∈ tb := tb_at 773 (by decide +kernel) rfl
theorem ml_X10_124 : Cond.methodLink RX10 124 yX3_factorOf ∈ tb := tb_at 775 (by decide +kernel) rfl
theorem ml_X10_134 : Cond.methodLink RX10 134 yX2_look ∈ tb := tb_at 797 (by decide +kernel) rfl
theorem ml_X10_138 : Cond.methodLink RX10 138 yX2_seeOutcome ∈ tb := tb_at 798 (by decide +kernel) rfl
theorem ml_X10_142 : Cond.methodLink RX10 142 yX2_isBroken ∈ tb := tb_at 802 (by decide +kernel) rfl
theorem ml_L_9 : Cond.methodLink RL 9 yX11_init ∈ tb := tb_at 23 (by decide +kernel) rfl
theorem ml_L_12 : Cond.methodLink RL 12 yX12_init ∈ tb := tb_at 899 (by decide +kernel) rfl
theorem ml_L_13 : Cond.methodLink RL 13 yX11_feed ∈ tb := tb_at 425 (by decide +kernel) rfl
theorem ml_L_17 : Cond.methodLink RL 17 yX12_feed ∈ tb := tb_at 1150 (by decide +kernel) rfl
theorem ml_L_18 : Cond.methodLink RL 18 yX11_back ∈ tb := tb_at 433 (by decide +kernel) rfl
theorem ml_L_22 : Cond.methodLink RL 22 yX12_back ∈ tb := tb_at 1158 (by decide +kernel) rfl
theorem ml_L_23 : Cond.methodLink RL 23 yX11_read ∈ tb := tb_at 437 (by decide +kernel) rfl
theorem ml_L_27 : Cond.methodLink RL 27 yX12_read ∈ tb := tb_at 1162 (by decide +kernel) rfl
theorem ml_L_28 : Cond.methodLink RL 28 yX11_place ∈ tb := tb_at 623 (by decide +kernel) rfl
theorem ml_L_31 : Cond.methodLink RL 31 yX12_place ∈ tb := tb_at 1236 (by decide +kernel) rfl
theorem ml_L_32 : Cond.methodLink RL 32 yX11_mill ∈ tb := tb_at 627 (by decide +kernel) rfl
theorem ml_L_36 : Cond.methodLink RL 36 yX12_mill ∈ tb := tb_at 1240 (by decide +kernel) rfl
theorem ml_L_37 : Cond.methodLink RL 37 yX11_spring ∈ tb := tb_at 635 (by decide +kernel) rfl
theorem ml_L_41 : Cond.methodLink RL 41 yX12_spring ∈ tb := tb_at 1244 (by decide +kernel) rfl
theorem ml_L_42 : Cond.methodLink RL 42 yX11_factors ∈ tb := tb_at 639 (by decide +kernel) rfl
theorem ml_L_45 : Cond.methodLink RL 45 yX12_factors ∈ tb := tb_at 1248 (by decide +kernel) rfl
theorem ml_L_46 : Cond.methodLink RL 46 yX11_factor ∈ tb := tb_at 647 (by decide +kernel) rfl
theorem ml_L_50 : Cond.methodLink RL 50 yX12_factor ∈ tb := tb_at 1252 (by decide +kernel) rfl
theorem ml_L_51 : Cond.methodLink RL 51 yX11_clock ∈ tb := tb_at 655 (by decide +kernel) rfl
theorem ml_L_54 : Cond.methodLink RL 54 yX12_clock ∈ tb := tb_at 1256 (by decide +kernel) rfl
theorem ml_L_55 : Cond.methodLink RL 55 yX11_rain ∈ tb := tb_at 659 (by decide +kernel) rfl
theorem ml_L_59 : Cond.methodLink RL 59 yX12_rain ∈ tb := tb_at 1260 (by decide +kernel) rfl
theorem ml_L_60 : Cond.methodLink RL 60 yX11_order ∈ tb := tb_at 675 (by decide +kernel) rfl
theorem ml_L_64 : Cond.methodLink RL 64 yX12_order ∈ tb := tb_at 1268 (by decide +kernel) rfl
theorem ml_L_65 : Cond.methodLink RL 65 yX11_grist ∈ tb := tb_at 687 (by decide +kernel) rfl
theorem ml_L_69 : Cond.methodLink RL 69 yX12_grist ∈ tb := tb_at 1272 (by decide +kernel) rfl
theorem ml_L_70 : Cond.methodLink RL 70 yX11_at ∈ tb := tb_at 695 (by decide +kernel) rfl
theorem ml_L_73 : Cond.methodLink RL 73 yX12_at_ ∈ tb := tb_at 1276 (by decide +kernel) rfl
theorem ml_L_74 : Cond.methodLink RL 74 yX11_sea ∈ tb := tb_at 780 (by decide +kernel) rfl
theorem ml_L_77 : Cond.methodLink RL 77 yX12_sea ∈ tb := tb_at 1321 (by decide +kernel) rfl
theorem ml_L_78 : Cond.methodLink RL 78 yX11_broken ∈ tb := tb_at 789 (by decide +kernel) rfl
theorem ml_L_81 : Cond.methodLink RL 81 yX12_broken ∈ tb := tb_at 1328 (by decide +kernel) rfl
theorem ml_L_82 : Cond.methodLink RL 82 yX11_first ∈ tb := tb_at 806 (by decide +kernel) rfl
theorem ml_L_85 : Cond.methodLink RL 85 yX12_first ∈ tb := tb_at 1336 (by decide +kernel) rfl
theorem ml_L_86 : Cond.methodLink RL 86 yX11_loss ∈ tb := tb_at 810 (by decide +kernel) rfl
theorem ml_L_89 : Cond.methodLink RL 89 yX12_loss ∈ tb := tb_at 1340 (by decide +kernel) rfl
theorem ml_L_90 : Cond.methodLink RL 90 yX11_culprit ∈ tb := tb_at 818 (by decide +kernel) rfl
theorem ml_L_93 : Cond.methodLink RL 93 yX12_culprit ∈ tb := tb_at 1348 (by decide +kernel) rfl
theorem ml_L_94 : Cond.methodLink RL 94 yX11_plan ∈ tb := tb_at 835 (by decide +kernel) rfl
theorem ml_L_97 : Cond.methodLink RL 97 yX12_plan ∈ tb := tb_at 1352 (by decide +kernel) rfl
theorem ml_L_98 : Cond.methodLink RL 98 yX11_planned ∈ tb := tb_at 863 (by decide +kernel) rfl
theorem ml_L_101 : Cond.methodLink RL 101 yX12_planned ∈ tb := tb_at 1360 (by decide +kernel) rfl
theorem ml_L_102 : Cond.methodLink RL 102 yX11_told ∈ tb := tb_at 867 (by decide +kernel) rfl
theorem ml_L_105 : Cond.methodLink RL 105 yX12_told ∈ tb := tb_at 1364 (by decide +kernel) rfl
theorem ml_L_106 : Cond.methodLink RL 106 yX11_tolls ∈ tb := tb_at 885 (by decide +kernel) rfl
theorem ml_L_109 : Cond.methodLink RL 109 yX12_tolls ∈ tb := tb_at 1372 (by decide +kernel) rfl
theorem ml_L_110 : Cond.methodLink RL 110 yX11_count ∈ tb := tb_at 893 (by decide +kernel) rfl
theorem ml_L_113 : Cond.methodLink RL 113 yX12_count ∈ tb := tb_at 1376 (by decide +kernel) rfl
theorem ml_X12_182 : Cond.methodLink RX12 182 yX12_word ∈ tb := tb_at 903 (by decide +kernel) rfl
theorem ml_X12_192 : Cond.methodLink RX12 192 yX12_put ∈ tb := tb_at 1154 (by decide +kernel) rfl
theorem ml_X12_201 : Cond.methodLink RX12 201 yX12_more ∈ tb := tb_at 906 (by decide +kernel) rfl
theorem ml_X12_208 : Cond.methodLink RX12 208 yX12_at ∈ tb := tb_at 1170 (by decide +kernel) rfl
theorem ml_X12_212 : Cond.methodLink RX12 212 yX12_token ∈ tb := tb_at 1174 (by decide +kernel) rfl
theorem ml_X12_216 : Cond.methodLink RX12 216 yX12_isLetter ∈ tb := tb_at 1178 (by decide +kernel) rfl
theorem ml_X12_220 : Cond.methodLink RX12 220 yX12_isDigit ∈ tb := tb_at 1181 (by decide +kernel) rfl
theorem ml_X12_223 : Cond.methodLink RX12 223 yX12_sign ∈ tb := tb_at 1184 (by decide +kernel) rfl
theorem ml_X12_242 : Cond.methodLink RX12 242 yX12_fail ∈ tb := tb_at 1196 (by decide +kernel) rfl
theorem ml_X12_245 : Cond.methodLink RX12 245 yX12_is ∈ tb := tb_at 1188 (by decide +kernel) rfl
theorem ml_X12_248 : Cond.methodLink RX12 248 yX12_next ∈ tb := tb_at 1204 (by decide +kernel) rfl
theorem ml_X12_251 : Cond.methodLink RX12 251 yX12_cut ∈ tb := tb_at 1166 (by decide +kernel) rfl
theorem ml_X12_275 : Cond.methodLink RX12 275 yX12_tellAct ∈ tb := tb_at 1192 (by decide +kernel) rfl
theorem ml_X12_278 : Cond.methodLink RX12 278 yX12_changes ∈ tb := tb_at 1232 (by decide +kernel) rfl
theorem ml_X12_281 : Cond.methodLink RX12 281 yX12_must ∈ tb := tb_at 1200 (by decide +kernel) rfl
theorem ml_X12_284 : Cond.methodLink RX12 284 yX12_wrong ∈ tb := tb_at 1208 (by decide +kernel) rfl
theorem ml_X12_288 : Cond.methodLink RX12 288 yX12_tellRule ∈ tb := tb_at 1212 (by decide +kernel) rfl
theorem ml_X12_291 : Cond.methodLink RX12 291 yX12_expression ∈ tb := tb_at 1216 (by decide +kernel) rfl
theorem ml_X12_294 : Cond.methodLink RX12 294 yX12_condition ∈ tb := tb_at 1228 (by decide +kernel) rfl
theorem ml_X12_300 : Cond.methodLink RX12 300 yX12_emit ∈ tb := tb_at 1220 (by decide +kernel) rfl
theorem ml_X12_303 : Cond.methodLink RX12 303 yX12_comesOut ∈ tb := tb_at 1224 (by decide +kernel) rfl
theorem ml_X12_319 : Cond.methodLink RX12 319 yX12_isMill ∈ tb := tb_at 1264 (by decide +kernel) rfl
theorem ml_X12_328 : Cond.methodLink RX12 328 yX12_variable ∈ tb := tb_at 1313 (by decide +kernel) rfl
theorem ml_X12_332 : Cond.methodLink RX12 332 yX12_value ∈ tb := tb_at 1309 (by decide +kernel) rfl
theorem ml_X12_336 : Cond.methodLink RX12 336 yX12_holds ∈ tb := tb_at 1305 (by decide +kernel) rfl
theorem ml_X12_340 : Cond.methodLink RX12 340 yX12_counts ∈ tb := tb_at 1301 (by decide +kernel) rfl
theorem ml_X12_344 : Cond.methodLink RX12 344 yX12_factorOf ∈ tb := tb_at 1317 (by decide +kernel) rfl
theorem ml_X12_347 : Cond.methodLink RX12 347 yX12_knows ∈ tb := tb_at 1289 (by decide +kernel) rfl
theorem ml_X12_350 : Cond.methodLink RX12 350 yX12_sets ∈ tb := tb_at 1293 (by decide +kernel) rfl
theorem ml_X12_353 : Cond.methodLink RX12 353 yX12_steps ∈ tb := tb_at 1297 (by decide +kernel) rfl
theorem ml_X12_357 : Cond.methodLink RX12 357 yX12_isKnown ∈ tb := tb_at 1280 (by decide +kernel) rfl
theorem ml_X12_361 : Cond.methodLink RX12 361 yX12_works ∈ tb := tb_at 1285 (by decide +kernel) rfl
theorem ml_X12_364 : Cond.methodLink RX12 364 yX12_isEnd ∈ tb := tb_at 1325 (by decide +kernel) rfl
theorem ml_X12_367 : Cond.methodLink RX12 367 yX12_breaks ∈ tb := tb_at 1332 (by decide +kernel) rfl
theorem ml_X12_371 : Cond.methodLink RX12 371 yX12_workOf ∈ tb := tb_at 1344 (by decide +kernel) rfl
theorem ml_X12_374 : Cond.methodLink RX12 374 yX12_isGood ∈ tb := tb_at 1356 (by decide +kernel) rfl
theorem ml_X12_380 : Cond.methodLink RX12 380 yX12_grinds ∈ tb := tb_at 1368 (by decide +kernel) rfl
theorem ml_J0_335 : Cond.methodLink RJ0 335 yJ0_coder_7d493 ∈ tb := tb_at 470 (by decide +kernel) rfl
theorem ml_J0_492 : Cond.methodLink RJ0 492 yJ0_isLatin1_aae02 ∈ tb := tb_at 480 (by decide +kernel) rfl
theorem ml_J0_495 : Cond.methodLink RJ0 495 yJ1_charAt_3b067 ∈ tb := tb_at 484 (by decide +kernel) rfl
theorem ml_J0_498 : Cond.methodLink RJ0 498 yJ2_charAt_3b067 ∈ tb := tb_at 495 (by decide +kernel) rfl
theorem ml_J0_1059 : Cond.methodLink RJ0 1059 yJ3_checkIndex_8e157 ∈ tb := tb_at 492 (by decide +kernel) rfl
theorem ml_J1_9 : Cond.methodLink RJ1 9 yJ0_checkIndex_df160 ∈ tb := tb_at 487 (by decide +kernel) rfl
theorem ml_J2_48 : Cond.methodLink RJ2 48 yJ2_length_9d52b ∈ tb := tb_at 501 (by decide +kernel) rfl
theorem ml_J2_67 : Cond.methodLink RJ2 67 yJ2_checkIndex_2214a ∈ tb := tb_at 498 (by decide +kernel) rfl
theorem ml_J2_71 : Cond.methodLink RJ2 71 yJ2_getChar_3b067 ∈ tb := tb_at 505 (by decide +kernel) rfl
theorem ml_J2_414 : Cond.methodLink RJ2 414 yJ0_checkIndex_df160 ∈ tb := tb_at 504 (by decide +kernel) rfl
theorem ml_J7_304 : Cond.methodLink RJ7 304 yJ9_min_7cf53 ∈ tb := tb_at 531 (by decide +kernel) rfl
theorem ck_X5_57 : Cond.constant RX5 57 (2147483647) ∈ tb := tb_at 848 (by decide +kernel) rfl
theorem ck_X11_130 : Cond.constant RX11 130 (-1000000) ∈ tb := tb_at 703 (by decide +kernel) rfl
theorem ck_X12_360 : Cond.constant RX12 360 (-1000000) ∈ tb := tb_at 1284 (by decide +kernel) rfl
theorem ck_X9_37 : Cond.constantLong RX9 37 (32) ∈ tb := tb_at 561 (by decide +kernel) rfl
theorem ck_X9_39 : Cond.constantLong RX9 39 (97) ∈ tb := tb_at 562 (by decide +kernel) rfl
theorem ck_X12_199 : Cond.constantLong RX12 199 (27) ∈ tb := tb_at 909 (by decide +kernel) rfl
theorem sh_0 : shs[0]? = some (.inl (11, [some 1, some 9, some 10, some 100, some 113, none])) := rfl
theorem sh_1 : shs[1]? = some (.inl (10, [some 2, some 3, some 4, some 5])) := rfl
theorem sh_2 : shs[2]? = some (.inl (3, [some 12, some 13, some 14, some 15, none, none, none, some 16])) := rfl
theorem sh_3 : shs[3]? = some (.inl (6, [none, some 17, some 18, some 19, none])) := rfl
theorem sh_4 : shs[4]? = some (.inl (4, [some 20, some 21, some 22, some 23, none])) := rfl
theorem sh_5 : shs[5]? = some (.inl (0, [some 6, some 8, none, some 7, none, none, none, none])) := rfl
theorem sh_6 : shs[6]? = some (.inl (8, [none, some 24])) := rfl
theorem sh_7 : shs[7]? = some (.inl (9, [some 25, some 26])) := rfl
theorem sh_8 : shs[8]? = some (.inl (2, [none, none, none, none, none, some 27, some 28, some 29, some 30, some 31, some 32, some 33, some 34, some 35, some 36, none, some 37, some 38, none])) := rfl
theorem sh_9 : shs[9]? = some (.inl (1, [some 39, some 40, some 41, some 42, some 43, none])) := rfl
theorem sh_10 : shs[10]? = some (.inl (5, [some 44, none, some 45, some 46, some 47, none, none, none, none, none, none])) := rfl
theorem sh_11 : shs[11]? = some (.inl (12, [none, some 48, none, some 49, none, some 50, some 51, some 52, some 53, some 54, none, none, none, none, none, none, none, none, none, none, some 55, some 56, some 57, none, none, some 58, some 59, some 60, some 61, some 62, some 63, some 64, none, some 65, some 66, some 67, some 68, some 69, none, some 70, some 71, some 72, none, none, some 73, some 74, some 75, some 76, none, none, some 77, none, none, some 78, some 79, some 80, none, some 81, some 82, some 83, some 84, none, some 85, some 86, some 87, some 88, none, none, some 89, some 90, some 91, some 92, some 93, some 94, some 95, none, some 96, some 97, some 98, some 99])) := rfl
theorem sh_12 : shs[12]? = some (.inr (0, some 7, [])) := rfl
theorem sh_13 : shs[13]? = some (.inr (0, some 7, [])) := rfl
theorem sh_14 : shs[14]? = some (.inr (0, some 7, [])) := rfl
theorem sh_15 : shs[15]? = some (.inr (0, some 7, [])) := rfl
theorem sh_16 : shs[16]? = some (.inr (0, some 20, [])) := rfl
theorem sh_17 : shs[17]? = some (.inr (0, some 400, [])) := rfl
theorem sh_18 : shs[18]? = some (.inr (0, some 400, [])) := rfl
theorem sh_19 : shs[19]? = some (.inr (0, some 1680, [])) := rfl
theorem sh_20 : shs[20]? = some (.inr (0, some 200, [])) := rfl
theorem sh_21 : shs[21]? = some (.inr (0, some 200, [])) := rfl
theorem sh_22 : shs[22]? = some (.inr (2, some 200, [])) := rfl
theorem sh_23 : shs[23]? = some (.inr (0, some 200, [])) := rfl
theorem sh_24 : shs[24]? = some (.inr (1, some 2000, [])) := rfl
theorem sh_25 : shs[25]? = some (.inr (0, some 601, [])) := rfl
theorem sh_26 : shs[26]? = some (.inr (0, some 601, [])) := rfl
theorem sh_27 : shs[27]? = some (.inr (0, some 30, [])) := rfl
theorem sh_28 : shs[28]? = some (.inr (2, some 30, [])) := rfl
theorem sh_29 : shs[29]? = some (.inr (0, some 30, [])) := rfl
theorem sh_30 : shs[30]? = some (.inr (0, some 30, [])) := rfl
theorem sh_31 : shs[31]? = some (.inr (0, some 30, [])) := rfl
theorem sh_32 : shs[32]? = some (.inr (0, some 30, [])) := rfl
theorem sh_33 : shs[33]? = some (.inr (3, some 10, [])) := rfl
theorem sh_34 : shs[34]? = some (.inr (0, some 10, [])) := rfl
theorem sh_35 : shs[35]? = some (.inr (0, some 10, [])) := rfl
theorem sh_36 : shs[36]? = some (.inr (0, none, [])) := rfl
theorem sh_37 : shs[37]? = some (.inr (0, some 12, [])) := rfl
theorem sh_38 : shs[38]? = some (.inr (0, some 32, [])) := rfl
theorem sh_39 : shs[39]? = some (.inr (0, some 60, [])) := rfl
theorem sh_40 : shs[40]? = some (.inr (0, some 60, [])) := rfl
theorem sh_41 : shs[41]? = some (.inr (0, some 60, [])) := rfl
theorem sh_42 : shs[42]? = some (.inr (0, some 60, [])) := rfl
theorem sh_43 : shs[43]? = some (.inr (0, some 60, [])) := rfl
theorem sh_44 : shs[44]? = some (.inr (0, some 6, [])) := rfl
theorem sh_45 : shs[45]? = some (.inr (4, some 6, [126, 139, 152, 165, 178, 191])) := rfl
theorem sh_46 : shs[46]? = some (.inr (0, some 6, [])) := rfl
theorem sh_47 : shs[47]? = some (.inr (0, some 6, [])) := rfl
theorem sh_48 : shs[48]? = some (.inr (1, some 2000, [])) := rfl
theorem sh_49 : shs[49]? = some (.inr (1, some 2000, [])) := rfl
theorem sh_50 : shs[50]? = some (.inr (0, some 603, [])) := rfl
theorem sh_51 : shs[51]? = some (.inr (0, some 603, [])) := rfl
theorem sh_52 : shs[52]? = some (.inr (0, some 603, [])) := rfl
theorem sh_53 : shs[53]? = some (.inr (3, some 603, [])) := rfl
theorem sh_54 : shs[54]? = some (.inr (3, some 23, [])) := rfl
theorem sh_55 : shs[55]? = some (.inr (3, some 11, [])) := rfl
theorem sh_56 : shs[56]? = some (.inr (0, some 11, [])) := rfl
theorem sh_57 : shs[57]? = some (.inr (0, some 11, [])) := rfl
theorem sh_58 : shs[58]? = some (.inr (0, some 31, [])) := rfl
theorem sh_59 : shs[59]? = some (.inr (0, some 31, [])) := rfl
theorem sh_60 : shs[60]? = some (.inr (2, some 31, [])) := rfl
theorem sh_61 : shs[61]? = some (.inr (0, some 31, [])) := rfl
theorem sh_62 : shs[62]? = some (.inr (0, some 31, [])) := rfl
theorem sh_63 : shs[63]? = some (.inr (0, some 31, [])) := rfl
theorem sh_64 : shs[64]? = some (.inr (0, some 31, [])) := rfl
theorem sh_65 : shs[65]? = some (.inr (0, some 6600, [])) := rfl
theorem sh_66 : shs[66]? = some (.inr (0, some 6600, [])) := rfl
theorem sh_67 : shs[67]? = some (.inr (0, some 6600, [])) := rfl
theorem sh_68 : shs[68]? = some (.inr (0, some 6600, [])) := rfl
theorem sh_69 : shs[69]? = some (.inr (2, some 6600, [])) := rfl
theorem sh_70 : shs[70]? = some (.inr (0, some 20000, [])) := rfl
theorem sh_71 : shs[71]? = some (.inr (0, some 20000, [])) := rfl
theorem sh_72 : shs[72]? = some (.inr (0, some 64, [])) := rfl
theorem sh_73 : shs[73]? = some (.inr (0, some 7, [])) := rfl
theorem sh_74 : shs[74]? = some (.inr (0, some 7, [])) := rfl
theorem sh_75 : shs[75]? = some (.inr (0, some 7, [])) := rfl
theorem sh_76 : shs[76]? = some (.inr (0, some 7, [])) := rfl
theorem sh_77 : shs[77]? = some (.inr (0, some 20, [])) := rfl
theorem sh_78 : shs[78]? = some (.inr (0, some 400, [])) := rfl
theorem sh_79 : shs[79]? = some (.inr (0, some 400, [])) := rfl
theorem sh_80 : shs[80]? = some (.inr (0, some 400, [])) := rfl
theorem sh_81 : shs[81]? = some (.inr (0, some 200, [])) := rfl
theorem sh_82 : shs[82]? = some (.inr (0, some 200, [])) := rfl
theorem sh_83 : shs[83]? = some (.inr (2, some 200, [])) := rfl
theorem sh_84 : shs[84]? = some (.inr (0, some 200, [])) := rfl
theorem sh_85 : shs[85]? = some (.inr (0, some 60, [])) := rfl
theorem sh_86 : shs[86]? = some (.inr (0, some 60, [])) := rfl
theorem sh_87 : shs[87]? = some (.inr (0, some 60, [])) := rfl
theorem sh_88 : shs[88]? = some (.inr (0, some 16800, [])) := rfl
theorem sh_89 : shs[89]? = some (.inr (0, some 1680, [])) := rfl
theorem sh_90 : shs[90]? = some (.inr (0, some 3360, [])) := rfl
theorem sh_91 : shs[91]? = some (.inr (0, some 14, [])) := rfl
theorem sh_92 : shs[92]? = some (.inr (0, some 700, [])) := rfl
theorem sh_93 : shs[93]? = some (.inr (0, some 7, [])) := rfl
theorem sh_94 : shs[94]? = some (.inr (0, some 6, [])) := rfl
theorem sh_95 : shs[95]? = some (.inr (0, some 6, [])) := rfl
theorem sh_96 : shs[96]? = some (.inr (0, some 7, [])) := rfl
theorem sh_97 : shs[97]? = some (.inr (0, some 7, [])) := rfl
theorem sh_98 : shs[98]? = some (.inr (0, some 60, [])) := rfl
theorem sh_99 : shs[99]? = some (.inr (0, some 60, [])) := rfl
theorem sh_100 : shs[100]? = some (.inl (7, [some 101, some 102, none, none, none])) := rfl
theorem sh_101 : shs[101]? = some (.inr (5, some 10, [103, 104, 105, 106, 107, 108, 109, 110, 111, 112])) := rfl
theorem sh_102 : shs[102]? = some (.inr (0, some 7, [])) := rfl
theorem sh_103 : shs[103]? = some (.inr (0, some 7, [])) := rfl
theorem sh_104 : shs[104]? = some (.inr (0, some 7, [])) := rfl
theorem sh_105 : shs[105]? = some (.inr (0, some 7, [])) := rfl
theorem sh_106 : shs[106]? = some (.inr (0, some 7, [])) := rfl
theorem sh_107 : shs[107]? = some (.inr (0, some 7, [])) := rfl
theorem sh_108 : shs[108]? = some (.inr (0, some 7, [])) := rfl
theorem sh_109 : shs[109]? = some (.inr (0, some 7, [])) := rfl
theorem sh_110 : shs[110]? = some (.inr (0, some 7, [])) := rfl
theorem sh_111 : shs[111]? = some (.inr (0, some 7, [])) := rfl
theorem sh_112 : shs[112]? = some (.inr (0, some 7, [])) := rfl
theorem sh_113 : shs[113]? = some (.inl (7, [some 114, some 115, none, none, none])) := rfl
theorem sh_114 : shs[114]? = some (.inr (5, some 10, [116, 117, 118, 119, 120, 121, 122, 123, 124, 125])) := rfl
theorem sh_115 : shs[115]? = some (.inr (0, some 7, [])) := rfl
theorem sh_116 : shs[116]? = some (.inr (0, some 7, [])) := rfl
theorem sh_117 : shs[117]? = some (.inr (0, some 7, [])) := rfl
theorem sh_118 : shs[118]? = some (.inr (0, some 7, [])) := rfl
theorem sh_119 : shs[119]? = some (.inr (0, some 7, [])) := rfl
theorem sh_120 : shs[120]? = some (.inr (0, some 7, [])) := rfl
theorem sh_121 : shs[121]? = some (.inr (0, some 7, [])) := rfl
theorem sh_122 : shs[122]? = some (.inr (0, some 7, [])) := rfl
theorem sh_123 : shs[123]? = some (.inr (0, some 7, [])) := rfl
theorem sh_124 : shs[124]? = some (.inr (0, some 7, [])) := rfl
theorem sh_125 : shs[125]? = some (.inr (0, some 7, [])) := rfl
theorem sh_126 : shs[126]? = some (.inl (7, [some 127, some 128, none, none, none])) := rfl
theorem sh_127 : shs[127]? = some (.inr (5, some 10, [129, 130, 131, 132, 133, 134, 135, 136, 137, 138])) := rfl
theorem sh_128 : shs[128]? = some (.inr (0, some 7, [])) := rfl
theorem sh_129 : shs[129]? = some (.inr (0, some 7, [])) := rfl
theorem sh_130 : shs[130]? = some (.inr (0, some 7, [])) := rfl
theorem sh_131 : shs[131]? = some (.inr (0, some 7, [])) := rfl
theorem sh_132 : shs[132]? = some (.inr (0, some 7, [])) := rfl
theorem sh_133 : shs[133]? = some (.inr (0, some 7, [])) := rfl
theorem sh_134 : shs[134]? = some (.inr (0, some 7, [])) := rfl
theorem sh_135 : shs[135]? = some (.inr (0, some 7, [])) := rfl
theorem sh_136 : shs[136]? = some (.inr (0, some 7, [])) := rfl
theorem sh_137 : shs[137]? = some (.inr (0, some 7, [])) := rfl
theorem sh_138 : shs[138]? = some (.inr (0, some 7, [])) := rfl
theorem sh_139 : shs[139]? = some (.inl (7, [some 140, some 141, none, none, none])) := rfl
theorem sh_140 : shs[140]? = some (.inr (5, some 10, [142, 143, 144, 145, 146, 147, 148, 149, 150, 151])) := rfl
theorem sh_141 : shs[141]? = some (.inr (0, some 7, [])) := rfl
theorem sh_142 : shs[142]? = some (.inr (0, some 7, [])) := rfl
theorem sh_143 : shs[143]? = some (.inr (0, some 7, [])) := rfl
theorem sh_144 : shs[144]? = some (.inr (0, some 7, [])) := rfl
theorem sh_145 : shs[145]? = some (.inr (0, some 7, [])) := rfl
theorem sh_146 : shs[146]? = some (.inr (0, some 7, [])) := rfl
theorem sh_147 : shs[147]? = some (.inr (0, some 7, [])) := rfl
theorem sh_148 : shs[148]? = some (.inr (0, some 7, [])) := rfl
theorem sh_149 : shs[149]? = some (.inr (0, some 7, [])) := rfl
theorem sh_150 : shs[150]? = some (.inr (0, some 7, [])) := rfl
theorem sh_151 : shs[151]? = some (.inr (0, some 7, [])) := rfl
theorem sh_152 : shs[152]? = some (.inl (7, [some 153, some 154, none, none, none])) := rfl
theorem sh_153 : shs[153]? = some (.inr (5, some 10, [155, 156, 157, 158, 159, 160, 161, 162, 163, 164])) := rfl
theorem sh_154 : shs[154]? = some (.inr (0, some 7, [])) := rfl
theorem sh_155 : shs[155]? = some (.inr (0, some 7, [])) := rfl
theorem sh_156 : shs[156]? = some (.inr (0, some 7, [])) := rfl
theorem sh_157 : shs[157]? = some (.inr (0, some 7, [])) := rfl
theorem sh_158 : shs[158]? = some (.inr (0, some 7, [])) := rfl
theorem sh_159 : shs[159]? = some (.inr (0, some 7, [])) := rfl
theorem sh_160 : shs[160]? = some (.inr (0, some 7, [])) := rfl
theorem sh_161 : shs[161]? = some (.inr (0, some 7, [])) := rfl
theorem sh_162 : shs[162]? = some (.inr (0, some 7, [])) := rfl
theorem sh_163 : shs[163]? = some (.inr (0, some 7, [])) := rfl
theorem sh_164 : shs[164]? = some (.inr (0, some 7, [])) := rfl
theorem sh_165 : shs[165]? = some (.inl (7, [some 166, some 167, none, none, none])) := rfl
theorem sh_166 : shs[166]? = some (.inr (5, some 10, [168, 169, 170, 171, 172, 173, 174, 175, 176, 177])) := rfl
theorem sh_167 : shs[167]? = some (.inr (0, some 7, [])) := rfl
theorem sh_168 : shs[168]? = some (.inr (0, some 7, [])) := rfl
theorem sh_169 : shs[169]? = some (.inr (0, some 7, [])) := rfl
theorem sh_170 : shs[170]? = some (.inr (0, some 7, [])) := rfl
theorem sh_171 : shs[171]? = some (.inr (0, some 7, [])) := rfl
theorem sh_172 : shs[172]? = some (.inr (0, some 7, [])) := rfl
theorem sh_173 : shs[173]? = some (.inr (0, some 7, [])) := rfl
theorem sh_174 : shs[174]? = some (.inr (0, some 7, [])) := rfl
theorem sh_175 : shs[175]? = some (.inr (0, some 7, [])) := rfl
theorem sh_176 : shs[176]? = some (.inr (0, some 7, [])) := rfl
theorem sh_177 : shs[177]? = some (.inr (0, some 7, [])) := rfl
theorem sh_178 : shs[178]? = some (.inl (7, [some 179, some 180, none, none, none])) := rfl
theorem sh_179 : shs[179]? = some (.inr (5, some 10, [181, 182, 183, 184, 185, 186, 187, 188, 189, 190])) := rfl
theorem sh_180 : shs[180]? = some (.inr (0, some 7, [])) := rfl
theorem sh_181 : shs[181]? = some (.inr (0, some 7, [])) := rfl
theorem sh_182 : shs[182]? = some (.inr (0, some 7, [])) := rfl
theorem sh_183 : shs[183]? = some (.inr (0, some 7, [])) := rfl
theorem sh_184 : shs[184]? = some (.inr (0, some 7, [])) := rfl
theorem sh_185 : shs[185]? = some (.inr (0, some 7, [])) := rfl
theorem sh_186 : shs[186]? = some (.inr (0, some 7, [])) := rfl
theorem sh_187 : shs[187]? = some (.inr (0, some 7, [])) := rfl
theorem sh_188 : shs[188]? = some (.inr (0, some 7, [])) := rfl
theorem sh_189 : shs[189]? = some (.inr (0, some 7, [])) := rfl
theorem sh_190 : shs[190]? = some (.inr (0, some 7, [])) := rfl
theorem sh_191 : shs[191]? = some (.inl (7, [some 192, some 193, none, none, none])) := rfl
theorem sh_192 : shs[192]? = some (.inr (5, some 10, [194, 195, 196, 197, 198, 199, 200, 201, 202, 203])) := rfl
theorem sh_193 : shs[193]? = some (.inr (0, some 7, [])) := rfl
theorem sh_194 : shs[194]? = some (.inr (0, some 7, [])) := rfl
theorem sh_195 : shs[195]? = some (.inr (0, some 7, [])) := rfl
theorem sh_196 : shs[196]? = some (.inr (0, some 7, [])) := rfl
theorem sh_197 : shs[197]? = some (.inr (0, some 7, [])) := rfl
theorem sh_198 : shs[198]? = some (.inr (0, some 7, [])) := rfl
theorem sh_199 : shs[199]? = some (.inr (0, some 7, [])) := rfl
theorem sh_200 : shs[200]? = some (.inr (0, some 7, [])) := rfl
theorem sh_201 : shs[201]? = some (.inr (0, some 7, [])) := rfl
theorem sh_202 : shs[202]? = some (.inr (0, some 7, [])) := rfl
theorem sh_203 : shs[203]? = some (.inr (0, some 7, [])) := rfl
