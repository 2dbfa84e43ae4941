theorem zz_im1 : Int32.ofInt (-1) = (-1) := by decide
theorem zz_i0 : Int32.ofInt (0) = 0 := by decide
theorem zz_i1 : Int32.ofInt (1) = 1 := by decide
theorem zz_i2 : Int32.ofInt (2) = 2 := by decide
theorem zz_i3 : Int32.ofInt (3) = 3 := by decide
theorem zz_i4 : Int32.ofInt (4) = 4 := by decide
theorem zz_bpm5 : (Int8.ofInt (-5)).toInt32 = (-5) := by decide
theorem zz_bpm4 : (Int8.ofInt (-4)).toInt32 = (-4) := by decide
theorem zz_bpm3 : (Int8.ofInt (-3)).toInt32 = (-3) := by decide
theorem zz_bpm2 : (Int8.ofInt (-2)).toInt32 = (-2) := by decide
theorem zz_bp6 : (Int8.ofInt (6)).toInt32 = 6 := by decide
theorem zz_bp7 : (Int8.ofInt (7)).toInt32 = 7 := by decide
theorem zz_bp8 : (Int8.ofInt (8)).toInt32 = 8 := by decide
theorem zz_bp9 : (Int8.ofInt (9)).toInt32 = 9 := by decide
theorem zz_bp10 : (Int8.ofInt (10)).toInt32 = 10 := by decide
theorem zz_bp12 : (Int8.ofInt (12)).toInt32 = 12 := by decide
theorem zz_bp16 : (Int8.ofInt (16)).toInt32 = 16 := by decide
theorem zz_bp18 : (Int8.ofInt (18)).toInt32 = 18 := by decide
theorem zz_bp20 : (Int8.ofInt (20)).toInt32 = 20 := by decide
theorem zz_bp24 : (Int8.ofInt (24)).toInt32 = 24 := by decide
theorem zz_bp30 : (Int8.ofInt (30)).toInt32 = 30 := by decide
theorem zz_bp32 : (Int8.ofInt (32)).toInt32 = 32 := by decide
theorem zz_bp36 : (Int8.ofInt (36)).toInt32 = 36 := by decide
theorem zz_bp63 : (Int8.ofInt (63)).toInt32 = 63 := by decide
theorem zz_bp96 : (Int8.ofInt (96)).toInt32 = 96 := by decide
theorem zz_bp99 : (Int8.ofInt (99)).toInt32 = 99 := by decide
theorem zz_bp100 : (Int8.ofInt (100)).toInt32 = 100 := by decide
theorem zz_sp128 : (Int16.ofInt (128)).toInt32 = 128 := by decide
theorem zz_sp256 : (Int16.ofInt (256)).toInt32 = 256 := by decide
theorem ct_J6_265 : Cond.constant RJ6 265 (1431655765) ∈ zz_gW := zz_w 502 (by decide +kernel) (by decide +kernel)
theorem ct_J6_266 : Cond.constant RJ6 266 (858993459) ∈ zz_gW := zz_w 503 (by decide +kernel) (by decide +kernel)
theorem ct_J6_267 : Cond.constant RJ6 267 (252645135) ∈ zz_gW := zz_w 504 (by decide +kernel) (by decide +kernel)
theorem ct_X0_31 : Cond.constant RX0 31 (2147483647) ∈ zz_gW := zz_w 374 (by decide +kernel) (by decide +kernel)
def zz_SC : List zz_Sh := [.inr (4, [some 1, some 2, none, some 3, some 4, some 5]), .inr (3, [none, some 6, some 7, some 8, none, some 9, some 10, some 11, none, some 12, some 13, some 14]), .inr (3, [none, some 15, some 16, some 17, none, some 18, some 19, some 20, none, some 21, some 22, some 23]), .inr (0, [none, some 24, some 25, some 26]), .inr (2, [some 27, some 28, some 29]), .inr (1, [some 30]), .inl 6, .inl 6, .inl 6, .inl 6, .inl 6, .inl 6, .inl 16, .inl 16, .inl 96, .inl 6, .inl 6, .inl 6, .inl 6, .inl 6, .inl 6, .inl 16, .inl 16, .inl 96, .inl 6, .inl 6, .inl 256, .inl 6, .inl 6, .inl 6, .inl 6]
def zz_SR : List zz_Sh := [.inr (5, [none, some 1, some 2, some 3, none, some 4, some 5, some 6, none, some 7, some 8, some 9, none, some 10, some 11, some 12, some 13, some 14, some 15, none, none, none, none, some 16, some 17, none, some 18]), .inl 6, .inl 6, .inl 6, .inl 6, .inl 6, .inl 6, .inl 16, .inl 16, .inl 96, .inl 3, .inl 36, .inl 128, .inl 6, .inl 6, .inl 256, .inl 6, .inl 6, .inl 6]
theorem sc_0 : zz_SC[0]? = some (.inr (4, [some 1, some 2, none, some 3, some 4, some 5])) := rfl
theorem sc_1 : zz_SC[1]? = some (.inr (3, [none, some 6, some 7, some 8, none, some 9, some 10, some 11, none, some 12, some 13, some 14])) := rfl
theorem sc_2 : zz_SC[2]? = some (.inr (3, [none, some 15, some 16, some 17, none, some 18, some 19, some 20, none, some 21, some 22, some 23])) := rfl
theorem sc_3 : zz_SC[3]? = some (.inr (0, [none, some 24, some 25, some 26])) := rfl
theorem sc_4 : zz_SC[4]? = some (.inr (2, [some 27, some 28, some 29])) := rfl
theorem sc_5 : zz_SC[5]? = some (.inr (1, [some 30])) := rfl
theorem sc_6 : zz_SC[6]? = some (.inl 6) := rfl
theorem sc_7 : zz_SC[7]? = some (.inl 6) := rfl
theorem sc_8 : zz_SC[8]? = some (.inl 6) := rfl
theorem sc_9 : zz_SC[9]? = some (.inl 6) := rfl
theorem sc_10 : zz_SC[10]? = some (.inl 6) := rfl
theorem sc_11 : zz_SC[11]? = some (.inl 6) := rfl
theorem sc_12 : zz_SC[12]? = some (.inl 16) := rfl
theorem sc_13 : zz_SC[13]? = some (.inl 16) := rfl
theorem sc_14 : zz_SC[14]? = some (.inl 96) := rfl
theorem sc_15 : zz_SC[15]? = some (.inl 6) := rfl
theorem sc_16 : zz_SC[16]? = some (.inl 6) := rfl
theorem sc_17 : zz_SC[17]? = some (.inl 6) := rfl
theorem sc_18 : zz_SC[18]? = some (.inl 6) := rfl
theorem sc_19 : zz_SC[19]? = some (.inl 6) := rfl
theorem sc_20 : zz_SC[20]? = some (.inl 6) := rfl
theorem sc_21 : zz_SC[21]? = some (.inl 16) := rfl
theorem sc_22 : zz_SC[22]? = some (.inl 16) := rfl
theorem sc_23 : zz_SC[23]? = some (.inl 96) := rfl
theorem sc_24 : zz_SC[24]? = some (.inl 6) := rfl
theorem sc_25 : zz_SC[25]? = some (.inl 6) := rfl
theorem sc_26 : zz_SC[26]? = some (.inl 256) := rfl
theorem sc_27 : zz_SC[27]? = some (.inl 6) := rfl
theorem sc_28 : zz_SC[28]? = some (.inl 6) := rfl
theorem sc_29 : zz_SC[29]? = some (.inl 6) := rfl
theorem sc_30 : zz_SC[30]? = some (.inl 6) := rfl
theorem sr_0 : zz_SR[0]? = some (.inr (5, [none, some 1, some 2, some 3, none, some 4, some 5, some 6, none, some 7, some 8, some 9, none, some 10, some 11, some 12, some 13, some 14, some 15, none, none, none, none, some 16, some 17, none, some 18])) := rfl
theorem sr_1 : zz_SR[1]? = some (.inl 6) := rfl
theorem sr_2 : zz_SR[2]? = some (.inl 6) := rfl
theorem sr_3 : zz_SR[3]? = some (.inl 6) := rfl
theorem sr_4 : zz_SR[4]? = some (.inl 6) := rfl
theorem sr_5 : zz_SR[5]? = some (.inl 6) := rfl
theorem sr_6 : zz_SR[6]? = some (.inl 6) := rfl
theorem sr_7 : zz_SR[7]? = some (.inl 16) := rfl
theorem sr_8 : zz_SR[8]? = some (.inl 16) := rfl
theorem sr_9 : zz_SR[9]? = some (.inl 96) := rfl
theorem sr_10 : zz_SR[10]? = some (.inl 3) := rfl
theorem sr_11 : zz_SR[11]? = some (.inl 36) := rfl
theorem sr_12 : zz_SR[12]? = some (.inl 128) := rfl
theorem sr_13 : zz_SR[13]? = some (.inl 6) := rfl
theorem sr_14 : zz_SR[14]? = some (.inl 6) := rfl
theorem sr_15 : zz_SR[15]? = some (.inl 256) := rfl
theorem sr_16 : zz_SR[16]? = some (.inl 6) := rfl
theorem sr_17 : zz_SR[17]? = some (.inl 6) := rfl
theorem sr_18 : zz_SR[18]? = some (.inl 6) := rfl
theorem gwX0 : ∀ w ∈ u_ws RX0 TX0 4, w ∈ zz_gW := fun w h => List.mem_filter.mpr ⟨(by decide +kernel : ∀ w ∈ u_ws RX0 TX0 4, w ∈ lw_tbl) w h, (by decide +kernel : ∀ w ∈ u_ws RX0 TX0 4, goodWord w = true) w h⟩
theorem gwX1 : ∀ w ∈ u_ws RX1 TX1 1, w ∈ zz_gW := fun w h => List.mem_filter.mpr ⟨(by decide +kernel : ∀ w ∈ u_ws RX1 TX1 1, w ∈ lw_tbl) w h, (by decide +kernel : ∀ w ∈ u_ws RX1 TX1 1, goodWord w = true) w h⟩
theorem gwX2 : ∀ w ∈ u_ws RX2 TX2 3, w ∈ zz_gW := fun w h => List.mem_filter.mpr ⟨(by decide +kernel : ∀ w ∈ u_ws RX2 TX2 3, w ∈ lw_tbl) w h, (by decide +kernel : ∀ w ∈ u_ws RX2 TX2 3, goodWord w = true) w h⟩
theorem gwX3 : ∀ w ∈ u_ws RX3 TX3 12, w ∈ zz_gW := fun w h => List.mem_filter.mpr ⟨(by decide +kernel : ∀ w ∈ u_ws RX3 TX3 12, w ∈ lw_tbl) w h, (by decide +kernel : ∀ w ∈ u_ws RX3 TX3 12, goodWord w = true) w h⟩
theorem gwX4 : ∀ w ∈ u_ws RX4 TX4 6, w ∈ zz_gW := fun w h => List.mem_filter.mpr ⟨(by decide +kernel : ∀ w ∈ u_ws RX4 TX4 6, w ∈ lw_tbl) w h, (by decide +kernel : ∀ w ∈ u_ws RX4 TX4 6, goodWord w = true) w h⟩
theorem gwX5 : ∀ w ∈ u_ws RX5 TX5 27, w ∈ zz_gW := fun w h => List.mem_filter.mpr ⟨(by decide +kernel : ∀ w ∈ u_ws RX5 TX5 27, w ∈ lw_tbl) w h, (by decide +kernel : ∀ w ∈ u_ws RX5 TX5 27, goodWord w = true) w h⟩
theorem fl_X0_9 : zz_FL RX0 9 0 0 := ⟨RX0, TX0, 4, rfl, by decide, gwX0, rfl, Or.inl (zz_w 155 (by decide +kernel) (by decide +kernel))⟩
theorem fl_X0_15 : zz_FL RX0 15 0 1 := ⟨RX0, TX0, 4, rfl, by decide, gwX0, rfl, Or.inl (zz_w 157 (by decide +kernel) (by decide +kernel))⟩
theorem fl_X0_19 : zz_FL RX0 19 0 2 := ⟨RX0, TX0, 4, rfl, by decide, gwX0, rfl, Or.inl (zz_w 159 (by decide +kernel) (by decide +kernel))⟩
theorem fl_X0_22 : zz_FL RX0 22 0 3 := ⟨RX0, TX0, 4, rfl, by decide, gwX0, rfl, Or.inl (zz_w 160 (by decide +kernel) (by decide +kernel))⟩
theorem fl_X0_36 : zz_FL RX0 36 3 8 := ⟨RX3, TX3, 12, rfl, by decide, gwX3, rfl, Or.inr ⟨"ShotBook", zz_wF 114 (by decide +kernel)⟩⟩
theorem fl_X0_45 : zz_FL RX0 45 3 0 := ⟨RX3, TX3, 12, rfl, by decide, gwX3, rfl, Or.inr ⟨"ShotBook", zz_wF 95 (by decide +kernel)⟩⟩
theorem fl_X0_54 : zz_FL RX0 54 3 9 := ⟨RX3, TX3, 12, rfl, by decide, gwX3, rfl, Or.inr ⟨"ShotBook", zz_wF 117 (by decide +kernel)⟩⟩
theorem fl_X0_57 : zz_FL RX0 57 3 10 := ⟨RX3, TX3, 12, rfl, by decide, gwX3, rfl, Or.inr ⟨"ShotBook", zz_wF 120 (by decide +kernel)⟩⟩
theorem fl_X1_9 : zz_FL RX1 9 1 0 := ⟨RX1, TX1, 1, rfl, by decide, gwX1, rfl, Or.inl (zz_w 195 (by decide +kernel) (by decide +kernel))⟩
theorem fl_X1_15 : zz_FL RX1 15 3 0 := ⟨RX3, TX3, 12, rfl, by decide, gwX3, rfl, Or.inr ⟨"ShotBook", zz_wF 92 (by decide +kernel)⟩⟩
theorem fl_X2_9 : zz_FL RX2 9 2 0 := ⟨RX2, TX2, 3, rfl, by decide, gwX2, rfl, Or.inl (zz_w 176 (by decide +kernel) (by decide +kernel))⟩
theorem fl_X2_15 : zz_FL RX2 15 2 1 := ⟨RX2, TX2, 3, rfl, by decide, gwX2, rfl, Or.inl (zz_w 178 (by decide +kernel) (by decide +kernel))⟩
theorem fl_X2_18 : zz_FL RX2 18 2 2 := ⟨RX2, TX2, 3, rfl, by decide, gwX2, rfl, Or.inl (zz_w 180 (by decide +kernel) (by decide +kernel))⟩
theorem fl_X2_27 : zz_FL RX2 27 3 0 := ⟨RX3, TX3, 12, rfl, by decide, gwX3, rfl, Or.inr ⟨"ShotBook", zz_wF 94 (by decide +kernel)⟩⟩
theorem fl_X2_33 : zz_FL RX2 33 3 3 := ⟨RX3, TX3, 12, rfl, by decide, gwX3, rfl, Or.inr ⟨"ShotBook", zz_wF 102 (by decide +kernel)⟩⟩
theorem fl_X2_43 : zz_FL RX2 43 3 5 := ⟨RX3, TX3, 12, rfl, by decide, gwX3, rfl, Or.inr ⟨"ShotBook", zz_wF 107 (by decide +kernel)⟩⟩
theorem fl_X2_46 : zz_FL RX2 46 3 1 := ⟨RX3, TX3, 12, rfl, by decide, gwX3, rfl, Or.inr ⟨"ShotBook", zz_wF 98 (by decide +kernel)⟩⟩
theorem fl_X3_9 : zz_FL RX3 9 3 0 := ⟨RX3, TX3, 12, rfl, by decide, gwX3, rfl, Or.inl (zz_w 91 (by decide +kernel) (by decide +kernel))⟩
theorem fl_X3_15 : zz_FL RX3 15 3 1 := ⟨RX3, TX3, 12, rfl, by decide, gwX3, rfl, Or.inl (zz_w 96 (by decide +kernel) (by decide +kernel))⟩
theorem fl_X3_19 : zz_FL RX3 19 3 2 := ⟨RX3, TX3, 12, rfl, by decide, gwX3, rfl, Or.inl (zz_w 99 (by decide +kernel) (by decide +kernel))⟩
theorem fl_X3_22 : zz_FL RX3 22 3 3 := ⟨RX3, TX3, 12, rfl, by decide, gwX3, rfl, Or.inl (zz_w 101 (by decide +kernel) (by decide +kernel))⟩
theorem fl_X3_25 : zz_FL RX3 25 3 4 := ⟨RX3, TX3, 12, rfl, by decide, gwX3, rfl, Or.inl (zz_w 104 (by decide +kernel) (by decide +kernel))⟩
theorem fl_X3_28 : zz_FL RX3 28 3 5 := ⟨RX3, TX3, 12, rfl, by decide, gwX3, rfl, Or.inl (zz_w 106 (by decide +kernel) (by decide +kernel))⟩
theorem fl_X3_31 : zz_FL RX3 31 3 6 := ⟨RX3, TX3, 12, rfl, by decide, gwX3, rfl, Or.inl (zz_w 109 (by decide +kernel) (by decide +kernel))⟩
theorem fl_X3_34 : zz_FL RX3 34 3 7 := ⟨RX3, TX3, 12, rfl, by decide, gwX3, rfl, Or.inl (zz_w 111 (by decide +kernel) (by decide +kernel))⟩
theorem fl_X3_37 : zz_FL RX3 37 3 8 := ⟨RX3, TX3, 12, rfl, by decide, gwX3, rfl, Or.inl (zz_w 113 (by decide +kernel) (by decide +kernel))⟩
theorem fl_X3_40 : zz_FL RX3 40 3 9 := ⟨RX3, TX3, 12, rfl, by decide, gwX3, rfl, Or.inl (zz_w 116 (by decide +kernel) (by decide +kernel))⟩
theorem fl_X3_43 : zz_FL RX3 43 3 10 := ⟨RX3, TX3, 12, rfl, by decide, gwX3, rfl, Or.inl (zz_w 119 (by decide +kernel) (by decide +kernel))⟩
theorem fl_X3_46 : zz_FL RX3 46 3 11 := ⟨RX3, TX3, 12, rfl, by decide, gwX3, rfl, Or.inl (zz_w 122 (by decide +kernel) (by decide +kernel))⟩
theorem fl_X4_10 : zz_FL RX4 10 4 0 := ⟨RX4, TX4, 6, rfl, by decide, gwX4, rfl, Or.inl (zz_w 199 (by decide +kernel) (by decide +kernel))⟩
theorem fl_X4_16 : zz_FL RX4 16 4 1 := ⟨RX4, TX4, 6, rfl, by decide, gwX4, rfl, Or.inl (zz_w 200 (by decide +kernel) (by decide +kernel))⟩
theorem fl_X4_19 : zz_FL RX4 19 4 2 := ⟨RX4, TX4, 6, rfl, by decide, gwX4, rfl, Or.inl (zz_w 201 (by decide +kernel) (by decide +kernel))⟩
theorem fl_X4_26 : zz_FL RX4 26 4 3 := ⟨RX4, TX4, 6, rfl, by decide, gwX4, rfl, Or.inl (zz_w 202 (by decide +kernel) (by decide +kernel))⟩
theorem fl_X4_33 : zz_FL RX4 33 4 4 := ⟨RX4, TX4, 6, rfl, by decide, gwX4, rfl, Or.inl (zz_w 203 (by decide +kernel) (by decide +kernel))⟩
theorem fl_X4_40 : zz_FL RX4 40 4 5 := ⟨RX4, TX4, 6, rfl, by decide, gwX4, rfl, Or.inl (zz_w 204 (by decide +kernel) (by decide +kernel))⟩
theorem fl_X4_48 : zz_FL RX4 48 3 0 := ⟨RX3, TX3, 12, rfl, by decide, gwX3, rfl, Or.inr ⟨"ShotBook", zz_wF 93 (by decide +kernel)⟩⟩
theorem fl_X4_60 : zz_FL RX4 60 3 1 := ⟨RX3, TX3, 12, rfl, by decide, gwX3, rfl, Or.inr ⟨"ShotBook", zz_wF 97 (by decide +kernel)⟩⟩
theorem fl_X4_64 : zz_FL RX4 64 3 2 := ⟨RX3, TX3, 12, rfl, by decide, gwX3, rfl, Or.inr ⟨"ShotBook", zz_wF 100 (by decide +kernel)⟩⟩
theorem fl_X4_74 : zz_FL RX4 74 3 4 := ⟨RX3, TX3, 12, rfl, by decide, gwX3, rfl, Or.inr ⟨"ShotBook", zz_wF 105 (by decide +kernel)⟩⟩
theorem fl_X4_84 : zz_FL RX4 84 3 7 := ⟨RX3, TX3, 12, rfl, by decide, gwX3, rfl, Or.inr ⟨"ShotBook", zz_wF 112 (by decide +kernel)⟩⟩
theorem fl_X4_87 : zz_FL RX4 87 3 8 := ⟨RX3, TX3, 12, rfl, by decide, gwX3, rfl, Or.inr ⟨"ShotBook", zz_wF 115 (by decide +kernel)⟩⟩
theorem fl_X4_110 : zz_FL RX4 110 3 3 := ⟨RX3, TX3, 12, rfl, by decide, gwX3, rfl, Or.inr ⟨"ShotBook", zz_wF 103 (by decide +kernel)⟩⟩
theorem fl_X4_116 : zz_FL RX4 116 3 9 := ⟨RX3, TX3, 12, rfl, by decide, gwX3, rfl, Or.inr ⟨"ShotBook", zz_wF 118 (by decide +kernel)⟩⟩
theorem fl_X4_119 : zz_FL RX4 119 3 10 := ⟨RX3, TX3, 12, rfl, by decide, gwX3, rfl, Or.inr ⟨"ShotBook", zz_wF 121 (by decide +kernel)⟩⟩
theorem fl_X4_128 : zz_FL RX4 128 3 5 := ⟨RX3, TX3, 12, rfl, by decide, gwX3, rfl, Or.inr ⟨"ShotBook", zz_wF 108 (by decide +kernel)⟩⟩
theorem fl_X4_131 : zz_FL RX4 131 3 6 := ⟨RX3, TX3, 12, rfl, by decide, gwX3, rfl, Or.inr ⟨"ShotBook", zz_wF 110 (by decide +kernel)⟩⟩
theorem fl_X4_150 : zz_FL RX4 150 0 0 := ⟨RX0, TX0, 4, rfl, by decide, gwX0, rfl, Or.inr ⟨"ShotBook", zz_wF 156 (by decide +kernel)⟩⟩
theorem fl_X4_153 : zz_FL RX4 153 0 1 := ⟨RX0, TX0, 4, rfl, by decide, gwX0, rfl, Or.inr ⟨"ShotBook", zz_wF 158 (by decide +kernel)⟩⟩
theorem fl_X4_166 : zz_FL RX4 166 2 0 := ⟨RX2, TX2, 3, rfl, by decide, gwX2, rfl, Or.inr ⟨"ShotBook", zz_wF 177 (by decide +kernel)⟩⟩
theorem fl_X4_169 : zz_FL RX4 169 2 1 := ⟨RX2, TX2, 3, rfl, by decide, gwX2, rfl, Or.inr ⟨"ShotBook", zz_wF 179 (by decide +kernel)⟩⟩
theorem fl_X4_175 : zz_FL RX4 175 2 2 := ⟨RX2, TX2, 3, rfl, by decide, gwX2, rfl, Or.inr ⟨"ShotBook", zz_wF 181 (by decide +kernel)⟩⟩
theorem fl_X5_7 : zz_FL RX5 7 5 1 := ⟨RX5, TX5, 27, rfl, by decide, gwX5, rfl, Or.inl (zz_w 550 (by decide +kernel) (by decide +kernel))⟩
theorem fl_X5_13 : zz_FL RX5 13 5 2 := ⟨RX5, TX5, 27, rfl, by decide, gwX5, rfl, Or.inl (zz_w 551 (by decide +kernel) (by decide +kernel))⟩
theorem fl_X5_16 : zz_FL RX5 16 5 3 := ⟨RX5, TX5, 27, rfl, by decide, gwX5, rfl, Or.inl (zz_w 552 (by decide +kernel) (by decide +kernel))⟩
theorem fl_X5_19 : zz_FL RX5 19 5 5 := ⟨RX5, TX5, 27, rfl, by decide, gwX5, rfl, Or.inl (zz_w 554 (by decide +kernel) (by decide +kernel))⟩
theorem fl_X5_22 : zz_FL RX5 22 5 6 := ⟨RX5, TX5, 27, rfl, by decide, gwX5, rfl, Or.inl (zz_w 555 (by decide +kernel) (by decide +kernel))⟩
theorem fl_X5_25 : zz_FL RX5 25 5 7 := ⟨RX5, TX5, 27, rfl, by decide, gwX5, rfl, Or.inl (zz_w 556 (by decide +kernel) (by decide +kernel))⟩
theorem fl_X5_28 : zz_FL RX5 28 5 9 := ⟨RX5, TX5, 27, rfl, by decide, gwX5, rfl, Or.inl (zz_w 558 (by decide +kernel) (by decide +kernel))⟩
theorem fl_X5_31 : zz_FL RX5 31 5 10 := ⟨RX5, TX5, 27, rfl, by decide, gwX5, rfl, Or.inl (zz_w 559 (by decide +kernel) (by decide +kernel))⟩
theorem fl_X5_34 : zz_FL RX5 34 5 11 := ⟨RX5, TX5, 27, rfl, by decide, gwX5, rfl, Or.inl (zz_w 560 (by decide +kernel) (by decide +kernel))⟩
theorem fl_X5_37 : zz_FL RX5 37 5 13 := ⟨RX5, TX5, 27, rfl, by decide, gwX5, rfl, Or.inl (zz_w 562 (by decide +kernel) (by decide +kernel))⟩
theorem fl_X5_40 : zz_FL RX5 40 5 14 := ⟨RX5, TX5, 27, rfl, by decide, gwX5, rfl, Or.inl (zz_w 563 (by decide +kernel) (by decide +kernel))⟩
theorem fl_X5_43 : zz_FL RX5 43 5 15 := ⟨RX5, TX5, 27, rfl, by decide, gwX5, rfl, Or.inl (zz_w 564 (by decide +kernel) (by decide +kernel))⟩
theorem fl_X5_46 : zz_FL RX5 46 5 16 := ⟨RX5, TX5, 27, rfl, by decide, gwX5, rfl, Or.inl (zz_w 565 (by decide +kernel) (by decide +kernel))⟩
theorem fl_X5_49 : zz_FL RX5 49 5 17 := ⟨RX5, TX5, 27, rfl, by decide, gwX5, rfl, Or.inl (zz_w 566 (by decide +kernel) (by decide +kernel))⟩
theorem fl_X5_52 : zz_FL RX5 52 5 18 := ⟨RX5, TX5, 27, rfl, by decide, gwX5, rfl, Or.inl (zz_w 567 (by decide +kernel) (by decide +kernel))⟩
theorem fl_X5_55 : zz_FL RX5 55 5 23 := ⟨RX5, TX5, 27, rfl, by decide, gwX5, rfl, Or.inl (zz_w 572 (by decide +kernel) (by decide +kernel))⟩
theorem fl_X5_58 : zz_FL RX5 58 5 24 := ⟨RX5, TX5, 27, rfl, by decide, gwX5, rfl, Or.inl (zz_w 573 (by decide +kernel) (by decide +kernel))⟩
theorem fl_X5_61 : zz_FL RX5 61 5 26 := ⟨RX5, TX5, 27, rfl, by decide, gwX5, rfl, Or.inl (zz_w 575 (by decide +kernel) (by decide +kernel))⟩
theorem fl_X5_64 : zz_FL RX5 64 5 0 := ⟨RX5, TX5, 27, rfl, by decide, gwX5, rfl, Or.inl (zz_w 549 (by decide +kernel) (by decide +kernel))⟩
theorem fl_X5_72 : zz_FL RX5 72 5 4 := ⟨RX5, TX5, 27, rfl, by decide, gwX5, rfl, Or.inl (zz_w 553 (by decide +kernel) (by decide +kernel))⟩
theorem fl_X5_75 : zz_FL RX5 75 5 8 := ⟨RX5, TX5, 27, rfl, by decide, gwX5, rfl, Or.inl (zz_w 557 (by decide +kernel) (by decide +kernel))⟩
theorem fl_X5_117 : zz_FL RX5 117 5 19 := ⟨RX5, TX5, 27, rfl, by decide, gwX5, rfl, Or.inl (zz_w 568 (by decide +kernel) (by decide +kernel))⟩
theorem fl_X5_127 : zz_FL RX5 127 5 20 := ⟨RX5, TX5, 27, rfl, by decide, gwX5, rfl, Or.inl (zz_w 569 (by decide +kernel) (by decide +kernel))⟩
theorem fl_X5_130 : zz_FL RX5 130 5 21 := ⟨RX5, TX5, 27, rfl, by decide, gwX5, rfl, Or.inl (zz_w 570 (by decide +kernel) (by decide +kernel))⟩
theorem fl_X5_133 : zz_FL RX5 133 5 22 := ⟨RX5, TX5, 27, rfl, by decide, gwX5, rfl, Or.inl (zz_w 571 (by decide +kernel) (by decide +kernel))⟩
theorem fl_X5_143 : zz_FL RX5 143 5 25 := ⟨RX5, TX5, 27, rfl, by decide, gwX5, rfl, Or.inl (zz_w 574 (by decide +kernel) (by decide +kernel))⟩
theorem fl_X5_165 : zz_FL RX5 165 5 12 := ⟨RX5, TX5, 27, rfl, by decide, gwX5, rfl, Or.inl (zz_w 561 (by decide +kernel) (by decide +kernel))⟩
theorem fs_X0_0 : zz_FS 0 0 .int := ⟨RX0, TX0, 4, tyX0, rfl, tyX0_ok, nmX0, rfl, by decide +kernel⟩
theorem fs_X3_0 : zz_FS 3 0 .int := ⟨RX3, TX3, 12, tyX3, rfl, tyX3_ok, nmX3, rfl, by decide +kernel⟩
theorem fs_X3_4 : zz_FS 3 4 .int := ⟨RX3, TX3, 12, tyX3, rfl, tyX3_ok, nmX3, rfl, by decide +kernel⟩
theorem fs_X3_8 : zz_FS 3 8 .int := ⟨RX3, TX3, 12, tyX3, rfl, tyX3_ok, nmX3, rfl, by decide +kernel⟩
theorem fs_X4_2 : zz_FS 4 2 .boolean := ⟨RX4, TX4, 6, tyX4, rfl, tyX4_ok, nmX4, rfl, by decide +kernel⟩
theorem fs_X5_0 : zz_FS 5 0 .int := ⟨RX5, TX5, 27, tyX5, rfl, tyX5_ok, nmX5, rfl, by decide +kernel⟩
theorem fs_X5_4 : zz_FS 5 4 .int := ⟨RX5, TX5, 27, tyX5, rfl, tyX5_ok, nmX5, rfl, by decide +kernel⟩
theorem fs_X5_8 : zz_FS 5 8 .int := ⟨RX5, TX5, 27, tyX5, rfl, tyX5_ok, nmX5, rfl, by decide +kernel⟩
theorem fs_X5_12 : zz_FS 5 12 .boolean := ⟨RX5, TX5, 27, tyX5, rfl, tyX5_ok, nmX5, rfl, by decide +kernel⟩
theorem fs_X5_19 : zz_FS 5 19 .int := ⟨RX5, TX5, 27, tyX5, rfl, tyX5_ok, nmX5, rfl, by decide +kernel⟩
theorem fs_X5_20 : zz_FS 5 20 .int := ⟨RX5, TX5, 27, tyX5, rfl, tyX5_ok, nmX5, rfl, by decide +kernel⟩
theorem fs_X5_21 : zz_FS 5 21 .int := ⟨RX5, TX5, 27, tyX5, rfl, tyX5_ok, nmX5, rfl, by decide +kernel⟩
theorem fs_X5_22 : zz_FS 5 22 .int := ⟨RX5, TX5, 27, tyX5, rfl, tyX5_ok, nmX5, rfl, by decide +kernel⟩
theorem fs_X5_25 : zz_FS 5 25 .int := ⟨RX5, TX5, 27, tyX5, rfl, tyX5_ok, nmX5, rfl, by decide +kernel⟩
theorem ml_X0_25 : zz_MV RX0 25 yX0_reckonNoises cX0_reckonNoises 5 none 1 := ⟨Or.inl (zz_w 369 (by decide +kernel) (by decide +kernel)), zz_w 371 (by decide +kernel) (by decide +kernel), zz_w 19 (by decide +kernel) (by decide +kernel), zz_w 67 (by decide +kernel) (by decide +kernel), zz_w 372 (by decide +kernel) (by decide +kernel), by decide +kernel, by decide +kernel⟩
theorem ml_X0_32 : zz_MS RX0 32 yX0_tryFrom cX0_tryFrom 6 none 4 := ⟨Or.inl (zz_w 375 (by decide +kernel) (by decide +kernel)), zz_w 376 (by decide +kernel) (by decide +kernel), zz_w 67 (by decide +kernel) (by decide +kernel), zz_w 377 (by decide +kernel) (by decide +kernel), by decide +kernel, by decide +kernel⟩
theorem ml_X0_41 : zz_MV RX0 41 yX3_noiseOf cX3_noiseOf 5 (some .int) 2 := ⟨Or.inr ⟨"ShotBook", zz_wM 373 (by decide +kernel)⟩, zz_w 358 (by decide +kernel) (by decide +kernel), zz_w 17 (by decide +kernel) (by decide +kernel), zz_w 65 (by decide +kernel) (by decide +kernel), zz_w 359 (by decide +kernel) (by decide +kernel), by decide +kernel, by decide +kernel⟩
theorem ml_X0_60 : zz_MV RX0 60 yX0_noiseWithEarlier cX0_noiseWithEarlier 5 (some .int) 2 := ⟨Or.inl (zz_w 381 (by decide +kernel) (by decide +kernel)), zz_w 383 (by decide +kernel) (by decide +kernel), zz_w 20 (by decide +kernel) (by decide +kernel), zz_w 67 (by decide +kernel) (by decide +kernel), zz_w 384 (by decide +kernel) (by decide +kernel), by decide +kernel, by decide +kernel⟩
theorem ml_X1_21 : zz_MV RX1 21 yX3_chosenNoiseOf cX3_chosenNoiseOf 3 (some .int) 2 := ⟨Or.inr ⟨"ShotBook", zz_wM 494 (by decide +kernel)⟩, zz_w 407 (by decide +kernel) (by decide +kernel), zz_w 22 (by decide +kernel) (by decide +kernel), zz_w 65 (by decide +kernel) (by decide +kernel), zz_w 408 (by decide +kernel) (by decide +kernel), by decide +kernel, by decide +kernel⟩
theorem ml_X1_25 : zz_MS RX1 25 yJ6_bitCount_0f7a4 cJ6_bitCount_0f7a4 1 (some .int) 1 := ⟨Or.inl (zz_w 499 (by decide +kernel) (by decide +kernel)), zz_w 500 (by decide +kernel) (by decide +kernel), zz_w 73 (by decide +kernel) (by decide +kernel), zz_w 501 (by decide +kernel) (by decide +kernel), by decide +kernel, by decide +kernel⟩
theorem ml_X1_31 : zz_MV RX1 31 yX1_isPeaceful cX1_isPeaceful 3 (some .boolean) 1 := ⟨Or.inl (zz_w 505 (by decide +kernel) (by decide +kernel)), zz_w 507 (by decide +kernel) (by decide +kernel), zz_w 38 (by decide +kernel) (by decide +kernel), zz_w 69 (by decide +kernel) (by decide +kernel), zz_w 508 (by decide +kernel) (by decide +kernel), by decide +kernel, by decide +kernel⟩
theorem ml_X1_35 : zz_MS RX1 35 yX4_isIn cX4_isIn 2 (some .boolean) 2 := ⟨Or.inr ⟨"ShotBook", zz_wM 509 (by decide +kernel)⟩, zz_w 466 (by decide +kernel) (by decide +kernel), zz_w 64 (by decide +kernel) (by decide +kernel), zz_w 467 (by decide +kernel) (by decide +kernel), by decide +kernel, by decide +kernel⟩
theorem ml_X2_36 : zz_MV RX2 36 yX3_measureOf cX3_measureOf 3 (some .int) 2 := ⟨Or.inr ⟨"ShotBook", zz_wM 422 (by decide +kernel)⟩, zz_w 281 (by decide +kernel) (by decide +kernel), zz_w 7 (by decide +kernel) (by decide +kernel), zz_w 65 (by decide +kernel) (by decide +kernel), zz_w 282 (by decide +kernel) (by decide +kernel), by decide +kernel, by decide +kernel⟩
theorem ml_X2_39 : zz_MV RX2 39 yX2_narrowBy cX2_narrowBy 6 none 5 := ⟨Or.inl (zz_w 423 (by decide +kernel) (by decide +kernel)), zz_w 425 (by decide +kernel) (by decide +kernel), zz_w 25 (by decide +kernel) (by decide +kernel), zz_w 68 (by decide +kernel) (by decide +kernel), zz_w 426 (by decide +kernel) (by decide +kernel), by decide +kernel, by decide +kernel⟩
theorem ml_X2_49 : zz_MV RX2 49 yX2_keepWithin cX2_keepWithin 4 none 3 := ⟨Or.inl (zz_w 427 (by decide +kernel) (by decide +kernel)), zz_w 429 (by decide +kernel) (by decide +kernel), zz_w 26 (by decide +kernel) (by decide +kernel), zz_w 68 (by decide +kernel) (by decide +kernel), zz_w 430 (by decide +kernel) (by decide +kernel), by decide +kernel, by decide +kernel⟩
theorem ml_X2_53 : zz_MV RX2 53 yX3_orderOf cX3_orderOf 5 (some .int) 2 := ⟨Or.inr ⟨"ShotBook", zz_wM 435 (by decide +kernel)⟩, zz_w 330 (by decide +kernel) (by decide +kernel), zz_w 13 (by decide +kernel) (by decide +kernel), zz_w 65 (by decide +kernel) (by decide +kernel), zz_w 331 (by decide +kernel) (by decide +kernel), by decide +kernel, by decide +kernel⟩
theorem ml_X2_56 : zz_MV RX2 56 yX3_healedBetween cX3_healedBetween 4 (some .int) 3 := ⟨Or.inr ⟨"ShotBook", zz_wM 436 (by decide +kernel)⟩, zz_w 343 (by decide +kernel) (by decide +kernel), zz_w 15 (by decide +kernel) (by decide +kernel), zz_w 65 (by decide +kernel) (by decide +kernel), zz_w 344 (by decide +kernel) (by decide +kernel), by decide +kernel, by decide +kernel⟩
theorem ml_X2_60 : zz_MV RX2 60 yX2_narrowAfter cX2_narrowAfter 5 none 4 := ⟨Or.inl (zz_w 437 (by decide +kernel) (by decide +kernel)), zz_w 439 (by decide +kernel) (by decide +kernel), zz_w 27 (by decide +kernel) (by decide +kernel), zz_w 68 (by decide +kernel) (by decide +kernel), zz_w 440 (by decide +kernel) (by decide +kernel), by decide +kernel, by decide +kernel⟩
theorem ml_X2_64 : zz_MV RX2 64 yX2_narrowBefore cX2_narrowBefore 5 none 4 := ⟨Or.inl (zz_w 441 (by decide +kernel) (by decide +kernel)), zz_w 443 (by decide +kernel) (by decide +kernel), zz_w 28 (by decide +kernel) (by decide +kernel), zz_w 68 (by decide +kernel) (by decide +kernel), zz_w 444 (by decide +kernel) (by decide +kernel), by decide +kernel, by decide +kernel⟩
theorem ml_X2_70 : zz_MS RX2 70 yX4_isIn cX4_isIn 2 (some .boolean) 2 := ⟨Or.inr ⟨"ShotBook", zz_wM 465 (by decide +kernel)⟩, zz_w 466 (by decide +kernel) (by decide +kernel), zz_w 64 (by decide +kernel) (by decide +kernel), zz_w 467 (by decide +kernel) (by decide +kernel), by decide +kernel, by decide +kernel⟩
theorem ml_X2_74 : zz_MV RX2 74 yX2_find cX2_find 6 none 3 := ⟨Or.inl (zz_w 468 (by decide +kernel) (by decide +kernel)), zz_w 420 (by decide +kernel) (by decide +kernel), zz_w 24 (by decide +kernel) (by decide +kernel), zz_w 68 (by decide +kernel) (by decide +kernel), zz_w 421 (by decide +kernel) (by decide +kernel), by decide +kernel, by decide +kernel⟩
theorem ml_X2_78 : zz_MV RX2 78 yX2_sizeOf cX2_sizeOf 2 (some .int) 1 := ⟨Or.inl (zz_w 469 (by decide +kernel) (by decide +kernel)), zz_w 447 (by decide +kernel) (by decide +kernel), zz_w 29 (by decide +kernel) (by decide +kernel), zz_w 68 (by decide +kernel) (by decide +kernel), zz_w 448 (by decide +kernel) (by decide +kernel), by decide +kernel, by decide +kernel⟩
theorem ml_X2_82 : zz_MV RX2 82 yX2_fillDoublesRow cX2_fillDoublesRow 5 (some .int) 1 := ⟨Or.inl (zz_w 470 (by decide +kernel) (by decide +kernel)), zz_w 472 (by decide +kernel) (by decide +kernel), zz_w 33 (by decide +kernel) (by decide +kernel), zz_w 68 (by decide +kernel) (by decide +kernel), zz_w 473 (by decide +kernel) (by decide +kernel), by decide +kernel, by decide +kernel⟩
theorem ml_X2_85 : zz_MV RX2 85 yX2_leastHighOf cX2_leastHighOf 4 (some .int) 1 := ⟨Or.inl (zz_w 474 (by decide +kernel) (by decide +kernel)), zz_w 476 (by decide +kernel) (by decide +kernel), zz_w 34 (by decide +kernel) (by decide +kernel), zz_w 68 (by decide +kernel) (by decide +kernel), zz_w 477 (by decide +kernel) (by decide +kernel), by decide +kernel, by decide +kernel⟩
theorem ml_X2_88 : zz_MV RX2 88 yX2_withoutServed cX2_withoutServed 5 (some .int) 2 := ⟨Or.inl (zz_w 478 (by decide +kernel) (by decide +kernel)), zz_w 480 (by decide +kernel) (by decide +kernel), zz_w 35 (by decide +kernel) (by decide +kernel), zz_w 68 (by decide +kernel) (by decide +kernel), zz_w 481 (by decide +kernel) (by decide +kernel), by decide +kernel, by decide +kernel⟩
theorem ml_X3_49 : zz_MS RX3 49 yJ7_fill_53178 cJ7_fill_53178 4 none 2 := ⟨Or.inl (zz_w 88 (by decide +kernel) (by decide +kernel)), zz_w 89 (by decide +kernel) (by decide +kernel), zz_w 66 (by decide +kernel) (by decide +kernel), zz_w 90 (by decide +kernel) (by decide +kernel), by decide +kernel, by decide +kernel⟩
theorem ml_X3_61 : zz_MV RX3 61 yX3_measureOf cX3_measureOf 3 (some .int) 2 := ⟨Or.inl (zz_w 295 (by decide +kernel) (by decide +kernel)), zz_w 281 (by decide +kernel) (by decide +kernel), zz_w 7 (by decide +kernel) (by decide +kernel), zz_w 65 (by decide +kernel) (by decide +kernel), zz_w 282 (by decide +kernel) (by decide +kernel), by decide +kernel, by decide +kernel⟩
theorem ml_X3_65 : zz_MV RX3 65 yX3_setMeasure cX3_setMeasure 4 none 3 := ⟨Or.inl (zz_w 296 (by decide +kernel) (by decide +kernel)), zz_w 285 (by decide +kernel) (by decide +kernel), zz_w 8 (by decide +kernel) (by decide +kernel), zz_w 65 (by decide +kernel) (by decide +kernel), zz_w 286 (by decide +kernel) (by decide +kernel), by decide +kernel, by decide +kernel⟩
theorem ml_X3_69 : zz_MV RX3 69 yX3_orderOf cX3_orderOf 5 (some .int) 2 := ⟨Or.inl (zz_w 340 (by decide +kernel) (by decide +kernel)), zz_w 330 (by decide +kernel) (by decide +kernel), zz_w 13 (by decide +kernel) (by decide +kernel), zz_w 65 (by decide +kernel) (by decide +kernel), zz_w 331 (by decide +kernel) (by decide +kernel), by decide +kernel, by decide +kernel⟩
theorem ml_X3_72 : zz_MV RX3 72 yX3_healedBetween cX3_healedBetween 4 (some .int) 3 := ⟨Or.inl (zz_w 341 (by decide +kernel) (by decide +kernel)), zz_w 343 (by decide +kernel) (by decide +kernel), zz_w 15 (by decide +kernel) (by decide +kernel), zz_w 65 (by decide +kernel) (by decide +kernel), zz_w 344 (by decide +kernel) (by decide +kernel), by decide +kernel, by decide +kernel⟩
theorem ml_X3_76 : zz_MV RX3 76 yX3_breaksLaw cX3_breaksLaw 5 (some .boolean) 4 := ⟨Or.inl (zz_w 345 (by decide +kernel) (by decide +kernel)), zz_w 347 (by decide +kernel) (by decide +kernel), zz_w 16 (by decide +kernel) (by decide +kernel), zz_w 65 (by decide +kernel) (by decide +kernel), zz_w 348 (by decide +kernel) (by decide +kernel), by decide +kernel, by decide +kernel⟩
theorem ml_X3_85 : zz_MV RX3 85 yX3_doClash cX3_doClash 8 (some .boolean) 3 := ⟨Or.inl (zz_w 360 (by decide +kernel) (by decide +kernel)), zz_w 338 (by decide +kernel) (by decide +kernel), zz_w 14 (by decide +kernel) (by decide +kernel), zz_w 65 (by decide +kernel) (by decide +kernel), zz_w 339 (by decide +kernel) (by decide +kernel), by decide +kernel, by decide +kernel⟩
theorem ml_X3_89 : zz_MV RX3 89 yX3_noiseOf cX3_noiseOf 5 (some .int) 2 := ⟨Or.inl (zz_w 413 (by decide +kernel) (by decide +kernel)), zz_w 358 (by decide +kernel) (by decide +kernel), zz_w 17 (by decide +kernel) (by decide +kernel), zz_w 65 (by decide +kernel) (by decide +kernel), zz_w 359 (by decide +kernel) (by decide +kernel), by decide +kernel, by decide +kernel⟩
theorem ml_X3_92 : zz_MV RX3 92 yX3_chosenNoiseOf cX3_chosenNoiseOf 3 (some .int) 2 := ⟨Or.inl (zz_w 405 (by decide +kernel) (by decide +kernel)), zz_w 407 (by decide +kernel) (by decide +kernel), zz_w 22 (by decide +kernel) (by decide +kernel), zz_w 65 (by decide +kernel) (by decide +kernel), zz_w 408 (by decide +kernel) (by decide +kernel), by decide +kernel, by decide +kernel⟩
theorem ml_X3_95 : zz_MV RX3 95 yX3_areBothChosen cX3_areBothChosen 3 (some .boolean) 2 := ⟨Or.inl (zz_w 409 (by decide +kernel) (by decide +kernel)), zz_w 411 (by decide +kernel) (by decide +kernel), zz_w 23 (by decide +kernel) (by decide +kernel), zz_w 65 (by decide +kernel) (by decide +kernel), zz_w 412 (by decide +kernel) (by decide +kernel), by decide +kernel, by decide +kernel⟩
theorem ml_X4_44 : zz_MS RX4 44 yX4_isDayAndPlace cX4_isDayAndPlace 2 (some .boolean) 2 := ⟨Or.inl (zz_w 222 (by decide +kernel) (by decide +kernel)), zz_w 223 (by decide +kernel) (by decide +kernel), zz_w 64 (by decide +kernel) (by decide +kernel), zz_w 224 (by decide +kernel) (by decide +kernel), by decide +kernel, by decide +kernel⟩
theorem ml_X4_52 : zz_MV RX4 52 yX3_addScene cX3_addScene 4 (some .int) 2 := ⟨Or.inr ⟨"ShotBook", zz_wM 228 (by decide +kernel)⟩, zz_w 230 (by decide +kernel) (by decide +kernel), zz_w 0 (by decide +kernel) (by decide +kernel), zz_w 65 (by decide +kernel) (by decide +kernel), zz_w 231 (by decide +kernel) (by decide +kernel), by decide +kernel, by decide +kernel⟩
theorem ml_X4_56 : zz_MV RX4 56 yX3_isScene cX3_isScene 2 (some .boolean) 1 := ⟨Or.inr ⟨"ShotBook", zz_wM 236 (by decide +kernel)⟩, zz_w 238 (by decide +kernel) (by decide +kernel), zz_w 1 (by decide +kernel) (by decide +kernel), zz_w 65 (by decide +kernel) (by decide +kernel), zz_w 239 (by decide +kernel) (by decide +kernel), by decide +kernel, by decide +kernel⟩
theorem ml_X4_67 : zz_MS RX4 67 yX4_isLawWithRate cX4_isLawWithRate 2 (some .boolean) 2 := ⟨Or.inl (zz_w 244 (by decide +kernel) (by decide +kernel)), zz_w 245 (by decide +kernel) (by decide +kernel), zz_w 64 (by decide +kernel) (by decide +kernel), zz_w 246 (by decide +kernel) (by decide +kernel), by decide +kernel, by decide +kernel⟩
theorem ml_X4_70 : zz_MS RX4 70 yX4_isBetween cX4_isBetween 3 (some .boolean) 3 := ⟨Or.inl (zz_w 225 (by decide +kernel) (by decide +kernel)), zz_w 226 (by decide +kernel) (by decide +kernel), zz_w 64 (by decide +kernel) (by decide +kernel), zz_w 227 (by decide +kernel) (by decide +kernel), by decide +kernel, by decide +kernel⟩
theorem ml_X4_77 : zz_MV RX4 77 yX3_addThing cX3_addThing 5 (some .int) 3 := ⟨Or.inr ⟨"ShotBook", zz_wM 247 (by decide +kernel)⟩, zz_w 249 (by decide +kernel) (by decide +kernel), zz_w 2 (by decide +kernel) (by decide +kernel), zz_w 65 (by decide +kernel) (by decide +kernel), zz_w 250 (by decide +kernel) (by decide +kernel), by decide +kernel, by decide +kernel⟩
theorem ml_X4_81 : zz_MV RX4 81 yX3_isThing cX3_isThing 2 (some .boolean) 1 := ⟨Or.inr ⟨"ShotBook", zz_wM 255 (by decide +kernel)⟩, zz_w 257 (by decide +kernel) (by decide +kernel), zz_w 3 (by decide +kernel) (by decide +kernel), zz_w 65 (by decide +kernel) (by decide +kernel), zz_w 258 (by decide +kernel) (by decide +kernel), by decide +kernel, by decide +kernel⟩
theorem ml_X4_90 : zz_MV RX4 90 yX3_countTakesOf cX3_countTakesOf 4 (some .int) 1 := ⟨Or.inr ⟨"ShotBook", zz_wM 263 (by decide +kernel)⟩, zz_w 265 (by decide +kernel) (by decide +kernel), zz_w 4 (by decide +kernel) (by decide +kernel), zz_w 65 (by decide +kernel) (by decide +kernel), zz_w 266 (by decide +kernel) (by decide +kernel), by decide +kernel, by decide +kernel⟩
theorem ml_X4_94 : zz_MV RX4 94 yX3_addTake cX3_addTake 4 (some .int) 2 := ⟨Or.inr ⟨"ShotBook", zz_wM 267 (by decide +kernel)⟩, zz_w 269 (by decide +kernel) (by decide +kernel), zz_w 5 (by decide +kernel) (by decide +kernel), zz_w 65 (by decide +kernel) (by decide +kernel), zz_w 270 (by decide +kernel) (by decide +kernel), by decide +kernel, by decide +kernel⟩
theorem ml_X4_97 : zz_MV RX4 97 yX3_isTake cX3_isTake 2 (some .boolean) 1 := ⟨Or.inr ⟨"ShotBook", zz_wM 275 (by decide +kernel)⟩, zz_w 277 (by decide +kernel) (by decide +kernel), zz_w 6 (by decide +kernel) (by decide +kernel), zz_w 65 (by decide +kernel) (by decide +kernel), zz_w 278 (by decide +kernel) (by decide +kernel), by decide +kernel, by decide +kernel⟩
theorem ml_X4_100 : zz_MV RX4 100 yX3_measureOf cX3_measureOf 3 (some .int) 2 := ⟨Or.inr ⟨"ShotBook", zz_wM 279 (by decide +kernel)⟩, zz_w 281 (by decide +kernel) (by decide +kernel), zz_w 7 (by decide +kernel) (by decide +kernel), zz_w 65 (by decide +kernel) (by decide +kernel), zz_w 282 (by decide +kernel) (by decide +kernel), by decide +kernel, by decide +kernel⟩
theorem ml_X4_103 : zz_MV RX4 103 yX3_setMeasure cX3_setMeasure 4 none 3 := ⟨Or.inr ⟨"ShotBook", zz_wM 283 (by decide +kernel)⟩, zz_w 285 (by decide +kernel) (by decide +kernel), zz_w 8 (by decide +kernel) (by decide +kernel), zz_w 65 (by decide +kernel) (by decide +kernel), zz_w 286 (by decide +kernel) (by decide +kernel), by decide +kernel, by decide +kernel⟩
theorem ml_X4_107 : zz_MV RX4 107 yX3_copyMeasures cX3_copyMeasures 6 (some .int) 2 := ⟨Or.inr ⟨"ShotBook", zz_wM 291 (by decide +kernel)⟩, zz_w 293 (by decide +kernel) (by decide +kernel), zz_w 9 (by decide +kernel) (by decide +kernel), zz_w 65 (by decide +kernel) (by decide +kernel), zz_w 294 (by decide +kernel) (by decide +kernel), by decide +kernel, by decide +kernel⟩
theorem ml_X4_113 : zz_MS RX4 113 yX4_orNone cX4_orNone 1 (some .int) 1 := ⟨Or.inl (zz_w 301 (by decide +kernel) (by decide +kernel)), zz_w 302 (by decide +kernel) (by decide +kernel), zz_w 64 (by decide +kernel) (by decide +kernel), zz_w 303 (by decide +kernel) (by decide +kernel), by decide +kernel, by decide +kernel⟩
theorem ml_X4_122 : zz_MV RX4 122 yX3_countThingsShownBy cX3_countThingsShownBy 4 (some .int) 1 := ⟨Or.inr ⟨"ShotBook", zz_wM 308 (by decide +kernel)⟩, zz_w 310 (by decide +kernel) (by decide +kernel), zz_w 10 (by decide +kernel) (by decide +kernel), zz_w 65 (by decide +kernel) (by decide +kernel), zz_w 311 (by decide +kernel) (by decide +kernel), by decide +kernel, by decide +kernel⟩
theorem ml_X4_125 : zz_MV RX4 125 yX4_measureAsked cX4_measureAsked 4 (some .int) 2 := ⟨Or.inl (zz_w 312 (by decide +kernel) (by decide +kernel)), zz_w 314 (by decide +kernel) (by decide +kernel), zz_w 11 (by decide +kernel) (by decide +kernel), zz_w 64 (by decide +kernel) (by decide +kernel), zz_w 315 (by decide +kernel) (by decide +kernel), by decide +kernel, by decide +kernel⟩
theorem ml_X4_134 : zz_MV RX4 134 yX3_countTakesThatShow cX3_countTakesThatShow 4 (some .int) 1 := ⟨Or.inr ⟨"ShotBook", zz_wM 320 (by decide +kernel)⟩, zz_w 322 (by decide +kernel) (by decide +kernel), zz_w 12 (by decide +kernel) (by decide +kernel), zz_w 65 (by decide +kernel) (by decide +kernel), zz_w 323 (by decide +kernel) (by decide +kernel), by decide +kernel, by decide +kernel⟩
theorem ml_X4_137 : zz_MV RX4 137 yX3_orderOf cX3_orderOf 5 (some .int) 2 := ⟨Or.inr ⟨"ShotBook", zz_wM 328 (by decide +kernel)⟩, zz_w 330 (by decide +kernel) (by decide +kernel), zz_w 13 (by decide +kernel) (by decide +kernel), zz_w 65 (by decide +kernel) (by decide +kernel), zz_w 331 (by decide +kernel) (by decide +kernel), by decide +kernel, by decide +kernel⟩
theorem ml_X4_140 : zz_MV RX4 140 yX3_doClash cX3_doClash 8 (some .boolean) 3 := ⟨Or.inr ⟨"ShotBook", zz_wM 336 (by decide +kernel)⟩, zz_w 338 (by decide +kernel) (by decide +kernel), zz_w 14 (by decide +kernel) (by decide +kernel), zz_w 65 (by decide +kernel) (by decide +kernel), zz_w 339 (by decide +kernel) (by decide +kernel), by decide +kernel, by decide +kernel⟩
theorem ml_X4_143 : zz_MV RX4 143 yX3_noiseOf cX3_noiseOf 5 (some .int) 2 := ⟨Or.inr ⟨"ShotBook", zz_wM 356 (by decide +kernel)⟩, zz_w 358 (by decide +kernel) (by decide +kernel), zz_w 17 (by decide +kernel) (by decide +kernel), zz_w 65 (by decide +kernel) (by decide +kernel), zz_w 359 (by decide +kernel) (by decide +kernel), by decide +kernel, by decide +kernel⟩
theorem ml_X4_146 : zz_MV RX4 146 yX0_find cX0_find 2 none 1 := ⟨Or.inr ⟨"ShotBook", zz_wM 365 (by decide +kernel)⟩, zz_w 367 (by decide +kernel) (by decide +kernel), zz_w 18 (by decide +kernel) (by decide +kernel), zz_w 67 (by decide +kernel) (by decide +kernel), zz_w 368 (by decide +kernel) (by decide +kernel), by decide +kernel, by decide +kernel⟩
theorem ml_X4_156 : zz_MV RX4 156 yX3_costOfChosen cX3_costOfChosen 4 (some .int) 0 := ⟨Or.inr ⟨"ShotBook", zz_wM 401 (by decide +kernel)⟩, zz_w 403 (by decide +kernel) (by decide +kernel), zz_w 21 (by decide +kernel) (by decide +kernel), zz_w 65 (by decide +kernel) (by decide +kernel), zz_w 404 (by decide +kernel) (by decide +kernel), by decide +kernel, by decide +kernel⟩
theorem ml_X4_160 : zz_MV RX4 160 yX2_find cX2_find 6 none 3 := ⟨Or.inr ⟨"ShotBook", zz_wM 418 (by decide +kernel)⟩, zz_w 420 (by decide +kernel) (by decide +kernel), zz_w 24 (by decide +kernel) (by decide +kernel), zz_w 68 (by decide +kernel) (by decide +kernel), zz_w 421 (by decide +kernel) (by decide +kernel), by decide +kernel, by decide +kernel⟩
theorem ml_X4_163 : zz_MV RX4 163 yX2_sizeOf cX2_sizeOf 2 (some .int) 1 := ⟨Or.inr ⟨"ShotBook", zz_wM 445 (by decide +kernel)⟩, zz_w 447 (by decide +kernel) (by decide +kernel), zz_w 29 (by decide +kernel) (by decide +kernel), zz_w 68 (by decide +kernel) (by decide +kernel), zz_w 448 (by decide +kernel) (by decide +kernel), by decide +kernel, by decide +kernel⟩
theorem ml_X4_172 : zz_MV RX4 172 yX4_doublesOrRefusal cX4_doublesOrRefusal 3 (some .int) 2 := ⟨Or.inl (zz_w 453 (by decide +kernel) (by decide +kernel)), zz_w 455 (by decide +kernel) (by decide +kernel), zz_w 30 (by decide +kernel) (by decide +kernel), zz_w 64 (by decide +kernel) (by decide +kernel), zz_w 456 (by decide +kernel) (by decide +kernel), by decide +kernel, by decide +kernel⟩
theorem ml_X4_178 : zz_MV RX4 178 yX1_find cX1_find 4 none 1 := ⟨Or.inr ⟨"ShotBook", zz_wM 490 (by decide +kernel)⟩, zz_w 492 (by decide +kernel) (by decide +kernel), zz_w 36 (by decide +kernel) (by decide +kernel), zz_w 69 (by decide +kernel) (by decide +kernel), zz_w 493 (by decide +kernel) (by decide +kernel), by decide +kernel, by decide +kernel⟩
theorem ml_X4_179 : zz_MV RX4 179 yX1_leastReshoots cX1_leastReshoots 5 (some .int) 1 := ⟨Or.inr ⟨"ShotBook", zz_wM 495 (by decide +kernel)⟩, zz_w 497 (by decide +kernel) (by decide +kernel), zz_w 37 (by decide +kernel) (by decide +kernel), zz_w 69 (by decide +kernel) (by decide +kernel), zz_w 498 (by decide +kernel) (by decide +kernel), by decide +kernel, by decide +kernel⟩
theorem ml_X4_182 : zz_MV RX4 182 yX3_countChosenClashesBy cX3_countChosenClashesBy 5 (some .int) 1 := ⟨Or.inr ⟨"ShotBook", zz_wM 514 (by decide +kernel)⟩, zz_w 516 (by decide +kernel) (by decide +kernel), zz_w 39 (by decide +kernel) (by decide +kernel), zz_w 65 (by decide +kernel) (by decide +kernel), zz_w 517 (by decide +kernel) (by decide +kernel), by decide +kernel, by decide +kernel⟩
theorem ml_X4_185 : zz_MV RX4 185 yX3_countScenesWithChosen cX3_countScenesWithChosen 3 (some .int) 0 := ⟨Or.inr ⟨"ShotBook", zz_wM 522 (by decide +kernel)⟩, zz_w 524 (by decide +kernel) (by decide +kernel), zz_w 40 (by decide +kernel) (by decide +kernel), zz_w 65 (by decide +kernel) (by decide +kernel), zz_w 525 (by decide +kernel) (by decide +kernel), by decide +kernel, by decide +kernel⟩
theorem ml_X4_188 : zz_MV RX4 188 yX3_countNoisyPairs cX3_countNoisyPairs 4 (some .int) 0 := ⟨Or.inr ⟨"ShotBook", zz_wM 526 (by decide +kernel)⟩, zz_w 528 (by decide +kernel) (by decide +kernel), zz_w 41 (by decide +kernel) (by decide +kernel), zz_w 65 (by decide +kernel) (by decide +kernel), zz_w 529 (by decide +kernel) (by decide +kernel), by decide +kernel, by decide +kernel⟩
theorem ml_X4_191 : zz_MV RX4 191 yX3_becomeLike cX3_becomeLike 2 none 1 := ⟨Or.inr ⟨"ShotBook", zz_wM 534 (by decide +kernel)⟩, zz_w 536 (by decide +kernel) (by decide +kernel), zz_w 42 (by decide +kernel) (by decide +kernel), zz_w 65 (by decide +kernel) (by decide +kernel), zz_w 537 (by decide +kernel) (by decide +kernel), by decide +kernel, by decide +kernel⟩
theorem ml_X4_194 : zz_MV RX4 194 yX3_isSetOfScenes cX3_isSetOfScenes 2 (some .boolean) 1 := ⟨Or.inr ⟨"ShotBook", zz_wM 457 (by decide +kernel)⟩, zz_w 459 (by decide +kernel) (by decide +kernel), zz_w 31 (by decide +kernel) (by decide +kernel), zz_w 65 (by decide +kernel) (by decide +kernel), zz_w 460 (by decide +kernel) (by decide +kernel), by decide +kernel, by decide +kernel⟩
theorem ml_X4_197 : zz_MV RX4 197 yX2_findDoubles cX2_findDoubles 5 (some .int) 3 := ⟨Or.inr ⟨"ShotBook", zz_wM 461 (by decide +kernel)⟩, zz_w 463 (by decide +kernel) (by decide +kernel), zz_w 32 (by decide +kernel) (by decide +kernel), zz_w 68 (by decide +kernel) (by decide +kernel), zz_w 464 (by decide +kernel) (by decide +kernel), by decide +kernel, by decide +kernel⟩
theorem ml_X5_68 : zz_MS RX5 68 yX5_in cX5_in 3 (some .boolean) 3 := ⟨Or.inl (zz_w 635 (by decide +kernel) (by decide +kernel)), zz_w 636 (by decide +kernel) (by decide +kernel), zz_w 70 (by decide +kernel) (by decide +kernel), zz_w 637 (by decide +kernel) (by decide +kernel), by decide +kernel, by decide +kernel⟩
theorem ml_X5_78 : zz_MV RX5 78 yX5_isScene cX5_isScene 2 (some .boolean) 1 := ⟨Or.inl (zz_w 642 (by decide +kernel) (by decide +kernel)), zz_w 644 (by decide +kernel) (by decide +kernel), zz_w 43 (by decide +kernel) (by decide +kernel), zz_w 70 (by decide +kernel) (by decide +kernel), zz_w 645 (by decide +kernel) (by decide +kernel), by decide +kernel, by decide +kernel⟩
theorem ml_X5_82 : zz_MV RX5 82 yX5_isThing cX5_isThing 2 (some .boolean) 1 := ⟨Or.inl (zz_w 654 (by decide +kernel) (by decide +kernel)), zz_w 656 (by decide +kernel) (by decide +kernel), zz_w 44 (by decide +kernel) (by decide +kernel), zz_w 70 (by decide +kernel) (by decide +kernel), zz_w 657 (by decide +kernel) (by decide +kernel), by decide +kernel, by decide +kernel⟩
theorem ml_X5_85 : zz_MV RX5 85 yX5_takesOf cX5_takesOf 4 (some .int) 1 := ⟨Or.inl (zz_w 662 (by decide +kernel) (by decide +kernel)), zz_w 664 (by decide +kernel) (by decide +kernel), zz_w 45 (by decide +kernel) (by decide +kernel), zz_w 70 (by decide +kernel) (by decide +kernel), zz_w 665 (by decide +kernel) (by decide +kernel), by decide +kernel, by decide +kernel⟩
theorem ml_X5_89 : zz_MV RX5 89 yX5_isTake cX5_isTake 2 (some .boolean) 1 := ⟨Or.inl (zz_w 670 (by decide +kernel) (by decide +kernel)), zz_w 672 (by decide +kernel) (by decide +kernel), zz_w 46 (by decide +kernel) (by decide +kernel), zz_w 70 (by decide +kernel) (by decide +kernel), zz_w 673 (by decide +kernel) (by decide +kernel), by decide +kernel, by decide +kernel⟩
theorem ml_X5_92 : zz_MV RX5 92 yX5_isAhead cX5_isAhead 3 (some .boolean) 2 := ⟨Or.inl (zz_w 694 (by decide +kernel) (by decide +kernel)), zz_w 696 (by decide +kernel) (by decide +kernel), zz_w 47 (by decide +kernel) (by decide +kernel), zz_w 70 (by decide +kernel) (by decide +kernel), zz_w 697 (by decide +kernel) (by decide +kernel), by decide +kernel, by decide +kernel⟩
theorem ml_X5_96 : zz_MV RX5 96 yX5_breaks cX5_breaks 6 (some .boolean) 4 := ⟨Or.inl (zz_w 710 (by decide +kernel) (by decide +kernel)), zz_w 712 (by decide +kernel) (by decide +kernel), zz_w 50 (by decide +kernel) (by decide +kernel), zz_w 70 (by decide +kernel) (by decide +kernel), zz_w 713 (by decide +kernel) (by decide +kernel), by decide +kernel, by decide +kernel⟩
theorem ml_X5_100 : zz_MV RX5 100 yX5_quarrels cX5_quarrels 6 (some .boolean) 5 := ⟨Or.inl (zz_w 706 (by decide +kernel) (by decide +kernel)), zz_w 708 (by decide +kernel) (by decide +kernel), zz_w 49 (by decide +kernel) (by decide +kernel), zz_w 70 (by decide +kernel) (by decide +kernel), zz_w 709 (by decide +kernel) (by decide +kernel), by decide +kernel, by decide +kernel⟩
theorem ml_X5_104 : zz_MV RX5 104 yX5_doClash cX5_doClash 4 (some .boolean) 3 := ⟨Or.inl (zz_w 702 (by decide +kernel) (by decide +kernel)), zz_w 704 (by decide +kernel) (by decide +kernel), zz_w 48 (by decide +kernel) (by decide +kernel), zz_w 70 (by decide +kernel) (by decide +kernel), zz_w 705 (by decide +kernel) (by decide +kernel), by decide +kernel, by decide +kernel⟩
theorem ml_X5_107 : zz_MV RX5 107 yX5_noiseOf cX5_noiseOf 5 (some .int) 2 := ⟨Or.inl (zz_w 718 (by decide +kernel) (by decide +kernel)), zz_w 720 (by decide +kernel) (by decide +kernel), zz_w 51 (by decide +kernel) (by decide +kernel), zz_w 70 (by decide +kernel) (by decide +kernel), zz_w 721 (by decide +kernel) (by decide +kernel), by decide +kernel, by decide +kernel⟩
theorem ml_X5_111 : zz_MV RX5 111 yX5_findNoises cX5_findNoises 3 none 0 := ⟨Or.inl (zz_w 730 (by decide +kernel) (by decide +kernel)), zz_w 732 (by decide +kernel) (by decide +kernel), zz_w 53 (by decide +kernel) (by decide +kernel), zz_w 70 (by decide +kernel) (by decide +kernel), zz_w 733 (by decide +kernel) (by decide +kernel), by decide +kernel, by decide +kernel⟩
theorem ml_X5_114 : zz_MV RX5 114 yX5_nextTake cX5_nextTake 4 (some .int) 2 := ⟨Or.inl (zz_w 734 (by decide +kernel) (by decide +kernel)), zz_w 736 (by decide +kernel) (by decide +kernel), zz_w 54 (by decide +kernel) (by decide +kernel), zz_w 70 (by decide +kernel) (by decide +kernel), zz_w 737 (by decide +kernel) (by decide +kernel), by decide +kernel, by decide +kernel⟩
theorem ml_X5_120 : zz_MV RX5 120 yX5_costOf cX5_costOf 5 (some .int) 1 := ⟨Or.inl (zz_w 738 (by decide +kernel) (by decide +kernel)), zz_w 740 (by decide +kernel) (by decide +kernel), zz_w 55 (by decide +kernel) (by decide +kernel), zz_w 70 (by decide +kernel) (by decide +kernel), zz_w 741 (by decide +kernel) (by decide +kernel), by decide +kernel, by decide +kernel⟩
theorem ml_X5_124 : zz_MV RX5 124 yX5_findCut cX5_findCut 4 none 0 := ⟨Or.inl (zz_w 726 (by decide +kernel) (by decide +kernel)), zz_w 728 (by decide +kernel) (by decide +kernel), zz_w 52 (by decide +kernel) (by decide +kernel), zz_w 70 (by decide +kernel) (by decide +kernel), zz_w 729 (by decide +kernel) (by decide +kernel), by decide +kernel, by decide +kernel⟩
theorem ml_X5_136 : zz_MV RX5 136 yX5_maySee cX5_maySee 6 (some .boolean) 3 := ⟨Or.inl (zz_w 766 (by decide +kernel) (by decide +kernel)), zz_w 768 (by decide +kernel) (by decide +kernel), zz_w 57 (by decide +kernel) (by decide +kernel), zz_w 70 (by decide +kernel) (by decide +kernel), zz_w 769 (by decide +kernel) (by decide +kernel), by decide +kernel, by decide +kernel⟩
theorem ml_X5_139 : zz_MV RX5 139 yX5_findSpan cX5_findSpan 4 none 2 := ⟨Or.inl (zz_w 762 (by decide +kernel) (by decide +kernel)), zz_w 764 (by decide +kernel) (by decide +kernel), zz_w 56 (by decide +kernel) (by decide +kernel), zz_w 70 (by decide +kernel) (by decide +kernel), zz_w 765 (by decide +kernel) (by decide +kernel), by decide +kernel, by decide +kernel⟩
theorem ml_X5_146 : zz_MV RX5 146 yX5_isSet cX5_isSet 2 (some .boolean) 1 := ⟨Or.inl (zz_w 774 (by decide +kernel) (by decide +kernel)), zz_w 776 (by decide +kernel) (by decide +kernel), zz_w 58 (by decide +kernel) (by decide +kernel), zz_w 70 (by decide +kernel) (by decide +kernel), zz_w 777 (by decide +kernel) (by decide +kernel), by decide +kernel, by decide +kernel⟩
theorem ml_X5_149 : zz_MV RX5 149 yX5_findDoubles cX5_findDoubles 6 (some .boolean) 2 := ⟨Or.inl (zz_w 778 (by decide +kernel) (by decide +kernel)), zz_w 780 (by decide +kernel) (by decide +kernel), zz_w 59 (by decide +kernel) (by decide +kernel), zz_w 70 (by decide +kernel) (by decide +kernel), zz_w 781 (by decide +kernel) (by decide +kernel), by decide +kernel, by decide +kernel⟩
theorem ml_X5_152 : zz_MS RX5 152 yX5_manyOf cX5_manyOf 3 (some .int) 1 := ⟨Or.inl (zz_w 790 (by decide +kernel) (by decide +kernel)), zz_w 791 (by decide +kernel) (by decide +kernel), zz_w 70 (by decide +kernel) (by decide +kernel), zz_w 792 (by decide +kernel) (by decide +kernel), by decide +kernel, by decide +kernel⟩
theorem ml_X5_155 : zz_MV RX5 155 yX5_areQuiet cX5_areQuiet 6 (some .boolean) 1 := ⟨Or.inl (zz_w 793 (by decide +kernel) (by decide +kernel)), zz_w 795 (by decide +kernel) (by decide +kernel), zz_w 60 (by decide +kernel) (by decide +kernel), zz_w 70 (by decide +kernel) (by decide +kernel), zz_w 796 (by decide +kernel) (by decide +kernel), by decide +kernel, by decide +kernel⟩
theorem ml_X5_158 : zz_MV RX5 158 yX5_withChosen cX5_withChosen 3 (some .int) 0 := ⟨Or.inl (zz_w 805 (by decide +kernel) (by decide +kernel)), zz_w 807 (by decide +kernel) (by decide +kernel), zz_w 61 (by decide +kernel) (by decide +kernel), zz_w 70 (by decide +kernel) (by decide +kernel), zz_w 808 (by decide +kernel) (by decide +kernel), by decide +kernel, by decide +kernel⟩
theorem ml_X5_162 : zz_MV RX5 162 yX5_pairs cX5_pairs 4 (some .int) 0 := ⟨Or.inl (zz_w 809 (by decide +kernel) (by decide +kernel)), zz_w 811 (by decide +kernel) (by decide +kernel), zz_w 62 (by decide +kernel) (by decide +kernel), zz_w 70 (by decide +kernel) (by decide +kernel), zz_w 812 (by decide +kernel) (by decide +kernel), by decide +kernel, by decide +kernel⟩
theorem ml_X5_169 : zz_MS RX5 169 yX5_copy cX5_copy 6 none 5 := ⟨Or.inl (zz_w 817 (by decide +kernel) (by decide +kernel)), zz_w 818 (by decide +kernel) (by decide +kernel), zz_w 70 (by decide +kernel) (by decide +kernel), zz_w 819 (by decide +kernel) (by decide +kernel), by decide +kernel, by decide +kernel⟩
theorem mx_X2_21 : Cond.methodLink RX2 21 Lib.Math.max.name ∈ zz_gW ∧ Cond.static Lib.Math.max.name ∈ zz_gW ∧ Cond.initialized "java/lang/Math" ∈ zz_gW ∧ Cond.code Lib.Math.max.name Lib.Math.max.code 2 (some .int) ∈ zz_gW := ⟨zz_w 431 (by decide +kernel) (by decide +kernel), zz_w 350 (by decide +kernel) (by decide +kernel), zz_w 71 (by decide +kernel) (by decide +kernel), zz_w 351 (by decide +kernel) (by decide +kernel)⟩
theorem mx_X2_67 : Cond.methodLink RX2 67 Lib.Math.min.name ∈ zz_gW ∧ Cond.static Lib.Math.min.name ∈ zz_gW ∧ Cond.initialized "java/lang/Math" ∈ zz_gW ∧ Cond.code Lib.Math.min.name Lib.Math.min.code 2 (some .int) ∈ zz_gW := ⟨zz_w 432 (by decide +kernel) (by decide +kernel), zz_w 433 (by decide +kernel) (by decide +kernel), zz_w 71 (by decide +kernel) (by decide +kernel), zz_w 434 (by decide +kernel) (by decide +kernel)⟩
theorem mx_X3_80 : Cond.methodLink RX3 80 Lib.Math.max.name ∈ zz_gW ∧ Cond.static Lib.Math.max.name ∈ zz_gW ∧ Cond.initialized "java/lang/Math" ∈ zz_gW ∧ Cond.code Lib.Math.max.name Lib.Math.max.code 2 (some .int) ∈ zz_gW := ⟨zz_w 349 (by decide +kernel) (by decide +kernel), zz_w 350 (by decide +kernel) (by decide +kernel), zz_w 71 (by decide +kernel) (by decide +kernel), zz_w 351 (by decide +kernel) (by decide +kernel)⟩
theorem cp_X0_48 : Cond.methodLink RX0 48 arraycopyName ∈ zz_gW ∧ Cond.native arraycopyName ∈ zz_gW ∧ Cond.static arraycopyName ∈ zz_gW ∧ Cond.initialized "java/lang/System" ∈ zz_gW := ⟨zz_w 378 (by decide +kernel) (by decide +kernel), zz_w 380 (by decide +kernel) (by decide +kernel), zz_w 379 (by decide +kernel) (by decide +kernel), zz_w 72 (by decide +kernel) (by decide +kernel)⟩
theorem cp_X3_55 : Cond.methodLink RX3 55 arraycopyName ∈ zz_gW ∧ Cond.native arraycopyName ∈ zz_gW ∧ Cond.static arraycopyName ∈ zz_gW ∧ Cond.initialized "java/lang/System" ∈ zz_gW := ⟨zz_w 538 (by decide +kernel) (by decide +kernel), zz_w 380 (by decide +kernel) (by decide +kernel), zz_w 379 (by decide +kernel) (by decide +kernel), zz_w 72 (by decide +kernel) (by decide +kernel)⟩
