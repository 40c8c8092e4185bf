theorem aw_I : Cond.arrayClass .int ∈ tblG := tG 159 (by decide +kernel) rfl
theorem aw_L : Cond.arrayClass .long ∈ tblG := tG 160 (by decide +kernel) rfl
theorem oi_1 : Cond.instanceMethod Lib.objectInit ∈ tblG := tG 110 (by decide +kernel) rfl
theorem oi_2 : Cond.code Lib.objectInit ⟨#[0xb1]⟩ 1 none ∈ tblG := tG 111 (by decide +kernel) rfl
theorem lk_X1_3 : LK "SlipCovers$Code" 3 Lib.objectInit := tG 124 (by decide +kernel) rfl
theorem ff_1_4 : FGp 1 4 true := ⟨_, _, _, rfl, rfl⟩
theorem fd_1_4 : ∃ (C : String) (T : u_T) (N : Nat), vwCl[1]? = some (C, T, N) ∧ (T 4).1 = "SlipCovers$Code" := ⟨_, _, _, rfl, rfl⟩
theorem ff_1_5 : FGp 1 5 true := ⟨_, _, _, rfl, rfl⟩
theorem fd_1_5 : ∃ (C : String) (T : u_T) (N : Nat), vwCl[1]? = some (C, T, N) ∧ (T 5).1 = "SlipCovers$Code" := ⟨_, _, _, rfl, rfl⟩
theorem ff_1_6 : FGp 1 6 true := ⟨_, _, _, rfl, rfl⟩
theorem fd_1_6 : ∃ (C : String) (T : u_T) (N : Nat), vwCl[1]? = some (C, T, N) ∧ (T 6).1 = "SlipCovers$Code" := ⟨_, _, _, rfl, rfl⟩
theorem lk_X0_3 : LK "SlipCovers$Balls" 3 Lib.objectInit := tG 265 (by decide +kernel) rfl
theorem ff_0_2 : FGp 0 2 true := ⟨_, _, _, rfl, rfl⟩
theorem fd_0_2 : ∃ (C : String) (T : u_T) (N : Nat), vwCl[0]? = some (C, T, N) ∧ (T 2).1 = "SlipCovers$Balls" := ⟨_, _, _, rfl, rfl⟩
theorem ff_0_3 : FGp 0 3 true := ⟨_, _, _, rfl, rfl⟩
theorem fd_0_3 : ∃ (C : String) (T : u_T) (N : Nat), vwCl[0]? = some (C, T, N) ∧ (T 3).1 = "SlipCovers$Balls" := ⟨_, _, _, rfl, rfl⟩
theorem lk_X3_3 : LK "SlipCovers$Ground" 3 Lib.objectInit := tG 231 (by decide +kernel) rfl
theorem ff_3_3 : FGp 3 3 true := ⟨_, _, _, rfl, rfl⟩
theorem fd_3_3 : ∃ (C : String) (T : u_T) (N : Nat), vwCl[3]? = some (C, T, N) ∧ (T 3).1 = "SlipCovers$Ground" := ⟨_, _, _, rfl, rfl⟩
theorem ff_3_4 : FGp 3 4 true := ⟨_, _, _, rfl, rfl⟩
theorem fd_3_4 : ∃ (C : String) (T : u_T) (N : Nat), vwCl[3]? = some (C, T, N) ∧ (T 4).1 = "SlipCovers$Ground" := ⟨_, _, _, rfl, rfl⟩
theorem ff_3_5 : FGp 3 5 true := ⟨_, _, _, rfl, rfl⟩
theorem fd_3_5 : ∃ (C : String) (T : u_T) (N : Nat), vwCl[3]? = some (C, T, N) ∧ (T 5).1 = "SlipCovers$Ground" := ⟨_, _, _, rfl, rfl⟩
theorem nw_X4_9 : NW "SlipCovers$History" 9 1 := ⟨_, TX1, 7, tyX1, rfl, rfl, inG_1, tyX1_ok, tG 210 (by decide +kernel) rfl, tG 120 (by decide +kernel) rfl, tG 84 (by decide +kernel) rfl, by decide +kernel⟩
theorem lk_X4_21 : LN "SlipCovers$History" 21 yX1_init := ⟨"SlipCovers", tN 211 (by decide +kernel) rfl⟩
theorem cb_X1_init : CB_ yX1_init cX1_init 1 none 0 := ⟨by decide +kernel, rfl, tG 123 (by decide +kernel) rfl, tG 84 (by decide +kernel) rfl⟩
theorem im_X1_init : Cond.instanceMethod yX1_init ∈ tblG := tG 122 (by decide +kernel) rfl
theorem lk_X4_3 : LK "SlipCovers$History" 3 Lib.objectInit := tG 209 (by decide +kernel) rfl
theorem cl_X4_9 : Cond.classLink "SlipCovers$History" 9 "SlipCovers$Code" ∈ tblG := tG 210 (by decide +kernel) rfl
theorem ff_4_0 : FGp 4 0 true := ⟨_, _, _, rfl, rfl⟩
theorem fd_4_0 : ∃ (C : String) (T : u_T) (N : Nat), vwCl[4]? = some (C, T, N) ∧ (T 0).1 = "SlipCovers$History" := ⟨_, _, _, rfl, rfl⟩
theorem ff_4_1 : FGp 4 1 true := ⟨_, _, _, rfl, rfl⟩
theorem fd_4_1 : ∃ (C : String) (T : u_T) (N : Nat), vwCl[4]? = some (C, T, N) ∧ (T 1).1 = "SlipCovers$History" := ⟨_, _, _, rfl, rfl⟩
theorem nw_X5_15 : NW "SlipCovers$Reader" 15 1 := ⟨_, TX1, 7, tyX1, rfl, rfl, inG_1, tyX1_ok, tG 118 (by decide +kernel) rfl, tG 120 (by decide +kernel) rfl, tG 84 (by decide +kernel) rfl, by decide +kernel⟩
theorem lk_X5_27 : LN "SlipCovers$Reader" 27 yX1_init := ⟨"SlipCovers", tN 121 (by decide +kernel) rfl⟩
theorem lk_X5_3 : LK "SlipCovers$Reader" 3 Lib.objectInit := tG 117 (by decide +kernel) rfl
theorem ff_5_0 : FGp 5 0 true := ⟨_, _, _, rfl, rfl⟩
theorem fd_5_0 : ∃ (C : String) (T : u_T) (N : Nat), vwCl[5]? = some (C, T, N) ∧ (T 0).1 = "SlipCovers$Reader" := ⟨_, _, _, rfl, rfl⟩
theorem cl_X5_15 : Cond.classLink "SlipCovers$Reader" 15 "SlipCovers$Code" ∈ tblG := tG 118 (by decide +kernel) rfl
theorem ff_5_8 : FGp 5 8 true := ⟨_, _, _, rfl, rfl⟩
theorem fd_5_8 : ∃ (C : String) (T : u_T) (N : Nat), vwCl[5]? = some (C, T, N) ∧ (T 8).1 = "SlipCovers$Reader" := ⟨_, _, _, rfl, rfl⟩
theorem ff_5_9 : FGp 5 9 true := ⟨_, _, _, rfl, rfl⟩
theorem fd_5_9 : ∃ (C : String) (T : u_T) (N : Nat), vwCl[5]? = some (C, T, N) ∧ (T 9).1 = "SlipCovers$Reader" := ⟨_, _, _, rfl, rfl⟩
theorem ff_5_10 : FGp 5 10 true := ⟨_, _, _, rfl, rfl⟩
theorem fd_5_10 : ∃ (C : String) (T : u_T) (N : Nat), vwCl[5]? = some (C, T, N) ∧ (T 10).1 = "SlipCovers$Reader" := ⟨_, _, _, rfl, rfl⟩
theorem lk_X6_3 : LK "SlipCovers$Search" 3 Lib.objectInit := tG 259 (by decide +kernel) rfl
theorem nw_X6_9 : NW "SlipCovers$Search" 9 0 := ⟨_, TX0, 4, tyX0, rfl, rfl, inG_0, tyX0_ok, tG 260 (by decide +kernel) rfl, tG 261 (by decide +kernel) rfl, tG 88 (by decide +kernel) rfl, by decide +kernel⟩
theorem lk_X6_11 : LN "SlipCovers$Search" 11 yX0_init := ⟨"SlipCovers", tN 262 (by decide +kernel) rfl⟩
theorem cb_X0_init : CB_ yX0_init cX0_init 1 none 0 := ⟨by decide +kernel, rfl, tG 264 (by decide +kernel) rfl, tG 88 (by decide +kernel) rfl⟩
theorem im_X0_init : Cond.instanceMethod yX0_init ∈ tblG := tG 263 (by decide +kernel) rfl
theorem ff_6_0 : FGp 6 0 true := ⟨_, _, _, rfl, rfl⟩
theorem fd_6_0 : ∃ (C : String) (T : u_T) (N : Nat), vwCl[6]? = some (C, T, N) ∧ (T 0).1 = "SlipCovers$Search" := ⟨_, _, _, rfl, rfl⟩
theorem ff_6_1 : FGp 6 1 true := ⟨_, _, _, rfl, rfl⟩
theorem fd_6_1 : ∃ (C : String) (T : u_T) (N : Nat), vwCl[6]? = some (C, T, N) ∧ (T 1).1 = "SlipCovers$Search" := ⟨_, _, _, rfl, rfl⟩
theorem lk_X2_3 : LK "SlipCovers$Exchange" 3 Lib.objectInit := tG 310 (by decide +kernel) rfl
theorem nw_X2_9 : NW "SlipCovers$Exchange" 9 0 := ⟨_, TX0, 4, tyX0, rfl, rfl, inG_0, tyX0_ok, tG 311 (by decide +kernel) rfl, tG 261 (by decide +kernel) rfl, tG 88 (by decide +kernel) rfl, by decide +kernel⟩
theorem lk_X2_11 : LN "SlipCovers$Exchange" 11 yX0_init := ⟨"SlipCovers", tN 312 (by decide +kernel) rfl⟩
theorem ff_2_0 : FGp 2 0 true := ⟨_, _, _, rfl, rfl⟩
theorem fd_2_0 : ∃ (C : String) (T : u_T) (N : Nat), vwCl[2]? = some (C, T, N) ∧ (T 0).1 = "SlipCovers$Exchange" := ⟨_, _, _, rfl, rfl⟩
theorem nw_X7_16 : NW "SlipCovers" 16 1 := ⟨_, TX1, 7, tyX1, rfl, rfl, inG_1, tyX1_ok, tG 202 (by decide +kernel) rfl, tG 120 (by decide +kernel) rfl, tG 84 (by decide +kernel) rfl, by decide +kernel⟩
theorem lk_X7_22 : LN "SlipCovers" 22 yX1_init := ⟨"SlipCovers", tN 203 (by decide +kernel) rfl⟩
theorem lk_X7_1 : LK "SlipCovers" 1 Lib.objectInit := tG 109 (by decide +kernel) rfl
theorem nw_X7_7 : NW "SlipCovers" 7 5 := ⟨_, TX5, 12, tyX5, rfl, rfl, inG_5, tyX5_ok, tG 112 (by decide +kernel) rfl, tG 113 (by decide +kernel) rfl, tG 83 (by decide +kernel) rfl, by decide +kernel⟩
theorem lk_X7_9 : LK "SlipCovers" 9 yX5_init := tG 114 (by decide +kernel) rfl
theorem cb_X5_init : CB_ yX5_init cX5_init 2 none 0 := ⟨by decide +kernel, rfl, tG 116 (by decide +kernel) rfl, tG 83 (by decide +kernel) rfl⟩
theorem im_X5_init : Cond.instanceMethod yX5_init ∈ tblG := tG 115 (by decide +kernel) rfl
theorem ff_7_0 : FGp 7 0 true := ⟨_, _, _, rfl, rfl⟩
theorem fd_7_0 : ∃ (C : String) (T : u_T) (N : Nat), vwCl[7]? = some (C, T, N) ∧ (T 0).1 = "SlipCovers" := ⟨_, _, _, rfl, rfl⟩
theorem cl_X7_16 : Cond.classLink "SlipCovers" 16 "SlipCovers$Code" ∈ tblG := tG 202 (by decide +kernel) rfl
theorem ff_7_1 : FGp 7 1 true := ⟨_, _, _, rfl, rfl⟩
theorem fd_7_1 : ∃ (C : String) (T : u_T) (N : Nat), vwCl[7]? = some (C, T, N) ∧ (T 1).1 = "SlipCovers" := ⟨_, _, _, rfl, rfl⟩
theorem ff_7_2 : FGp 7 2 true := ⟨_, _, _, rfl, rfl⟩
theorem fd_7_2 : ∃ (C : String) (T : u_T) (N : Nat), vwCl[7]? = some (C, T, N) ∧ (T 2).1 = "SlipCovers" := ⟨_, _, _, rfl, rfl⟩
theorem nw_X7_27 : NW "SlipCovers" 27 4 := ⟨_, TX4, 4, tyX4, rfl, rfl, inG_4, tyX4_ok, tG 204 (by decide +kernel) rfl, tG 205 (by decide +kernel) rfl, tG 85 (by decide +kernel) rfl, by decide +kernel⟩
theorem lk_X7_29 : LK "SlipCovers" 29 yX4_init := tG 206 (by decide +kernel) rfl
theorem cb_X4_init : CB_ yX4_init cX4_init 2 none 0 := ⟨by decide +kernel, rfl, tG 208 (by decide +kernel) rfl, tG 85 (by decide +kernel) rfl⟩
theorem im_X4_init : Cond.instanceMethod yX4_init ∈ tblG := tG 207 (by decide +kernel) rfl
theorem ff_7_3 : FGp 7 3 true := ⟨_, _, _, rfl, rfl⟩
theorem fd_7_3 : ∃ (C : String) (T : u_T) (N : Nat), vwCl[7]? = some (C, T, N) ∧ (T 3).1 = "SlipCovers" := ⟨_, _, _, rfl, rfl⟩
theorem nw_X7_34 : NW "SlipCovers" 34 3 := ⟨_, TX3, 6, tyX3, rfl, rfl, inG_3, tyX3_ok, tG 226 (by decide +kernel) rfl, tG 227 (by decide +kernel) rfl, tG 86 (by decide +kernel) rfl, by decide +kernel⟩
theorem lk_X7_36 : LN "SlipCovers" 36 yX3_init := ⟨"SlipCovers", tN 228 (by decide +kernel) rfl⟩
theorem cb_X3_init : CB_ yX3_init cX3_init 1 none 0 := ⟨by decide +kernel, rfl, tG 230 (by decide +kernel) rfl, tG 86 (by decide +kernel) rfl⟩
theorem im_X3_init : Cond.instanceMethod yX3_init ∈ tblG := tG 229 (by decide +kernel) rfl
theorem ff_7_4 : FGp 7 4 true := ⟨_, _, _, rfl, rfl⟩
theorem fd_7_4 : ∃ (C : String) (T : u_T) (N : Nat), vwCl[7]? = some (C, T, N) ∧ (T 4).1 = "SlipCovers" := ⟨_, _, _, rfl, rfl⟩
theorem nw_X7_41 : NW "SlipCovers" 41 6 := ⟨_, TX6, 6, tyX6, rfl, rfl, inG_6, tyX6_ok, tG 254 (by decide +kernel) rfl, tG 255 (by decide +kernel) rfl, tG 87 (by decide +kernel) rfl, by decide +kernel⟩
theorem lk_X7_43 : LN "SlipCovers" 43 yX6_init := ⟨"SlipCovers", tN 256 (by decide +kernel) rfl⟩
theorem cb_X6_init : CB_ yX6_init cX6_init 1 none 0 := ⟨by decide +kernel, rfl, tG 258 (by decide +kernel) rfl, tG 87 (by decide +kernel) rfl⟩
theorem im_X6_init : Cond.instanceMethod yX6_init ∈ tblG := tG 257 (by decide +kernel) rfl
theorem ff_7_5 : FGp 7 5 true := ⟨_, _, _, rfl, rfl⟩
theorem fd_7_5 : ∃ (C : String) (T : u_T) (N : Nat), vwCl[7]? = some (C, T, N) ∧ (T 5).1 = "SlipCovers" := ⟨_, _, _, rfl, rfl⟩
theorem nw_X7_48 : NW "SlipCovers" 48 2 := ⟨_, TX2, 8, tyX2, rfl, rfl, inG_2, tyX2_ok, tG 305 (by decide +kernel) rfl, tG 306 (by decide +kernel) rfl, tG 89 (by decide +kernel) rfl, by decide +kernel⟩
theorem lk_X7_50 : LN "SlipCovers" 50 yX2_init := ⟨"SlipCovers", tN 307 (by decide +kernel) rfl⟩
theorem cb_X2_init : CB_ yX2_init cX2_init 1 none 0 := ⟨by decide +kernel, rfl, tG 309 (by decide +kernel) rfl, tG 89 (by decide +kernel) rfl⟩
theorem im_X2_init : Cond.instanceMethod yX2_init ∈ tblG := tG 308 (by decide +kernel) rfl
theorem ff_7_6 : FGp 7 6 true := ⟨_, _, _, rfl, rfl⟩
theorem fd_7_6 : ∃ (C : String) (T : u_T) (N : Nat), vwCl[7]? = some (C, T, N) ∧ (T 6).1 = "SlipCovers" := ⟨_, _, _, rfl, rfl⟩
theorem lk_X8_3 : LK "SlipCoversModel" 3 Lib.objectInit := tG 1154 (by decide +kernel) rfl
theorem ff_8_3 : FGp 8 3 true := ⟨_, _, _, rfl, rfl⟩
theorem fd_8_3 : ∃ (C : String) (T : u_T) (N : Nat), vwCl[8]? = some (C, T, N) ∧ (T 3).1 = "SlipCoversModel" := ⟨_, _, _, rfl, rfl⟩
theorem ff_8_13 : FGp 8 13 true := ⟨_, _, _, rfl, rfl⟩
theorem fd_8_13 : ∃ (C : String) (T : u_T) (N : Nat), vwCl[8]? = some (C, T, N) ∧ (T 13).1 = "SlipCoversModel" := ⟨_, _, _, rfl, rfl⟩
theorem ff_8_14 : FGp 8 14 true := ⟨_, _, _, rfl, rfl⟩
theorem fd_8_14 : ∃ (C : String) (T : u_T) (N : Nat), vwCl[8]? = some (C, T, N) ∧ (T 14).1 = "SlipCoversModel" := ⟨_, _, _, rfl, rfl⟩
theorem ff_8_15 : FGp 8 15 true := ⟨_, _, _, rfl, rfl⟩
theorem fd_8_15 : ∃ (C : String) (T : u_T) (N : Nat), vwCl[8]? = some (C, T, N) ∧ (T 15).1 = "SlipCoversModel" := ⟨_, _, _, rfl, rfl⟩
theorem ff_8_16 : FGp 8 16 true := ⟨_, _, _, rfl, rfl⟩
theorem fd_8_16 : ∃ (C : String) (T : u_T) (N : Nat), vwCl[8]? = some (C, T, N) ∧ (T 16).1 = "SlipCoversModel" := ⟨_, _, _, rfl, rfl⟩
theorem ff_8_20 : FGp 8 20 true := ⟨_, _, _, rfl, rfl⟩
theorem fd_8_20 : ∃ (C : String) (T : u_T) (N : Nat), vwCl[8]? = some (C, T, N) ∧ (T 20).1 = "SlipCoversModel" := ⟨_, _, _, rfl, rfl⟩
theorem ff_8_21 : FGp 8 21 true := ⟨_, _, _, rfl, rfl⟩
theorem fd_8_21 : ∃ (C : String) (T : u_T) (N : Nat), vwCl[8]? = some (C, T, N) ∧ (T 21).1 = "SlipCoversModel" := ⟨_, _, _, rfl, rfl⟩
theorem ff_8_22 : FGp 8 22 true := ⟨_, _, _, rfl, rfl⟩
theorem fd_8_22 : ∃ (C : String) (T : u_T) (N : Nat), vwCl[8]? = some (C, T, N) ∧ (T 22).1 = "SlipCoversModel" := ⟨_, _, _, rfl, rfl⟩
theorem ff_8_23 : FGp 8 23 true := ⟨_, _, _, rfl, rfl⟩
theorem fd_8_23 : ∃ (C : String) (T : u_T) (N : Nat), vwCl[8]? = some (C, T, N) ∧ (T 23).1 = "SlipCoversModel" := ⟨_, _, _, rfl, rfl⟩
theorem nw_L_8 : NW "SlipCoversLaw" 8 7 := ⟨_, TX7, 10, tyX7, rfl, rfl, inG_7, tyX7_ok, tG 104 (by decide +kernel) rfl, tG 105 (by decide +kernel) rfl, tG 82 (by decide +kernel) rfl, by decide +kernel⟩
theorem nw_L_16 : NW "SlipCoversLaw" 16 8 := ⟨_, TX8, 29, tyX8, rfl, rfl, inG_8, tyX8_ok, tG 1149 (by decide +kernel) rfl, tG 1150 (by decide +kernel) rfl, tG 90 (by decide +kernel) rfl, by decide +kernel⟩
theorem lk_L_15 : LK "SlipCoversLaw" 15 yX7_init := tG 106 (by decide +kernel) rfl
theorem lk_L_18 : LK "SlipCoversLaw" 18 yX8_init := tG 1151 (by decide +kernel) rfl
theorem cb_X7_init : CB_ yX7_init cX7_init 2 none 0 := ⟨by decide +kernel, rfl, tG 108 (by decide +kernel) rfl, tG 82 (by decide +kernel) rfl⟩
theorem im_X7_init : Cond.instanceMethod yX7_init ∈ tblG := tG 107 (by decide +kernel) rfl
theorem cb_X8_init : CB_ yX8_init cX8_init 1 none 0 := ⟨by decide +kernel, rfl, tG 1153 (by decide +kernel) rfl, tG 90 (by decide +kernel) rfl⟩
theorem im_X8_init : Cond.instanceMethod yX8_init ∈ tblG := tG 1152 (by decide +kernel) rfl
theorem kd_125 : kd 125 = (2, 1) := by decide +kernel
