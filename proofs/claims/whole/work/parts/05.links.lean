set_option maxRecDepth 100000 in
theorem lk_L_9 : Cond.methodLink RL 9 yX7_init ∈ gtb := gtb_of 59 (by decide +kernel) (by decide +kernel)
set_option maxRecDepth 100000 in
theorem lk_X7_3 : Cond.methodLink RX7 3 objectInit ∈ gtb := gtb_of 62 (by decide +kernel) (by decide +kernel)
set_option maxRecDepth 100000 in
theorem lk_X7_11 : Cond.methodLink RX7 11 yX5_init ∈ gtb := gtb_of 67 (by decide +kernel) (by decide +kernel)
set_option maxRecDepth 100000 in
theorem lk_X5_3 : Cond.methodLink RX5 3 objectInit ∈ gtb := gtb_of 70 (by decide +kernel) (by decide +kernel)
set_option maxRecDepth 100000 in
theorem lk_X5_34 : Cond.fieldLink RX5 34 (TX5 0).1 (TX5 0).2.1 (TX5 0).2.2.1 ∈ gtb := gtb_of 71 (by decide +kernel) (by decide +kernel)
set_option maxRecDepth 100000 in
theorem lk_X4_19 : Cond.fieldLink RX4 19 (TX5 0).1 (TX5 0).2.1 (TX5 0).2.2.1 ∈ gtb := gtb_of 72 (by decide +kernel) (by decide +kernel)
set_option maxRecDepth 100000 in
theorem lk_X6_50 : Cond.fieldLink RX6 50 (TX5 0).1 (TX5 0).2.1 (TX5 0).2.2.1 ∈ gtb := gtb_of 73 (by decide +kernel) (by decide +kernel)
set_option maxRecDepth 100000 in
theorem lk_X7_58 : Cond.fieldLink RX7 58 (TX5 0).1 (TX5 0).2.1 (TX5 0).2.2.1 ∈ gtb := gtb_of 74 (by decide +kernel) (by decide +kernel)
set_option maxRecDepth 100000 in
theorem lk_X3_158 : Cond.fieldLink RX3 158 (TX5 0).1 (TX5 0).2.1 (TX5 0).2.2.1 ∈ gtb := gtb_of 75 (by decide +kernel) (by decide +kernel)
set_option maxRecDepth 100000 in
theorem lk_X5_9 : Cond.fieldLink RX5 9 (TX5 1).1 (TX5 1).2.1 (TX5 1).2.2.1 ∈ gtb := gtb_of 76 (by decide +kernel) (by decide +kernel)
set_option maxRecDepth 100000 in
theorem lk_X4_34 : Cond.fieldLink RX4 34 (TX5 1).1 (TX5 1).2.1 (TX5 1).2.2.1 ∈ gtb := gtb_of 77 (by decide +kernel) (by decide +kernel)
set_option maxRecDepth 100000 in
theorem lk_X7_76 : Cond.fieldLink RX7 76 (TX5 1).1 (TX5 1).2.1 (TX5 1).2.2.1 ∈ gtb := gtb_of 78 (by decide +kernel) (by decide +kernel)
set_option maxRecDepth 100000 in
theorem lk_X5_15 : Cond.fieldLink RX5 15 (TX5 2).1 (TX5 2).2.1 (TX5 2).2.2.1 ∈ gtb := gtb_of 79 (by decide +kernel) (by decide +kernel)
set_option maxRecDepth 100000 in
theorem lk_X4_37 : Cond.fieldLink RX4 37 (TX5 2).1 (TX5 2).2.1 (TX5 2).2.2.1 ∈ gtb := gtb_of 80 (by decide +kernel) (by decide +kernel)
set_option maxRecDepth 100000 in
theorem lk_X6_73 : Cond.fieldLink RX6 73 (TX5 2).1 (TX5 2).2.1 (TX5 2).2.2.1 ∈ gtb := gtb_of 81 (by decide +kernel) (by decide +kernel)
set_option maxRecDepth 100000 in
theorem lk_X7_86 : Cond.fieldLink RX7 86 (TX5 2).1 (TX5 2).2.1 (TX5 2).2.2.1 ∈ gtb := gtb_of 82 (by decide +kernel) (by decide +kernel)
set_option maxRecDepth 100000 in
theorem lk_X5_18 : Cond.fieldLink RX5 18 (TX5 3).1 (TX5 3).2.1 (TX5 3).2.2.1 ∈ gtb := gtb_of 83 (by decide +kernel) (by decide +kernel)
set_option maxRecDepth 100000 in
theorem lk_X6_55 : Cond.fieldLink RX6 55 (TX5 3).1 (TX5 3).2.1 (TX5 3).2.2.1 ∈ gtb := gtb_of 84 (by decide +kernel) (by decide +kernel)
set_option maxRecDepth 100000 in
theorem lk_X4_27 : Cond.fieldLink RX4 27 (TX5 3).1 (TX5 3).2.1 (TX5 3).2.2.1 ∈ gtb := gtb_of 85 (by decide +kernel) (by decide +kernel)
set_option maxRecDepth 100000 in
theorem lk_X7_80 : Cond.fieldLink RX7 80 (TX5 3).1 (TX5 3).2.1 (TX5 3).2.2.1 ∈ gtb := gtb_of 86 (by decide +kernel) (by decide +kernel)
set_option maxRecDepth 100000 in
theorem lk_X5_21 : Cond.fieldLink RX5 21 (TX5 4).1 (TX5 4).2.1 (TX5 4).2.2.1 ∈ gtb := gtb_of 87 (by decide +kernel) (by decide +kernel)
set_option maxRecDepth 100000 in
theorem lk_X4_24 : Cond.fieldLink RX4 24 (TX5 4).1 (TX5 4).2.1 (TX5 4).2.2.1 ∈ gtb := gtb_of 88 (by decide +kernel) (by decide +kernel)
set_option maxRecDepth 100000 in
theorem lk_X6_58 : Cond.fieldLink RX6 58 (TX5 4).1 (TX5 4).2.1 (TX5 4).2.2.1 ∈ gtb := gtb_of 89 (by decide +kernel) (by decide +kernel)
set_option maxRecDepth 100000 in
theorem lk_X7_83 : Cond.fieldLink RX7 83 (TX5 4).1 (TX5 4).2.1 (TX5 4).2.2.1 ∈ gtb := gtb_of 90 (by decide +kernel) (by decide +kernel)
set_option maxRecDepth 100000 in
theorem lk_X5_24 : Cond.fieldLink RX5 24 (TX5 5).1 (TX5 5).2.1 (TX5 5).2.2.1 ∈ gtb := gtb_of 91 (by decide +kernel) (by decide +kernel)
set_option maxRecDepth 100000 in
theorem lk_X7_89 : Cond.fieldLink RX7 89 (TX5 5).1 (TX5 5).2.1 (TX5 5).2.2.1 ∈ gtb := gtb_of 92 (by decide +kernel) (by decide +kernel)
set_option maxRecDepth 100000 in
theorem lk_X5_28 : Cond.fieldLink RX5 28 (TX5 6).1 (TX5 6).2.1 (TX5 6).2.2.1 ∈ gtb := gtb_of 93 (by decide +kernel) (by decide +kernel)
set_option maxRecDepth 100000 in
theorem lk_X7_92 : Cond.fieldLink RX7 92 (TX5 6).1 (TX5 6).2.1 (TX5 6).2.2.1 ∈ gtb := gtb_of 94 (by decide +kernel) (by decide +kernel)
set_option maxRecDepth 100000 in
theorem lk_X5_31 : Cond.fieldLink RX5 31 (TX5 7).1 (TX5 7).2.1 (TX5 7).2.2.1 ∈ gtb := gtb_of 95 (by decide +kernel) (by decide +kernel)
set_option maxRecDepth 100000 in
theorem lk_X7_154 : Cond.fieldLink RX7 154 (TX5 7).1 (TX5 7).2.1 (TX5 7).2.2.1 ∈ gtb := gtb_of 96 (by decide +kernel) (by decide +kernel)
set_option maxRecDepth 100000 in
theorem lk_X4_3 : Cond.methodLink RX4 3 objectInit ∈ gtb := gtb_of 121 (by decide +kernel) (by decide +kernel)
set_option maxRecDepth 100000 in
theorem lk_X4_9 : Cond.fieldLink RX4 9 (TX4 0).1 (TX4 0).2.1 (TX4 0).2.2.1 ∈ gtb := gtb_of 122 (by decide +kernel) (by decide +kernel)
set_option maxRecDepth 100000 in
theorem lk_X7_102 : Cond.fieldLink RX7 102 (TX4 0).1 (TX4 0).2.1 (TX4 0).2.2.1 ∈ gtb := gtb_of 123 (by decide +kernel) (by decide +kernel)
set_option maxRecDepth 100000 in
theorem lk_X4_15 : Cond.fieldLink RX4 15 (TX4 1).1 (TX4 1).2.1 (TX4 1).2.2.1 ∈ gtb := gtb_of 124 (by decide +kernel) (by decide +kernel)
set_option maxRecDepth 100000 in
theorem lk_X7_170 : Cond.fieldLink RX7 170 (TX4 1).1 (TX4 1).2.1 (TX4 1).2.2.1 ∈ gtb := gtb_of 125 (by decide +kernel) (by decide +kernel)
set_option maxRecDepth 100000 in
theorem lk_X6_3 : Cond.methodLink RX6 3 objectInit ∈ gtb := gtb_of 136 (by decide +kernel) (by decide +kernel)
set_option maxRecDepth 100000 in
theorem lk_X6_9 : Cond.fieldLink RX6 9 (TX6 0).1 (TX6 0).2.1 (TX6 0).2.2.1 ∈ gtb := gtb_of 137 (by decide +kernel) (by decide +kernel)
set_option maxRecDepth 100000 in
theorem lk_X7_201 : Cond.fieldLink RX7 201 (TX6 0).1 (TX6 0).2.1 (TX6 0).2.2.1 ∈ gtb := gtb_of 138 (by decide +kernel) (by decide +kernel)
set_option maxRecDepth 100000 in
theorem lk_X6_15 : Cond.fieldLink RX6 15 (TX6 1).1 (TX6 1).2.1 (TX6 1).2.2.1 ∈ gtb := gtb_of 139 (by decide +kernel) (by decide +kernel)
set_option maxRecDepth 100000 in
theorem lk_X6_18 : Cond.fieldLink RX6 18 (TX6 2).1 (TX6 2).2.1 (TX6 2).2.2.1 ∈ gtb := gtb_of 140 (by decide +kernel) (by decide +kernel)
set_option maxRecDepth 100000 in
theorem lk_X6_21 : Cond.fieldLink RX6 21 (TX6 3).1 (TX6 3).2.1 (TX6 3).2.2.1 ∈ gtb := gtb_of 141 (by decide +kernel) (by decide +kernel)
set_option maxRecDepth 100000 in
theorem lk_X6_24 : Cond.fieldLink RX6 24 (TX6 4).1 (TX6 4).2.1 (TX6 4).2.2.1 ∈ gtb := gtb_of 142 (by decide +kernel) (by decide +kernel)
set_option maxRecDepth 100000 in
theorem lk_X6_27 : Cond.fieldLink RX6 27 (TX6 5).1 (TX6 5).2.1 (TX6 5).2.2.1 ∈ gtb := gtb_of 143 (by decide +kernel) (by decide +kernel)
set_option maxRecDepth 100000 in
theorem lk_X6_36 : Cond.fieldLink RX6 36 (TX6 6).1 (TX6 6).2.1 (TX6 6).2.2.1 ∈ gtb := gtb_of 144 (by decide +kernel) (by decide +kernel)
set_option maxRecDepth 100000 in
theorem lk_X6_40 : Cond.fieldLink RX6 40 (TX6 7).1 (TX6 7).2.1 (TX6 7).2.2.1 ∈ gtb := gtb_of 145 (by decide +kernel) (by decide +kernel)
set_option maxRecDepth 100000 in
theorem lk_X6_43 : Cond.fieldLink RX6 43 (TX6 8).1 (TX6 8).2.1 (TX6 8).2.2.1 ∈ gtb := gtb_of 146 (by decide +kernel) (by decide +kernel)
set_option maxRecDepth 100000 in
theorem lk_X6_46 : Cond.fieldLink RX6 46 (TX6 9).1 (TX6 9).2.1 (TX6 9).2.2.1 ∈ gtb := gtb_of 147 (by decide +kernel) (by decide +kernel)
set_option maxRecDepth 100000 in
theorem lk_X7_34 : Cond.methodLink RX7 34 yX6_measure ∈ gtb := gtb_of 169 (by decide +kernel) (by decide +kernel)
set_option maxRecDepth 100000 in
theorem lk_X6_103 : Cond.methodLink RX6 103 yX5_isFar ∈ gtb := gtb_of 173 (by decide +kernel) (by decide +kernel)
set_option maxRecDepth 100000 in
theorem lk_X5_43 : Cond.methodLink RX5 43 Lib.Math.abs.name ∈ gtb := gtb_of 177 (by decide +kernel) (by decide +kernel)
set_option maxRecDepth 100000 in
theorem lk_X7_40 : Cond.methodLink RX7 40 yX3_init ∈ gtb := gtb_of 182 (by decide +kernel) (by decide +kernel)
set_option maxRecDepth 100000 in
theorem lk_X3_3 : Cond.methodLink RX3 3 objectInit ∈ gtb := gtb_of 185 (by decide +kernel) (by decide +kernel)
set_option maxRecDepth 100000 in
theorem lk_X3_45 : Cond.methodLink RX3 45 yX1_init ∈ gtb := gtb_of 192 (by decide +kernel) (by decide +kernel)
set_option maxRecDepth 100000 in
theorem lk_X1_5 : Cond.methodLink RX1 5 objectInit ∈ gtb := gtb_of 195 (by decide +kernel) (by decide +kernel)
set_option maxRecDepth 100000 in
theorem lk_X1_27 : Cond.methodLink RX1 27 yJ7_fill_53178 ∈ gtb := gtb_of 196 (by decide +kernel) (by decide +kernel)
set_option maxRecDepth 100000 in
theorem lk_X1_21 : Cond.fieldLink RX1 21 (TX1 0).1 (TX1 0).2.1 (TX1 0).2.2.1 ∈ gtb := gtb_of 199 (by decide +kernel) (by decide +kernel)
set_option maxRecDepth 100000 in
theorem lk_X1_11 : Cond.fieldLink RX1 11 (TX1 1).1 (TX1 1).2.1 (TX1 1).2.2.1 ∈ gtb := gtb_of 200 (by decide +kernel) (by decide +kernel)
set_option maxRecDepth 100000 in
theorem lk_X1_15 : Cond.fieldLink RX1 15 (TX1 2).1 (TX1 2).2.1 (TX1 2).2.2.1 ∈ gtb := gtb_of 201 (by decide +kernel) (by decide +kernel)
set_option maxRecDepth 100000 in
theorem lk_X1_18 : Cond.fieldLink RX1 18 (TX1 3).1 (TX1 3).2.1 (TX1 3).2.2.1 ∈ gtb := gtb_of 202 (by decide +kernel) (by decide +kernel)
set_option maxRecDepth 100000 in
theorem lk_X1_37 : Cond.fieldLink RX1 37 (TX1 4).1 (TX1 4).2.1 (TX1 4).2.2.1 ∈ gtb := gtb_of 203 (by decide +kernel) (by decide +kernel)
set_option maxRecDepth 100000 in
theorem lk_X1_41 : Cond.fieldLink RX1 41 (TX1 5).1 (TX1 5).2.1 (TX1 5).2.2.1 ∈ gtb := gtb_of 204 (by decide +kernel) (by decide +kernel)
set_option maxRecDepth 100000 in
theorem lk_X1_66 : Cond.fieldLink RX1 66 (TX1 6).1 (TX1 6).2.1 (TX1 6).2.2.1 ∈ gtb := gtb_of 205 (by decide +kernel) (by decide +kernel)
set_option maxRecDepth 100000 in
theorem lk_X3_128 : Cond.fieldLink RX3 128 (TX1 6).1 (TX1 6).2.1 (TX1 6).2.2.1 ∈ gtb := gtb_of 206 (by decide +kernel) (by decide +kernel)
set_option maxRecDepth 100000 in
theorem lk_X2_3 : Cond.methodLink RX2 3 objectInit ∈ gtb := gtb_of 226 (by decide +kernel) (by decide +kernel)
set_option maxRecDepth 100000 in
theorem lk_X3_56 : Cond.fieldLink RX3 56 (TX2 0).1 (TX2 0).2.1 (TX2 0).2.2.1 ∈ gtb := gtb_of 227 (by decide +kernel) (by decide +kernel)
set_option maxRecDepth 100000 in
theorem lk_X3_140 : Cond.fieldLink RX3 140 (TX2 1).1 (TX2 1).2.1 (TX2 1).2.2.1 ∈ gtb := gtb_of 228 (by decide +kernel) (by decide +kernel)
set_option maxRecDepth 100000 in
theorem lk_X7_113 : Cond.fieldLink RX7 113 (TX2 1).1 (TX2 1).2.1 (TX2 1).2.2.1 ∈ gtb := gtb_of 229 (by decide +kernel) (by decide +kernel)
set_option maxRecDepth 100000 in
theorem lk_X3_143 : Cond.fieldLink RX3 143 (TX2 2).1 (TX2 2).2.1 (TX2 2).2.2.1 ∈ gtb := gtb_of 230 (by decide +kernel) (by decide +kernel)
set_option maxRecDepth 100000 in
theorem lk_X7_118 : Cond.fieldLink RX7 118 (TX2 2).1 (TX2 2).2.1 (TX2 2).2.2.1 ∈ gtb := gtb_of 231 (by decide +kernel) (by decide +kernel)
set_option maxRecDepth 100000 in
theorem lk_X3_146 : Cond.fieldLink RX3 146 (TX2 3).1 (TX2 3).2.1 (TX2 3).2.2.1 ∈ gtb := gtb_of 232 (by decide +kernel) (by decide +kernel)
set_option maxRecDepth 100000 in
theorem lk_X7_121 : Cond.fieldLink RX7 121 (TX2 3).1 (TX2 3).2.1 (TX2 3).2.2.1 ∈ gtb := gtb_of 233 (by decide +kernel) (by decide +kernel)
set_option maxRecDepth 100000 in
theorem lk_X2_9 : Cond.fieldLink RX2 9 (TX2 4).1 (TX2 4).2.1 (TX2 4).2.2.1 ∈ gtb := gtb_of 234 (by decide +kernel) (by decide +kernel)
set_option maxRecDepth 100000 in
theorem lk_X3_149 : Cond.fieldLink RX3 149 (TX2 4).1 (TX2 4).2.1 (TX2 4).2.2.1 ∈ gtb := gtb_of 235 (by decide +kernel) (by decide +kernel)
set_option maxRecDepth 100000 in
theorem lk_X7_128 : Cond.fieldLink RX7 128 (TX2 4).1 (TX2 4).2.1 (TX2 4).2.2.1 ∈ gtb := gtb_of 236 (by decide +kernel) (by decide +kernel)
set_option maxRecDepth 100000 in
theorem lk_X2_15 : Cond.fieldLink RX2 15 (TX2 5).1 (TX2 5).2.1 (TX2 5).2.2.1 ∈ gtb := gtb_of 237 (by decide +kernel) (by decide +kernel)
set_option maxRecDepth 100000 in
theorem lk_X3_151 : Cond.fieldLink RX3 151 (TX2 5).1 (TX2 5).2.1 (TX2 5).2.2.1 ∈ gtb := gtb_of 238 (by decide +kernel) (by decide +kernel)
set_option maxRecDepth 100000 in
theorem lk_X7_131 : Cond.fieldLink RX7 131 (TX2 5).1 (TX2 5).2.1 (TX2 5).2.2.1 ∈ gtb := gtb_of 239 (by decide +kernel) (by decide +kernel)
set_option maxRecDepth 100000 in
theorem lk_X3_53 : Cond.methodLink RX3 53 yX3_forget ∈ gtb := gtb_of 253 (by decide +kernel) (by decide +kernel)
set_option maxRecDepth 100000 in
theorem lk_X3_60 : Cond.methodLink RX3 60 yJ7_fill_53178 ∈ gtb := gtb_of 257 (by decide +kernel) (by decide +kernel)
set_option maxRecDepth 100000 in
theorem lk_X3_35 : Cond.fieldLink RX3 35 (TX3 0).1 (TX3 0).2.1 (TX3 0).2.2.1 ∈ gtb := gtb_of 258 (by decide +kernel) (by decide +kernel)
set_option maxRecDepth 100000 in
theorem lk_X3_39 : Cond.fieldLink RX3 39 (TX3 1).1 (TX3 1).2.1 (TX3 1).2.2.1 ∈ gtb := gtb_of 259 (by decide +kernel) (by decide +kernel)
set_option maxRecDepth 100000 in
theorem lk_X3_48 : Cond.fieldLink RX3 48 (TX3 2).1 (TX3 2).2.1 (TX3 2).2.2.1 ∈ gtb := gtb_of 260 (by decide +kernel) (by decide +kernel)
set_option maxRecDepth 100000 in
theorem lk_X3_11 : Cond.fieldLink RX3 11 (TX3 3).1 (TX3 3).2.1 (TX3 3).2.2.1 ∈ gtb := gtb_of 261 (by decide +kernel) (by decide +kernel)
set_option maxRecDepth 100000 in
theorem lk_X3_19 : Cond.fieldLink RX3 19 (TX3 4).1 (TX3 4).2.1 (TX3 4).2.2.1 ∈ gtb := gtb_of 262 (by decide +kernel) (by decide +kernel)
set_option maxRecDepth 100000 in
theorem lk_X3_22 : Cond.fieldLink RX3 22 (TX3 5).1 (TX3 5).2.1 (TX3 5).2.2.1 ∈ gtb := gtb_of 263 (by decide +kernel) (by decide +kernel)
set_option maxRecDepth 100000 in
theorem lk_X3_25 : Cond.fieldLink RX3 25 (TX3 6).1 (TX3 6).2.1 (TX3 6).2.2.1 ∈ gtb := gtb_of 264 (by decide +kernel) (by decide +kernel)
set_option maxRecDepth 100000 in
theorem lk_X3_29 : Cond.fieldLink RX3 29 (TX3 7).1 (TX3 7).2.1 (TX3 7).2.2.1 ∈ gtb := gtb_of 265 (by decide +kernel) (by decide +kernel)
set_option maxRecDepth 100000 in
theorem lk_X3_32 : Cond.fieldLink RX3 32 (TX3 8).1 (TX3 8).2.1 (TX3 8).2.2.1 ∈ gtb := gtb_of 266 (by decide +kernel) (by decide +kernel)
set_option maxRecDepth 100000 in
theorem lk_X3_88 : Cond.fieldLink RX3 88 (TX3 9).1 (TX3 9).2.1 (TX3 9).2.2.1 ∈ gtb := gtb_of 267 (by decide +kernel) (by decide +kernel)
set_option maxRecDepth 100000 in
theorem lk_X3_91 : Cond.fieldLink RX3 91 (TX3 10).1 (TX3 10).2.1 (TX3 10).2.2.1 ∈ gtb := gtb_of 268 (by decide +kernel) (by decide +kernel)
set_option maxRecDepth 100000 in
theorem lk_X3_66 : Cond.fieldLink RX3 66 (TX3 11).1 (TX3 11).2.1 (TX3 11).2.2.1 ∈ gtb := gtb_of 269 (by decide +kernel) (by decide +kernel)
set_option maxRecDepth 100000 in
theorem lk_X3_70 : Cond.fieldLink RX3 70 (TX3 12).1 (TX3 12).2.1 (TX3 12).2.2.1 ∈ gtb := gtb_of 270 (by decide +kernel) (by decide +kernel)
set_option maxRecDepth 100000 in
theorem lk_X3_79 : Cond.fieldLink RX3 79 (TX3 13).1 (TX3 13).2.1 (TX3 13).2.2.1 ∈ gtb := gtb_of 271 (by decide +kernel) (by decide +kernel)
set_option maxRecDepth 100000 in
theorem lk_X3_82 : Cond.fieldLink RX3 82 (TX3 14).1 (TX3 14).2.1 (TX3 14).2.2.1 ∈ gtb := gtb_of 272 (by decide +kernel) (by decide +kernel)
set_option maxRecDepth 100000 in
theorem lk_X3_131 : Cond.fieldLink RX3 131 (TX3 15).1 (TX3 15).2.1 (TX3 15).2.2.1 ∈ gtb := gtb_of 273 (by decide +kernel) (by decide +kernel)
set_option maxRecDepth 100000 in
theorem lk_X0_3 : Cond.methodLink RX0 3 objectInit ∈ gtb := gtb_of 312 (by decide +kernel) (by decide +kernel)
set_option maxRecDepth 100000 in
theorem lk_X0_9 : Cond.fieldLink RX0 9 (TX0 0).1 (TX0 0).2.1 (TX0 0).2.2.1 ∈ gtb := gtb_of 313 (by decide +kernel) (by decide +kernel)
set_option maxRecDepth 100000 in
theorem lk_X0_15 : Cond.fieldLink RX0 15 (TX0 1).1 (TX0 1).2.1 (TX0 1).2.2.1 ∈ gtb := gtb_of 314 (by decide +kernel) (by decide +kernel)
set_option maxRecDepth 100000 in
theorem lk_X0_19 : Cond.fieldLink RX0 19 (TX0 2).1 (TX0 2).2.1 (TX0 2).2.2.1 ∈ gtb := gtb_of 315 (by decide +kernel) (by decide +kernel)
set_option maxRecDepth 100000 in
theorem lk_X0_22 : Cond.fieldLink RX0 22 (TX0 3).1 (TX0 3).2.1 (TX0 3).2.2.1 ∈ gtb := gtb_of 316 (by decide +kernel) (by decide +kernel)
set_option maxRecDepth 100000 in
theorem lk_X0_31 : Cond.fieldLink RX0 31 (TX0 4).1 (TX0 4).2.1 (TX0 4).2.2.1 ∈ gtb := gtb_of 317 (by decide +kernel) (by decide +kernel)
set_option maxRecDepth 100000 in
theorem lk_X7_179 : Cond.fieldLink RX7 179 (TX0 4).1 (TX0 4).2.1 (TX0 4).2.2.1 ∈ gtb := gtb_of 318 (by decide +kernel) (by decide +kernel)
set_option maxRecDepth 100000 in
theorem lk_X0_39 : Cond.fieldLink RX0 39 (TX0 5).1 (TX0 5).2.1 (TX0 5).2.2.1 ∈ gtb := gtb_of 319 (by decide +kernel) (by decide +kernel)
set_option maxRecDepth 100000 in
theorem lk_X7_176 : Cond.fieldLink RX7 176 (TX0 5).1 (TX0 5).2.1 (TX0 5).2.2.1 ∈ gtb := gtb_of 320 (by decide +kernel) (by decide +kernel)
set_option maxRecDepth 100000 in
theorem lk_X7_12 : Cond.fieldLink RX7 12 (TX7 0).1 (TX7 0).2.1 (TX7 0).2.2.1 ∈ gtb := gtb_of 335 (by decide +kernel) (by decide +kernel)
set_option maxRecDepth 100000 in
theorem lk_X7_16 : Cond.fieldLink RX7 16 (TX7 1).1 (TX7 1).2.1 (TX7 1).2.2.1 ∈ gtb := gtb_of 336 (by decide +kernel) (by decide +kernel)
set_option maxRecDepth 100000 in
theorem lk_X7_192 : Cond.fieldLink RX7 192 (TX7 2).1 (TX7 2).2.1 (TX7 2).2.2.1 ∈ gtb := gtb_of 337 (by decide +kernel) (by decide +kernel)
set_option maxRecDepth 100000 in
theorem lk_X7_23 : Cond.fieldLink RX7 23 (TX7 3).1 (TX7 3).2.1 (TX7 3).2.2.1 ∈ gtb := gtb_of 338 (by decide +kernel) (by decide +kernel)
set_option maxRecDepth 100000 in
theorem lk_X7_30 : Cond.fieldLink RX7 30 (TX7 4).1 (TX7 4).2.1 (TX7 4).2.2.1 ∈ gtb := gtb_of 339 (by decide +kernel) (by decide +kernel)
set_option maxRecDepth 100000 in
theorem lk_X7_43 : Cond.fieldLink RX7 43 (TX7 5).1 (TX7 5).2.1 (TX7 5).2.2.1 ∈ gtb := gtb_of 340 (by decide +kernel) (by decide +kernel)
set_option maxRecDepth 100000 in
theorem lk_X7_50 : Cond.fieldLink RX7 50 (TX7 6).1 (TX7 6).2.1 (TX7 6).2.2.1 ∈ gtb := gtb_of 341 (by decide +kernel) (by decide +kernel)
set_option maxRecDepth 100000 in
theorem lk_L_13 : Cond.methodLink RL 13 yX7_put ∈ gtb := gtb_of 357 (by decide +kernel) (by decide +kernel)
set_option maxRecDepth 100000 in
theorem lk_X7_54 : Cond.methodLink RX7 54 yX7_isVariable ∈ gtb := gtb_of 361 (by decide +kernel) (by decide +kernel)
set_option maxRecDepth 100000 in
theorem lk_X7_62 : Cond.methodLink RX7 62 yX5_append ∈ gtb := gtb_of 364 (by decide +kernel) (by decide +kernel)
set_option maxRecDepth 100000 in
theorem lk_X7_66 : Cond.methodLink RX7 66 yX7_changed ∈ gtb := gtb_of 368 (by decide +kernel) (by decide +kernel)
set_option maxRecDepth 100000 in
theorem lk_X7_198 : Cond.methodLink RX7 198 yX3_forget ∈ gtb := gtb_of 372 (by decide +kernel) (by decide +kernel)
set_option maxRecDepth 100000 in
theorem lk_L_18 : Cond.methodLink RL 18 yX7_drop ∈ gtb := gtb_of 373 (by decide +kernel) (by decide +kernel)
set_option maxRecDepth 100000 in
theorem lk_X7_69 : Cond.methodLink RX7 69 yX5_has ∈ gtb := gtb_of 377 (by decide +kernel) (by decide +kernel)
set_option maxRecDepth 100000 in
theorem lk_X7_72 : Cond.methodLink RX7 72 yX5_remove ∈ gtb := gtb_of 381 (by decide +kernel) (by decide +kernel)
set_option maxRecDepth 100000 in
theorem lk_X5_37 : Cond.methodLink RX5 37 arraycopyName ∈ gtb := gtb_of 385 (by decide +kernel) (by decide +kernel)
set_option maxRecDepth 100000 in
theorem lk_L_23 : Cond.methodLink RL 23 yX7_cross ∈ gtb := gtb_of 388 (by decide +kernel) (by decide +kernel)
set_option maxRecDepth 100000 in
theorem lk_L_27 : Cond.methodLink RL 27 yX7_told ∈ gtb := gtb_of 392 (by decide +kernel) (by decide +kernel)
set_option maxRecDepth 100000 in
theorem lk_L_32 : Cond.methodLink RL 32 yX7_free ∈ gtb := gtb_of 396 (by decide +kernel) (by decide +kernel)
set_option maxRecDepth 100000 in
theorem lk_L_36 : Cond.methodLink RL 36 yX7_set ∈ gtb := gtb_of 400 (by decide +kernel) (by decide +kernel)
set_option maxRecDepth 100000 in
theorem lk_L_40 : Cond.methodLink RL 40 yX7_value ∈ gtb := gtb_of 404 (by decide +kernel) (by decide +kernel)
set_option maxRecDepth 100000 in
theorem lk_L_45 : Cond.methodLink RL 45 yX7_sight ∈ gtb := gtb_of 409 (by decide +kernel) (by decide +kernel)
set_option maxRecDepth 100000 in
theorem lk_X7_97 : Cond.methodLink RX7 97 yX4_look ∈ gtb := gtb_of 413 (by decide +kernel) (by decide +kernel)
set_option maxRecDepth 100000 in
theorem lk_X4_30 : Cond.methodLink RX4 30 yX4_add ∈ gtb := gtb_of 417 (by decide +kernel) (by decide +kernel)
set_option maxRecDepth 100000 in
theorem lk_X7_101 : Cond.methodLink RX7 101 yX4_has ∈ gtb := gtb_of 421 (by decide +kernel) (by decide +kernel)
set_option maxRecDepth 100000 in
theorem lk_L_49 : Cond.methodLink RL 49 yX7_plan ∈ gtb := gtb_of 425 (by decide +kernel) (by decide +kernel)
set_option maxRecDepth 100000 in
theorem lk_X7_105 : Cond.methodLink RX7 105 yX7_isPlan ∈ gtb := gtb_of 429 (by decide +kernel) (by decide +kernel)
set_option maxRecDepth 100000 in
theorem lk_X7_157 : Cond.methodLink RX7 157 yX7_isMode ∈ gtb := gtb_of 432 (by decide +kernel) (by decide +kernel)
set_option maxRecDepth 100000 in
theorem lk_X7_109 : Cond.methodLink RX7 109 yX3_planFor ∈ gtb := gtb_of 435 (by decide +kernel) (by decide +kernel)
set_option maxRecDepth 100000 in
theorem lk_X3_73 : Cond.methodLink RX3 73 yX5_turnable ∈ gtb := gtb_of 439 (by decide +kernel) (by decide +kernel)
set_option maxRecDepth 100000 in
theorem lk_X3_85 : Cond.methodLink RX3 85 yX3_listUsed ∈ gtb := gtb_of 443 (by decide +kernel) (by decide +kernel)
set_option maxRecDepth 100000 in
theorem lk_X3_102 : Cond.methodLink RX3 102 yX5_usedSet ∈ gtb := gtb_of 447 (by decide +kernel) (by decide +kernel)
set_option maxRecDepth 100000 in
theorem lk_X3_94 : Cond.methodLink RX3 94 yX3_divide ∈ gtb := gtb_of 451 (by decide +kernel) (by decide +kernel)
set_option maxRecDepth 100000 in
theorem lk_X3_105 : Cond.methodLink RX3 105 yX3_compare ∈ gtb := gtb_of 455 (by decide +kernel) (by decide +kernel)
set_option maxRecDepth 100000 in
theorem lk_X3_124 : Cond.methodLink RX3 124 yX1_leastBelow ∈ gtb := gtb_of 459 (by decide +kernel) (by decide +kernel)
set_option maxRecDepth 100000 in
theorem lk_X1_33 : Cond.methodLink RX1 33 yX6_trace ∈ gtb := gtb_of 463 (by decide +kernel) (by decide +kernel)
set_option maxRecDepth 100000 in
theorem lk_X6_30 : Cond.methodLink RX6 30 yJ7_fill_53178 ∈ gtb := gtb_of 467 (by decide +kernel) (by decide +kernel)
set_option maxRecDepth 100000 in
theorem lk_X6_61 : Cond.methodLink RX6 61 yX6_has ∈ gtb := gtb_of 468 (by decide +kernel) (by decide +kernel)
set_option maxRecDepth 100000 in
theorem lk_X6_65 : Cond.methodLink RX6 65 yX6_fork ∈ gtb := gtb_of 472 (by decide +kernel) (by decide +kernel)
set_option maxRecDepth 100000 in
theorem lk_X6_96 : Cond.methodLink RX6 96 yX6_addFork ∈ gtb := gtb_of 476 (by decide +kernel) (by decide +kernel)
set_option maxRecDepth 100000 in
theorem lk_X6_100 : Cond.methodLink RX6 100 yX6_pair ∈ gtb := gtb_of 480 (by decide +kernel) (by decide +kernel)
set_option maxRecDepth 100000 in
theorem lk_X6_69 : Cond.methodLink RX6 69 yX6_pass ∈ gtb := gtb_of 484 (by decide +kernel) (by decide +kernel)
set_option maxRecDepth 100000 in
theorem lk_X1_44 : Cond.methodLink RX1 44 yX1_findTwins ∈ gtb := gtb_of 488 (by decide +kernel) (by decide +kernel)
set_option maxRecDepth 100000 in
theorem lk_X1_51 : Cond.methodLink RX1 51 yX6_areTwins ∈ gtb := gtb_of 492 (by decide +kernel) (by decide +kernel)
set_option maxRecDepth 100000 in
theorem lk_X1_47 : Cond.methodLink RX1 47 yX1_lay ∈ gtb := gtb_of 496 (by decide +kernel) (by decide +kernel)
set_option maxRecDepth 100000 in
theorem lk_X1_55 : Cond.methodLink RX1 55 yX6_pairCost ∈ gtb := gtb_of 500 (by decide +kernel) (by decide +kernel)
set_option maxRecDepth 100000 in
theorem lk_X1_59 : Cond.methodLink RX1 59 yX6_forkCost ∈ gtb := gtb_of 504 (by decide +kernel) (by decide +kernel)
set_option maxRecDepth 100000 in
theorem lk_X6_90 : Cond.methodLink RX6 90 Lib.Math.min.name ∈ gtb := gtb_of 508 (by decide +kernel) (by decide +kernel)
set_option maxRecDepth 100000 in
theorem lk_X1_63 : Cond.methodLink RX1 63 yX1_keep ∈ gtb := gtb_of 511 (by decide +kernel) (by decide +kernel)
set_option maxRecDepth 100000 in
theorem lk_X3_134 : Cond.methodLink RX3 134 arraycopyName ∈ gtb := gtb_of 515 (by decide +kernel) (by decide +kernel)
set_option maxRecDepth 100000 in
theorem lk_X3_109 : Cond.methodLink RX3 109 Lib.Math.min.name ∈ gtb := gtb_of 516 (by decide +kernel) (by decide +kernel)
set_option maxRecDepth 100000 in
theorem lk_X3_115 : Cond.methodLink RX3 115 yJ6_bitCount_0f7a4 ∈ gtb := gtb_of 517 (by decide +kernel) (by decide +kernel)
set_option maxRecDepth 100000 in
theorem lk_X3_121 : Cond.methodLink RX3 121 Lib.Math.max.name ∈ gtb := gtb_of 523 (by decide +kernel) (by decide +kernel)
set_option maxRecDepth 100000 in
theorem lk_X3_98 : Cond.methodLink RX3 98 yX3_write ∈ gtb := gtb_of 526 (by decide +kernel) (by decide +kernel)
set_option maxRecDepth 100000 in
theorem lk_X3_154 : Cond.methodLink RX3 154 yX3_turnedIn ∈ gtb := gtb_of 530 (by decide +kernel) (by decide +kernel)
set_option maxRecDepth 100000 in
theorem lk_X3_161 : Cond.methodLink RX3 161 yX6_trace ∈ gtb := gtb_of 534 (by decide +kernel) (by decide +kernel)
set_option maxRecDepth 100000 in
theorem lk_X3_167 : Cond.methodLink RX3 167 yX6_cost ∈ gtb := gtb_of 535 (by decide +kernel) (by decide +kernel)
set_option maxRecDepth 100000 in
theorem lk_X6_76 : Cond.methodLink RX6 76 arraycopyName ∈ gtb := gtb_of 539 (by decide +kernel) (by decide +kernel)
set_option maxRecDepth 100000 in
theorem lk_X6_82 : Cond.methodLink RX6 82 yX6_forkCost ∈ gtb := gtb_of 540 (by decide +kernel) (by decide +kernel)
set_option maxRecDepth 100000 in
theorem lk_X6_86 : Cond.methodLink RX6 86 yX6_pairCost ∈ gtb := gtb_of 541 (by decide +kernel) (by decide +kernel)
set_option maxRecDepth 100000 in
theorem lk_L_54 : Cond.methodLink RL 54 yX7_place ∈ gtb := gtb_of 542 (by decide +kernel) (by decide +kernel)
set_option maxRecDepth 100000 in
theorem lk_X7_124 : Cond.methodLink RX7 124 yX5_usedSet ∈ gtb := gtb_of 546 (by decide +kernel) (by decide +kernel)
set_option maxRecDepth 100000 in
theorem lk_L_58 : Cond.methodLink RL 58 yX7_step ∈ gtb := gtb_of 547 (by decide +kernel) (by decide +kernel)
set_option maxRecDepth 100000 in
theorem lk_X7_134 : Cond.methodLink RX7 134 yX4_before ∈ gtb := gtb_of 551 (by decide +kernel) (by decide +kernel)
set_option maxRecDepth 100000 in
theorem lk_X7_138 : Cond.methodLink RX7 138 yX5_isFar ∈ gtb := gtb_of 555 (by decide +kernel) (by decide +kernel)
set_option maxRecDepth 100000 in
theorem lk_L_62 : Cond.methodLink RL 62 yX7_run ∈ gtb := gtb_of 556 (by decide +kernel) (by decide +kernel)
set_option maxRecDepth 100000 in
theorem lk_X7_141 : Cond.methodLink RX7 141 yX5_execute ∈ gtb := gtb_of 560 (by decide +kernel) (by decide +kernel)
set_option maxRecDepth 100000 in
theorem lk_X5_49 : Cond.methodLink RX5 49 yX5_result ∈ gtb := gtb_of 564 (by decide +kernel) (by decide +kernel)
set_option maxRecDepth 100000 in
theorem lk_X5_53 : Cond.methodLink RX5 53 Lib.Math.min.name ∈ gtb := gtb_of 567 (by decide +kernel) (by decide +kernel)
set_option maxRecDepth 100000 in
theorem lk_L_66 : Cond.methodLink RL 66 yX7_weight ∈ gtb := gtb_of 568 (by decide +kernel) (by decide +kernel)
set_option maxRecDepth 100000 in
theorem lk_X7_144 : Cond.methodLink RX7 144 yX7_weights ∈ gtb := gtb_of 572 (by decide +kernel) (by decide +kernel)
set_option maxRecDepth 100000 in
theorem lk_X7_163 : Cond.methodLink RX7 163 yX6_trace ∈ gtb := gtb_of 576 (by decide +kernel) (by decide +kernel)
set_option maxRecDepth 100000 in
theorem lk_L_70 : Cond.methodLink RL 70 yX7_taken ∈ gtb := gtb_of 577 (by decide +kernel) (by decide +kernel)
set_option maxRecDepth 100000 in
theorem lk_X7_148 : Cond.methodLink RX7 148 yX0_take ∈ gtb := gtb_of 581 (by decide +kernel) (by decide +kernel)
set_option maxRecDepth 100000 in
theorem lk_X0_25 : Cond.methodLink RX0 25 yJ7_fill_53178 ∈ gtb := gtb_of 585 (by decide +kernel) (by decide +kernel)
set_option maxRecDepth 100000 in
theorem lk_X0_35 : Cond.methodLink RX0 35 yX0_load ∈ gtb := gtb_of 586 (by decide +kernel) (by decide +kernel)
set_option maxRecDepth 100000 in
theorem lk_X0_42 : Cond.methodLink RX0 42 yX0_greatest ∈ gtb := gtb_of 590 (by decide +kernel) (by decide +kernel)
set_option maxRecDepth 100000 in
theorem lk_X0_46 : Cond.methodLink RX0 46 yX0_join ∈ gtb := gtb_of 594 (by decide +kernel) (by decide +kernel)
set_option maxRecDepth 100000 in
theorem lk_X7_152 : Cond.methodLink RX7 152 yX0_has ∈ gtb := gtb_of 598 (by decide +kernel) (by decide +kernel)
set_option maxRecDepth 100000 in
theorem lk_L_74 : Cond.methodLink RL 74 yX7_exchange ∈ gtb := gtb_of 602 (by decide +kernel) (by decide +kernel)
set_option maxRecDepth 100000 in
theorem lk_L_78 : Cond.methodLink RL 78 yX7_hand ∈ gtb := gtb_of 606 (by decide +kernel) (by decide +kernel)
set_option maxRecDepth 100000 in
theorem lk_X7_160 : Cond.methodLink RX7 160 yX5_turnable ∈ gtb := gtb_of 610 (by decide +kernel) (by decide +kernel)
set_option maxRecDepth 100000 in
theorem lk_X7_167 : Cond.methodLink RX7 167 yX6_cost ∈ gtb := gtb_of 611 (by decide +kernel) (by decide +kernel)
set_option maxRecDepth 100000 in
theorem lk_L_82 : Cond.methodLink RL 82 yX7_count ∈ gtb := gtb_of 612 (by decide +kernel) (by decide +kernel)
set_option maxRecDepth 100000 in
theorem lk_X7_173 : Cond.methodLink RX7 173 yX7_first ∈ gtb := gtb_of 616 (by decide +kernel) (by decide +kernel)
set_option maxRecDepth 100000 in
theorem lk_X7_182 : Cond.methodLink RX7 182 yJ6_bitCount_0f7a4 ∈ gtb := gtb_of 620 (by decide +kernel) (by decide +kernel)
set_option maxRecDepth 100000 in
theorem lk_X7_188 : Cond.methodLink RX7 188 yX0_leftByGreatest ∈ gtb := gtb_of 621 (by decide +kernel) (by decide +kernel)
set_option maxRecDepth 100000 in
theorem lk_L_86 : Cond.methodLink RL 86 yX7_image ∈ gtb := gtb_of 625 (by decide +kernel) (by decide +kernel)
set_option maxRecDepth 100000 in
theorem lk_X7_195 : Cond.methodLink RX7 195 yX5_copyFrom ∈ gtb := gtb_of 629 (by decide +kernel) (by decide +kernel)
set_option maxRecDepth 100000 in
theorem lk_L_90 : Cond.methodLink RL 90 yX7_restore ∈ gtb := gtb_of 633 (by decide +kernel) (by decide +kernel)
set_option maxRecDepth 100000 in
theorem lk_L_12 : Cond.methodLink RL 12 yX8_init ∈ gtb := gtb_of 639 (by decide +kernel) (by decide +kernel)
set_option maxRecDepth 100000 in
theorem lk_X8_1 : Cond.methodLink RX8 1 objectInit ∈ gtb := gtb_of 642 (by decide +kernel) (by decide +kernel)
set_option maxRecDepth 100000 in
theorem lk_X8_87 : Cond.fieldLink RX8 87 (TX8 0).1 (TX8 0).2.1 (TX8 0).2.2.1 ∈ gtb := gtb_of 643 (by decide +kernel) (by decide +kernel)
set_option maxRecDepth 100000 in
theorem lk_X8_7 : Cond.fieldLink RX8 7 (TX8 1).1 (TX8 1).2.1 (TX8 1).2.2.1 ∈ gtb := gtb_of 644 (by decide +kernel) (by decide +kernel)
set_option maxRecDepth 100000 in
theorem lk_X8_13 : Cond.fieldLink RX8 13 (TX8 2).1 (TX8 2).2.1 (TX8 2).2.2.1 ∈ gtb := gtb_of 645 (by decide +kernel) (by decide +kernel)
set_option maxRecDepth 100000 in
theorem lk_X8_16 : Cond.fieldLink RX8 16 (TX8 3).1 (TX8 3).2.1 (TX8 3).2.2.1 ∈ gtb := gtb_of 646 (by decide +kernel) (by decide +kernel)
set_option maxRecDepth 100000 in
theorem lk_X8_19 : Cond.fieldLink RX8 19 (TX8 4).1 (TX8 4).2.1 (TX8 4).2.2.1 ∈ gtb := gtb_of 647 (by decide +kernel) (by decide +kernel)
set_option maxRecDepth 100000 in
theorem lk_X8_22 : Cond.fieldLink RX8 22 (TX8 5).1 (TX8 5).2.1 (TX8 5).2.2.1 ∈ gtb := gtb_of 648 (by decide +kernel) (by decide +kernel)
set_option maxRecDepth 100000 in
theorem lk_X8_25 : Cond.fieldLink RX8 25 (TX8 6).1 (TX8 6).2.1 (TX8 6).2.2.1 ∈ gtb := gtb_of 649 (by decide +kernel) (by decide +kernel)
set_option maxRecDepth 100000 in
theorem lk_X8_28 : Cond.fieldLink RX8 28 (TX8 7).1 (TX8 7).2.1 (TX8 7).2.2.1 ∈ gtb := gtb_of 650 (by decide +kernel) (by decide +kernel)
set_option maxRecDepth 100000 in
theorem lk_X8_32 : Cond.fieldLink RX8 32 (TX8 8).1 (TX8 8).2.1 (TX8 8).2.2.1 ∈ gtb := gtb_of 651 (by decide +kernel) (by decide +kernel)
set_option maxRecDepth 100000 in
theorem lk_X8_35 : Cond.fieldLink RX8 35 (TX8 9).1 (TX8 9).2.1 (TX8 9).2.2.1 ∈ gtb := gtb_of 652 (by decide +kernel) (by decide +kernel)
set_option maxRecDepth 100000 in
theorem lk_X8_38 : Cond.fieldLink RX8 38 (TX8 10).1 (TX8 10).2.1 (TX8 10).2.2.1 ∈ gtb := gtb_of 653 (by decide +kernel) (by decide +kernel)
set_option maxRecDepth 100000 in
theorem lk_X8_41 : Cond.fieldLink RX8 41 (TX8 11).1 (TX8 11).2.1 (TX8 11).2.2.1 ∈ gtb := gtb_of 654 (by decide +kernel) (by decide +kernel)
set_option maxRecDepth 100000 in
theorem lk_X8_115 : Cond.fieldLink RX8 115 (TX8 12).1 (TX8 12).2.1 (TX8 12).2.2.1 ∈ gtb := gtb_of 655 (by decide +kernel) (by decide +kernel)
set_option maxRecDepth 100000 in
theorem lk_X8_44 : Cond.fieldLink RX8 44 (TX8 13).1 (TX8 13).2.1 (TX8 13).2.2.1 ∈ gtb := gtb_of 656 (by decide +kernel) (by decide +kernel)
set_option maxRecDepth 100000 in
theorem lk_X8_47 : Cond.fieldLink RX8 47 (TX8 14).1 (TX8 14).2.1 (TX8 14).2.2.1 ∈ gtb := gtb_of 657 (by decide +kernel) (by decide +kernel)
set_option maxRecDepth 100000 in
theorem lk_X8_50 : Cond.fieldLink RX8 50 (TX8 15).1 (TX8 15).2.1 (TX8 15).2.2.1 ∈ gtb := gtb_of 658 (by decide +kernel) (by decide +kernel)
set_option maxRecDepth 100000 in
theorem lk_X8_53 : Cond.fieldLink RX8 53 (TX8 16).1 (TX8 16).2.1 (TX8 16).2.2.1 ∈ gtb := gtb_of 659 (by decide +kernel) (by decide +kernel)
set_option maxRecDepth 100000 in
theorem lk_X8_56 : Cond.fieldLink RX8 56 (TX8 17).1 (TX8 17).2.1 (TX8 17).2.2.1 ∈ gtb := gtb_of 660 (by decide +kernel) (by decide +kernel)
set_option maxRecDepth 100000 in
theorem lk_X8_59 : Cond.fieldLink RX8 59 (TX8 18).1 (TX8 18).2.1 (TX8 18).2.2.1 ∈ gtb := gtb_of 661 (by decide +kernel) (by decide +kernel)
set_option maxRecDepth 100000 in
theorem lk_X8_159 : Cond.fieldLink RX8 159 (TX8 19).1 (TX8 19).2.1 (TX8 19).2.2.1 ∈ gtb := gtb_of 662 (by decide +kernel) (by decide +kernel)
set_option maxRecDepth 100000 in
theorem lk_X8_169 : Cond.fieldLink RX8 169 (TX8 20).1 (TX8 20).2.1 (TX8 20).2.2.1 ∈ gtb := gtb_of 663 (by decide +kernel) (by decide +kernel)
set_option maxRecDepth 100000 in
theorem lk_X8_62 : Cond.fieldLink RX8 62 (TX8 21).1 (TX8 21).2.1 (TX8 21).2.2.1 ∈ gtb := gtb_of 664 (by decide +kernel) (by decide +kernel)
set_option maxRecDepth 100000 in
theorem lk_X8_65 : Cond.fieldLink RX8 65 (TX8 22).1 (TX8 22).2.1 (TX8 22).2.2.1 ∈ gtb := gtb_of 665 (by decide +kernel) (by decide +kernel)
set_option maxRecDepth 100000 in
theorem lk_X8_68 : Cond.fieldLink RX8 68 (TX8 23).1 (TX8 23).2.1 (TX8 23).2.2.1 ∈ gtb := gtb_of 666 (by decide +kernel) (by decide +kernel)
set_option maxRecDepth 100000 in
theorem lk_X8_71 : Cond.fieldLink RX8 71 (TX8 24).1 (TX8 24).2.1 (TX8 24).2.2.1 ∈ gtb := gtb_of 667 (by decide +kernel) (by decide +kernel)
set_option maxRecDepth 100000 in
theorem lk_X8_74 : Cond.fieldLink RX8 74 (TX8 25).1 (TX8 25).2.1 (TX8 25).2.2.1 ∈ gtb := gtb_of 668 (by decide +kernel) (by decide +kernel)
set_option maxRecDepth 100000 in
theorem lk_X8_184 : Cond.fieldLink RX8 184 (TX8 26).1 (TX8 26).2.1 (TX8 26).2.2.1 ∈ gtb := gtb_of 669 (by decide +kernel) (by decide +kernel)
set_option maxRecDepth 100000 in
theorem lk_X8_77 : Cond.fieldLink RX8 77 (TX8 27).1 (TX8 27).2.1 (TX8 27).2.2.1 ∈ gtb := gtb_of 670 (by decide +kernel) (by decide +kernel)
set_option maxRecDepth 100000 in
theorem lk_X8_80 : Cond.fieldLink RX8 80 (TX8 28).1 (TX8 28).2.1 (TX8 28).2.2.1 ∈ gtb := gtb_of 671 (by decide +kernel) (by decide +kernel)
set_option maxRecDepth 100000 in
theorem lk_L_17 : Cond.methodLink RL 17 yX8_put ∈ gtb := gtb_of 731 (by decide +kernel) (by decide +kernel)
set_option maxRecDepth 100000 in
theorem lk_X8_83 : Cond.methodLink RX8 83 yX8_in ∈ gtb := gtb_of 735 (by decide +kernel) (by decide +kernel)
set_option maxRecDepth 100000 in
theorem lk_X8_91 : Cond.methodLink RX8 91 yX8_isVariable ∈ gtb := gtb_of 738 (by decide +kernel) (by decide +kernel)
set_option maxRecDepth 100000 in
theorem lk_X8_95 : Cond.methodLink RX8 95 yX8_change ∈ gtb := gtb_of 741 (by decide +kernel) (by decide +kernel)
set_option maxRecDepth 100000 in
theorem lk_L_22 : Cond.methodLink RL 22 yX8_drop ∈ gtb := gtb_of 745 (by decide +kernel) (by decide +kernel)
set_option maxRecDepth 100000 in
theorem lk_X8_98 : Cond.methodLink RX8 98 yX8_isStatement ∈ gtb := gtb_of 749 (by decide +kernel) (by decide +kernel)
set_option maxRecDepth 100000 in
theorem lk_L_26 : Cond.methodLink RL 26 yX8_cross ∈ gtb := gtb_of 753 (by decide +kernel) (by decide +kernel)
set_option maxRecDepth 100000 in
theorem lk_L_31 : Cond.methodLink RL 31 yX8_told ∈ gtb := gtb_of 757 (by decide +kernel) (by decide +kernel)
set_option maxRecDepth 100000 in
theorem lk_L_35 : Cond.methodLink RL 35 yX8_free ∈ gtb := gtb_of 761 (by decide +kernel) (by decide +kernel)
set_option maxRecDepth 100000 in
theorem lk_L_39 : Cond.methodLink RL 39 yX8_set ∈ gtb := gtb_of 765 (by decide +kernel) (by decide +kernel)
set_option maxRecDepth 100000 in
theorem lk_L_44 : Cond.methodLink RL 44 yX8_value ∈ gtb := gtb_of 769 (by decide +kernel) (by decide +kernel)
set_option maxRecDepth 100000 in
theorem lk_L_48 : Cond.methodLink RL 48 yX8_sight ∈ gtb := gtb_of 774 (by decide +kernel) (by decide +kernel)
set_option maxRecDepth 100000 in
theorem lk_X8_111 : Cond.methodLink RX8 111 yX8_layLine ∈ gtb := gtb_of 778 (by decide +kernel) (by decide +kernel)
set_option maxRecDepth 100000 in
theorem lk_X8_103 : Cond.methodLink RX8 103 yX8_has ∈ gtb := gtb_of 782 (by decide +kernel) (by decide +kernel)
set_option maxRecDepth 100000 in
theorem lk_X8_107 : Cond.methodLink RX8 107 yX8_seen ∈ gtb := gtb_of 785 (by decide +kernel) (by decide +kernel)
set_option maxRecDepth 100000 in
theorem lk_L_53 : Cond.methodLink RL 53 yX8_plan ∈ gtb := gtb_of 789 (by decide +kernel) (by decide +kernel)
set_option maxRecDepth 100000 in
theorem lk_X8_175 : Cond.methodLink RX8 175 yX8_isAsked ∈ gtb := gtb_of 793 (by decide +kernel) (by decide +kernel)
set_option maxRecDepth 100000 in
theorem lk_X8_178 : Cond.methodLink RX8 178 yX8_layPlan ∈ gtb := gtb_of 796 (by decide +kernel) (by decide +kernel)
set_option maxRecDepth 100000 in
theorem lk_X8_149 : Cond.methodLink RX8 149 yX8_laySets ∈ gtb := gtb_of 800 (by decide +kernel) (by decide +kernel)
set_option maxRecDepth 100000 in
theorem lk_X8_142 : Cond.methodLink RX8 142 yX8_usedOnes ∈ gtb := gtb_of 804 (by decide +kernel) (by decide +kernel)
set_option maxRecDepth 100000 in
theorem lk_X8_146 : Cond.methodLink RX8 146 yX8_laySet ∈ gtb := gtb_of 808 (by decide +kernel) (by decide +kernel)
set_option maxRecDepth 100000 in
theorem lk_X8_131 : Cond.methodLink RX8 131 yX8_layPay ∈ gtb := gtb_of 812 (by decide +kernel) (by decide +kernel)
set_option maxRecDepth 100000 in
theorem lk_X8_125 : Cond.methodLink RX8 125 yX8_payBehind ∈ gtb := gtb_of 816 (by decide +kernel) (by decide +kernel)
set_option maxRecDepth 100000 in
theorem lk_X8_121 : Cond.methodLink RX8 121 yX8_costOf ∈ gtb := gtb_of 820 (by decide +kernel) (by decide +kernel)
set_option maxRecDepth 100000 in
theorem lk_X8_118 : Cond.methodLink RX8 118 yX8_isFar ∈ gtb := gtb_of 824 (by decide +kernel) (by decide +kernel)
set_option maxRecDepth 100000 in
theorem lk_X8_128 : Cond.methodLink RX8 128 yX8_canTurn ∈ gtb := gtb_of 828 (by decide +kernel) (by decide +kernel)
set_option maxRecDepth 100000 in
theorem lk_X8_139 : Cond.methodLink RX8 139 yX8_isNext ∈ gtb := gtb_of 832 (by decide +kernel) (by decide +kernel)
set_option maxRecDepth 100000 in
theorem lk_X8_135 : Cond.methodLink RX8 135 yX8_swap ∈ gtb := gtb_of 836 (by decide +kernel) (by decide +kernel)
set_option maxRecDepth 100000 in
theorem lk_X8_153 : Cond.methodLink RX8 153 yX8_bits ∈ gtb := gtb_of 840 (by decide +kernel) (by decide +kernel)
set_option maxRecDepth 100000 in
theorem lk_X8_156 : Cond.methodLink RX8 156 yX8_power ∈ gtb := gtb_of 843 (by decide +kernel) (by decide +kernel)
set_option maxRecDepth 100000 in
theorem lk_X8_162 : Cond.methodLink RX8 162 yX8_part ∈ gtb := gtb_of 846 (by decide +kernel) (by decide +kernel)
set_option maxRecDepth 100000 in
theorem lk_X8_166 : Cond.methodLink RX8 166 yX8_costNow ∈ gtb := gtb_of 850 (by decide +kernel) (by decide +kernel)
set_option maxRecDepth 100000 in
theorem lk_X8_172 : Cond.methodLink RX8 172 yX8_turnedFor ∈ gtb := gtb_of 854 (by decide +kernel) (by decide +kernel)
set_option maxRecDepth 100000 in
theorem lk_L_57 : Cond.methodLink RL 57 yX8_place ∈ gtb := gtb_of 858 (by decide +kernel) (by decide +kernel)
set_option maxRecDepth 100000 in
theorem lk_L_61 : Cond.methodLink RL 61 yX8_step ∈ gtb := gtb_of 862 (by decide +kernel) (by decide +kernel)
set_option maxRecDepth 100000 in
theorem lk_L_65 : Cond.methodLink RL 65 yX8_run ∈ gtb := gtb_of 866 (by decide +kernel) (by decide +kernel)
set_option maxRecDepth 100000 in
theorem lk_L_69 : Cond.methodLink RL 69 yX8_weight ∈ gtb := gtb_of 870 (by decide +kernel) (by decide +kernel)
set_option maxRecDepth 100000 in
theorem lk_X8_181 : Cond.methodLink RX8 181 yX8_layWeights ∈ gtb := gtb_of 874 (by decide +kernel) (by decide +kernel)
set_option maxRecDepth 100000 in
theorem lk_L_73 : Cond.methodLink RL 73 yX8_taken ∈ gtb := gtb_of 878 (by decide +kernel) (by decide +kernel)
set_option maxRecDepth 100000 in
theorem lk_X8_190 : Cond.methodLink RX8 190 yX8_layTaken ∈ gtb := gtb_of 882 (by decide +kernel) (by decide +kernel)
set_option maxRecDepth 100000 in
theorem lk_X8_187 : Cond.methodLink RX8 187 yX8_heaviest ∈ gtb := gtb_of 886 (by decide +kernel) (by decide +kernel)
set_option maxRecDepth 100000 in
theorem lk_L_77 : Cond.methodLink RL 77 yX8_exchange ∈ gtb := gtb_of 890 (by decide +kernel) (by decide +kernel)
set_option maxRecDepth 100000 in
theorem lk_L_81 : Cond.methodLink RL 81 yX8_hand ∈ gtb := gtb_of 894 (by decide +kernel) (by decide +kernel)
set_option maxRecDepth 100000 in
theorem lk_L_85 : Cond.methodLink RL 85 yX8_count ∈ gtb := gtb_of 898 (by decide +kernel) (by decide +kernel)
set_option maxRecDepth 100000 in
theorem lk_X8_193 : Cond.methodLink RX8 193 yX8_greedyCost ∈ gtb := gtb_of 902 (by decide +kernel) (by decide +kernel)
set_option maxRecDepth 100000 in
theorem lk_X8_196 : Cond.methodLink RX8 196 yX8_bound ∈ gtb := gtb_of 906 (by decide +kernel) (by decide +kernel)
set_option maxRecDepth 100000 in
theorem lk_L_89 : Cond.methodLink RL 89 yX8_image ∈ gtb := gtb_of 910 (by decide +kernel) (by decide +kernel)
set_option maxRecDepth 100000 in
theorem lk_L_93 : Cond.methodLink RL 93 yX8_restore ∈ gtb := gtb_of 914 (by decide +kernel) (by decide +kernel)
set_option maxRecDepth 100000 in
theorem mf_X6_measure : MF yX6_measure cX6_measure 4 none 1 := ⟨gtb_of 172 (by decide +kernel) (by decide +kernel), gtb_of 47 (by decide +kernel) (by decide +kernel), ⟨by decide +kernel, by decide +kernel⟩, by decide +kernel⟩
set_option maxRecDepth 100000 in
theorem in_X6_measure : Cond.instanceMethod yX6_measure ∈ gtb := gtb_of 170 (by decide +kernel) (by decide +kernel)
set_option maxRecDepth 100000 in
theorem se_X6_measure : Cond.selects yX6_measure.cls yX6_measure yX6_measure ∈ gtb := gtb_of 171 (by decide +kernel) (by decide +kernel)
set_option maxRecDepth 100000 in
theorem mf_X5_isFar : MF yX5_isFar cX5_isFar 3 (some .boolean) 2 := ⟨gtb_of 176 (by decide +kernel) (by decide +kernel), gtb_of 45 (by decide +kernel) (by decide +kernel), ⟨by decide +kernel, by decide +kernel⟩, by decide +kernel⟩
set_option maxRecDepth 100000 in
theorem in_X5_isFar : Cond.instanceMethod yX5_isFar ∈ gtb := gtb_of 174 (by decide +kernel) (by decide +kernel)
set_option maxRecDepth 100000 in
theorem se_X5_isFar : Cond.selects yX5_isFar.cls yX5_isFar yX5_isFar ∈ gtb := gtb_of 175 (by decide +kernel) (by decide +kernel)
set_option maxRecDepth 100000 in
theorem cd_abs : Cond.code Lib.Math.abs.name Lib.Math.abs.code 1 (some .int) ∈ gtb := gtb_of 179 (by decide +kernel) (by decide +kernel)
set_option maxRecDepth 100000 in
theorem sm_abs : Cond.static Lib.Math.abs.name ∈ gtb := gtb_of 178 (by decide +kernel) (by decide +kernel)
set_option maxRecDepth 100000 in
theorem mf_J7_fill_53178 : MF yJ7_fill_53178 cJ7_fill_53178 4 none 2 := ⟨gtb_of 198 (by decide +kernel) (by decide +kernel), gtb_of 51 (by decide +kernel) (by decide +kernel), ⟨by decide +kernel, by decide +kernel⟩, by decide +kernel⟩
set_option maxRecDepth 100000 in
theorem sm_J7_fill_53178 : Cond.static yJ7_fill_53178 ∈ gtb := gtb_of 197 (by decide +kernel) (by decide +kernel)
set_option maxRecDepth 100000 in
theorem mf_X3_forget : MF yX3_forget cX3_forget 2 none 0 := ⟨gtb_of 256 (by decide +kernel) (by decide +kernel), gtb_of 49 (by decide +kernel) (by decide +kernel), ⟨by decide +kernel, by decide +kernel⟩, by decide +kernel⟩
set_option maxRecDepth 100000 in
theorem in_X3_forget : Cond.instanceMethod yX3_forget ∈ gtb := gtb_of 254 (by decide +kernel) (by decide +kernel)
set_option maxRecDepth 100000 in
theorem se_X3_forget : Cond.selects yX3_forget.cls yX3_forget yX3_forget ∈ gtb := gtb_of 255 (by decide +kernel) (by decide +kernel)
set_option maxRecDepth 100000 in
theorem mf_X7_put : MF yX7_put cX7_put 5 (some .int) 4 := ⟨gtb_of 360 (by decide +kernel) (by decide +kernel), gtb_of 44 (by decide +kernel) (by decide +kernel), ⟨by decide +kernel, by decide +kernel⟩, by decide +kernel⟩
set_option maxRecDepth 100000 in
theorem in_X7_put : Cond.instanceMethod yX7_put ∈ gtb := gtb_of 358 (by decide +kernel) (by decide +kernel)
set_option maxRecDepth 100000 in
theorem se_X7_put : Cond.selects yX7_put.cls yX7_put yX7_put ∈ gtb := gtb_of 359 (by decide +kernel) (by decide +kernel)
set_option maxRecDepth 100000 in
theorem mf_X7_isVariable : MF yX7_isVariable cX7_isVariable 1 (some .boolean) 1 := ⟨gtb_of 363 (by decide +kernel) (by decide +kernel), gtb_of 44 (by decide +kernel) (by decide +kernel), ⟨by decide +kernel, by decide +kernel⟩, by decide +kernel⟩
set_option maxRecDepth 100000 in
theorem sm_X7_isVariable : Cond.static yX7_isVariable ∈ gtb := gtb_of 362 (by decide +kernel) (by decide +kernel)
set_option maxRecDepth 100000 in
theorem mf_X5_append : MF yX5_append cX5_append 5 none 4 := ⟨gtb_of 367 (by decide +kernel) (by decide +kernel), gtb_of 45 (by decide +kernel) (by decide +kernel), ⟨by decide +kernel, by decide +kernel⟩, by decide +kernel⟩
set_option maxRecDepth 100000 in
theorem in_X5_append : Cond.instanceMethod yX5_append ∈ gtb := gtb_of 365 (by decide +kernel) (by decide +kernel)
set_option maxRecDepth 100000 in
theorem se_X5_append : Cond.selects yX5_append.cls yX5_append yX5_append ∈ gtb := gtb_of 366 (by decide +kernel) (by decide +kernel)
set_option maxRecDepth 100000 in
theorem mf_X7_changed : MF yX7_changed cX7_changed 1 none 0 := ⟨gtb_of 371 (by decide +kernel) (by decide +kernel), gtb_of 44 (by decide +kernel) (by decide +kernel), ⟨by decide +kernel, by decide +kernel⟩, by decide +kernel⟩
set_option maxRecDepth 100000 in
theorem in_X7_changed : Cond.instanceMethod yX7_changed ∈ gtb := gtb_of 370 (by decide +kernel) (by decide +kernel)
set_option maxRecDepth 100000 in
theorem se_X7_changed : Cond.selects yX7_changed.cls yX7_changed yX7_changed ∈ gtb := gtb_of 0 (by decide +kernel) (by decide +kernel)
set_option maxRecDepth 100000 in
theorem mf_X7_drop : MF yX7_drop cX7_drop 2 (some .int) 1 := ⟨gtb_of 376 (by decide +kernel) (by decide +kernel), gtb_of 44 (by decide +kernel) (by decide +kernel), ⟨by decide +kernel, by decide +kernel⟩, by decide +kernel⟩
set_option maxRecDepth 100000 in
theorem in_X7_drop : Cond.instanceMethod yX7_drop ∈ gtb := gtb_of 374 (by decide +kernel) (by decide +kernel)
set_option maxRecDepth 100000 in
theorem se_X7_drop : Cond.selects yX7_drop.cls yX7_drop yX7_drop ∈ gtb := gtb_of 375 (by decide +kernel) (by decide +kernel)
set_option maxRecDepth 100000 in
theorem mf_X5_has : MF yX5_has cX5_has 2 (some .boolean) 1 := ⟨gtb_of 380 (by decide +kernel) (by decide +kernel), gtb_of 45 (by decide +kernel) (by decide +kernel), ⟨by decide +kernel, by decide +kernel⟩, by decide +kernel⟩
set_option maxRecDepth 100000 in
theorem in_X5_has : Cond.instanceMethod yX5_has ∈ gtb := gtb_of 378 (by decide +kernel) (by decide +kernel)
set_option maxRecDepth 100000 in
theorem se_X5_has : Cond.selects yX5_has.cls yX5_has yX5_has ∈ gtb := gtb_of 379 (by decide +kernel) (by decide +kernel)
set_option maxRecDepth 100000 in
theorem mf_X5_remove : MF yX5_remove cX5_remove 3 none 1 := ⟨gtb_of 384 (by decide +kernel) (by decide +kernel), gtb_of 45 (by decide +kernel) (by decide +kernel), ⟨by decide +kernel, by decide +kernel⟩, by decide +kernel⟩
set_option maxRecDepth 100000 in
theorem in_X5_remove : Cond.instanceMethod yX5_remove ∈ gtb := gtb_of 382 (by decide +kernel) (by decide +kernel)
set_option maxRecDepth 100000 in
theorem se_X5_remove : Cond.selects yX5_remove.cls yX5_remove yX5_remove ∈ gtb := gtb_of 383 (by decide +kernel) (by decide +kernel)
set_option maxRecDepth 100000 in
theorem mf_X7_cross : MF yX7_cross cX7_cross 3 (some .int) 1 := ⟨gtb_of 391 (by decide +kernel) (by decide +kernel), gtb_of 44 (by decide +kernel) (by decide +kernel), ⟨by decide +kernel, by decide +kernel⟩, by decide +kernel⟩
set_option maxRecDepth 100000 in
theorem in_X7_cross : Cond.instanceMethod yX7_cross ∈ gtb := gtb_of 389 (by decide +kernel) (by decide +kernel)
set_option maxRecDepth 100000 in
theorem se_X7_cross : Cond.selects yX7_cross.cls yX7_cross yX7_cross ∈ gtb := gtb_of 390 (by decide +kernel) (by decide +kernel)
set_option maxRecDepth 100000 in
theorem mf_X7_told : MF yX7_told cX7_told 3 (some .int) 2 := ⟨gtb_of 395 (by decide +kernel) (by decide +kernel), gtb_of 44 (by decide +kernel) (by decide +kernel), ⟨by decide +kernel, by decide +kernel⟩, by decide +kernel⟩
set_option maxRecDepth 100000 in
theorem in_X7_told : Cond.instanceMethod yX7_told ∈ gtb := gtb_of 393 (by decide +kernel) (by decide +kernel)
set_option maxRecDepth 100000 in
theorem se_X7_told : Cond.selects yX7_told.cls yX7_told yX7_told ∈ gtb := gtb_of 394 (by decide +kernel) (by decide +kernel)
set_option maxRecDepth 100000 in
theorem mf_X7_free : MF yX7_free cX7_free 5 (some .int) 2 := ⟨gtb_of 399 (by decide +kernel) (by decide +kernel), gtb_of 44 (by decide +kernel) (by decide +kernel), ⟨by decide +kernel, by decide +kernel⟩, by decide +kernel⟩
set_option maxRecDepth 100000 in
theorem in_X7_free : Cond.instanceMethod yX7_free ∈ gtb := gtb_of 397 (by decide +kernel) (by decide +kernel)
set_option maxRecDepth 100000 in
theorem se_X7_free : Cond.selects yX7_free.cls yX7_free yX7_free ∈ gtb := gtb_of 398 (by decide +kernel) (by decide +kernel)
set_option maxRecDepth 100000 in
theorem mf_X7_set : MF yX7_set cX7_set 5 (some .int) 2 := ⟨gtb_of 403 (by decide +kernel) (by decide +kernel), gtb_of 44 (by decide +kernel) (by decide +kernel), ⟨by decide +kernel, by decide +kernel⟩, by decide +kernel⟩
set_option maxRecDepth 100000 in
theorem in_X7_set : Cond.instanceMethod yX7_set ∈ gtb := gtb_of 401 (by decide +kernel) (by decide +kernel)
set_option maxRecDepth 100000 in
theorem se_X7_set : Cond.selects yX7_set.cls yX7_set yX7_set ∈ gtb := gtb_of 402 (by decide +kernel) (by decide +kernel)
set_option maxRecDepth 100000 in
theorem mf_X7_value : MF yX7_value cX7_value 2 (some .long) 1 := ⟨gtb_of 407 (by decide +kernel) (by decide +kernel), gtb_of 44 (by decide +kernel) (by decide +kernel), ⟨by decide +kernel, by decide +kernel⟩, by decide +kernel⟩
set_option maxRecDepth 100000 in
theorem in_X7_value : Cond.instanceMethod yX7_value ∈ gtb := gtb_of 405 (by decide +kernel) (by decide +kernel)
set_option maxRecDepth 100000 in
theorem se_X7_value : Cond.selects yX7_value.cls yX7_value yX7_value ∈ gtb := gtb_of 406 (by decide +kernel) (by decide +kernel)
set_option maxRecDepth 100000 in
theorem mf_X7_sight : MF yX7_sight cX7_sight 2 (some .int) 1 := ⟨gtb_of 412 (by decide +kernel) (by decide +kernel), gtb_of 44 (by decide +kernel) (by decide +kernel), ⟨by decide +kernel, by decide +kernel⟩, by decide +kernel⟩
set_option maxRecDepth 100000 in
theorem in_X7_sight : Cond.instanceMethod yX7_sight ∈ gtb := gtb_of 410 (by decide +kernel) (by decide +kernel)
set_option maxRecDepth 100000 in
theorem se_X7_sight : Cond.selects yX7_sight.cls yX7_sight yX7_sight ∈ gtb := gtb_of 411 (by decide +kernel) (by decide +kernel)
set_option maxRecDepth 100000 in
theorem mf_X4_look : MF yX4_look cX4_look 5 none 2 := ⟨gtb_of 416 (by decide +kernel) (by decide +kernel), gtb_of 46 (by decide +kernel) (by decide +kernel), ⟨by decide +kernel, by decide +kernel⟩, by decide +kernel⟩
set_option maxRecDepth 100000 in
theorem in_X4_look : Cond.instanceMethod yX4_look ∈ gtb := gtb_of 414 (by decide +kernel) (by decide +kernel)
set_option maxRecDepth 100000 in
theorem se_X4_look : Cond.selects yX4_look.cls yX4_look yX4_look ∈ gtb := gtb_of 415 (by decide +kernel) (by decide +kernel)
set_option maxRecDepth 100000 in
theorem mf_X4_add : MF yX4_add cX4_add 2 none 1 := ⟨gtb_of 420 (by decide +kernel) (by decide +kernel), gtb_of 46 (by decide +kernel) (by decide +kernel), ⟨by decide +kernel, by decide +kernel⟩, by decide +kernel⟩
set_option maxRecDepth 100000 in
theorem in_X4_add : Cond.instanceMethod yX4_add ∈ gtb := gtb_of 419 (by decide +kernel) (by decide +kernel)
set_option maxRecDepth 100000 in
theorem se_X4_add : Cond.selects yX4_add.cls yX4_add yX4_add ∈ gtb := gtb_of 1 (by decide +kernel) (by decide +kernel)
set_option maxRecDepth 100000 in
theorem mf_X4_has : MF yX4_has cX4_has 2 (some .boolean) 1 := ⟨gtb_of 424 (by decide +kernel) (by decide +kernel), gtb_of 46 (by decide +kernel) (by decide +kernel), ⟨by decide +kernel, by decide +kernel⟩, by decide +kernel⟩
set_option maxRecDepth 100000 in
theorem in_X4_has : Cond.instanceMethod yX4_has ∈ gtb := gtb_of 422 (by decide +kernel) (by decide +kernel)
set_option maxRecDepth 100000 in
theorem se_X4_has : Cond.selects yX4_has.cls yX4_has yX4_has ∈ gtb := gtb_of 423 (by decide +kernel) (by decide +kernel)
set_option maxRecDepth 100000 in
theorem mf_X7_plan : MF yX7_plan cX7_plan 5 (some .int) 3 := ⟨gtb_of 428 (by decide +kernel) (by decide +kernel), gtb_of 44 (by decide +kernel) (by decide +kernel), ⟨by decide +kernel, by decide +kernel⟩, by decide +kernel⟩
set_option maxRecDepth 100000 in
theorem in_X7_plan : Cond.instanceMethod yX7_plan ∈ gtb := gtb_of 426 (by decide +kernel) (by decide +kernel)
set_option maxRecDepth 100000 in
theorem se_X7_plan : Cond.selects yX7_plan.cls yX7_plan yX7_plan ∈ gtb := gtb_of 427 (by decide +kernel) (by decide +kernel)
set_option maxRecDepth 100000 in
theorem mf_X7_isPlan : MF yX7_isPlan cX7_isPlan 2 (some .boolean) 2 := ⟨gtb_of 431 (by decide +kernel) (by decide +kernel), gtb_of 44 (by decide +kernel) (by decide +kernel), ⟨by decide +kernel, by decide +kernel⟩, by decide +kernel⟩
set_option maxRecDepth 100000 in
theorem sm_X7_isPlan : Cond.static yX7_isPlan ∈ gtb := gtb_of 430 (by decide +kernel) (by decide +kernel)
set_option maxRecDepth 100000 in
theorem mf_X7_isMode : MF yX7_isMode cX7_isMode 1 (some .boolean) 1 := ⟨gtb_of 434 (by decide +kernel) (by decide +kernel), gtb_of 44 (by decide +kernel) (by decide +kernel), ⟨by decide +kernel, by decide +kernel⟩, by decide +kernel⟩
set_option maxRecDepth 100000 in
theorem sm_X7_isMode : Cond.static yX7_isMode ∈ gtb := gtb_of 433 (by decide +kernel) (by decide +kernel)
set_option maxRecDepth 100000 in
theorem mf_X3_planFor : MF yX3_planFor cX3_planFor 4 (some (.object "StepRegisters$Plan")) 2 := ⟨gtb_of 438 (by decide +kernel) (by decide +kernel), gtb_of 49 (by decide +kernel) (by decide +kernel), ⟨by decide +kernel, by decide +kernel⟩, by decide +kernel⟩
set_option maxRecDepth 100000 in
theorem in_X3_planFor : Cond.instanceMethod yX3_planFor ∈ gtb := gtb_of 436 (by decide +kernel) (by decide +kernel)
set_option maxRecDepth 100000 in
theorem se_X3_planFor : Cond.selects yX3_planFor.cls yX3_planFor yX3_planFor ∈ gtb := gtb_of 437 (by decide +kernel) (by decide +kernel)
set_option maxRecDepth 100000 in
theorem mf_X5_turnable : MF yX5_turnable cX5_turnable 3 (some .int) 0 := ⟨gtb_of 442 (by decide +kernel) (by decide +kernel), gtb_of 45 (by decide +kernel) (by decide +kernel), ⟨by decide +kernel, by decide +kernel⟩, by decide +kernel⟩
set_option maxRecDepth 100000 in
theorem in_X5_turnable : Cond.instanceMethod yX5_turnable ∈ gtb := gtb_of 440 (by decide +kernel) (by decide +kernel)
set_option maxRecDepth 100000 in
theorem se_X5_turnable : Cond.selects yX5_turnable.cls yX5_turnable yX5_turnable ∈ gtb := gtb_of 441 (by decide +kernel) (by decide +kernel)
set_option maxRecDepth 100000 in
theorem mf_X3_listUsed : MF yX3_listUsed cX3_listUsed 3 none 0 := ⟨gtb_of 446 (by decide +kernel) (by decide +kernel), gtb_of 49 (by decide +kernel) (by decide +kernel), ⟨by decide +kernel, by decide +kernel⟩, by decide +kernel⟩
set_option maxRecDepth 100000 in
theorem in_X3_listUsed : Cond.instanceMethod yX3_listUsed ∈ gtb := gtb_of 445 (by decide +kernel) (by decide +kernel)
set_option maxRecDepth 100000 in
theorem se_X3_listUsed : Cond.selects yX3_listUsed.cls yX3_listUsed yX3_listUsed ∈ gtb := gtb_of 2 (by decide +kernel) (by decide +kernel)
set_option maxRecDepth 100000 in
theorem mf_X5_usedSet : MF yX5_usedSet cX5_usedSet 3 (some .int) 0 := ⟨gtb_of 450 (by decide +kernel) (by decide +kernel), gtb_of 45 (by decide +kernel) (by decide +kernel), ⟨by decide +kernel, by decide +kernel⟩, by decide +kernel⟩
set_option maxRecDepth 100000 in
theorem in_X5_usedSet : Cond.instanceMethod yX5_usedSet ∈ gtb := gtb_of 448 (by decide +kernel) (by decide +kernel)
set_option maxRecDepth 100000 in
theorem se_X5_usedSet : Cond.selects yX5_usedSet.cls yX5_usedSet yX5_usedSet ∈ gtb := gtb_of 449 (by decide +kernel) (by decide +kernel)
set_option maxRecDepth 100000 in
theorem mf_X3_divide : MF yX3_divide cX3_divide 6 none 2 := ⟨gtb_of 454 (by decide +kernel) (by decide +kernel), gtb_of 49 (by decide +kernel) (by decide +kernel), ⟨by decide +kernel, by decide +kernel⟩, by decide +kernel⟩
set_option maxRecDepth 100000 in
theorem in_X3_divide : Cond.instanceMethod yX3_divide ∈ gtb := gtb_of 453 (by decide +kernel) (by decide +kernel)
set_option maxRecDepth 100000 in
theorem se_X3_divide : Cond.selects yX3_divide.cls yX3_divide yX3_divide ∈ gtb := gtb_of 3 (by decide +kernel) (by decide +kernel)
set_option maxRecDepth 100000 in
theorem mf_X3_compare : MF yX3_compare cX3_compare 8 none 1 := ⟨gtb_of 458 (by decide +kernel) (by decide +kernel), gtb_of 49 (by decide +kernel) (by decide +kernel), ⟨by decide +kernel, by decide +kernel⟩, by decide +kernel⟩
set_option maxRecDepth 100000 in
theorem in_X3_compare : Cond.instanceMethod yX3_compare ∈ gtb := gtb_of 457 (by decide +kernel) (by decide +kernel)
set_option maxRecDepth 100000 in
theorem se_X3_compare : Cond.selects yX3_compare.cls yX3_compare yX3_compare ∈ gtb := gtb_of 4 (by decide +kernel) (by decide +kernel)
set_option maxRecDepth 100000 in
theorem mf_X1_leastBelow : MF yX1_leastBelow cX1_leastBelow 6 (some .int) 4 := ⟨gtb_of 462 (by decide +kernel) (by decide +kernel), gtb_of 50 (by decide +kernel) (by decide +kernel), ⟨by decide +kernel, by decide +kernel⟩, by decide +kernel⟩
set_option maxRecDepth 100000 in
theorem in_X1_leastBelow : Cond.instanceMethod yX1_leastBelow ∈ gtb := gtb_of 460 (by decide +kernel) (by decide +kernel)
set_option maxRecDepth 100000 in
theorem se_X1_leastBelow : Cond.selects yX1_leastBelow.cls yX1_leastBelow yX1_leastBelow ∈ gtb := gtb_of 461 (by decide +kernel) (by decide +kernel)
set_option maxRecDepth 100000 in
theorem mf_X6_trace : MF yX6_trace cX6_trace 8 none 4 := ⟨gtb_of 466 (by decide +kernel) (by decide +kernel), gtb_of 47 (by decide +kernel) (by decide +kernel), ⟨by decide +kernel, by decide +kernel⟩, by decide +kernel⟩
set_option maxRecDepth 100000 in
theorem in_X6_trace : Cond.instanceMethod yX6_trace ∈ gtb := gtb_of 464 (by decide +kernel) (by decide +kernel)
set_option maxRecDepth 100000 in
theorem se_X6_trace : Cond.selects yX6_trace.cls yX6_trace yX6_trace ∈ gtb := gtb_of 465 (by decide +kernel) (by decide +kernel)
set_option maxRecDepth 100000 in
theorem mf_X6_has : MF yX6_has cX6_has 2 (some .boolean) 1 := ⟨gtb_of 471 (by decide +kernel) (by decide +kernel), gtb_of 47 (by decide +kernel) (by decide +kernel), ⟨by decide +kernel, by decide +kernel⟩, by decide +kernel⟩
set_option maxRecDepth 100000 in
theorem in_X6_has : Cond.instanceMethod yX6_has ∈ gtb := gtb_of 470 (by decide +kernel) (by decide +kernel)
set_option maxRecDepth 100000 in
theorem se_X6_has : Cond.selects yX6_has.cls yX6_has yX6_has ∈ gtb := gtb_of 5 (by decide +kernel) (by decide +kernel)
set_option maxRecDepth 100000 in
theorem mf_X6_fork : MF yX6_fork cX6_fork 3 none 2 := ⟨gtb_of 475 (by decide +kernel) (by decide +kernel), gtb_of 47 (by decide +kernel) (by decide +kernel), ⟨by decide +kernel, by decide +kernel⟩, by decide +kernel⟩
set_option maxRecDepth 100000 in
theorem in_X6_fork : Cond.instanceMethod yX6_fork ∈ gtb := gtb_of 474 (by decide +kernel) (by decide +kernel)
set_option maxRecDepth 100000 in
theorem se_X6_fork : Cond.selects yX6_fork.cls yX6_fork yX6_fork ∈ gtb := gtb_of 6 (by decide +kernel) (by decide +kernel)
set_option maxRecDepth 100000 in
theorem mf_X6_addFork : MF yX6_addFork cX6_addFork 4 none 3 := ⟨gtb_of 479 (by decide +kernel) (by decide +kernel), gtb_of 47 (by decide +kernel) (by decide +kernel), ⟨by decide +kernel, by decide +kernel⟩, by decide +kernel⟩
set_option maxRecDepth 100000 in
theorem in_X6_addFork : Cond.instanceMethod yX6_addFork ∈ gtb := gtb_of 478 (by decide +kernel) (by decide +kernel)
set_option maxRecDepth 100000 in
theorem se_X6_addFork : Cond.selects yX6_addFork.cls yX6_addFork yX6_addFork ∈ gtb := gtb_of 7 (by decide +kernel) (by decide +kernel)
set_option maxRecDepth 100000 in
theorem mf_X6_pair : MF yX6_pair cX6_pair 3 none 2 := ⟨gtb_of 483 (by decide +kernel) (by decide +kernel), gtb_of 47 (by decide +kernel) (by decide +kernel), ⟨by decide +kernel, by decide +kernel⟩, by decide +kernel⟩
set_option maxRecDepth 100000 in
theorem in_X6_pair : Cond.instanceMethod yX6_pair ∈ gtb := gtb_of 482 (by decide +kernel) (by decide +kernel)
set_option maxRecDepth 100000 in
theorem se_X6_pair : Cond.selects yX6_pair.cls yX6_pair yX6_pair ∈ gtb := gtb_of 8 (by decide +kernel) (by decide +kernel)
set_option maxRecDepth 100000 in
theorem mf_X6_pass : MF yX6_pass cX6_pass 2 none 1 := ⟨gtb_of 487 (by decide +kernel) (by decide +kernel), gtb_of 47 (by decide +kernel) (by decide +kernel), ⟨by decide +kernel, by decide +kernel⟩, by decide +kernel⟩
set_option maxRecDepth 100000 in
theorem in_X6_pass : Cond.instanceMethod yX6_pass ∈ gtb := gtb_of 486 (by decide +kernel) (by decide +kernel)
set_option maxRecDepth 100000 in
theorem se_X6_pass : Cond.selects yX6_pass.cls yX6_pass yX6_pass ∈ gtb := gtb_of 9 (by decide +kernel) (by decide +kernel)
set_option maxRecDepth 100000 in
theorem mf_X1_findTwins : MF yX1_findTwins cX1_findTwins 3 none 0 := ⟨gtb_of 491 (by decide +kernel) (by decide +kernel), gtb_of 50 (by decide +kernel) (by decide +kernel), ⟨by decide +kernel, by decide +kernel⟩, by decide +kernel⟩
set_option maxRecDepth 100000 in
theorem in_X1_findTwins : Cond.instanceMethod yX1_findTwins ∈ gtb := gtb_of 490 (by decide +kernel) (by decide +kernel)
set_option maxRecDepth 100000 in
theorem se_X1_findTwins : Cond.selects yX1_findTwins.cls yX1_findTwins yX1_findTwins ∈ gtb := gtb_of 10 (by decide +kernel) (by decide +kernel)
set_option maxRecDepth 100000 in
theorem mf_X6_areTwins : MF yX6_areTwins cX6_areTwins 5 (some .boolean) 3 := ⟨gtb_of 495 (by decide +kernel) (by decide +kernel), gtb_of 47 (by decide +kernel) (by decide +kernel), ⟨by decide +kernel, by decide +kernel⟩, by decide +kernel⟩
set_option maxRecDepth 100000 in
theorem in_X6_areTwins : Cond.instanceMethod yX6_areTwins ∈ gtb := gtb_of 493 (by decide +kernel) (by decide +kernel)
set_option maxRecDepth 100000 in
theorem se_X6_areTwins : Cond.selects yX6_areTwins.cls yX6_areTwins yX6_areTwins ∈ gtb := gtb_of 494 (by decide +kernel) (by decide +kernel)
set_option maxRecDepth 100000 in
theorem mf_X1_lay : MF yX1_lay cX1_lay 10 none 3 := ⟨gtb_of 499 (by decide +kernel) (by decide +kernel), gtb_of 50 (by decide +kernel) (by decide +kernel), ⟨by decide +kernel, by decide +kernel⟩, by decide +kernel⟩
set_option maxRecDepth 100000 in
theorem in_X1_lay : Cond.instanceMethod yX1_lay ∈ gtb := gtb_of 498 (by decide +kernel) (by decide +kernel)
set_option maxRecDepth 100000 in
theorem se_X1_lay : Cond.selects yX1_lay.cls yX1_lay yX1_lay ∈ gtb := gtb_of 11 (by decide +kernel) (by decide +kernel)
set_option maxRecDepth 100000 in
theorem mf_X6_pairCost : MF yX6_pairCost cX6_pairCost 6 (some .int) 2 := ⟨gtb_of 503 (by decide +kernel) (by decide +kernel), gtb_of 47 (by decide +kernel) (by decide +kernel), ⟨by decide +kernel, by decide +kernel⟩, by decide +kernel⟩
set_option maxRecDepth 100000 in
theorem in_X6_pairCost : Cond.instanceMethod yX6_pairCost ∈ gtb := gtb_of 501 (by decide +kernel) (by decide +kernel)
set_option maxRecDepth 100000 in
theorem se_X6_pairCost : Cond.selects yX6_pairCost.cls yX6_pairCost yX6_pairCost ∈ gtb := gtb_of 502 (by decide +kernel) (by decide +kernel)
set_option maxRecDepth 100000 in
theorem mf_X6_forkCost : MF yX6_forkCost cX6_forkCost 11 (some .int) 1 := ⟨gtb_of 507 (by decide +kernel) (by decide +kernel), gtb_of 47 (by decide +kernel) (by decide +kernel), ⟨by decide +kernel, by decide +kernel⟩, by decide +kernel⟩
set_option maxRecDepth 100000 in
theorem in_X6_forkCost : Cond.instanceMethod yX6_forkCost ∈ gtb := gtb_of 505 (by decide +kernel) (by decide +kernel)
set_option maxRecDepth 100000 in
theorem se_X6_forkCost : Cond.selects yX6_forkCost.cls yX6_forkCost yX6_forkCost ∈ gtb := gtb_of 506 (by decide +kernel) (by decide +kernel)
set_option maxRecDepth 100000 in
theorem cd_min : Cond.code Lib.Math.min.name Lib.Math.min.code 2 (some .int) ∈ gtb := gtb_of 510 (by decide +kernel) (by decide +kernel)
set_option maxRecDepth 100000 in
theorem sm_min : Cond.static Lib.Math.min.name ∈ gtb := gtb_of 509 (by decide +kernel) (by decide +kernel)
set_option maxRecDepth 100000 in
theorem mf_X1_keep : MF yX1_keep cX1_keep 2 none 0 := ⟨gtb_of 514 (by decide +kernel) (by decide +kernel), gtb_of 50 (by decide +kernel) (by decide +kernel), ⟨by decide +kernel, by decide +kernel⟩, by decide +kernel⟩
set_option maxRecDepth 100000 in
theorem in_X1_keep : Cond.instanceMethod yX1_keep ∈ gtb := gtb_of 513 (by decide +kernel) (by decide +kernel)
set_option maxRecDepth 100000 in
theorem se_X1_keep : Cond.selects yX1_keep.cls yX1_keep yX1_keep ∈ gtb := gtb_of 12 (by decide +kernel) (by decide +kernel)
set_option maxRecDepth 100000 in
theorem mf_J6_bitCount_0f7a4 : MF yJ6_bitCount_0f7a4 cJ6_bitCount_0f7a4 1 (some .int) 1 := ⟨gtb_of 519 (by decide +kernel) (by decide +kernel), gtb_of 56 (by decide +kernel) (by decide +kernel), ⟨by decide +kernel, by decide +kernel⟩, by decide +kernel⟩
set_option maxRecDepth 100000 in
theorem sm_J6_bitCount_0f7a4 : Cond.static yJ6_bitCount_0f7a4 ∈ gtb := gtb_of 518 (by decide +kernel) (by decide +kernel)
set_option maxRecDepth 100000 in
theorem cd_max : Cond.code Lib.Math.max.name Lib.Math.max.code 2 (some .int) ∈ gtb := gtb_of 525 (by decide +kernel) (by decide +kernel)
set_option maxRecDepth 100000 in
theorem sm_max : Cond.static Lib.Math.max.name ∈ gtb := gtb_of 524 (by decide +kernel) (by decide +kernel)
set_option maxRecDepth 100000 in
theorem mf_X3_write : MF yX3_write cX3_write 5 none 1 := ⟨gtb_of 529 (by decide +kernel) (by decide +kernel), gtb_of 49 (by decide +kernel) (by decide +kernel), ⟨by decide +kernel, by decide +kernel⟩, by decide +kernel⟩
set_option maxRecDepth 100000 in
theorem in_X3_write : Cond.instanceMethod yX3_write ∈ gtb := gtb_of 528 (by decide +kernel) (by decide +kernel)
set_option maxRecDepth 100000 in
theorem se_X3_write : Cond.selects yX3_write.cls yX3_write yX3_write ∈ gtb := gtb_of 13 (by decide +kernel) (by decide +kernel)
set_option maxRecDepth 100000 in
theorem mf_X3_turnedIn : MF yX3_turnedIn cX3_turnedIn 7 (some .int) 2 := ⟨gtb_of 533 (by decide +kernel) (by decide +kernel), gtb_of 49 (by decide +kernel) (by decide +kernel), ⟨by decide +kernel, by decide +kernel⟩, by decide +kernel⟩
set_option maxRecDepth 100000 in
theorem in_X3_turnedIn : Cond.instanceMethod yX3_turnedIn ∈ gtb := gtb_of 532 (by decide +kernel) (by decide +kernel)
set_option maxRecDepth 100000 in
theorem se_X3_turnedIn : Cond.selects yX3_turnedIn.cls yX3_turnedIn yX3_turnedIn ∈ gtb := gtb_of 14 (by decide +kernel) (by decide +kernel)
set_option maxRecDepth 100000 in
theorem mf_X6_cost : MF yX6_cost cX6_cost 4 (some .int) 1 := ⟨gtb_of 538 (by decide +kernel) (by decide +kernel), gtb_of 47 (by decide +kernel) (by decide +kernel), ⟨by decide +kernel, by decide +kernel⟩, by decide +kernel⟩
set_option maxRecDepth 100000 in
theorem in_X6_cost : Cond.instanceMethod yX6_cost ∈ gtb := gtb_of 536 (by decide +kernel) (by decide +kernel)
set_option maxRecDepth 100000 in
theorem se_X6_cost : Cond.selects yX6_cost.cls yX6_cost yX6_cost ∈ gtb := gtb_of 537 (by decide +kernel) (by decide +kernel)
set_option maxRecDepth 100000 in
theorem mf_X7_place : MF yX7_place cX7_place 6 (some .int) 4 := ⟨gtb_of 545 (by decide +kernel) (by decide +kernel), gtb_of 44 (by decide +kernel) (by decide +kernel), ⟨by decide +kernel, by decide +kernel⟩, by decide +kernel⟩
set_option maxRecDepth 100000 in
theorem in_X7_place : Cond.instanceMethod yX7_place ∈ gtb := gtb_of 543 (by decide +kernel) (by decide +kernel)
set_option maxRecDepth 100000 in
theorem se_X7_place : Cond.selects yX7_place.cls yX7_place yX7_place ∈ gtb := gtb_of 544 (by decide +kernel) (by decide +kernel)
set_option maxRecDepth 100000 in
theorem mf_X7_step : MF yX7_step cX7_step 9 (some .int) 4 := ⟨gtb_of 550 (by decide +kernel) (by decide +kernel), gtb_of 44 (by decide +kernel) (by decide +kernel), ⟨by decide +kernel, by decide +kernel⟩, by decide +kernel⟩
set_option maxRecDepth 100000 in
theorem in_X7_step : Cond.instanceMethod yX7_step ∈ gtb := gtb_of 548 (by decide +kernel) (by decide +kernel)
set_option maxRecDepth 100000 in
theorem se_X7_step : Cond.selects yX7_step.cls yX7_step yX7_step ∈ gtb := gtb_of 549 (by decide +kernel) (by decide +kernel)
set_option maxRecDepth 100000 in
theorem mf_X4_before : MF yX4_before cX4_before 5 (some .int) 2 := ⟨gtb_of 554 (by decide +kernel) (by decide +kernel), gtb_of 46 (by decide +kernel) (by decide +kernel), ⟨by decide +kernel, by decide +kernel⟩, by decide +kernel⟩
set_option maxRecDepth 100000 in
theorem in_X4_before : Cond.instanceMethod yX4_before ∈ gtb := gtb_of 552 (by decide +kernel) (by decide +kernel)
set_option maxRecDepth 100000 in
theorem se_X4_before : Cond.selects yX4_before.cls yX4_before yX4_before ∈ gtb := gtb_of 553 (by decide +kernel) (by decide +kernel)
set_option maxRecDepth 100000 in
theorem mf_X7_run : MF yX7_run cX7_run 3 (some .int) 2 := ⟨gtb_of 559 (by decide +kernel) (by decide +kernel), gtb_of 44 (by decide +kernel) (by decide +kernel), ⟨by decide +kernel, by decide +kernel⟩, by decide +kernel⟩
set_option maxRecDepth 100000 in
theorem in_X7_run : Cond.instanceMethod yX7_run ∈ gtb := gtb_of 557 (by decide +kernel) (by decide +kernel)
set_option maxRecDepth 100000 in
theorem se_X7_run : Cond.selects yX7_run.cls yX7_run yX7_run ∈ gtb := gtb_of 558 (by decide +kernel) (by decide +kernel)
set_option maxRecDepth 100000 in
theorem mf_X5_execute : MF yX5_execute cX5_execute 2 none 0 := ⟨gtb_of 563 (by decide +kernel) (by decide +kernel), gtb_of 45 (by decide +kernel) (by decide +kernel), ⟨by decide +kernel, by decide +kernel⟩, by decide +kernel⟩
set_option maxRecDepth 100000 in
theorem in_X5_execute : Cond.instanceMethod yX5_execute ∈ gtb := gtb_of 561 (by decide +kernel) (by decide +kernel)
set_option maxRecDepth 100000 in
theorem se_X5_execute : Cond.selects yX5_execute.cls yX5_execute yX5_execute ∈ gtb := gtb_of 562 (by decide +kernel) (by decide +kernel)
set_option maxRecDepth 100000 in
theorem mf_X5_result : MF yX5_result cX5_result 3 (some .int) 3 := ⟨gtb_of 566 (by decide +kernel) (by decide +kernel), gtb_of 45 (by decide +kernel) (by decide +kernel), ⟨by decide +kernel, by decide +kernel⟩, by decide +kernel⟩
set_option maxRecDepth 100000 in
theorem sm_X5_result : Cond.static yX5_result ∈ gtb := gtb_of 565 (by decide +kernel) (by decide +kernel)
set_option maxRecDepth 100000 in
theorem mf_X7_weight : MF yX7_weight cX7_weight 3 (some .int) 2 := ⟨gtb_of 571 (by decide +kernel) (by decide +kernel), gtb_of 44 (by decide +kernel) (by decide +kernel), ⟨by decide +kernel, by decide +kernel⟩, by decide +kernel⟩
set_option maxRecDepth 100000 in
theorem in_X7_weight : Cond.instanceMethod yX7_weight ∈ gtb := gtb_of 569 (by decide +kernel) (by decide +kernel)
set_option maxRecDepth 100000 in
theorem se_X7_weight : Cond.selects yX7_weight.cls yX7_weight yX7_weight ∈ gtb := gtb_of 570 (by decide +kernel) (by decide +kernel)
set_option maxRecDepth 100000 in
theorem mf_X7_weights : MF yX7_weights cX7_weights 1 (some (.array .int)) 0 := ⟨gtb_of 575 (by decide +kernel) (by decide +kernel), gtb_of 44 (by decide +kernel) (by decide +kernel), ⟨by decide +kernel, by decide +kernel⟩, by decide +kernel⟩
set_option maxRecDepth 100000 in
theorem in_X7_weights : Cond.instanceMethod yX7_weights ∈ gtb := gtb_of 574 (by decide +kernel) (by decide +kernel)
set_option maxRecDepth 100000 in
theorem se_X7_weights : Cond.selects yX7_weights.cls yX7_weights yX7_weights ∈ gtb := gtb_of 15 (by decide +kernel) (by decide +kernel)
set_option maxRecDepth 100000 in
theorem mf_X7_taken : MF yX7_taken cX7_taken 3 (some .int) 2 := ⟨gtb_of 580 (by decide +kernel) (by decide +kernel), gtb_of 44 (by decide +kernel) (by decide +kernel), ⟨by decide +kernel, by decide +kernel⟩, by decide +kernel⟩
set_option maxRecDepth 100000 in
theorem in_X7_taken : Cond.instanceMethod yX7_taken ∈ gtb := gtb_of 578 (by decide +kernel) (by decide +kernel)
set_option maxRecDepth 100000 in
theorem se_X7_taken : Cond.selects yX7_taken.cls yX7_taken yX7_taken ∈ gtb := gtb_of 579 (by decide +kernel) (by decide +kernel)
set_option maxRecDepth 100000 in
theorem mf_X0_take : MF yX0_take cX0_take 6 none 1 := ⟨gtb_of 584 (by decide +kernel) (by decide +kernel), gtb_of 53 (by decide +kernel) (by decide +kernel), ⟨by decide +kernel, by decide +kernel⟩, by decide +kernel⟩
set_option maxRecDepth 100000 in
theorem in_X0_take : Cond.instanceMethod yX0_take ∈ gtb := gtb_of 582 (by decide +kernel) (by decide +kernel)
set_option maxRecDepth 100000 in
theorem se_X0_take : Cond.selects yX0_take.cls yX0_take yX0_take ∈ gtb := gtb_of 583 (by decide +kernel) (by decide +kernel)
set_option maxRecDepth 100000 in
theorem mf_X0_load : MF yX0_load cX0_load 6 (some .int) 1 := ⟨gtb_of 589 (by decide +kernel) (by decide +kernel), gtb_of 53 (by decide +kernel) (by decide +kernel), ⟨by decide +kernel, by decide +kernel⟩, by decide +kernel⟩
set_option maxRecDepth 100000 in
theorem in_X0_load : Cond.instanceMethod yX0_load ∈ gtb := gtb_of 588 (by decide +kernel) (by decide +kernel)
set_option maxRecDepth 100000 in
theorem se_X0_load : Cond.selects yX0_load.cls yX0_load yX0_load ∈ gtb := gtb_of 16 (by decide +kernel) (by decide +kernel)
set_option maxRecDepth 100000 in
theorem mf_X0_greatest : MF yX0_greatest cX0_greatest 4 (some .int) 0 := ⟨gtb_of 593 (by decide +kernel) (by decide +kernel), gtb_of 53 (by decide +kernel) (by decide +kernel), ⟨by decide +kernel, by decide +kernel⟩, by decide +kernel⟩
set_option maxRecDepth 100000 in
theorem in_X0_greatest : Cond.instanceMethod yX0_greatest ∈ gtb := gtb_of 592 (by decide +kernel) (by decide +kernel)
set_option maxRecDepth 100000 in
theorem se_X0_greatest : Cond.selects yX0_greatest.cls yX0_greatest yX0_greatest ∈ gtb := gtb_of 17 (by decide +kernel) (by decide +kernel)
set_option maxRecDepth 100000 in
theorem mf_X0_join : MF yX0_join cX0_join 5 none 2 := ⟨gtb_of 597 (by decide +kernel) (by decide +kernel), gtb_of 53 (by decide +kernel) (by decide +kernel), ⟨by decide +kernel, by decide +kernel⟩, by decide +kernel⟩
set_option maxRecDepth 100000 in
theorem in_X0_join : Cond.instanceMethod yX0_join ∈ gtb := gtb_of 596 (by decide +kernel) (by decide +kernel)
set_option maxRecDepth 100000 in
theorem se_X0_join : Cond.selects yX0_join.cls yX0_join yX0_join ∈ gtb := gtb_of 18 (by decide +kernel) (by decide +kernel)
set_option maxRecDepth 100000 in
theorem mf_X0_has : MF yX0_has cX0_has 3 (some .boolean) 2 := ⟨gtb_of 601 (by decide +kernel) (by decide +kernel), gtb_of 53 (by decide +kernel) (by decide +kernel), ⟨by decide +kernel, by decide +kernel⟩, by decide +kernel⟩
set_option maxRecDepth 100000 in
theorem in_X0_has : Cond.instanceMethod yX0_has ∈ gtb := gtb_of 599 (by decide +kernel) (by decide +kernel)
set_option maxRecDepth 100000 in
theorem se_X0_has : Cond.selects yX0_has.cls yX0_has yX0_has ∈ gtb := gtb_of 600 (by decide +kernel) (by decide +kernel)
set_option maxRecDepth 100000 in
theorem mf_X7_exchange : MF yX7_exchange cX7_exchange 4 (some .int) 2 := ⟨gtb_of 605 (by decide +kernel) (by decide +kernel), gtb_of 44 (by decide +kernel) (by decide +kernel), ⟨by decide +kernel, by decide +kernel⟩, by decide +kernel⟩
set_option maxRecDepth 100000 in
theorem in_X7_exchange : Cond.instanceMethod yX7_exchange ∈ gtb := gtb_of 603 (by decide +kernel) (by decide +kernel)
set_option maxRecDepth 100000 in
theorem se_X7_exchange : Cond.selects yX7_exchange.cls yX7_exchange yX7_exchange ∈ gtb := gtb_of 604 (by decide +kernel) (by decide +kernel)
set_option maxRecDepth 100000 in
theorem mf_X7_hand : MF yX7_hand cX7_hand 2 (some .int) 1 := ⟨gtb_of 609 (by decide +kernel) (by decide +kernel), gtb_of 44 (by decide +kernel) (by decide +kernel), ⟨by decide +kernel, by decide +kernel⟩, by decide +kernel⟩
set_option maxRecDepth 100000 in
theorem in_X7_hand : Cond.instanceMethod yX7_hand ∈ gtb := gtb_of 607 (by decide +kernel) (by decide +kernel)
set_option maxRecDepth 100000 in
theorem se_X7_hand : Cond.selects yX7_hand.cls yX7_hand yX7_hand ∈ gtb := gtb_of 608 (by decide +kernel) (by decide +kernel)
set_option maxRecDepth 100000 in
theorem mf_X7_count : MF yX7_count cX7_count 2 (some .int) 1 := ⟨gtb_of 615 (by decide +kernel) (by decide +kernel), gtb_of 44 (by decide +kernel) (by decide +kernel), ⟨by decide +kernel, by decide +kernel⟩, by decide +kernel⟩
set_option maxRecDepth 100000 in
theorem in_X7_count : Cond.instanceMethod yX7_count ∈ gtb := gtb_of 613 (by decide +kernel) (by decide +kernel)
set_option maxRecDepth 100000 in
theorem se_X7_count : Cond.selects yX7_count.cls yX7_count yX7_count ∈ gtb := gtb_of 614 (by decide +kernel) (by decide +kernel)
set_option maxRecDepth 100000 in
theorem mf_X7_first : MF yX7_first cX7_first 1 (some .int) 0 := ⟨gtb_of 619 (by decide +kernel) (by decide +kernel), gtb_of 44 (by decide +kernel) (by decide +kernel), ⟨by decide +kernel, by decide +kernel⟩, by decide +kernel⟩
set_option maxRecDepth 100000 in
theorem in_X7_first : Cond.instanceMethod yX7_first ∈ gtb := gtb_of 618 (by decide +kernel) (by decide +kernel)
set_option maxRecDepth 100000 in
theorem se_X7_first : Cond.selects yX7_first.cls yX7_first yX7_first ∈ gtb := gtb_of 19 (by decide +kernel) (by decide +kernel)
set_option maxRecDepth 100000 in
theorem mf_X0_leftByGreatest : MF yX0_leftByGreatest cX0_leftByGreatest 6 (some .int) 2 := ⟨gtb_of 624 (by decide +kernel) (by decide +kernel), gtb_of 53 (by decide +kernel) (by decide +kernel), ⟨by decide +kernel, by decide +kernel⟩, by decide +kernel⟩
set_option maxRecDepth 100000 in
theorem in_X0_leftByGreatest : Cond.instanceMethod yX0_leftByGreatest ∈ gtb := gtb_of 622 (by decide +kernel) (by decide +kernel)
set_option maxRecDepth 100000 in
theorem se_X0_leftByGreatest : Cond.selects yX0_leftByGreatest.cls yX0_leftByGreatest yX0_leftByGreatest ∈ gtb := gtb_of 623 (by decide +kernel) (by decide +kernel)
set_option maxRecDepth 100000 in
theorem mf_X7_image : MF yX7_image cX7_image 2 (some .int) 1 := ⟨gtb_of 628 (by decide +kernel) (by decide +kernel), gtb_of 44 (by decide +kernel) (by decide +kernel), ⟨by decide +kernel, by decide +kernel⟩, by decide +kernel⟩
set_option maxRecDepth 100000 in
theorem in_X7_image : Cond.instanceMethod yX7_image ∈ gtb := gtb_of 626 (by decide +kernel) (by decide +kernel)
set_option maxRecDepth 100000 in
theorem se_X7_image : Cond.selects yX7_image.cls yX7_image yX7_image ∈ gtb := gtb_of 627 (by decide +kernel) (by decide +kernel)
set_option maxRecDepth 100000 in
theorem mf_X5_copyFrom : MF yX5_copyFrom cX5_copyFrom 2 none 1 := ⟨gtb_of 632 (by decide +kernel) (by decide +kernel), gtb_of 45 (by decide +kernel) (by decide +kernel), ⟨by decide +kernel, by decide +kernel⟩, by decide +kernel⟩
set_option maxRecDepth 100000 in
theorem in_X5_copyFrom : Cond.instanceMethod yX5_copyFrom ∈ gtb := gtb_of 630 (by decide +kernel) (by decide +kernel)
set_option maxRecDepth 100000 in
theorem se_X5_copyFrom : Cond.selects yX5_copyFrom.cls yX5_copyFrom yX5_copyFrom ∈ gtb := gtb_of 631 (by decide +kernel) (by decide +kernel)
set_option maxRecDepth 100000 in
theorem mf_X7_restore : MF yX7_restore cX7_restore 2 (some .int) 1 := ⟨gtb_of 636 (by decide +kernel) (by decide +kernel), gtb_of 44 (by decide +kernel) (by decide +kernel), ⟨by decide +kernel, by decide +kernel⟩, by decide +kernel⟩
set_option maxRecDepth 100000 in
theorem in_X7_restore : Cond.instanceMethod yX7_restore ∈ gtb := gtb_of 634 (by decide +kernel) (by decide +kernel)
set_option maxRecDepth 100000 in
theorem se_X7_restore : Cond.selects yX7_restore.cls yX7_restore yX7_restore ∈ gtb := gtb_of 635 (by decide +kernel) (by decide +kernel)
set_option maxRecDepth 100000 in
theorem mf_X8_put : MF yX8_put cX8_put 5 (some .int) 4 := ⟨gtb_of 734 (by decide +kernel) (by decide +kernel), gtb_of 54 (by decide +kernel) (by decide +kernel), ⟨by decide +kernel, by decide +kernel⟩, by decide +kernel⟩
set_option maxRecDepth 100000 in
theorem in_X8_put : Cond.instanceMethod yX8_put ∈ gtb := gtb_of 732 (by decide +kernel) (by decide +kernel)
set_option maxRecDepth 100000 in
theorem se_X8_put : Cond.selects yX8_put.cls yX8_put yX8_put ∈ gtb := gtb_of 733 (by decide +kernel) (by decide +kernel)
set_option maxRecDepth 100000 in
theorem mf_X8_in : MF yX8_in cX8_in 3 (some .boolean) 3 := ⟨gtb_of 737 (by decide +kernel) (by decide +kernel), gtb_of 54 (by decide +kernel) (by decide +kernel), ⟨by decide +kernel, by decide +kernel⟩, by decide +kernel⟩
set_option maxRecDepth 100000 in
theorem sm_X8_in : Cond.static yX8_in ∈ gtb := gtb_of 736 (by decide +kernel) (by decide +kernel)
set_option maxRecDepth 100000 in
theorem mf_X8_isVariable : MF yX8_isVariable cX8_isVariable 1 (some .boolean) 1 := ⟨gtb_of 740 (by decide +kernel) (by decide +kernel), gtb_of 54 (by decide +kernel) (by decide +kernel), ⟨by decide +kernel, by decide +kernel⟩, by decide +kernel⟩
set_option maxRecDepth 100000 in
theorem sm_X8_isVariable : Cond.static yX8_isVariable ∈ gtb := gtb_of 739 (by decide +kernel) (by decide +kernel)
set_option maxRecDepth 100000 in
theorem mf_X8_change : MF yX8_change cX8_change 1 none 0 := ⟨gtb_of 744 (by decide +kernel) (by decide +kernel), gtb_of 54 (by decide +kernel) (by decide +kernel), ⟨by decide +kernel, by decide +kernel⟩, by decide +kernel⟩
set_option maxRecDepth 100000 in
theorem in_X8_change : Cond.instanceMethod yX8_change ∈ gtb := gtb_of 743 (by decide +kernel) (by decide +kernel)
set_option maxRecDepth 100000 in
theorem se_X8_change : Cond.selects yX8_change.cls yX8_change yX8_change ∈ gtb := gtb_of 20 (by decide +kernel) (by decide +kernel)
set_option maxRecDepth 100000 in
theorem mf_X8_drop : MF yX8_drop cX8_drop 3 (some .int) 1 := ⟨gtb_of 748 (by decide +kernel) (by decide +kernel), gtb_of 54 (by decide +kernel) (by decide +kernel), ⟨by decide +kernel, by decide +kernel⟩, by decide +kernel⟩
set_option maxRecDepth 100000 in
theorem in_X8_drop : Cond.instanceMethod yX8_drop ∈ gtb := gtb_of 746 (by decide +kernel) (by decide +kernel)
set_option maxRecDepth 100000 in
theorem se_X8_drop : Cond.selects yX8_drop.cls yX8_drop yX8_drop ∈ gtb := gtb_of 747 (by decide +kernel) (by decide +kernel)
set_option maxRecDepth 100000 in
theorem mf_X8_isStatement : MF yX8_isStatement cX8_isStatement 2 (some .boolean) 1 := ⟨gtb_of 752 (by decide +kernel) (by decide +kernel), gtb_of 54 (by decide +kernel) (by decide +kernel), ⟨by decide +kernel, by decide +kernel⟩, by decide +kernel⟩
set_option maxRecDepth 100000 in
theorem in_X8_isStatement : Cond.instanceMethod yX8_isStatement ∈ gtb := gtb_of 751 (by decide +kernel) (by decide +kernel)
set_option maxRecDepth 100000 in
theorem se_X8_isStatement : Cond.selects yX8_isStatement.cls yX8_isStatement yX8_isStatement ∈ gtb := gtb_of 21 (by decide +kernel) (by decide +kernel)
set_option maxRecDepth 100000 in
theorem mf_X8_cross : MF yX8_cross cX8_cross 3 (some .int) 1 := ⟨gtb_of 756 (by decide +kernel) (by decide +kernel), gtb_of 54 (by decide +kernel) (by decide +kernel), ⟨by decide +kernel, by decide +kernel⟩, by decide +kernel⟩
set_option maxRecDepth 100000 in
theorem in_X8_cross : Cond.instanceMethod yX8_cross ∈ gtb := gtb_of 754 (by decide +kernel) (by decide +kernel)
set_option maxRecDepth 100000 in
theorem se_X8_cross : Cond.selects yX8_cross.cls yX8_cross yX8_cross ∈ gtb := gtb_of 755 (by decide +kernel) (by decide +kernel)
set_option maxRecDepth 100000 in
theorem mf_X8_told : MF yX8_told cX8_told 3 (some .int) 2 := ⟨gtb_of 760 (by decide +kernel) (by decide +kernel), gtb_of 54 (by decide +kernel) (by decide +kernel), ⟨by decide +kernel, by decide +kernel⟩, by decide +kernel⟩
set_option maxRecDepth 100000 in
theorem in_X8_told : Cond.instanceMethod yX8_told ∈ gtb := gtb_of 758 (by decide +kernel) (by decide +kernel)
set_option maxRecDepth 100000 in
theorem se_X8_told : Cond.selects yX8_told.cls yX8_told yX8_told ∈ gtb := gtb_of 759 (by decide +kernel) (by decide +kernel)
set_option maxRecDepth 100000 in
theorem mf_X8_free : MF yX8_free cX8_free 5 (some .int) 2 := ⟨gtb_of 764 (by decide +kernel) (by decide +kernel), gtb_of 54 (by decide +kernel) (by decide +kernel), ⟨by decide +kernel, by decide +kernel⟩, by decide +kernel⟩
set_option maxRecDepth 100000 in
theorem in_X8_free : Cond.instanceMethod yX8_free ∈ gtb := gtb_of 762 (by decide +kernel) (by decide +kernel)
set_option maxRecDepth 100000 in
theorem se_X8_free : Cond.selects yX8_free.cls yX8_free yX8_free ∈ gtb := gtb_of 763 (by decide +kernel) (by decide +kernel)
set_option maxRecDepth 100000 in
theorem mf_X8_set : MF yX8_set cX8_set 5 (some .int) 2 := ⟨gtb_of 768 (by decide +kernel) (by decide +kernel), gtb_of 54 (by decide +kernel) (by decide +kernel), ⟨by decide +kernel, by decide +kernel⟩, by decide +kernel⟩
set_option maxRecDepth 100000 in
theorem in_X8_set : Cond.instanceMethod yX8_set ∈ gtb := gtb_of 766 (by decide +kernel) (by decide +kernel)
set_option maxRecDepth 100000 in
theorem se_X8_set : Cond.selects yX8_set.cls yX8_set yX8_set ∈ gtb := gtb_of 767 (by decide +kernel) (by decide +kernel)
set_option maxRecDepth 100000 in
theorem mf_X8_value : MF yX8_value cX8_value 2 (some .long) 1 := ⟨gtb_of 772 (by decide +kernel) (by decide +kernel), gtb_of 54 (by decide +kernel) (by decide +kernel), ⟨by decide +kernel, by decide +kernel⟩, by decide +kernel⟩
set_option maxRecDepth 100000 in
theorem in_X8_value : Cond.instanceMethod yX8_value ∈ gtb := gtb_of 770 (by decide +kernel) (by decide +kernel)
set_option maxRecDepth 100000 in
theorem se_X8_value : Cond.selects yX8_value.cls yX8_value yX8_value ∈ gtb := gtb_of 771 (by decide +kernel) (by decide +kernel)
set_option maxRecDepth 100000 in
theorem mf_X8_sight : MF yX8_sight cX8_sight 2 (some .int) 1 := ⟨gtb_of 777 (by decide +kernel) (by decide +kernel), gtb_of 54 (by decide +kernel) (by decide +kernel), ⟨by decide +kernel, by decide +kernel⟩, by decide +kernel⟩
set_option maxRecDepth 100000 in
theorem in_X8_sight : Cond.instanceMethod yX8_sight ∈ gtb := gtb_of 775 (by decide +kernel) (by decide +kernel)
set_option maxRecDepth 100000 in
theorem se_X8_sight : Cond.selects yX8_sight.cls yX8_sight yX8_sight ∈ gtb := gtb_of 776 (by decide +kernel) (by decide +kernel)
set_option maxRecDepth 100000 in
theorem mf_X8_layLine : MF yX8_layLine cX8_layLine 5 (some .int) 1 := ⟨gtb_of 781 (by decide +kernel) (by decide +kernel), gtb_of 54 (by decide +kernel) (by decide +kernel), ⟨by decide +kernel, by decide +kernel⟩, by decide +kernel⟩
set_option maxRecDepth 100000 in
theorem in_X8_layLine : Cond.instanceMethod yX8_layLine ∈ gtb := gtb_of 780 (by decide +kernel) (by decide +kernel)
set_option maxRecDepth 100000 in
theorem se_X8_layLine : Cond.selects yX8_layLine.cls yX8_layLine yX8_layLine ∈ gtb := gtb_of 22 (by decide +kernel) (by decide +kernel)
set_option maxRecDepth 100000 in
theorem mf_X8_has : MF yX8_has cX8_has 2 (some .boolean) 2 := ⟨gtb_of 784 (by decide +kernel) (by decide +kernel), gtb_of 54 (by decide +kernel) (by decide +kernel), ⟨by decide +kernel, by decide +kernel⟩, by decide +kernel⟩
set_option maxRecDepth 100000 in
theorem sm_X8_has : Cond.static yX8_has ∈ gtb := gtb_of 783 (by decide +kernel) (by decide +kernel)
set_option maxRecDepth 100000 in
theorem mf_X8_seen : MF yX8_seen cX8_seen 4 (some .int) 3 := ⟨gtb_of 788 (by decide +kernel) (by decide +kernel), gtb_of 54 (by decide +kernel) (by decide +kernel), ⟨by decide +kernel, by decide +kernel⟩, by decide +kernel⟩
set_option maxRecDepth 100000 in
theorem in_X8_seen : Cond.instanceMethod yX8_seen ∈ gtb := gtb_of 787 (by decide +kernel) (by decide +kernel)
set_option maxRecDepth 100000 in
theorem se_X8_seen : Cond.selects yX8_seen.cls yX8_seen yX8_seen ∈ gtb := gtb_of 23 (by decide +kernel) (by decide +kernel)
set_option maxRecDepth 100000 in
theorem mf_X8_plan : MF yX8_plan cX8_plan 5 (some .int) 3 := ⟨gtb_of 792 (by decide +kernel) (by decide +kernel), gtb_of 54 (by decide +kernel) (by decide +kernel), ⟨by decide +kernel, by decide +kernel⟩, by decide +kernel⟩
set_option maxRecDepth 100000 in
theorem in_X8_plan : Cond.instanceMethod yX8_plan ∈ gtb := gtb_of 790 (by decide +kernel) (by decide +kernel)
set_option maxRecDepth 100000 in
theorem se_X8_plan : Cond.selects yX8_plan.cls yX8_plan yX8_plan ∈ gtb := gtb_of 791 (by decide +kernel) (by decide +kernel)
set_option maxRecDepth 100000 in
theorem mf_X8_isAsked : MF yX8_isAsked cX8_isAsked 2 (some .boolean) 2 := ⟨gtb_of 795 (by decide +kernel) (by decide +kernel), gtb_of 54 (by decide +kernel) (by decide +kernel), ⟨by decide +kernel, by decide +kernel⟩, by decide +kernel⟩
set_option maxRecDepth 100000 in
theorem sm_X8_isAsked : Cond.static yX8_isAsked ∈ gtb := gtb_of 794 (by decide +kernel) (by decide +kernel)
set_option maxRecDepth 100000 in
theorem mf_X8_layPlan : MF yX8_layPlan cX8_layPlan 8 none 2 := ⟨gtb_of 799 (by decide +kernel) (by decide +kernel), gtb_of 54 (by decide +kernel) (by decide +kernel), ⟨by decide +kernel, by decide +kernel⟩, by decide +kernel⟩
set_option maxRecDepth 100000 in
theorem in_X8_layPlan : Cond.instanceMethod yX8_layPlan ∈ gtb := gtb_of 798 (by decide +kernel) (by decide +kernel)
set_option maxRecDepth 100000 in
theorem se_X8_layPlan : Cond.selects yX8_layPlan.cls yX8_layPlan yX8_layPlan ∈ gtb := gtb_of 24 (by decide +kernel) (by decide +kernel)
set_option maxRecDepth 100000 in
theorem mf_X8_laySets : MF yX8_laySets cX8_laySets 4 none 1 := ⟨gtb_of 803 (by decide +kernel) (by decide +kernel), gtb_of 54 (by decide +kernel) (by decide +kernel), ⟨by decide +kernel, by decide +kernel⟩, by decide +kernel⟩
set_option maxRecDepth 100000 in
theorem in_X8_laySets : Cond.instanceMethod yX8_laySets ∈ gtb := gtb_of 802 (by decide +kernel) (by decide +kernel)
set_option maxRecDepth 100000 in
theorem se_X8_laySets : Cond.selects yX8_laySets.cls yX8_laySets yX8_laySets ∈ gtb := gtb_of 25 (by decide +kernel) (by decide +kernel)
set_option maxRecDepth 100000 in
theorem mf_X8_usedOnes : MF yX8_usedOnes cX8_usedOnes 4 (some .int) 0 := ⟨gtb_of 807 (by decide +kernel) (by decide +kernel), gtb_of 54 (by decide +kernel) (by decide +kernel), ⟨by decide +kernel, by decide +kernel⟩, by decide +kernel⟩
set_option maxRecDepth 100000 in
theorem in_X8_usedOnes : Cond.instanceMethod yX8_usedOnes ∈ gtb := gtb_of 806 (by decide +kernel) (by decide +kernel)
set_option maxRecDepth 100000 in
theorem se_X8_usedOnes : Cond.selects yX8_usedOnes.cls yX8_usedOnes yX8_usedOnes ∈ gtb := gtb_of 26 (by decide +kernel) (by decide +kernel)
set_option maxRecDepth 100000 in
theorem mf_X8_laySet : MF yX8_laySet cX8_laySet 8 none 2 := ⟨gtb_of 811 (by decide +kernel) (by decide +kernel), gtb_of 54 (by decide +kernel) (by decide +kernel), ⟨by decide +kernel, by decide +kernel⟩, by decide +kernel⟩
set_option maxRecDepth 100000 in
theorem in_X8_laySet : Cond.instanceMethod yX8_laySet ∈ gtb := gtb_of 810 (by decide +kernel) (by decide +kernel)
set_option maxRecDepth 100000 in
theorem se_X8_laySet : Cond.selects yX8_laySet.cls yX8_laySet yX8_laySet ∈ gtb := gtb_of 27 (by decide +kernel) (by decide +kernel)
set_option maxRecDepth 100000 in
theorem mf_X8_layPay : MF yX8_layPay cX8_layPay 7 (some .int) 2 := ⟨gtb_of 815 (by decide +kernel) (by decide +kernel), gtb_of 54 (by decide +kernel) (by decide +kernel), ⟨by decide +kernel, by decide +kernel⟩, by decide +kernel⟩
set_option maxRecDepth 100000 in
theorem in_X8_layPay : Cond.instanceMethod yX8_layPay ∈ gtb := gtb_of 814 (by decide +kernel) (by decide +kernel)
set_option maxRecDepth 100000 in
theorem se_X8_layPay : Cond.selects yX8_layPay.cls yX8_layPay yX8_layPay ∈ gtb := gtb_of 28 (by decide +kernel) (by decide +kernel)
set_option maxRecDepth 100000 in
theorem mf_X8_payBehind : MF yX8_payBehind cX8_payBehind 6 (some .int) 4 := ⟨gtb_of 819 (by decide +kernel) (by decide +kernel), gtb_of 54 (by decide +kernel) (by decide +kernel), ⟨by decide +kernel, by decide +kernel⟩, by decide +kernel⟩
set_option maxRecDepth 100000 in
theorem in_X8_payBehind : Cond.instanceMethod yX8_payBehind ∈ gtb := gtb_of 818 (by decide +kernel) (by decide +kernel)
set_option maxRecDepth 100000 in
theorem se_X8_payBehind : Cond.selects yX8_payBehind.cls yX8_payBehind yX8_payBehind ∈ gtb := gtb_of 29 (by decide +kernel) (by decide +kernel)
set_option maxRecDepth 100000 in
theorem mf_X8_costOf : MF yX8_costOf cX8_costOf 8 (some .int) 4 := ⟨gtb_of 823 (by decide +kernel) (by decide +kernel), gtb_of 54 (by decide +kernel) (by decide +kernel), ⟨by decide +kernel, by decide +kernel⟩, by decide +kernel⟩
set_option maxRecDepth 100000 in
theorem in_X8_costOf : Cond.instanceMethod yX8_costOf ∈ gtb := gtb_of 822 (by decide +kernel) (by decide +kernel)
set_option maxRecDepth 100000 in
theorem se_X8_costOf : Cond.selects yX8_costOf.cls yX8_costOf yX8_costOf ∈ gtb := gtb_of 30 (by decide +kernel) (by decide +kernel)
set_option maxRecDepth 100000 in
theorem mf_X8_isFar : MF yX8_isFar cX8_isFar 4 (some .boolean) 2 := ⟨gtb_of 827 (by decide +kernel) (by decide +kernel), gtb_of 54 (by decide +kernel) (by decide +kernel), ⟨by decide +kernel, by decide +kernel⟩, by decide +kernel⟩
set_option maxRecDepth 100000 in
theorem in_X8_isFar : Cond.instanceMethod yX8_isFar ∈ gtb := gtb_of 826 (by decide +kernel) (by decide +kernel)
set_option maxRecDepth 100000 in
theorem se_X8_isFar : Cond.selects yX8_isFar.cls yX8_isFar yX8_isFar ∈ gtb := gtb_of 31 (by decide +kernel) (by decide +kernel)
set_option maxRecDepth 100000 in
theorem mf_X8_canTurn : MF yX8_canTurn cX8_canTurn 2 (some .boolean) 1 := ⟨gtb_of 831 (by decide +kernel) (by decide +kernel), gtb_of 54 (by decide +kernel) (by decide +kernel), ⟨by decide +kernel, by decide +kernel⟩, by decide +kernel⟩
set_option maxRecDepth 100000 in
theorem in_X8_canTurn : Cond.instanceMethod yX8_canTurn ∈ gtb := gtb_of 830 (by decide +kernel) (by decide +kernel)
set_option maxRecDepth 100000 in
theorem se_X8_canTurn : Cond.selects yX8_canTurn.cls yX8_canTurn yX8_canTurn ∈ gtb := gtb_of 32 (by decide +kernel) (by decide +kernel)
set_option maxRecDepth 100000 in
theorem mf_X8_isNext : MF yX8_isNext cX8_isNext 6 (some .boolean) 1 := ⟨gtb_of 835 (by decide +kernel) (by decide +kernel), gtb_of 54 (by decide +kernel) (by decide +kernel), ⟨by decide +kernel, by decide +kernel⟩, by decide +kernel⟩
set_option maxRecDepth 100000 in
theorem in_X8_isNext : Cond.instanceMethod yX8_isNext ∈ gtb := gtb_of 834 (by decide +kernel) (by decide +kernel)
set_option maxRecDepth 100000 in
theorem se_X8_isNext : Cond.selects yX8_isNext.cls yX8_isNext yX8_isNext ∈ gtb := gtb_of 33 (by decide +kernel) (by decide +kernel)
set_option maxRecDepth 100000 in
theorem mf_X8_swap : MF yX8_swap cX8_swap 4 none 2 := ⟨gtb_of 839 (by decide +kernel) (by decide +kernel), gtb_of 54 (by decide +kernel) (by decide +kernel), ⟨by decide +kernel, by decide +kernel⟩, by decide +kernel⟩
set_option maxRecDepth 100000 in
theorem in_X8_swap : Cond.instanceMethod yX8_swap ∈ gtb := gtb_of 838 (by decide +kernel) (by decide +kernel)
set_option maxRecDepth 100000 in
theorem se_X8_swap : Cond.selects yX8_swap.cls yX8_swap yX8_swap ∈ gtb := gtb_of 34 (by decide +kernel) (by decide +kernel)
set_option maxRecDepth 100000 in
theorem mf_X8_bits : MF yX8_bits cX8_bits 3 (some .int) 1 := ⟨gtb_of 842 (by decide +kernel) (by decide +kernel), gtb_of 54 (by decide +kernel) (by decide +kernel), ⟨by decide +kernel, by decide +kernel⟩, by decide +kernel⟩
set_option maxRecDepth 100000 in
theorem sm_X8_bits : Cond.static yX8_bits ∈ gtb := gtb_of 841 (by decide +kernel) (by decide +kernel)
set_option maxRecDepth 100000 in
theorem mf_X8_power : MF yX8_power cX8_power 4 (some .int) 2 := ⟨gtb_of 845 (by decide +kernel) (by decide +kernel), gtb_of 54 (by decide +kernel) (by decide +kernel), ⟨by decide +kernel, by decide +kernel⟩, by decide +kernel⟩
set_option maxRecDepth 100000 in
theorem sm_X8_power : Cond.static yX8_power ∈ gtb := gtb_of 844 (by decide +kernel) (by decide +kernel)
set_option maxRecDepth 100000 in
theorem mf_X8_part : MF yX8_part cX8_part 6 none 3 := ⟨gtb_of 849 (by decide +kernel) (by decide +kernel), gtb_of 54 (by decide +kernel) (by decide +kernel), ⟨by decide +kernel, by decide +kernel⟩, by decide +kernel⟩
set_option maxRecDepth 100000 in
theorem in_X8_part : Cond.instanceMethod yX8_part ∈ gtb := gtb_of 848 (by decide +kernel) (by decide +kernel)
set_option maxRecDepth 100000 in
theorem se_X8_part : Cond.selects yX8_part.cls yX8_part yX8_part ∈ gtb := gtb_of 35 (by decide +kernel) (by decide +kernel)
set_option maxRecDepth 100000 in
theorem mf_X8_costNow : MF yX8_costNow cX8_costNow 2 (some .int) 1 := ⟨gtb_of 853 (by decide +kernel) (by decide +kernel), gtb_of 54 (by decide +kernel) (by decide +kernel), ⟨by decide +kernel, by decide +kernel⟩, by decide +kernel⟩
set_option maxRecDepth 100000 in
theorem in_X8_costNow : Cond.instanceMethod yX8_costNow ∈ gtb := gtb_of 852 (by decide +kernel) (by decide +kernel)
set_option maxRecDepth 100000 in
theorem se_X8_costNow : Cond.selects yX8_costNow.cls yX8_costNow yX8_costNow ∈ gtb := gtb_of 36 (by decide +kernel) (by decide +kernel)
set_option maxRecDepth 100000 in
theorem mf_X8_turnedFor : MF yX8_turnedFor cX8_turnedFor 7 (some .int) 2 := ⟨gtb_of 857 (by decide +kernel) (by decide +kernel), gtb_of 54 (by decide +kernel) (by decide +kernel), ⟨by decide +kernel, by decide +kernel⟩, by decide +kernel⟩
set_option maxRecDepth 100000 in
theorem in_X8_turnedFor : Cond.instanceMethod yX8_turnedFor ∈ gtb := gtb_of 856 (by decide +kernel) (by decide +kernel)
set_option maxRecDepth 100000 in
theorem se_X8_turnedFor : Cond.selects yX8_turnedFor.cls yX8_turnedFor yX8_turnedFor ∈ gtb := gtb_of 37 (by decide +kernel) (by decide +kernel)
set_option maxRecDepth 100000 in
theorem mf_X8_place : MF yX8_place cX8_place 5 (some .int) 4 := ⟨gtb_of 861 (by decide +kernel) (by decide +kernel), gtb_of 54 (by decide +kernel) (by decide +kernel), ⟨by decide +kernel, by decide +kernel⟩, by decide +kernel⟩
set_option maxRecDepth 100000 in
theorem in_X8_place : Cond.instanceMethod yX8_place ∈ gtb := gtb_of 859 (by decide +kernel) (by decide +kernel)
set_option maxRecDepth 100000 in
theorem se_X8_place : Cond.selects yX8_place.cls yX8_place yX8_place ∈ gtb := gtb_of 860 (by decide +kernel) (by decide +kernel)
set_option maxRecDepth 100000 in
theorem mf_X8_step : MF yX8_step cX8_step 8 (some .int) 4 := ⟨gtb_of 865 (by decide +kernel) (by decide +kernel), gtb_of 54 (by decide +kernel) (by decide +kernel), ⟨by decide +kernel, by decide +kernel⟩, by decide +kernel⟩
set_option maxRecDepth 100000 in
theorem in_X8_step : Cond.instanceMethod yX8_step ∈ gtb := gtb_of 863 (by decide +kernel) (by decide +kernel)
set_option maxRecDepth 100000 in
theorem se_X8_step : Cond.selects yX8_step.cls yX8_step yX8_step ∈ gtb := gtb_of 864 (by decide +kernel) (by decide +kernel)
set_option maxRecDepth 100000 in
theorem mf_X8_run : MF yX8_run cX8_run 6 (some .int) 2 := ⟨gtb_of 869 (by decide +kernel) (by decide +kernel), gtb_of 54 (by decide +kernel) (by decide +kernel), ⟨by decide +kernel, by decide +kernel⟩, by decide +kernel⟩
set_option maxRecDepth 100000 in
theorem in_X8_run : Cond.instanceMethod yX8_run ∈ gtb := gtb_of 867 (by decide +kernel) (by decide +kernel)
set_option maxRecDepth 100000 in
theorem se_X8_run : Cond.selects yX8_run.cls yX8_run yX8_run ∈ gtb := gtb_of 868 (by decide +kernel) (by decide +kernel)
set_option maxRecDepth 100000 in
theorem mf_X8_weight : MF yX8_weight cX8_weight 3 (some .int) 2 := ⟨gtb_of 873 (by decide +kernel) (by decide +kernel), gtb_of 54 (by decide +kernel) (by decide +kernel), ⟨by decide +kernel, by decide +kernel⟩, by decide +kernel⟩
set_option maxRecDepth 100000 in
theorem in_X8_weight : Cond.instanceMethod yX8_weight ∈ gtb := gtb_of 871 (by decide +kernel) (by decide +kernel)
set_option maxRecDepth 100000 in
theorem se_X8_weight : Cond.selects yX8_weight.cls yX8_weight yX8_weight ∈ gtb := gtb_of 872 (by decide +kernel) (by decide +kernel)
set_option maxRecDepth 100000 in
theorem mf_X8_layWeights : MF yX8_layWeights cX8_layWeights 3 none 0 := ⟨gtb_of 877 (by decide +kernel) (by decide +kernel), gtb_of 54 (by decide +kernel) (by decide +kernel), ⟨by decide +kernel, by decide +kernel⟩, by decide +kernel⟩
set_option maxRecDepth 100000 in
theorem in_X8_layWeights : Cond.instanceMethod yX8_layWeights ∈ gtb := gtb_of 876 (by decide +kernel) (by decide +kernel)
set_option maxRecDepth 100000 in
theorem se_X8_layWeights : Cond.selects yX8_layWeights.cls yX8_layWeights yX8_layWeights ∈ gtb := gtb_of 38 (by decide +kernel) (by decide +kernel)
set_option maxRecDepth 100000 in
theorem mf_X8_taken : MF yX8_taken cX8_taken 3 (some .int) 2 := ⟨gtb_of 881 (by decide +kernel) (by decide +kernel), gtb_of 54 (by decide +kernel) (by decide +kernel), ⟨by decide +kernel, by decide +kernel⟩, by decide +kernel⟩
set_option maxRecDepth 100000 in
theorem in_X8_taken : Cond.instanceMethod yX8_taken ∈ gtb := gtb_of 879 (by decide +kernel) (by decide +kernel)
set_option maxRecDepth 100000 in
theorem se_X8_taken : Cond.selects yX8_taken.cls yX8_taken yX8_taken ∈ gtb := gtb_of 880 (by decide +kernel) (by decide +kernel)
set_option maxRecDepth 100000 in
theorem mf_X8_layTaken : MF yX8_layTaken cX8_layTaken 6 none 0 := ⟨gtb_of 885 (by decide +kernel) (by decide +kernel), gtb_of 54 (by decide +kernel) (by decide +kernel), ⟨by decide +kernel, by decide +kernel⟩, by decide +kernel⟩
set_option maxRecDepth 100000 in
theorem in_X8_layTaken : Cond.instanceMethod yX8_layTaken ∈ gtb := gtb_of 884 (by decide +kernel) (by decide +kernel)
set_option maxRecDepth 100000 in
theorem se_X8_layTaken : Cond.selects yX8_layTaken.cls yX8_layTaken yX8_layTaken ∈ gtb := gtb_of 39 (by decide +kernel) (by decide +kernel)
set_option maxRecDepth 100000 in
theorem mf_X8_heaviest : MF yX8_heaviest cX8_heaviest 4 (some .int) 0 := ⟨gtb_of 889 (by decide +kernel) (by decide +kernel), gtb_of 54 (by decide +kernel) (by decide +kernel), ⟨by decide +kernel, by decide +kernel⟩, by decide +kernel⟩
set_option maxRecDepth 100000 in
theorem in_X8_heaviest : Cond.instanceMethod yX8_heaviest ∈ gtb := gtb_of 888 (by decide +kernel) (by decide +kernel)
set_option maxRecDepth 100000 in
theorem se_X8_heaviest : Cond.selects yX8_heaviest.cls yX8_heaviest yX8_heaviest ∈ gtb := gtb_of 40 (by decide +kernel) (by decide +kernel)
set_option maxRecDepth 100000 in
theorem mf_X8_exchange : MF yX8_exchange cX8_exchange 4 (some .int) 2 := ⟨gtb_of 893 (by decide +kernel) (by decide +kernel), gtb_of 54 (by decide +kernel) (by decide +kernel), ⟨by decide +kernel, by decide +kernel⟩, by decide +kernel⟩
set_option maxRecDepth 100000 in
theorem in_X8_exchange : Cond.instanceMethod yX8_exchange ∈ gtb := gtb_of 891 (by decide +kernel) (by decide +kernel)
set_option maxRecDepth 100000 in
theorem se_X8_exchange : Cond.selects yX8_exchange.cls yX8_exchange yX8_exchange ∈ gtb := gtb_of 892 (by decide +kernel) (by decide +kernel)
set_option maxRecDepth 100000 in
theorem mf_X8_hand : MF yX8_hand cX8_hand 3 (some .int) 1 := ⟨gtb_of 897 (by decide +kernel) (by decide +kernel), gtb_of 54 (by decide +kernel) (by decide +kernel), ⟨by decide +kernel, by decide +kernel⟩, by decide +kernel⟩
set_option maxRecDepth 100000 in
theorem in_X8_hand : Cond.instanceMethod yX8_hand ∈ gtb := gtb_of 895 (by decide +kernel) (by decide +kernel)
set_option maxRecDepth 100000 in
theorem se_X8_hand : Cond.selects yX8_hand.cls yX8_hand yX8_hand ∈ gtb := gtb_of 896 (by decide +kernel) (by decide +kernel)
set_option maxRecDepth 100000 in
theorem mf_X8_count : MF yX8_count cX8_count 2 (some .int) 1 := ⟨gtb_of 901 (by decide +kernel) (by decide +kernel), gtb_of 54 (by decide +kernel) (by decide +kernel), ⟨by decide +kernel, by decide +kernel⟩, by decide +kernel⟩
set_option maxRecDepth 100000 in
theorem in_X8_count : Cond.instanceMethod yX8_count ∈ gtb := gtb_of 899 (by decide +kernel) (by decide +kernel)
set_option maxRecDepth 100000 in
theorem se_X8_count : Cond.selects yX8_count.cls yX8_count yX8_count ∈ gtb := gtb_of 900 (by decide +kernel) (by decide +kernel)
set_option maxRecDepth 100000 in
theorem mf_X8_greedyCost : MF yX8_greedyCost cX8_greedyCost 3 (some .int) 0 := ⟨gtb_of 905 (by decide +kernel) (by decide +kernel), gtb_of 54 (by decide +kernel) (by decide +kernel), ⟨by decide +kernel, by decide +kernel⟩, by decide +kernel⟩
set_option maxRecDepth 100000 in
theorem in_X8_greedyCost : Cond.instanceMethod yX8_greedyCost ∈ gtb := gtb_of 904 (by decide +kernel) (by decide +kernel)
set_option maxRecDepth 100000 in
theorem se_X8_greedyCost : Cond.selects yX8_greedyCost.cls yX8_greedyCost yX8_greedyCost ∈ gtb := gtb_of 41 (by decide +kernel) (by decide +kernel)
set_option maxRecDepth 100000 in
theorem mf_X8_bound : MF yX8_bound cX8_bound 5 (some .int) 0 := ⟨gtb_of 909 (by decide +kernel) (by decide +kernel), gtb_of 54 (by decide +kernel) (by decide +kernel), ⟨by decide +kernel, by decide +kernel⟩, by decide +kernel⟩
set_option maxRecDepth 100000 in
theorem in_X8_bound : Cond.instanceMethod yX8_bound ∈ gtb := gtb_of 908 (by decide +kernel) (by decide +kernel)
set_option maxRecDepth 100000 in
theorem se_X8_bound : Cond.selects yX8_bound.cls yX8_bound yX8_bound ∈ gtb := gtb_of 42 (by decide +kernel) (by decide +kernel)
set_option maxRecDepth 100000 in
theorem mf_X8_image : MF yX8_image cX8_image 4 (some .int) 1 := ⟨gtb_of 913 (by decide +kernel) (by decide +kernel), gtb_of 54 (by decide +kernel) (by decide +kernel), ⟨by decide +kernel, by decide +kernel⟩, by decide +kernel⟩
set_option maxRecDepth 100000 in
theorem in_X8_image : Cond.instanceMethod yX8_image ∈ gtb := gtb_of 911 (by decide +kernel) (by decide +kernel)
set_option maxRecDepth 100000 in
theorem se_X8_image : Cond.selects yX8_image.cls yX8_image yX8_image ∈ gtb := gtb_of 912 (by decide +kernel) (by decide +kernel)
set_option maxRecDepth 100000 in
theorem mf_X8_restore : MF yX8_restore cX8_restore 4 (some .int) 1 := ⟨gtb_of 917 (by decide +kernel) (by decide +kernel), gtb_of 54 (by decide +kernel) (by decide +kernel), ⟨by decide +kernel, by decide +kernel⟩, by decide +kernel⟩
set_option maxRecDepth 100000 in
theorem in_X8_restore : Cond.instanceMethod yX8_restore ∈ gtb := gtb_of 915 (by decide +kernel) (by decide +kernel)
set_option maxRecDepth 100000 in
theorem se_X8_restore : Cond.selects yX8_restore.cls yX8_restore yX8_restore ∈ gtb := gtb_of 916 (by decide +kernel) (by decide +kernel)
set_option maxRecDepth 100000 in
theorem ini_Math : Cond.initialized "java/lang/Math" ∈ gtb := gtb_of 48 (by decide +kernel) (by decide +kernel)
set_option maxRecDepth 100000 in
theorem ini_System : Cond.initialized "java/lang/System" ∈ gtb := gtb_of 55 (by decide +kernel) (by decide +kernel)
set_option maxRecDepth 100000 in
theorem sm_copy : Cond.static arraycopyName ∈ gtb := gtb_of 386 (by decide +kernel) (by decide +kernel)
set_option maxRecDepth 100000 in
theorem nat_copy : Cond.native arraycopyName ∈ gtb := gtb_of 387 (by decide +kernel) (by decide +kernel)
set_option maxRecDepth 100000 in
theorem kc_X7_95 : Cond.constantLong RX7 95 (-10000000001) ∈ gtb := gtb_of 408 (by decide +kernel) (by decide +kernel)
set_option maxRecDepth 100000 in
theorem kc_J6_265 : Cond.constant RJ6 265 (1431655765) ∈ gtb := gtb_of 520 (by decide +kernel) (by decide +kernel)
set_option maxRecDepth 100000 in
theorem kc_J6_266 : Cond.constant RJ6 266 (858993459) ∈ gtb := gtb_of 521 (by decide +kernel) (by decide +kernel)
set_option maxRecDepth 100000 in
theorem kc_J6_267 : Cond.constant RJ6 267 (252645135) ∈ gtb := gtb_of 522 (by decide +kernel) (by decide +kernel)
set_option maxRecDepth 100000 in
theorem kc_X8_101 : Cond.constantLong RX8 101 (-10000000001) ∈ gtb := gtb_of 773 (by decide +kernel) (by decide +kernel)
