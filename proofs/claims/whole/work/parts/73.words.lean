set_option maxRecDepth 100000 in
theorem mf_X7_init : MF yX7_init cX7_init 2 none 0 := ⟨gtb_of 61 (by decide +kernel) (by decide +kernel), gtb_of 44 (by decide +kernel) (by decide +kernel), ⟨by decide +kernel, by decide +kernel⟩, by decide +kernel⟩
set_option maxRecDepth 100000 in
theorem in_X7_init : Cond.instanceMethod yX7_init ∈ gtb := gtb_of 60 (by decide +kernel) (by decide +kernel)
set_option maxRecDepth 100000 in
theorem ini_X7 : Cond.initialized RX7 ∈ gtb := gtb_of 44 (by decide +kernel) (by decide +kernel)
set_option maxRecDepth 100000 in
theorem it_X7 : Cond.instantiable RX7 7 ∈ gtb := gtb_of 58 (by decide +kernel) (by decide +kernel)
set_option maxRecDepth 100000 in
theorem mf_X5_init : MF yX5_init cX5_init 2 none 0 := ⟨gtb_of 69 (by decide +kernel) (by decide +kernel), gtb_of 45 (by decide +kernel) (by decide +kernel), ⟨by decide +kernel, by decide +kernel⟩, by decide +kernel⟩
set_option maxRecDepth 100000 in
theorem in_X5_init : Cond.instanceMethod yX5_init ∈ gtb := gtb_of 68 (by decide +kernel) (by decide +kernel)
set_option maxRecDepth 100000 in
theorem ini_X5 : Cond.initialized RX5 ∈ gtb := gtb_of 45 (by decide +kernel) (by decide +kernel)
set_option maxRecDepth 100000 in
theorem it_X5 : Cond.instantiable RX5 8 ∈ gtb := gtb_of 66 (by decide +kernel) (by decide +kernel)
set_option maxRecDepth 100000 in
theorem mf_X4_init : MF yX4_init cX4_init 1 none 0 := ⟨gtb_of 120 (by decide +kernel) (by decide +kernel), gtb_of 46 (by decide +kernel) (by decide +kernel), ⟨by decide +kernel, by decide +kernel⟩, by decide +kernel⟩
set_option maxRecDepth 100000 in
theorem in_X4_init : Cond.instanceMethod yX4_init ∈ gtb := gtb_of 119 (by decide +kernel) (by decide +kernel)
set_option maxRecDepth 100000 in
theorem ini_X4 : Cond.initialized RX4 ∈ gtb := gtb_of 46 (by decide +kernel) (by decide +kernel)
set_option maxRecDepth 100000 in
theorem it_X4 : Cond.instantiable RX4 2 ∈ gtb := gtb_of 117 (by decide +kernel) (by decide +kernel)
set_option maxRecDepth 100000 in
theorem mf_X6_init : MF yX6_init cX6_init 1 none 0 := ⟨gtb_of 135 (by decide +kernel) (by decide +kernel), gtb_of 47 (by decide +kernel) (by decide +kernel), ⟨by decide +kernel, by decide +kernel⟩, by decide +kernel⟩
set_option maxRecDepth 100000 in
theorem in_X6_init : Cond.instanceMethod yX6_init ∈ gtb := gtb_of 134 (by decide +kernel) (by decide +kernel)
set_option maxRecDepth 100000 in
theorem ini_X6 : Cond.initialized RX6 ∈ gtb := gtb_of 47 (by decide +kernel) (by decide +kernel)
set_option maxRecDepth 100000 in
theorem it_X6 : Cond.instantiable RX6 10 ∈ gtb := gtb_of 132 (by decide +kernel) (by decide +kernel)
set_option maxRecDepth 100000 in
theorem mf_X3_init : MF yX3_init cX3_init 4 none 2 := ⟨gtb_of 184 (by decide +kernel) (by decide +kernel), gtb_of 49 (by decide +kernel) (by decide +kernel), ⟨by decide +kernel, by decide +kernel⟩, by decide +kernel⟩
set_option maxRecDepth 100000 in
theorem in_X3_init : Cond.instanceMethod yX3_init ∈ gtb := gtb_of 183 (by decide +kernel) (by decide +kernel)
set_option maxRecDepth 100000 in
theorem ini_X3 : Cond.initialized RX3 ∈ gtb := gtb_of 49 (by decide +kernel) (by decide +kernel)
set_option maxRecDepth 100000 in
theorem it_X3 : Cond.instantiable RX3 16 ∈ gtb := gtb_of 181 (by decide +kernel) (by decide +kernel)
set_option maxRecDepth 100000 in
theorem mf_X1_init : MF yX1_init cX1_init 2 none 1 := ⟨gtb_of 194 (by decide +kernel) (by decide +kernel), gtb_of 50 (by decide +kernel) (by decide +kernel), ⟨by decide +kernel, by decide +kernel⟩, by decide +kernel⟩
set_option maxRecDepth 100000 in
theorem in_X1_init : Cond.instanceMethod yX1_init ∈ gtb := gtb_of 193 (by decide +kernel) (by decide +kernel)
set_option maxRecDepth 100000 in
theorem ini_X1 : Cond.initialized RX1 ∈ gtb := gtb_of 50 (by decide +kernel) (by decide +kernel)
set_option maxRecDepth 100000 in
theorem it_X1 : Cond.instantiable RX1 7 ∈ gtb := gtb_of 191 (by decide +kernel) (by decide +kernel)
set_option maxRecDepth 100000 in
theorem mf_X2_init : MF yX2_init cX2_init 1 none 0 := ⟨gtb_of 225 (by decide +kernel) (by decide +kernel), gtb_of 52 (by decide +kernel) (by decide +kernel), ⟨by decide +kernel, by decide +kernel⟩, by decide +kernel⟩
set_option maxRecDepth 100000 in
theorem in_X2_init : Cond.instanceMethod yX2_init ∈ gtb := gtb_of 224 (by decide +kernel) (by decide +kernel)
set_option maxRecDepth 100000 in
theorem ini_X2 : Cond.initialized RX2 ∈ gtb := gtb_of 52 (by decide +kernel) (by decide +kernel)
set_option maxRecDepth 100000 in
theorem it_X2 : Cond.instantiable RX2 6 ∈ gtb := gtb_of 222 (by decide +kernel) (by decide +kernel)
set_option maxRecDepth 100000 in
theorem mf_X0_init : MF yX0_init cX0_init 1 none 0 := ⟨gtb_of 311 (by decide +kernel) (by decide +kernel), gtb_of 53 (by decide +kernel) (by decide +kernel), ⟨by decide +kernel, by decide +kernel⟩, by decide +kernel⟩
set_option maxRecDepth 100000 in
theorem in_X0_init : Cond.instanceMethod yX0_init ∈ gtb := gtb_of 310 (by decide +kernel) (by decide +kernel)
set_option maxRecDepth 100000 in
theorem ini_X0 : Cond.initialized RX0 ∈ gtb := gtb_of 53 (by decide +kernel) (by decide +kernel)
set_option maxRecDepth 100000 in
theorem it_X0 : Cond.instantiable RX0 6 ∈ gtb := gtb_of 308 (by decide +kernel) (by decide +kernel)
set_option maxRecDepth 100000 in
theorem mf_X8_init : MF yX8_init cX8_init 2 none 0 := ⟨gtb_of 641 (by decide +kernel) (by decide +kernel), gtb_of 54 (by decide +kernel) (by decide +kernel), ⟨by decide +kernel, by decide +kernel⟩, by decide +kernel⟩
set_option maxRecDepth 100000 in
theorem in_X8_init : Cond.instanceMethod yX8_init ∈ gtb := gtb_of 640 (by decide +kernel) (by decide +kernel)
set_option maxRecDepth 100000 in
theorem ini_X8 : Cond.initialized RX8 ∈ gtb := gtb_of 54 (by decide +kernel) (by decide +kernel)
set_option maxRecDepth 100000 in
theorem it_X8 : Cond.instantiable RX8 29 ∈ gtb := gtb_of 638 (by decide +kernel) (by decide +kernel)
set_option maxRecDepth 100000 in
theorem cl_L_7 : Cond.classLink RL 7 RX7 ∈ gtb := gtb_of 57 (by decide +kernel) (by decide +kernel)
set_option maxRecDepth 100000 in
theorem cl_X7_9 : Cond.classLink RX7 9 RX5 ∈ gtb := gtb_of 65 (by decide +kernel) (by decide +kernel)
set_option maxRecDepth 100000 in
theorem cl_X7_20 : Cond.classLink RX7 20 RX4 ∈ gtb := gtb_of 116 (by decide +kernel) (by decide +kernel)
set_option maxRecDepth 100000 in
theorem cl_X7_27 : Cond.classLink RX7 27 RX6 ∈ gtb := gtb_of 131 (by decide +kernel) (by decide +kernel)
set_option maxRecDepth 100000 in
theorem cl_X7_38 : Cond.classLink RX7 38 RX3 ∈ gtb := gtb_of 180 (by decide +kernel) (by decide +kernel)
set_option maxRecDepth 100000 in
theorem cl_X3_9 : Cond.classLink RX3 9 RX2 ∈ gtb := gtb_of 186 (by decide +kernel) (by decide +kernel)
set_option maxRecDepth 100000 in
theorem cl_X3_17 : Cond.classLink RX3 17 "[[I" ∈ gtb := gtb_of 188 (by decide +kernel) (by decide +kernel)
set_option maxRecDepth 100000 in
theorem cl_X3_43 : Cond.classLink RX3 43 RX1 ∈ gtb := gtb_of 190 (by decide +kernel) (by decide +kernel)
set_option maxRecDepth 100000 in
theorem cl_X7_47 : Cond.classLink RX7 47 RX0 ∈ gtb := gtb_of 307 (by decide +kernel) (by decide +kernel)
set_option maxRecDepth 100000 in
theorem cl_L_10 : Cond.classLink RL 10 RX8 ∈ gtb := gtb_of 637 (by decide +kernel) (by decide +kernel)
set_option maxRecDepth 100000 in
theorem in_obj : Cond.instanceMethod objectInit ∈ gtb := gtb_of 63 (by decide +kernel) (by decide +kernel)
set_option maxRecDepth 100000 in
theorem cd_obj : Cond.code objectInit ⟨#[0xb1]⟩ 1 none ∈ gtb := gtb_of 64 (by decide +kernel) (by decide +kernel)
set_option maxRecDepth 100000 in
theorem aw_int : Cond.arrayClass .int ∈ gtb := gtb_of 114 (by decide +kernel) (by decide +kernel)
set_option maxRecDepth 100000 in
theorem aw_bool : Cond.arrayClass .boolean ∈ gtb := gtb_of 334 (by decide +kernel) (by decide +kernel)
