/-! Link facts of the constructors. -/
set_option maxRecDepth 20000 in
theorem cv_40 : Cond.methodLink RX5 3 Lib.objectInit ∈ wG := wG_t 40 (by decide +kernel) (by decide +kernel)
set_option maxRecDepth 20000 in
theorem cv_21 : Cond.instanceMethod Lib.objectInit ∈ wG := wG_t 21 (by decide +kernel) (by decide +kernel)
set_option maxRecDepth 20000 in
theorem cv_22 : Cond.code Lib.objectInit ⟨#[0xb1]⟩ 1 none ∈ wG := wG_t 22 (by decide +kernel) (by decide +kernel)
set_option maxRecDepth 20000 in
theorem cv_58 : Cond.arrayClass .int ∈ wG := wG_t 58 (by decide +kernel) (by decide +kernel)
set_option maxRecDepth 20000 in
theorem cv_64 : Cond.methodLink RX3 3 Lib.objectInit ∈ wG := wG_t 64 (by decide +kernel) (by decide +kernel)
set_option maxRecDepth 20000 in
theorem cv_100 : Cond.methodLink RX7 3 Lib.objectInit ∈ wG := wG_t 100 (by decide +kernel) (by decide +kernel)
set_option maxRecDepth 20000 in
theorem cv_124 : Cond.methodLink RX4 3 Lib.objectInit ∈ wG := wG_t 124 (by decide +kernel) (by decide +kernel)
set_option maxRecDepth 20000 in
theorem cv_229 : Cond.methodLink RX2 3 Lib.objectInit ∈ wG := wG_t 229 (by decide +kernel) (by decide +kernel)
set_option maxRecDepth 20000 in
theorem cv_257 : Cond.methodLink RX6 3 Lib.objectInit ∈ wG := wG_t 257 (by decide +kernel) (by decide +kernel)
set_option maxRecDepth 20000 in
theorem flX6_9 : xGF RX6 9 6 0 := ⟨by decide, wG_t 258 (by decide +kernel) (by decide +kernel)⟩
set_option maxRecDepth 20000 in
theorem flX6_15 : xGF RX6 15 6 1 := ⟨by decide, wG_t 259 (by decide +kernel) (by decide +kernel)⟩
set_option maxRecDepth 20000 in
theorem flX6_19 : xGF RX6 19 6 2 := ⟨by decide, wG_t 260 (by decide +kernel) (by decide +kernel)⟩
set_option maxRecDepth 20000 in
theorem flX6_22 : xGF RX6 22 6 3 := ⟨by decide, wG_t 261 (by decide +kernel) (by decide +kernel)⟩
set_option maxRecDepth 20000 in
theorem cv_34 : Cond.methodLink RX0 3 Lib.objectInit ∈ wG := wG_t 34 (by decide +kernel) (by decide +kernel)
set_option maxRecDepth 20000 in
theorem cv_35 : Cond.classLink RX0 9 RX5 ∈ wG := wG_t 35 (by decide +kernel) (by decide +kernel)
set_option maxRecDepth 20000 in
theorem cv_36 : Cond.instantiable RX5 4 ∈ wG := wG_t 36 (by decide +kernel) (by decide +kernel)
set_option maxRecDepth 20000 in
theorem cv_4 : Cond.initialized RX5 ∈ wG := wG_t 4 (by decide +kernel) (by decide +kernel)
set_option maxRecDepth 20000 in
theorem mcX5_init : xMc mX5_init 0 := ⟨wG_t 39 (by decide +kernel) (by decide +kernel), wG_t 4 (by decide +kernel) (by decide +kernel), ⟨by decide +kernel, by decide +kernel, by decide +kernel⟩, by decide +kernel, rfl⟩
set_option maxRecDepth 20000 in
theorem mlX0_11 : xMJ RX0 11 mX5_init 0 := ⟨mcX5_init, ⟨"CribBooklet", List.mem_filter.mpr ⟨List.mem_of_getElem? (i := 37) (by decide +kernel), rfl⟩⟩, wG_t 38 (by decide +kernel) (by decide +kernel), rfl, rfl⟩
set_option maxRecDepth 20000 in
theorem cv_59 : Cond.classLink RX0 18 RX3 ∈ wG := wG_t 59 (by decide +kernel) (by decide +kernel)
set_option maxRecDepth 20000 in
theorem cv_60 : Cond.instantiable RX3 8 ∈ wG := wG_t 60 (by decide +kernel) (by decide +kernel)
set_option maxRecDepth 20000 in
theorem cv_5 : Cond.initialized RX3 ∈ wG := wG_t 5 (by decide +kernel) (by decide +kernel)
set_option maxRecDepth 20000 in
theorem mcX3_init : xMc mX3_init 0 := ⟨wG_t 63 (by decide +kernel) (by decide +kernel), wG_t 5 (by decide +kernel) (by decide +kernel), ⟨by decide +kernel, by decide +kernel, by decide +kernel⟩, by decide +kernel, rfl⟩
set_option maxRecDepth 20000 in
theorem mlX0_20 : xMJ RX0 20 mX3_init 0 := ⟨mcX3_init, ⟨"CribBooklet", List.mem_filter.mpr ⟨List.mem_of_getElem? (i := 61) (by decide +kernel), rfl⟩⟩, wG_t 62 (by decide +kernel) (by decide +kernel), rfl, rfl⟩
set_option maxRecDepth 20000 in
theorem cv_95 : Cond.classLink RX0 25 RX7 ∈ wG := wG_t 95 (by decide +kernel) (by decide +kernel)
set_option maxRecDepth 20000 in
theorem cv_96 : Cond.instantiable RX7 4 ∈ wG := wG_t 96 (by decide +kernel) (by decide +kernel)
set_option maxRecDepth 20000 in
theorem cv_6 : Cond.initialized RX7 ∈ wG := wG_t 6 (by decide +kernel) (by decide +kernel)
set_option maxRecDepth 20000 in
theorem mcX7_init : xMc mX7_init 0 := ⟨wG_t 99 (by decide +kernel) (by decide +kernel), wG_t 6 (by decide +kernel) (by decide +kernel), ⟨by decide +kernel, by decide +kernel, by decide +kernel⟩, by decide +kernel, rfl⟩
set_option maxRecDepth 20000 in
theorem mlX0_27 : xMJ RX0 27 mX7_init 0 := ⟨mcX7_init, ⟨"CribBooklet", List.mem_filter.mpr ⟨List.mem_of_getElem? (i := 97) (by decide +kernel), rfl⟩⟩, wG_t 98 (by decide +kernel) (by decide +kernel), rfl, rfl⟩
set_option maxRecDepth 20000 in
theorem cv_119 : Cond.classLink RX0 32 RX4 ∈ wG := wG_t 119 (by decide +kernel) (by decide +kernel)
set_option maxRecDepth 20000 in
theorem cv_120 : Cond.instantiable RX4 2 ∈ wG := wG_t 120 (by decide +kernel) (by decide +kernel)
set_option maxRecDepth 20000 in
theorem cv_7 : Cond.initialized RX4 ∈ wG := wG_t 7 (by decide +kernel) (by decide +kernel)
set_option maxRecDepth 20000 in
theorem mcX4_init : xMc mX4_init 0 := ⟨wG_t 123 (by decide +kernel) (by decide +kernel), wG_t 7 (by decide +kernel) (by decide +kernel), ⟨by decide +kernel, by decide +kernel, by decide +kernel⟩, by decide +kernel, rfl⟩
set_option maxRecDepth 20000 in
theorem mlX0_34 : xMJ RX0 34 mX4_init 0 := ⟨mcX4_init, ⟨"CribBooklet", List.mem_filter.mpr ⟨List.mem_of_getElem? (i := 121) (by decide +kernel), rfl⟩⟩, wG_t 122 (by decide +kernel) (by decide +kernel), rfl, rfl⟩
set_option maxRecDepth 20000 in
theorem cv_28 : Cond.methodLink RX8 3 Lib.objectInit ∈ wG := wG_t 28 (by decide +kernel) (by decide +kernel)
set_option maxRecDepth 20000 in
theorem cv_29 : Cond.classLink RX8 9 RX0 ∈ wG := wG_t 29 (by decide +kernel) (by decide +kernel)
set_option maxRecDepth 20000 in
theorem cv_30 : Cond.instantiable RX0 10 ∈ wG := wG_t 30 (by decide +kernel) (by decide +kernel)
set_option maxRecDepth 20000 in
theorem cv_3 : Cond.initialized RX0 ∈ wG := wG_t 3 (by decide +kernel) (by decide +kernel)
set_option maxRecDepth 20000 in
theorem mcX0_init : xMc mX0_init 0 := ⟨wG_t 33 (by decide +kernel) (by decide +kernel), wG_t 3 (by decide +kernel) (by decide +kernel), ⟨by decide +kernel, by decide +kernel, by decide +kernel⟩, by decide +kernel, rfl⟩
set_option maxRecDepth 20000 in
theorem mlX8_11 : xMI RX8 11 mX0_init 0 := ⟨mcX0_init, wG_t 31 (by decide +kernel) (by decide +kernel), wG_t 32 (by decide +kernel) (by decide +kernel), rfl, rfl⟩
set_option maxRecDepth 20000 in
theorem cv_210 : Cond.methodLink RX1 3 Lib.objectInit ∈ wG := wG_t 210 (by decide +kernel) (by decide +kernel)
set_option maxRecDepth 20000 in
theorem cv_211 : Cond.classLink RX1 9 RX8 ∈ wG := wG_t 211 (by decide +kernel) (by decide +kernel)
set_option maxRecDepth 20000 in
theorem cv_24 : Cond.instantiable RX8 3 ∈ wG := wG_t 24 (by decide +kernel) (by decide +kernel)
set_option maxRecDepth 20000 in
theorem cv_2 : Cond.initialized RX8 ∈ wG := wG_t 2 (by decide +kernel) (by decide +kernel)
set_option maxRecDepth 20000 in
theorem mcX8_init : xMc mX8_init 0 := ⟨wG_t 27 (by decide +kernel) (by decide +kernel), wG_t 2 (by decide +kernel) (by decide +kernel), ⟨by decide +kernel, by decide +kernel, by decide +kernel⟩, by decide +kernel, rfl⟩
set_option maxRecDepth 20000 in
theorem mlX1_11 : xMJ RX1 11 mX8_init 0 := ⟨mcX8_init, ⟨"CribBooklet", List.mem_filter.mpr ⟨List.mem_of_getElem? (i := 213) (by decide +kernel), rfl⟩⟩, wG_t 26 (by decide +kernel) (by decide +kernel), rfl, rfl⟩
set_option maxRecDepth 20000 in
theorem cv_20 : Cond.methodLink RX9 1 Lib.objectInit ∈ wG := wG_t 20 (by decide +kernel) (by decide +kernel)
set_option maxRecDepth 20000 in
theorem cv_23 : Cond.classLink RX9 7 RX8 ∈ wG := wG_t 23 (by decide +kernel) (by decide +kernel)
set_option maxRecDepth 20000 in
theorem mlX9_9 : xMJ RX9 9 mX8_init 0 := ⟨mcX8_init, ⟨"CribBooklet", List.mem_filter.mpr ⟨List.mem_of_getElem? (i := 25) (by decide +kernel), rfl⟩⟩, wG_t 26 (by decide +kernel) (by decide +kernel), rfl, rfl⟩
set_option maxRecDepth 20000 in
theorem cv_205 : Cond.classLink RX9 16 RX1 ∈ wG := wG_t 205 (by decide +kernel) (by decide +kernel)
set_option maxRecDepth 20000 in
theorem cv_206 : Cond.instantiable RX1 2 ∈ wG := wG_t 206 (by decide +kernel) (by decide +kernel)
set_option maxRecDepth 20000 in
theorem cv_9 : Cond.initialized RX1 ∈ wG := wG_t 9 (by decide +kernel) (by decide +kernel)
set_option maxRecDepth 20000 in
theorem mcX1_init : xMc mX1_init 0 := ⟨wG_t 209 (by decide +kernel) (by decide +kernel), wG_t 9 (by decide +kernel) (by decide +kernel), ⟨by decide +kernel, by decide +kernel, by decide +kernel⟩, by decide +kernel, rfl⟩
set_option maxRecDepth 20000 in
theorem mlX9_18 : xMJ RX9 18 mX1_init 0 := ⟨mcX1_init, ⟨"CribBooklet", List.mem_filter.mpr ⟨List.mem_of_getElem? (i := 207) (by decide +kernel), rfl⟩⟩, wG_t 208 (by decide +kernel) (by decide +kernel), rfl, rfl⟩
set_option maxRecDepth 20000 in
theorem cv_222 : Cond.classLink RX9 23 RX3 ∈ wG := wG_t 222 (by decide +kernel) (by decide +kernel)
set_option maxRecDepth 20000 in
theorem mlX9_25 : xMJ RX9 25 mX3_init 0 := ⟨mcX3_init, ⟨"CribBooklet", List.mem_filter.mpr ⟨List.mem_of_getElem? (i := 223) (by decide +kernel), rfl⟩⟩, wG_t 62 (by decide +kernel) (by decide +kernel), rfl, rfl⟩
set_option maxRecDepth 20000 in
theorem cv_224 : Cond.classLink RX9 30 RX2 ∈ wG := wG_t 224 (by decide +kernel) (by decide +kernel)
set_option maxRecDepth 20000 in
theorem cv_225 : Cond.instantiable RX2 7 ∈ wG := wG_t 225 (by decide +kernel) (by decide +kernel)
set_option maxRecDepth 20000 in
theorem cv_10 : Cond.initialized RX2 ∈ wG := wG_t 10 (by decide +kernel) (by decide +kernel)
set_option maxRecDepth 20000 in
theorem mcX2_init : xMc mX2_init 0 := ⟨wG_t 228 (by decide +kernel) (by decide +kernel), wG_t 10 (by decide +kernel) (by decide +kernel), ⟨by decide +kernel, by decide +kernel, by decide +kernel⟩, by decide +kernel, rfl⟩
set_option maxRecDepth 20000 in
theorem mlX9_32 : xMJ RX9 32 mX2_init 0 := ⟨mcX2_init, ⟨"CribBooklet", List.mem_filter.mpr ⟨List.mem_of_getElem? (i := 226) (by decide +kernel), rfl⟩⟩, wG_t 227 (by decide +kernel) (by decide +kernel), rfl, rfl⟩
set_option maxRecDepth 20000 in
theorem flX9_37 : xGF RX9 37 9 4 := ⟨by decide, wG_t 275 (by decide +kernel) (by decide +kernel)⟩
set_option maxRecDepth 20000 in
theorem cv_252 : Cond.classLink RX9 45 RX6 ∈ wG := wG_t 252 (by decide +kernel) (by decide +kernel)
set_option maxRecDepth 20000 in
theorem cv_253 : Cond.instantiable RX6 4 ∈ wG := wG_t 253 (by decide +kernel) (by decide +kernel)
set_option maxRecDepth 20000 in
theorem cv_11 : Cond.initialized RX6 ∈ wG := wG_t 11 (by decide +kernel) (by decide +kernel)
set_option maxRecDepth 20000 in
theorem mcX6_init : xMc mX6_init 0 := ⟨wG_t 256 (by decide +kernel) (by decide +kernel), wG_t 11 (by decide +kernel) (by decide +kernel), ⟨by decide +kernel, by decide +kernel, by decide +kernel⟩, by decide +kernel, rfl⟩
set_option maxRecDepth 20000 in
theorem mlX9_47 : xMJ RX9 47 mX6_init 0 := ⟨mcX6_init, ⟨"CribBooklet", List.mem_filter.mpr ⟨List.mem_of_getElem? (i := 254) (by decide +kernel), rfl⟩⟩, wG_t 255 (by decide +kernel) (by decide +kernel), rfl, rfl⟩
set_option maxRecDepth 20000 in
theorem flX9_48 : xGF RX9 48 9 6 := ⟨by decide, wG_t 277 (by decide +kernel) (by decide +kernel)⟩
set_option maxRecDepth 20000 in
theorem flX9_52 : xGF RX9 52 9 7 := ⟨by decide, wG_t 278 (by decide +kernel) (by decide +kernel)⟩
set_option maxRecDepth 20000 in
theorem flX9_55 : xGF RX9 55 9 8 := ⟨by decide, wG_t 279 (by decide +kernel) (by decide +kernel)⟩
