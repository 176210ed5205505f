theorem wd_77 : Cond.classLink RL 7 RX11 ∈ ap_gw := ap_in 77 (by decide +kernel) (by decide +kernel)
theorem wd_78 : Cond.instantiable RX11 12 ∈ ap_gw := ap_in 78 (by decide +kernel) (by decide +kernel)
theorem wd_79 : Cond.methodLink RL 9 yX11_init ∈ ap_gw := ap_in 79 (by decide +kernel) (by decide +kernel)
theorem wd_80 : Cond.instanceMethod yX11_init ∈ ap_gw := ap_in 80 (by decide +kernel) (by decide +kernel)
theorem wd_81 : Cond.code yX11_init cX11_init 1 none ∈ ap_gw := ap_in 81 (by decide +kernel) (by decide +kernel)
theorem wd_82 : Cond.methodLink RX11 3 objectInit ∈ ap_gw := ap_in 82 (by decide +kernel) (by decide +kernel)
theorem wd_83 : Cond.instanceMethod objectInit ∈ ap_gw := ap_in 83 (by decide +kernel) (by decide +kernel)
theorem wd_84 : Cond.code objectInit ⟨#[0xb1]⟩ 1 none ∈ ap_gw := ap_in 84 (by decide +kernel) (by decide +kernel)
theorem wd_85 : Cond.classLink RX11 9 RX8 ∈ ap_gw := ap_in 85 (by decide +kernel) (by decide +kernel)
theorem wd_86 : Cond.instantiable RX8 17 ∈ ap_gw := ap_in 86 (by decide +kernel) (by decide +kernel)
theorem wd_88 : Cond.instanceMethod yX8_init ∈ ap_gw := ap_in 88 (by decide +kernel) (by decide +kernel)
theorem wd_89 : Cond.code yX8_init cX8_init 1 none ∈ ap_gw := ap_in 89 (by decide +kernel) (by decide +kernel)
theorem wd_90 : Cond.methodLink RX8 3 objectInit ∈ ap_gw := ap_in 90 (by decide +kernel) (by decide +kernel)
theorem wd_174 : Cond.arrayClass .int ∈ ap_gw := ap_in 174 (by decide +kernel) (by decide +kernel)
theorem wd_176 : Cond.classLink RX11 24 RX5 ∈ ap_gw := ap_in 176 (by decide +kernel) (by decide +kernel)
theorem wd_177 : Cond.instantiable RX5 7 ∈ ap_gw := ap_in 177 (by decide +kernel) (by decide +kernel)
theorem wd_179 : Cond.instanceMethod yX5_init ∈ ap_gw := ap_in 179 (by decide +kernel) (by decide +kernel)
theorem wd_180 : Cond.code yX5_init cX5_init 1 none ∈ ap_gw := ap_in 180 (by decide +kernel) (by decide +kernel)
theorem wd_181 : Cond.methodLink RX5 3 objectInit ∈ ap_gw := ap_in 181 (by decide +kernel) (by decide +kernel)
theorem wd_182 : Cond.classLink RX5 9 RX8 ∈ ap_gw := ap_in 182 (by decide +kernel) (by decide +kernel)
theorem wd_208 : Cond.arrayClass .boolean ∈ ap_gw := ap_in 208 (by decide +kernel) (by decide +kernel)
theorem wd_209 : Cond.arrayClass .byte ∈ ap_gw := ap_in 209 (by decide +kernel) (by decide +kernel)
theorem wd_210 : Cond.classLink RX11 31 RX3 ∈ ap_gw := ap_in 210 (by decide +kernel) (by decide +kernel)
theorem wd_211 : Cond.instantiable RX3 9 ∈ ap_gw := ap_in 211 (by decide +kernel) (by decide +kernel)
theorem wd_212 : Cond.methodLink RX11 33 yX3_init ∈ ap_gw := ap_in 212 (by decide +kernel) (by decide +kernel)
theorem wd_213 : Cond.instanceMethod yX3_init ∈ ap_gw := ap_in 213 (by decide +kernel) (by decide +kernel)
theorem wd_214 : Cond.code yX3_init cX3_init 2 none ∈ ap_gw := ap_in 214 (by decide +kernel) (by decide +kernel)
theorem wd_215 : Cond.methodLink RX3 3 objectInit ∈ ap_gw := ap_in 215 (by decide +kernel) (by decide +kernel)
theorem wd_216 : Cond.classLink RX3 9 RX4 ∈ ap_gw := ap_in 216 (by decide +kernel) (by decide +kernel)
theorem wd_218 : Cond.instantiable RX4 0 ∈ ap_gw := ap_in 218 (by decide +kernel) (by decide +kernel)
theorem wd_220 : Cond.instanceMethod yX4_init ∈ ap_gw := ap_in 220 (by decide +kernel) (by decide +kernel)
theorem wd_221 : Cond.code yX4_init cX4_init 1 none ∈ ap_gw := ap_in 221 (by decide +kernel) (by decide +kernel)
theorem wd_222 : Cond.methodLink RX4 1 objectInit ∈ ap_gw := ap_in 222 (by decide +kernel) (by decide +kernel)
theorem wd_224 : Cond.classLink RX3 12 RX10 ∈ ap_gw := ap_in 224 (by decide +kernel) (by decide +kernel)
theorem wd_225 : Cond.instantiable RX10 0 ∈ ap_gw := ap_in 225 (by decide +kernel) (by decide +kernel)
theorem wd_227 : Cond.instanceMethod yX10_init ∈ ap_gw := ap_in 227 (by decide +kernel) (by decide +kernel)
theorem wd_228 : Cond.code yX10_init cX10_init 1 none ∈ ap_gw := ap_in 228 (by decide +kernel) (by decide +kernel)
theorem wd_231 : Cond.classLink RX3 15 RX1 ∈ ap_gw := ap_in 231 (by decide +kernel) (by decide +kernel)
theorem wd_232 : Cond.instantiable RX1 0 ∈ ap_gw := ap_in 232 (by decide +kernel) (by decide +kernel)
theorem wd_234 : Cond.instanceMethod yX1_init ∈ ap_gw := ap_in 234 (by decide +kernel) (by decide +kernel)
theorem wd_235 : Cond.code yX1_init cX1_init 1 none ∈ ap_gw := ap_in 235 (by decide +kernel) (by decide +kernel)
theorem wd_238 : Cond.classLink RX3 18 RX2 ∈ ap_gw := ap_in 238 (by decide +kernel) (by decide +kernel)
theorem wd_239 : Cond.instantiable RX2 0 ∈ ap_gw := ap_in 239 (by decide +kernel) (by decide +kernel)
theorem wd_241 : Cond.instanceMethod yX2_init ∈ ap_gw := ap_in 241 (by decide +kernel) (by decide +kernel)
theorem wd_242 : Cond.code yX2_init cX2_init 1 none ∈ ap_gw := ap_in 242 (by decide +kernel) (by decide +kernel)
theorem wd_245 : Cond.classLink RX3 21 RX0 ∈ ap_gw := ap_in 245 (by decide +kernel) (by decide +kernel)
theorem wd_246 : Cond.instantiable RX0 0 ∈ ap_gw := ap_in 246 (by decide +kernel) (by decide +kernel)
theorem wd_248 : Cond.instanceMethod yX0_init ∈ ap_gw := ap_in 248 (by decide +kernel) (by decide +kernel)
theorem wd_249 : Cond.code yX0_init cX0_init 1 none ∈ ap_gw := ap_in 249 (by decide +kernel) (by decide +kernel)
theorem wd_252 : Cond.classLink RX3 24 RX7 ∈ ap_gw := ap_in 252 (by decide +kernel) (by decide +kernel)
theorem wd_253 : Cond.instantiable RX7 0 ∈ ap_gw := ap_in 253 (by decide +kernel) (by decide +kernel)
theorem wd_255 : Cond.instanceMethod yX7_init ∈ ap_gw := ap_in 255 (by decide +kernel) (by decide +kernel)
theorem wd_256 : Cond.code yX7_init cX7_init 1 none ∈ ap_gw := ap_in 256 (by decide +kernel) (by decide +kernel)
theorem wd_288 : Cond.classLink RX11 40 RX6 ∈ ap_gw := ap_in 288 (by decide +kernel) (by decide +kernel)
theorem wd_289 : Cond.instantiable RX6 7 ∈ ap_gw := ap_in 289 (by decide +kernel) (by decide +kernel)
theorem wd_290 : Cond.methodLink RX11 42 yX6_init ∈ ap_gw := ap_in 290 (by decide +kernel) (by decide +kernel)
theorem wd_291 : Cond.instanceMethod yX6_init ∈ ap_gw := ap_in 291 (by decide +kernel) (by decide +kernel)
theorem wd_292 : Cond.code yX6_init cX6_init 3 none ∈ ap_gw := ap_in 292 (by decide +kernel) (by decide +kernel)
theorem wd_293 : Cond.methodLink RX6 3 objectInit ∈ ap_gw := ap_in 293 (by decide +kernel) (by decide +kernel)
theorem wd_317 : Cond.classLink RX11 49 RX9 ∈ ap_gw := ap_in 317 (by decide +kernel) (by decide +kernel)
theorem wd_318 : Cond.instantiable RX9 5 ∈ ap_gw := ap_in 318 (by decide +kernel) (by decide +kernel)
theorem wd_319 : Cond.methodLink RX11 51 yX9_init ∈ ap_gw := ap_in 319 (by decide +kernel) (by decide +kernel)
theorem wd_320 : Cond.instanceMethod yX9_init ∈ ap_gw := ap_in 320 (by decide +kernel) (by decide +kernel)
theorem wd_321 : Cond.code yX9_init cX9_init 3 none ∈ ap_gw := ap_in 321 (by decide +kernel) (by decide +kernel)
theorem wd_322 : Cond.methodLink RX9 3 objectInit ∈ ap_gw := ap_in 322 (by decide +kernel) (by decide +kernel)
theorem wd_902 : Cond.classLink RL 10 RX12 ∈ ap_gw := ap_in 902 (by decide +kernel) (by decide +kernel)
theorem wd_903 : Cond.instantiable RX12 23 ∈ ap_gw := ap_in 903 (by decide +kernel) (by decide +kernel)
theorem wd_904 : Cond.methodLink RL 12 yX12_init ∈ ap_gw := ap_in 904 (by decide +kernel) (by decide +kernel)
theorem wd_905 : Cond.instanceMethod yX12_init ∈ ap_gw := ap_in 905 (by decide +kernel) (by decide +kernel)
theorem wd_906 : Cond.code yX12_init cX12_init 1 none ∈ ap_gw := ap_in 906 (by decide +kernel) (by decide +kernel)
theorem wd_907 : Cond.methodLink RX12 1 objectInit ∈ ap_gw := ap_in 907 (by decide +kernel) (by decide +kernel)
theorem nf_X8_21 : nw_fin RX8 21 8 3 (.array .int) := ⟨RX8, TX8, 17, tyX8, rfl, inw_X8, by decide, wd_105, tyX8_ok, nmX8, rfl, rfl, by decide +kernel⟩
theorem nf_X8_25 : nw_fin RX8 25 8 4 (.array .int) := ⟨RX8, TX8, 17, tyX8, rfl, inw_X8, by decide, wd_108, tyX8_ok, nmX8, rfl, rfl, by decide +kernel⟩
theorem nf_X8_28 : nw_fin RX8 28 8 5 (.array .int) := ⟨RX8, TX8, 17, tyX8, rfl, inw_X8, by decide, wd_110, tyX8_ok, nmX8, rfl, rfl, by decide +kernel⟩
theorem nf_X8_31 : nw_fin RX8 31 8 6 (.array .int) := ⟨RX8, TX8, 17, tyX8, rfl, inw_X8, by decide, wd_113, tyX8_ok, nmX8, rfl, rfl, by decide +kernel⟩
theorem nf_X8_34 : nw_fin RX8 34 8 7 (.array .int) := ⟨RX8, TX8, 17, tyX8, rfl, inw_X8, by decide, wd_116, tyX8_ok, nmX8, rfl, rfl, by decide +kernel⟩
theorem nf_X8_40 : nw_fin RX8 40 8 9 (.array .int) := ⟨RX8, TX8, 17, tyX8, rfl, inw_X8, by decide, wd_123, tyX8_ok, nmX8, rfl, rfl, by decide +kernel⟩
theorem nf_X8_46 : nw_fin RX8 46 8 11 (.array .int) := ⟨RX8, TX8, 17, tyX8, rfl, inw_X8, by decide, wd_129, tyX8_ok, nmX8, rfl, rfl, by decide +kernel⟩
theorem nf_X8_49 : nw_fin RX8 49 8 12 (.array .int) := ⟨RX8, TX8, 17, tyX8, rfl, inw_X8, by decide, wd_131, tyX8_ok, nmX8, rfl, rfl, by decide +kernel⟩
theorem nf_X8_52 : nw_fin RX8 52 8 13 (.array .int) := ⟨RX8, TX8, 17, tyX8, rfl, inw_X8, by decide, wd_133, tyX8_ok, nmX8, rfl, rfl, by decide +kernel⟩
theorem nf_X8_58 : nw_fin RX8 58 8 15 (.array .int) := ⟨RX8, TX8, 17, tyX8, rfl, inw_X8, by decide, wd_137, tyX8_ok, nmX8, rfl, rfl, by decide +kernel⟩
theorem nf_X8_61 : nw_fin RX8 61 8 16 (.array .int) := ⟨RX8, TX8, 17, tyX8, rfl, inw_X8, by decide, wd_138, tyX8_ok, nmX8, rfl, rfl, by decide +kernel⟩
theorem nf_X5_12 : nw_fin RX5 12 5 0 (.object "CandleLand$Valley") := ⟨RX5, TX5, 7, tyX5, rfl, inw_X5, by decide, wd_184, tyX5_ok, nmX5, rfl, rfl, by decide +kernel⟩
theorem nf_X5_22 : nw_fin RX5 22 5 2 (.array .byte) := ⟨RX5, TX5, 7, tyX5, rfl, inw_X5, by decide, wd_188, tyX5_ok, nmX5, rfl, rfl, by decide +kernel⟩
theorem nf_X3_27 : nw_fin RX3 27 3 1 (.array (.object "CandleLand$Plain")) := ⟨RX3, TX3, 9, tyX3, rfl, inw_X3, by decide, wd_260, tyX3_ok, nmX3, rfl, rfl, by decide +kernel⟩
theorem nf_X3_33 : nw_fin RX3 33 3 2 (.array .int) := ⟨RX3, TX3, 9, tyX3, rfl, inw_X3, by decide, wd_261, tyX3_ok, nmX3, rfl, rfl, by decide +kernel⟩
theorem nf_X3_37 : nw_fin RX3 37 3 3 (.array .int) := ⟨RX3, TX3, 9, tyX3, rfl, inw_X3, by decide, wd_263, tyX3_ok, nmX3, rfl, rfl, by decide +kernel⟩
theorem nf_X3_40 : nw_fin RX3 40 3 4 (.array .int) := ⟨RX3, TX3, 9, tyX3, rfl, inw_X3, by decide, wd_264, tyX3_ok, nmX3, rfl, rfl, by decide +kernel⟩
theorem nf_X3_43 : nw_fin RX3 43 3 5 (.array .int) := ⟨RX3, TX3, 9, tyX3, rfl, inw_X3, by decide, wd_265, tyX3_ok, nmX3, rfl, rfl, by decide +kernel⟩
theorem nf_X3_46 : nw_fin RX3 46 3 6 (.array .int) := ⟨RX3, TX3, 9, tyX3, rfl, inw_X3, by decide, wd_266, tyX3_ok, nmX3, rfl, rfl, by decide +kernel⟩
theorem nf_X3_49 : nw_fin RX3 49 3 7 (.array .int) := ⟨RX3, TX3, 9, tyX3, rfl, inw_X3, by decide, wd_267, tyX3_ok, nmX3, rfl, rfl, by decide +kernel⟩
theorem nf_X3_52 : nw_fin RX3 52 3 8 (.array .int) := ⟨RX3, TX3, 9, tyX3, rfl, inw_X3, by decide, wd_268, tyX3_ok, nmX3, rfl, rfl, by decide +kernel⟩
theorem nf_X3_55 : nw_fin RX3 55 3 0 (.object "CandleLand$Valley") := ⟨RX3, TX3, 9, tyX3, rfl, inw_X3, by decide, wd_259, tyX3_ok, nmX3, rfl, rfl, by decide +kernel⟩
theorem nf_X6_9 : nw_fin RX6 9 6 2 (.array .int) := ⟨RX6, TX6, 7, tyX6, rfl, inw_X6, by decide, wd_296, tyX6_ok, nmX6, rfl, rfl, by decide +kernel⟩
theorem nf_X6_15 : nw_fin RX6 15 6 3 (.array .boolean) := ⟨RX6, TX6, 7, tyX6, rfl, inw_X6, by decide, wd_297, tyX6_ok, nmX6, rfl, rfl, by decide +kernel⟩
theorem nf_X6_23 : nw_fin RX6 23 6 5 (.array .int) := ⟨RX6, TX6, 7, tyX6, rfl, inw_X6, by decide, wd_300, tyX6_ok, nmX6, rfl, rfl, by decide +kernel⟩
theorem nf_X6_26 : nw_fin RX6 26 6 6 (.array .int) := ⟨RX6, TX6, 7, tyX6, rfl, inw_X6, by decide, wd_301, tyX6_ok, nmX6, rfl, rfl, by decide +kernel⟩
theorem nf_X6_29 : nw_fin RX6 29 6 0 (.object "CandleLand$Valley") := ⟨RX6, TX6, 7, tyX6, rfl, inw_X6, by decide, wd_294, tyX6_ok, nmX6, rfl, rfl, by decide +kernel⟩
theorem nf_X6_33 : nw_fin RX6 33 6 1 (.object "CandleLand$Night") := ⟨RX6, TX6, 7, tyX6, rfl, inw_X6, by decide, wd_295, tyX6_ok, nmX6, rfl, rfl, by decide +kernel⟩
theorem nf_X9_9 : nw_fin RX9 9 9 2 (.array .int) := ⟨RX9, TX9, 5, tyX9, rfl, inw_X9, by decide, wd_325, tyX9_ok, nmX9, rfl, rfl, by decide +kernel⟩
theorem nf_X9_15 : nw_fin RX9 15 9 3 (.array .boolean) := ⟨RX9, TX9, 5, tyX9, rfl, inw_X9, by decide, wd_326, tyX9_ok, nmX9, rfl, rfl, by decide +kernel⟩
theorem nf_X9_19 : nw_fin RX9 19 9 4 (.array .int) := ⟨RX9, TX9, 5, tyX9, rfl, inw_X9, by decide, wd_327, tyX9_ok, nmX9, rfl, rfl, by decide +kernel⟩
theorem nf_X9_22 : nw_fin RX9 22 9 0 (.object "CandleLand$Valley") := ⟨RX9, TX9, 5, tyX9, rfl, inw_X9, by decide, wd_323, tyX9_ok, nmX9, rfl, rfl, by decide +kernel⟩
theorem nf_X9_26 : nw_fin RX9 26 9 1 (.object "CandleLand$Night") := ⟨RX9, TX9, 5, tyX9, rfl, inw_X9, by decide, wd_324, tyX9_ok, nmX9, rfl, rfl, by decide +kernel⟩
theorem nf_X11_12 : nw_fin RX11 12 11 0 (.object "CandleLand$Valley") := ⟨RX11, TX11, 12, tyX11, rfl, inw_X11, by decide, wd_339, tyX11_ok, nmX11, rfl, rfl, by decide +kernel⟩
theorem nf_X11_16 : nw_fin RX11 16 11 1 (.array (.object "CandleLand$Valley")) := ⟨RX11, TX11, 12, tyX11, rfl, inw_X11, by decide, wd_340, tyX11_ok, nmX11, rfl, rfl, by decide +kernel⟩
theorem nf_X11_20 : nw_fin RX11 20 11 2 (.array .boolean) := ⟨RX11, TX11, 12, tyX11, rfl, inw_X11, by decide, wd_341, tyX11_ok, nmX11, rfl, rfl, by decide +kernel⟩
theorem nf_X11_27 : nw_fin RX11 27 11 3 (.object "CandleLand$Reader") := ⟨RX11, TX11, 12, tyX11, rfl, inw_X11, by decide, wd_342, tyX11_ok, nmX11, rfl, rfl, by decide +kernel⟩
theorem nf_X11_36 : nw_fin RX11 36 11 4 (.object "CandleLand$Night") := ⟨RX11, TX11, 12, tyX11, rfl, inw_X11, by decide, wd_343, tyX11_ok, nmX11, rfl, rfl, by decide +kernel⟩
theorem nf_X11_45 : nw_fin RX11 45 11 5 (.object "CandleLand$Sets") := ⟨RX11, TX11, 12, tyX11, rfl, inw_X11, by decide, wd_344, tyX11_ok, nmX11, rfl, rfl, by decide +kernel⟩
theorem nf_X11_52 : nw_fin RX11 52 11 6 (.object "CandleLand$Walk") := ⟨RX11, TX11, 12, tyX11, rfl, inw_X11, by decide, wd_345, tyX11_ok, nmX11, rfl, rfl, by decide +kernel⟩
theorem nf_X12_7 : nw_fin RX12 7 12 0 (.array .int) := ⟨RX12, TX12, 23, tyX12, rfl, inw_X12, by decide, wd_908, tyX12_ok, nmX12, rfl, rfl, by decide +kernel⟩
theorem nf_X12_13 : nw_fin RX12 13 12 1 (.array .int) := ⟨RX12, TX12, 23, tyX12, rfl, inw_X12, by decide, wd_909, tyX12_ok, nmX12, rfl, rfl, by decide +kernel⟩
theorem nf_X12_16 : nw_fin RX12 16 12 2 (.array .boolean) := ⟨RX12, TX12, 23, tyX12, rfl, inw_X12, by decide, wd_910, tyX12_ok, nmX12, rfl, rfl, by decide +kernel⟩
theorem nf_X12_20 : nw_fin RX12 20 12 3 (.array .int) := ⟨RX12, TX12, 23, tyX12, rfl, inw_X12, by decide, wd_911, tyX12_ok, nmX12, rfl, rfl, by decide +kernel⟩
theorem nf_X12_27 : nw_fin RX12 27 12 7 (.array .int) := ⟨RX12, TX12, 23, tyX12, rfl, inw_X12, by decide, wd_915, tyX12_ok, nmX12, rfl, rfl, by decide +kernel⟩
theorem nf_X12_30 : nw_fin RX12 30 12 8 (.array .int) := ⟨RX12, TX12, 23, tyX12, rfl, inw_X12, by decide, wd_916, tyX12_ok, nmX12, rfl, rfl, by decide +kernel⟩
theorem nf_X12_33 : nw_fin RX12 33 12 9 (.array .int) := ⟨RX12, TX12, 23, tyX12, rfl, inw_X12, by decide, wd_917, tyX12_ok, nmX12, rfl, rfl, by decide +kernel⟩
theorem nf_X12_36 : nw_fin RX12 36 12 10 (.array .int) := ⟨RX12, TX12, 23, tyX12, rfl, inw_X12, by decide, wd_918, tyX12_ok, nmX12, rfl, rfl, by decide +kernel⟩
theorem nf_X12_39 : nw_fin RX12 39 12 11 (.array .int) := ⟨RX12, TX12, 23, tyX12, rfl, inw_X12, by decide, wd_919, tyX12_ok, nmX12, rfl, rfl, by decide +kernel⟩
theorem nf_X12_42 : nw_fin RX12 42 12 12 (.array .boolean) := ⟨RX12, TX12, 23, tyX12, rfl, inw_X12, by decide, wd_920, tyX12_ok, nmX12, rfl, rfl, by decide +kernel⟩
theorem nf_X12_45 : nw_fin RX12 45 12 13 (.array .int) := ⟨RX12, TX12, 23, tyX12, rfl, inw_X12, by decide, wd_921, tyX12_ok, nmX12, rfl, rfl, by decide +kernel⟩
theorem nf_X12_48 : nw_fin RX12 48 12 15 (.array .int) := ⟨RX12, TX12, 23, tyX12, rfl, inw_X12, by decide, wd_923, tyX12_ok, nmX12, rfl, rfl, by decide +kernel⟩
theorem nf_X12_51 : nw_fin RX12 51 12 21 (.array .int) := ⟨RX12, TX12, 23, tyX12, rfl, inw_X12, by decide, wd_929, tyX12_ok, nmX12, rfl, rfl, by decide +kernel⟩
theorem nf_X12_54 : nw_fin RX12 54 12 22 (.array .int) := ⟨RX12, TX12, 23, tyX12, rfl, inw_X12, by decide, wd_930, tyX12_ok, nmX12, rfl, rfl, by decide +kernel⟩
theorem nm_X5_9 : nw_mk RX5 9 8 [.int 0, .int 0, .int 0, .null, .null, .null, .null, .null, .int 0, .null, .int 0, .null, .null, .null, .int 0, .null, .null] RX8 17 := ⟨TX8, tyX8, rfl, inw_X8, tyX8_ok, wd_182, wd_86, wd_58, by decide +kernel⟩
theorem nm_X3_9 : nw_mk RX3 9 4 [] RX4 0 := ⟨TX4, tyX4, rfl, inw_X4, tyX4_ok, wd_216, wd_218, wd_61, by decide +kernel⟩
theorem nm_X3_12 : nw_mk RX3 12 10 [] RX10 0 := ⟨TX10, tyX10, rfl, inw_X10, tyX10_ok, wd_224, wd_225, wd_62, by decide +kernel⟩
theorem nm_X3_15 : nw_mk RX3 15 1 [] RX1 0 := ⟨TX1, tyX1, rfl, inw_X1, tyX1_ok, wd_231, wd_232, wd_63, by decide +kernel⟩
theorem nm_X3_18 : nw_mk RX3 18 2 [] RX2 0 := ⟨TX2, tyX2, rfl, inw_X2, tyX2_ok, wd_238, wd_239, wd_64, by decide +kernel⟩
theorem nm_X3_21 : nw_mk RX3 21 0 [] RX0 0 := ⟨TX0, tyX0, rfl, inw_X0, tyX0_ok, wd_245, wd_246, wd_65, by decide +kernel⟩
theorem nm_X3_24 : nw_mk RX3 24 7 [] RX7 0 := ⟨TX7, tyX7, rfl, inw_X7, tyX7_ok, wd_252, wd_253, wd_66, by decide +kernel⟩
theorem nm_X11_9 : nw_mk RX11 9 8 [.int 0, .int 0, .int 0, .null, .null, .null, .null, .null, .int 0, .null, .int 0, .null, .null, .null, .int 0, .null, .null] RX8 17 := ⟨TX8, tyX8, rfl, inw_X8, tyX8_ok, wd_85, wd_86, wd_58, by decide +kernel⟩
theorem nm_X11_24 : nw_mk RX11 24 5 [.null, .int 0, .null, .int 0, .int 0, .int 0, .int 0] RX5 7 := ⟨TX5, tyX5, rfl, inw_X5, tyX5_ok, wd_176, wd_177, wd_59, by decide +kernel⟩
theorem nm_X11_31 : nw_mk RX11 31 3 [.null, .null, .null, .null, .null, .null, .null, .null, .null] RX3 9 := ⟨TX3, tyX3, rfl, inw_X3, tyX3_ok, wd_210, wd_211, wd_60, by decide +kernel⟩
theorem nm_X11_40 : nw_mk RX11 40 6 [.null, .null, .null, .null, .int 0, .null, .null] RX6 7 := ⟨TX6, tyX6, rfl, inw_X6, tyX6_ok, wd_288, wd_289, wd_67, by decide +kernel⟩
theorem nm_X11_49 : nw_mk RX11 49 9 [.null, .null, .null, .null, .null] RX9 5 := ⟨TX9, tyX9, rfl, inw_X9, tyX9_ok, wd_317, wd_318, wd_68, by decide +kernel⟩
abbrev riX4 : Room := { frames := 1, cells := 0, slots := 0, locals := 12 }
def poX4 (g : Gt) (ci : Nat) (h0 : Nat)  (gq : Nat → Nat) : va_W := [(h0, .inr (ci, []))]
set_option maxRecDepth 100000 in
set_option maxHeartbeats 4000000 in
theorem ncX4_init {l : Launch} {g : Gt} (ci : Nat) (h0 : Nat)  : NC l g yX4_init cX4_init 1 riX4 [(h0, .inr (ci, []))] [.ref h0] (poX4 g ci h0 ) 0 0 := by
  refine NC.of (lv := [(0, .ref h0)]) (by decide) rfl (Nat.le_of_ble_eq_true rfl) rfl ?_
  refine nw_aload dX4_init_0 0 rfl rfl ?_
  refine nw_obj wd_222 wd_83 wd_84 ⟨by decide, Nat.le_of_ble_eq_true rfl⟩ dX4_init_1 ?_
  exact nw_ret (fun k => ([] : List Nat).getD k 0) rfl dX4_init_4

abbrev riX10 : Room := { frames := 2, cells := 0, slots := 0, locals := 32 }
def poX10 (g : Gt) (ci : Nat) (h0 : Nat)  (gq : Nat → Nat) : va_W := [(h0, .inr (ci, []))]
set_option maxRecDepth 100000 in
set_option maxHeartbeats 4000000 in
theorem ncX10_init {l : Launch} {g : Gt} (ci : Nat) (h0 : Nat)  : NC l g yX10_init cX10_init 1 riX10 [(h0, .inr (ci, []))] [.ref h0] (poX10 g ci h0 ) 0 0 := by
  refine NC.of (lv := [(0, .ref h0)]) (by decide) rfl (Nat.le_of_ble_eq_true rfl) rfl ?_
  refine nw_aload dX10_init_0 0 rfl rfl ?_
  refine nw_callN (n := 0) (As := []) (st := []) (wr := []) [0] [] (ncX4_init ci h0) (by decide) wd_221 wd_61 wd_220 ⟨rfl, by decide +kernel⟩ ⟨rfl, rfl, by decide, by decide⟩ rfl (Nat.le_of_ble_eq_true rfl) ⟨by decide, by decide⟩ dX10_init_1 rfl rfl rfl (by decide) (by decide) (by decide) (fun g1 => ?_)
  exact nw_ret (fun k => ([] : List Nat).getD k 0) rfl dX10_init_4

abbrev riX1 : Room := { frames := 2, cells := 0, slots := 0, locals := 32 }
def poX1 (g : Gt) (ci : Nat) (h0 : Nat)  (gq : Nat → Nat) : va_W := [(h0, .inr (ci, []))]
set_option maxRecDepth 100000 in
set_option maxHeartbeats 4000000 in
theorem ncX1_init {l : Launch} {g : Gt} (ci : Nat) (h0 : Nat)  : NC l g yX1_init cX1_init 1 riX1 [(h0, .inr (ci, []))] [.ref h0] (poX1 g ci h0 ) 0 0 := by
  refine NC.of (lv := [(0, .ref h0)]) (by decide) rfl (Nat.le_of_ble_eq_true rfl) rfl ?_
  refine nw_aload dX1_init_0 0 rfl rfl ?_
  refine nw_callN (n := 0) (As := []) (st := []) (wr := []) [0] [] (ncX4_init ci h0) (by decide) wd_221 wd_61 wd_220 ⟨rfl, by decide +kernel⟩ ⟨rfl, rfl, by decide, by decide⟩ rfl (Nat.le_of_ble_eq_true rfl) ⟨by decide, by decide⟩ dX1_init_1 rfl rfl rfl (by decide) (by decide) (by decide) (fun g1 => ?_)
  exact nw_ret (fun k => ([] : List Nat).getD k 0) rfl dX1_init_4

abbrev riX2 : Room := { frames := 3, cells := 0, slots := 0, locals := 52 }
def poX2 (g : Gt) (ci : Nat) (h0 : Nat)  (gq : Nat → Nat) : va_W := [(h0, .inr (ci, []))]
set_option maxRecDepth 100000 in
set_option maxHeartbeats 4000000 in
theorem ncX2_init {l : Launch} {g : Gt} (ci : Nat) (h0 : Nat)  : NC l g yX2_init cX2_init 1 riX2 [(h0, .inr (ci, []))] [.ref h0] (poX2 g ci h0 ) 0 0 := by
  refine NC.of (lv := [(0, .ref h0)]) (by decide) rfl (Nat.le_of_ble_eq_true rfl) rfl ?_
  refine nw_aload dX2_init_0 0 rfl rfl ?_
  refine nw_callN (n := 0) (As := []) (st := []) (wr := []) [0] [] (ncX1_init ci h0) (by decide) wd_235 wd_63 wd_234 ⟨rfl, by decide +kernel⟩ ⟨rfl, rfl, by decide, by decide⟩ rfl (Nat.le_of_ble_eq_true rfl) ⟨by decide, by decide⟩ dX2_init_1 rfl rfl rfl (by decide) (by decide) (by decide) (fun g1 => ?_)
  exact nw_ret (fun k => ([] : List Nat).getD k 0) rfl dX2_init_4

abbrev riX0 : Room := { frames := 3, cells := 0, slots := 0, locals := 52 }
def poX0 (g : Gt) (ci : Nat) (h0 : Nat)  (gq : Nat → Nat) : va_W := [(h0, .inr (ci, []))]
set_option maxRecDepth 100000 in
set_option maxHeartbeats 4000000 in
theorem ncX0_init {l : Launch} {g : Gt} (ci : Nat) (h0 : Nat)  : NC l g yX0_init cX0_init 1 riX0 [(h0, .inr (ci, []))] [.ref h0] (poX0 g ci h0 ) 0 0 := by
  refine NC.of (lv := [(0, .ref h0)]) (by decide) rfl (Nat.le_of_ble_eq_true rfl) rfl ?_
  refine nw_aload dX0_init_0 0 rfl rfl ?_
  refine nw_callN (n := 0) (As := []) (st := []) (wr := []) [0] [] (ncX10_init ci h0) (by decide) wd_228 wd_62 wd_227 ⟨rfl, by decide +kernel⟩ ⟨rfl, rfl, by decide, by decide⟩ rfl (Nat.le_of_ble_eq_true rfl) ⟨by decide, by decide⟩ dX0_init_1 rfl rfl rfl (by decide) (by decide) (by decide) (fun g1 => ?_)
  exact nw_ret (fun k => ([] : List Nat).getD k 0) rfl dX0_init_4

abbrev riX7 : Room := { frames := 2, cells := 0, slots := 0, locals := 32 }
def poX7 (g : Gt) (ci : Nat) (h0 : Nat)  (gq : Nat → Nat) : va_W := [(h0, .inr (ci, []))]
set_option maxRecDepth 100000 in
set_option maxHeartbeats 4000000 in
theorem ncX7_init {l : Launch} {g : Gt} (ci : Nat) (h0 : Nat)  : NC l g yX7_init cX7_init 1 riX7 [(h0, .inr (ci, []))] [.ref h0] (poX7 g ci h0 ) 0 0 := by
  refine NC.of (lv := [(0, .ref h0)]) (by decide) rfl (Nat.le_of_ble_eq_true rfl) rfl ?_
  refine nw_aload dX7_init_0 0 rfl rfl ?_
  refine nw_callN (n := 0) (As := []) (st := []) (wr := []) [0] [] (ncX4_init ci h0) (by decide) wd_221 wd_61 wd_220 ⟨rfl, by decide +kernel⟩ ⟨rfl, rfl, by decide, by decide⟩ rfl (Nat.le_of_ble_eq_true rfl) ⟨by decide, by decide⟩ dX7_init_1 rfl rfl rfl (by decide) (by decide) (by decide) (fun g1 => ?_)
  exact nw_ret (fun k => ([] : List Nat).getD k 0) rfl dX7_init_4

abbrev riX8 : Room := { frames := 1, cells := 11, slots := 123, locals := 12 }
def poX8 (g : Gt) (h0 : Nat)  (gq : Nat → Nat) : va_W := [(h0, .inr (8, [.int 0, .int 0, .int 0, .ref (gq 0), .ref (gq 1), .ref (gq 2), .ref (gq 3), .ref (gq 4), .int 0, .ref (gq 5), .int 0, .ref (gq 6), .ref (gq 7), .ref (gq 8), .int 0, .ref (gq 9), .ref (gq 10)])), (gq 0, .inl (g.2 0, 7, .inl (fun _ => 0))), (gq 1, .inl (g.2 0, 7, .inl (fun _ => 0))), (gq 2, .inl (g.2 0, 7, .inl (fun _ => 0))), (gq 3, .inl (g.2 0, 7, .inl (fun _ => 0))), (gq 4, .inl (g.2 0, 7, .inl (fun _ => 0))), (gq 5, .inl (g.2 0, 6, .inl (fun _ => 0))), (gq 6, .inl (g.2 0, 6, .inl (fun _ => 0))), (gq 7, .inl (g.2 0, 6, .inl (fun _ => 0))), (gq 8, .inl (g.2 0, 6, .inl (fun _ => 0))), (gq 9, .inl (g.2 0, 56, .inl (fun _ => 0))), (gq 10, .inl (g.2 0, 8, .inl (fun _ => 0)))]
set_option maxRecDepth 100000 in
set_option maxHeartbeats 4000000 in
theorem ncX8_init {l : Launch} {g : Gt} (h0 : Nat)  : NC l g yX8_init cX8_init 1 riX8 [(h0, .inr (8, [.int 0, .int 0, .int 0, .null, .null, .null, .null, .null, .int 0, .null, .int 0, .null, .null, .null, .int 0, .null, .null]))] [.ref h0] (poX8 g h0 ) 11 123 := by
  refine NC.of (lv := [(0, .ref h0)]) (by decide) rfl (Nat.le_of_ble_eq_true rfl) rfl ?_
  refine nw_aload dX8_init_0 0 rfl rfl ?_
  refine nw_obj wd_90 wd_83 wd_84 ⟨by decide, Nat.le_of_ble_eq_true rfl⟩ dX8_init_1 ?_
  refine nw_aload dX8_init_4 0 rfl rfl ?_
  refine nw_iconst (v := 0) dX8_init_5 (by decide) ?_
  refine nw_put (ws' := [(h0, .inr (8, [.int 0, .int 0, .int 0, .null, .null, .null, .null, .null, .int 0, .null, .int 0, .null, .null, .null, .int 0, .null, .null]))]) (q0 := 0) fp_X8_9 rfl rfl rfl (Nat.le_of_ble_eq_true rfl) rfl dX8_init_6 ?_
  refine nw_aload dX8_init_9 0 rfl rfl ?_
  refine nw_iconst (v := 0) dX8_init_10 (by decide) ?_
  refine nw_put (ws' := [(h0, .inr (8, [.int 0, .int 0, .int 0, .null, .null, .null, .null, .null, .int 0, .null, .int 0, .null, .null, .null, .int 0, .null, .null]))]) (q0 := 0) fp_X8_15 rfl rfl rfl (Nat.le_of_ble_eq_true rfl) rfl dX8_init_11 ?_
  refine nw_aload dX8_init_14 0 rfl rfl ?_
  refine nw_iconst (v := 0) dX8_init_15 (by decide) ?_
  refine nw_put (ws' := [(h0, .inr (8, [.int 0, .int 0, .int 0, .null, .null, .null, .null, .null, .int 0, .null, .int 0, .null, .null, .null, .int 0, .null, .null]))]) (q0 := 0) fp_X8_18 rfl rfl rfl (Nat.le_of_ble_eq_true rfl) rfl dX8_init_16 ?_
  refine nw_aload dX8_init_19 0 rfl rfl ?_
  refine nw_bipush (v := 7) dX8_init_20 (by decide) ?_
  refine nw_newa (atype := .int) (ty := .int) (t := 0) (N' := 7) rfl rfl rfl wd_174 rfl (by decide) (by decide) (by decide) (by decide) (by decide) dX8_init_22 (fun q1 => ?_)
  refine nw_putF (ws' := [(h0, .inr (8, [.int 0, .int 0, .int 0, .ref q1, .null, .null, .null, .null, .int 0, .null, .int 0, .null, .null, .null, .int 0, .null, .null])), (q1, .inl (g.2 0, 7, .inl (fun _ => 0)))]) (q0 := 0) nf_X8_21 rfl rfl rfl rfl (Nat.le_of_ble_eq_true rfl) rfl dX8_init_24 ?_
  refine nw_aload dX8_init_27 0 rfl rfl ?_
  refine nw_bipush (v := 7) dX8_init_28 (by decide) ?_
  refine nw_newa (atype := .int) (ty := .int) (t := 0) (N' := 7) rfl rfl rfl wd_174 rfl (by decide) (by decide) (by decide) (by decide) (by decide) dX8_init_30 (fun q2 => ?_)
  refine nw_putF (ws' := [(h0, .inr (8, [.int 0, .int 0, .int 0, .ref q1, .ref q2, .null, .null, .null, .int 0, .null, .int 0, .null, .null, .null, .int 0, .null, .null])), (q1, .inl (g.2 0, 7, .inl (fun _ => 0))), (q2, .inl (g.2 0, 7, .inl (fun _ => 0)))]) (q0 := 0) nf_X8_25 rfl rfl rfl rfl (Nat.le_of_ble_eq_true rfl) rfl dX8_init_32 ?_
  refine nw_aload dX8_init_35 0 rfl rfl ?_
  refine nw_bipush (v := 7) dX8_init_36 (by decide) ?_
  refine nw_newa (atype := .int) (ty := .int) (t := 0) (N' := 7) rfl rfl rfl wd_174 rfl (by decide) (by decide) (by decide) (by decide) (by decide) dX8_init_38 (fun q3 => ?_)
  refine nw_putF (ws' := [(h0, .inr (8, [.int 0, .int 0, .int 0, .ref q1, .ref q2, .ref q3, .null, .null, .int 0, .null, .int 0, .null, .null, .null, .int 0, .null, .null])), (q1, .inl (g.2 0, 7, .inl (fun _ => 0))), (q2, .inl (g.2 0, 7, .inl (fun _ => 0))), (q3, .inl (g.2 0, 7, .inl (fun _ => 0)))]) (q0 := 0) nf_X8_28 rfl rfl rfl rfl (Nat.le_of_ble_eq_true rfl) rfl dX8_init_40 ?_
  refine nw_aload dX8_init_43 0 rfl rfl ?_
  refine nw_bipush (v := 7) dX8_init_44 (by decide) ?_
  refine nw_newa (atype := .int) (ty := .int) (t := 0) (N' := 7) rfl rfl rfl wd_174 rfl (by decide) (by decide) (by decide) (by decide) (by decide) dX8_init_46 (fun q4 => ?_)
  refine nw_putF (ws' := [(h0, .inr (8, [.int 0, .int 0, .int 0, .ref q1, .ref q2, .ref q3, .ref q4, .null, .int 0, .null, .int 0, .null, .null, .null, .int 0, .null, .null])), (q1, .inl (g.2 0, 7, .inl (fun _ => 0))), (q2, .inl (g.2 0, 7, .inl (fun _ => 0))), (q3, .inl (g.2 0, 7, .inl (fun _ => 0))), (q4, .inl (g.2 0, 7, .inl (fun _ => 0)))]) (q0 := 0) nf_X8_31 rfl rfl rfl rfl (Nat.le_of_ble_eq_true rfl) rfl dX8_init_48 ?_
  refine nw_aload dX8_init_51 0 rfl rfl ?_
  refine nw_bipush (v := 7) dX8_init_52 (by decide) ?_
  refine nw_newa (atype := .int) (ty := .int) (t := 0) (N' := 7) rfl rfl rfl wd_174 rfl (by decide) (by decide) (by decide) (by decide) (by decide) dX8_init_54 (fun q5 => ?_)
  refine nw_putF (ws' := [(h0, .inr (8, [.int 0, .int 0, .int 0, .ref q1, .ref q2, .ref q3, .ref q4, .ref q5, .int 0, .null, .int 0, .null, .null, .null, .int 0, .null, .null])), (q1, .inl (g.2 0, 7, .inl (fun _ => 0))), (q2, .inl (g.2 0, 7, .inl (fun _ => 0))), (q3, .inl (g.2 0, 7, .inl (fun _ => 0))), (q4, .inl (g.2 0, 7, .inl (fun _ => 0))), (q5, .inl (g.2 0, 7, .inl (fun _ => 0)))]) (q0 := 0) nf_X8_34 rfl rfl rfl rfl (Nat.le_of_ble_eq_true rfl) rfl dX8_init_56 ?_
  refine nw_aload dX8_init_59 0 rfl rfl ?_
  refine nw_iconst (v := 0) dX8_init_60 (by decide) ?_
  refine nw_put (ws' := [(h0, .inr (8, [.int 0, .int 0, .int 0, .ref q1, .ref q2, .ref q3, .ref q4, .ref q5, .int 0, .null, .int 0, .null, .null, .null, .int 0, .null, .null])), (q1, .inl (g.2 0, 7, .inl (fun _ => 0))), (q2, .inl (g.2 0, 7, .inl (fun _ => 0))), (q3, .inl (g.2 0, 7, .inl (fun _ => 0))), (q4, .inl (g.2 0, 7, .inl (fun _ => 0))), (q5, .inl (g.2 0, 7, .inl (fun _ => 0)))]) (q0 := 0) fp_X8_37 rfl rfl rfl (Nat.le_of_ble_eq_true rfl) rfl dX8_init_61 ?_
  refine nw_aload dX8_init_64 0 rfl rfl ?_
  refine nw_bipush (v := 6) dX8_init_65 (by decide) ?_
  refine nw_newa (atype := .int) (ty := .int) (t := 0) (N' := 6) rfl rfl rfl wd_174 rfl (by decide) (by decide) (by decide) (by decide) (by decide) dX8_init_67 (fun q6 => ?_)
  refine nw_putF (ws' := [(h0, .inr (8, [.int 0, .int 0, .int 0, .ref q1, .ref q2, .ref q3, .ref q4, .ref q5, .int 0, .ref q6, .int 0, .null, .null, .null, .int 0, .null, .null])), (q1, .inl (g.2 0, 7, .inl (fun _ => 0))), (q2, .inl (g.2 0, 7, .inl (fun _ => 0))), (q3, .inl (g.2 0, 7, .inl (fun _ => 0))), (q4, .inl (g.2 0, 7, .inl (fun _ => 0))), (q5, .inl (g.2 0, 7, .inl (fun _ => 0))), (q6, .inl (g.2 0, 6, .inl (fun _ => 0)))]) (q0 := 0) nf_X8_40 rfl rfl rfl rfl (Nat.le_of_ble_eq_true rfl) rfl dX8_init_69 ?_
  refine nw_aload dX8_init_72 0 rfl rfl ?_
  refine nw_iconst (v := 0) dX8_init_73 (by decide) ?_
  refine nw_put (ws' := [(h0, .inr (8, [.int 0, .int 0, .int 0, .ref q1, .ref q2, .ref q3, .ref q4, .ref q5, .int 0, .ref q6, .int 0, .null, .null, .null, .int 0, .null, .null])), (q1, .inl (g.2 0, 7, .inl (fun _ => 0))), (q2, .inl (g.2 0, 7, .inl (fun _ => 0))), (q3, .inl (g.2 0, 7, .inl (fun _ => 0))), (q4, .inl (g.2 0, 7, .inl (fun _ => 0))), (q5, .inl (g.2 0, 7, .inl (fun _ => 0))), (q6, .inl (g.2 0, 6, .inl (fun _ => 0)))]) (q0 := 0) fp_X8_43 rfl rfl rfl (Nat.le_of_ble_eq_true rfl) rfl dX8_init_74 ?_
  refine nw_aload dX8_init_77 0 rfl rfl ?_
  refine nw_bipush (v := 6) dX8_init_78 (by decide) ?_
  refine nw_newa (atype := .int) (ty := .int) (t := 0) (N' := 6) rfl rfl rfl wd_174 rfl (by decide) (by decide) (by decide) (by decide) (by decide) dX8_init_80 (fun q7 => ?_)
  refine nw_putF (ws' := [(h0, .inr (8, [.int 0, .int 0, .int 0, .ref q1, .ref q2, .ref q3, .ref q4, .ref q5, .int 0, .ref q6, .int 0, .ref q7, .null, .null, .int 0, .null, .null])), (q1, .inl (g.2 0, 7, .inl (fun _ => 0))), (q2, .inl (g.2 0, 7, .inl (fun _ => 0))), (q3, .inl (g.2 0, 7, .inl (fun _ => 0))), (q4, .inl (g.2 0, 7, .inl (fun _ => 0))), (q5, .inl (g.2 0, 7, .inl (fun _ => 0))), (q6, .inl (g.2 0, 6, .inl (fun _ => 0))), (q7, .inl (g.2 0, 6, .inl (fun _ => 0)))]) (q0 := 0) nf_X8_46 rfl rfl rfl rfl (Nat.le_of_ble_eq_true rfl) rfl dX8_init_82 ?_
  refine nw_aload dX8_init_85 0 rfl rfl ?_
  refine nw_bipush (v := 6) dX8_init_86 (by decide) ?_
  refine nw_newa (atype := .int) (ty := .int) (t := 0) (N' := 6) rfl rfl rfl wd_174 rfl (by decide) (by decide) (by decide) (by decide) (by decide) dX8_init_88 (fun q8 => ?_)
  refine nw_putF (ws' := [(h0, .inr (8, [.int 0, .int 0, .int 0, .ref q1, .ref q2, .ref q3, .ref q4, .ref q5, .int 0, .ref q6, .int 0, .ref q7, .ref q8, .null, .int 0, .null, .null])), (q1, .inl (g.2 0, 7, .inl (fun _ => 0))), (q2, .inl (g.2 0, 7, .inl (fun _ => 0))), (q3, .inl (g.2 0, 7, .inl (fun _ => 0))), (q4, .inl (g.2 0, 7, .inl (fun _ => 0))), (q5, .inl (g.2 0, 7, .inl (fun _ => 0))), (q6, .inl (g.2 0, 6, .inl (fun _ => 0))), (q7, .inl (g.2 0, 6, .inl (fun _ => 0))), (q8, .inl (g.2 0, 6, .inl (fun _ => 0)))]) (q0 := 0) nf_X8_49 rfl rfl rfl rfl (Nat.le_of_ble_eq_true rfl) rfl dX8_init_90 ?_
  refine nw_aload dX8_init_93 0 rfl rfl ?_
  refine nw_bipush (v := 6) dX8_init_94 (by decide) ?_
  refine nw_newa (atype := .int) (ty := .int) (t := 0) (N' := 6) rfl rfl rfl wd_174 rfl (by decide) (by decide) (by decide) (by decide) (by decide) dX8_init_96 (fun q9 => ?_)
  refine nw_putF (ws' := [(h0, .inr (8, [.int 0, .int 0, .int 0, .ref q1, .ref q2, .ref q3, .ref q4, .ref q5, .int 0, .ref q6, .int 0, .ref q7, .ref q8, .ref q9, .int 0, .null, .null])), (q1, .inl (g.2 0, 7, .inl (fun _ => 0))), (q2, .inl (g.2 0, 7, .inl (fun _ => 0))), (q3, .inl (g.2 0, 7, .inl (fun _ => 0))), (q4, .inl (g.2 0, 7, .inl (fun _ => 0))), (q5, .inl (g.2 0, 7, .inl (fun _ => 0))), (q6, .inl (g.2 0, 6, .inl (fun _ => 0))), (q7, .inl (g.2 0, 6, .inl (fun _ => 0))), (q8, .inl (g.2 0, 6, .inl (fun _ => 0))), (q9, .inl (g.2 0, 6, .inl (fun _ => 0)))]) (q0 := 0) nf_X8_52 rfl rfl rfl rfl (Nat.le_of_ble_eq_true rfl) rfl dX8_init_98 ?_
  refine nw_aload dX8_init_101 0 rfl rfl ?_
  refine nw_iconst (v := 0) dX8_init_102 (by decide) ?_
  refine nw_put (ws' := [(h0, .inr (8, [.int 0, .int 0, .int 0, .ref q1, .ref q2, .ref q3, .ref q4, .ref q5, .int 0, .ref q6, .int 0, .ref q7, .ref q8, .ref q9, .int 0, .null, .null])), (q1, .inl (g.2 0, 7, .inl (fun _ => 0))), (q2, .inl (g.2 0, 7, .inl (fun _ => 0))), (q3, .inl (g.2 0, 7, .inl (fun _ => 0))), (q4, .inl (g.2 0, 7, .inl (fun _ => 0))), (q5, .inl (g.2 0, 7, .inl (fun _ => 0))), (q6, .inl (g.2 0, 6, .inl (fun _ => 0))), (q7, .inl (g.2 0, 6, .inl (fun _ => 0))), (q8, .inl (g.2 0, 6, .inl (fun _ => 0))), (q9, .inl (g.2 0, 6, .inl (fun _ => 0)))]) (q0 := 0) fp_X8_55 rfl rfl rfl (Nat.le_of_ble_eq_true rfl) rfl dX8_init_103 ?_
  refine nw_aload dX8_init_106 0 rfl rfl ?_
  refine nw_bipush (v := 56) dX8_init_107 (by decide) ?_
  refine nw_newa (atype := .int) (ty := .int) (t := 0) (N' := 56) rfl rfl rfl wd_174 rfl (by decide) (by decide) (by decide) (by decide) (by decide) dX8_init_109 (fun q10 => ?_)
  refine nw_putF (ws' := [(h0, .inr (8, [.int 0, .int 0, .int 0, .ref q1, .ref q2, .ref q3, .ref q4, .ref q5, .int 0, .ref q6, .int 0, .ref q7, .ref q8, .ref q9, .int 0, .ref q10, .null])), (q1, .inl (g.2 0, 7, .inl (fun _ => 0))), (q2, .inl (g.2 0, 7, .inl (fun _ => 0))), (q3, .inl (g.2 0, 7, .inl (fun _ => 0))), (q4, .inl (g.2 0, 7, .inl (fun _ => 0))), (q5, .inl (g.2 0, 7, .inl (fun _ => 0))), (q6, .inl (g.2 0, 6, .inl (fun _ => 0))), (q7, .inl (g.2 0, 6, .inl (fun _ => 0))), (q8, .inl (g.2 0, 6, .inl (fun _ => 0))), (q9, .inl (g.2 0, 6, .inl (fun _ => 0))), (q10, .inl (g.2 0, 56, .inl (fun _ => 0)))]) (q0 := 0) nf_X8_58 rfl rfl rfl rfl (Nat.le_of_ble_eq_true rfl) rfl dX8_init_111 ?_
  refine nw_aload dX8_init_114 0 rfl rfl ?_
  refine nw_bipush (v := 8) dX8_init_115 (by decide) ?_
  refine nw_newa (atype := .int) (ty := .int) (t := 0) (N' := 8) rfl rfl rfl wd_174 rfl (by decide) (by decide) (by decide) (by decide) (by decide) dX8_init_117 (fun q11 => ?_)
  refine nw_putF (ws' := [(h0, .inr (8, [.int 0, .int 0, .int 0, .ref q1, .ref q2, .ref q3, .ref q4, .ref q5, .int 0, .ref q6, .int 0, .ref q7, .ref q8, .ref q9, .int 0, .ref q10, .ref q11])), (q1, .inl (g.2 0, 7, .inl (fun _ => 0))), (q2, .inl (g.2 0, 7, .inl (fun _ => 0))), (q3, .inl (g.2 0, 7, .inl (fun _ => 0))), (q4, .inl (g.2 0, 7, .inl (fun _ => 0))), (q5, .inl (g.2 0, 7, .inl (fun _ => 0))), (q6, .inl (g.2 0, 6, .inl (fun _ => 0))), (q7, .inl (g.2 0, 6, .inl (fun _ => 0))), (q8, .inl (g.2 0, 6, .inl (fun _ => 0))), (q9, .inl (g.2 0, 6, .inl (fun _ => 0))), (q10, .inl (g.2 0, 56, .inl (fun _ => 0))), (q11, .inl (g.2 0, 8, .inl (fun _ => 0)))]) (q0 := 0) nf_X8_61 rfl rfl rfl rfl (Nat.le_of_ble_eq_true rfl) rfl dX8_init_119 ?_
  exact nw_ret (fun k => ([q1, q2, q3, q4, q5, q6, q7, q8, q9, q10, q11] : List Nat).getD k 0) rfl dX8_init_122

abbrev riX5 : Room := { frames := 2, cells := 13, slots := 290, locals := 32 }
def poX5 (g : Gt) (h0 : Nat)  (gq : Nat → Nat) : va_W := [(h0, .inr (5, [.ref (gq 0), .int 0, .ref (gq 12), .int 0, .int 0, .int 0, .int 0])), (gq 0, .inr (8, [.int 0, .int 0, .int 0, .ref (gq 1), .ref (gq 2), .ref (gq 3), .ref (gq 4), .ref (gq 5), .int 0, .ref (gq 6), .int 0, .ref (gq 7), .ref (gq 8), .ref (gq 9), .int 0, .ref (gq 10), .ref (gq 11)])), (gq 1, .inl (g.2 0, 7, .inl (fun _ => 0))), (gq 2, .inl (g.2 0, 7, .inl (fun _ => 0))), (gq 3, .inl (g.2 0, 7, .inl (fun _ => 0))), (gq 4, .inl (g.2 0, 7, .inl (fun _ => 0))), (gq 5, .inl (g.2 0, 7, .inl (fun _ => 0))), (gq 6, .inl (g.2 0, 6, .inl (fun _ => 0))), (gq 7, .inl (g.2 0, 6, .inl (fun _ => 0))), (gq 8, .inl (g.2 0, 6, .inl (fun _ => 0))), (gq 9, .inl (g.2 0, 6, .inl (fun _ => 0))), (gq 10, .inl (g.2 0, 56, .inl (fun _ => 0))), (gq 11, .inl (g.2 0, 8, .inl (fun _ => 0))), (gq 12, .inl (g.2 2, 150, .inl (fun _ => 0)))]
set_option maxRecDepth 100000 in
set_option maxHeartbeats 4000000 in
theorem ncX5_init {l : Launch} {g : Gt} (h0 : Nat)  : NC l g yX5_init cX5_init 1 riX5 [(h0, .inr (5, [.null, .int 0, .null, .int 0, .int 0, .int 0, .int 0]))] [.ref h0] (poX5 g h0 ) 13 290 := by
  refine NC.of (lv := [(0, .ref h0)]) (by decide) rfl (Nat.le_of_ble_eq_true rfl) rfl ?_
  refine nw_aload dX5_init_0 0 rfl rfl ?_
  refine nw_obj wd_181 wd_83 wd_84 ⟨by decide, Nat.le_of_ble_eq_true rfl⟩ dX5_init_1 ?_
  refine nw_aload dX5_init_4 0 rfl rfl ?_
  refine nw_new nm_X5_9 (by decide) (by decide) dX5_init_5 (fun q1 => ?_)
  refine nw_dup dX5_init_8 rfl ?_
  refine nw_callN (n := 0) (As := []) (st := [.ref q1, .ref h0]) (wr := [(h0, .inr (5, [.null, .int 0, .null, .int 0, .int 0, .int 0, .int 0]))]) [1] [0] (ncX8_init q1) (by decide) wd_89 wd_58 wd_88 ⟨rfl, by decide +kernel⟩ ⟨rfl, rfl, by decide, by decide⟩ rfl (Nat.le_of_ble_eq_true rfl) ⟨by decide, by decide⟩ dX5_init_9 rfl rfl rfl (by decide) (by decide) (by decide) (fun g2 => ?_)
  refine nw_putF (ws' := [(h0, .inr (5, [.ref q1, .int 0, .null, .int 0, .int 0, .int 0, .int 0])), (q1, .inr (8, [.int 0, .int 0, .int 0, .ref (g2 0), .ref (g2 1), .ref (g2 2), .ref (g2 3), .ref (g2 4), .int 0, .ref (g2 5), .int 0, .ref (g2 6), .ref (g2 7), .ref (g2 8), .int 0, .ref (g2 9), .ref (g2 10)])), (g2 0, .inl (g.2 0, 7, .inl (fun _ => 0))), (g2 1, .inl (g.2 0, 7, .inl (fun _ => 0))), (g2 2, .inl (g.2 0, 7, .inl (fun _ => 0))), (g2 3, .inl (g.2 0, 7, .inl (fun _ => 0))), (g2 4, .inl (g.2 0, 7, .inl (fun _ => 0))), (g2 5, .inl (g.2 0, 6, .inl (fun _ => 0))), (g2 6, .inl (g.2 0, 6, .inl (fun _ => 0))), (g2 7, .inl (g.2 0, 6, .inl (fun _ => 0))), (g2 8, .inl (g.2 0, 6, .inl (fun _ => 0))), (g2 9, .inl (g.2 0, 56, .inl (fun _ => 0))), (g2 10, .inl (g.2 0, 8, .inl (fun _ => 0)))]) (q0 := 0) nf_X5_12 rfl rfl rfl rfl (Nat.le_of_ble_eq_true rfl) rfl dX5_init_12 ?_
  refine nw_aload dX5_init_15 0 rfl rfl ?_
  refine nw_iconst (v := 0) dX5_init_16 (by decide) ?_
  refine nw_put (ws' := [(h0, .inr (5, [.ref q1, .int 0, .null, .int 0, .int 0, .int 0, .int 0])), (q1, .inr (8, [.int 0, .int 0, .int 0, .ref (g2 0), .ref (g2 1), .ref (g2 2), .ref (g2 3), .ref (g2 4), .int 0, .ref (g2 5), .int 0, .ref (g2 6), .ref (g2 7), .ref (g2 8), .int 0, .ref (g2 9), .ref (g2 10)])), (g2 0, .inl (g.2 0, 7, .inl (fun _ => 0))), (g2 1, .inl (g.2 0, 7, .inl (fun _ => 0))), (g2 2, .inl (g.2 0, 7, .inl (fun _ => 0))), (g2 3, .inl (g.2 0, 7, .inl (fun _ => 0))), (g2 4, .inl (g.2 0, 7, .inl (fun _ => 0))), (g2 5, .inl (g.2 0, 6, .inl (fun _ => 0))), (g2 6, .inl (g.2 0, 6, .inl (fun _ => 0))), (g2 7, .inl (g.2 0, 6, .inl (fun _ => 0))), (g2 8, .inl (g.2 0, 6, .inl (fun _ => 0))), (g2 9, .inl (g.2 0, 56, .inl (fun _ => 0))), (g2 10, .inl (g.2 0, 8, .inl (fun _ => 0)))]) (q0 := 0) fp_X5_18 rfl rfl rfl (Nat.le_of_ble_eq_true rfl) rfl dX5_init_17 ?_
  refine nw_aload dX5_init_20 0 rfl rfl ?_
  refine nw_sipush (v := 150) dX5_init_21 (by decide) ?_
  refine nw_newa (atype := .byte) (ty := .byte) (t := 2) (N' := 150) rfl rfl rfl wd_209 rfl (by decide) (by decide) (by decide) (by decide) (by decide) dX5_init_24 (fun q3 => ?_)
  refine nw_putF (ws' := [(h0, .inr (5, [.ref q1, .int 0, .ref q3, .int 0, .int 0, .int 0, .int 0])), (q1, .inr (8, [.int 0, .int 0, .int 0, .ref (g2 0), .ref (g2 1), .ref (g2 2), .ref (g2 3), .ref (g2 4), .int 0, .ref (g2 5), .int 0, .ref (g2 6), .ref (g2 7), .ref (g2 8), .int 0, .ref (g2 9), .ref (g2 10)])), (g2 0, .inl (g.2 0, 7, .inl (fun _ => 0))), (g2 1, .inl (g.2 0, 7, .inl (fun _ => 0))), (g2 2, .inl (g.2 0, 7, .inl (fun _ => 0))), (g2 3, .inl (g.2 0, 7, .inl (fun _ => 0))), (g2 4, .inl (g.2 0, 7, .inl (fun _ => 0))), (g2 5, .inl (g.2 0, 6, .inl (fun _ => 0))), (g2 6, .inl (g.2 0, 6, .inl (fun _ => 0))), (g2 7, .inl (g.2 0, 6, .inl (fun _ => 0))), (g2 8, .inl (g.2 0, 6, .inl (fun _ => 0))), (g2 9, .inl (g.2 0, 56, .inl (fun _ => 0))), (g2 10, .inl (g.2 0, 8, .inl (fun _ => 0))), (q3, .inl (g.2 2, 150, .inl (fun _ => 0)))]) (q0 := 0) nf_X5_22 rfl rfl rfl rfl (Nat.le_of_ble_eq_true rfl) rfl dX5_init_26 ?_
  refine nw_aload dX5_init_29 0 rfl rfl ?_
  refine nw_iconst (v := 0) dX5_init_30 (by decide) ?_
  refine nw_put (ws' := [(h0, .inr (5, [.ref q1, .int 0, .ref q3, .int 0, .int 0, .int 0, .int 0])), (q1, .inr (8, [.int 0, .int 0, .int 0, .ref (g2 0), .ref (g2 1), .ref (g2 2), .ref (g2 3), .ref (g2 4), .int 0, .ref (g2 5), .int 0, .ref (g2 6), .ref (g2 7), .ref (g2 8), .int 0, .ref (g2 9), .ref (g2 10)])), (g2 0, .inl (g.2 0, 7, .inl (fun _ => 0))), (g2 1, .inl (g.2 0, 7, .inl (fun _ => 0))), (g2 2, .inl (g.2 0, 7, .inl (fun _ => 0))), (g2 3, .inl (g.2 0, 7, .inl (fun _ => 0))), (g2 4, .inl (g.2 0, 7, .inl (fun _ => 0))), (g2 5, .inl (g.2 0, 6, .inl (fun _ => 0))), (g2 6, .inl (g.2 0, 6, .inl (fun _ => 0))), (g2 7, .inl (g.2 0, 6, .inl (fun _ => 0))), (g2 8, .inl (g.2 0, 6, .inl (fun _ => 0))), (g2 9, .inl (g.2 0, 56, .inl (fun _ => 0))), (g2 10, .inl (g.2 0, 8, .inl (fun _ => 0))), (q3, .inl (g.2 2, 150, .inl (fun _ => 0)))]) (q0 := 0) fp_X5_26 rfl rfl rfl (Nat.le_of_ble_eq_true rfl) rfl dX5_init_31 ?_
  refine nw_aload dX5_init_34 0 rfl rfl ?_
  refine nw_iconst (v := 0) dX5_init_35 (by decide) ?_
  refine nw_put (ws' := [(h0, .inr (5, [.ref q1, .int 0, .ref q3, .int 0, .int 0, .int 0, .int 0])), (q1, .inr (8, [.int 0, .int 0, .int 0, .ref (g2 0), .ref (g2 1), .ref (g2 2), .ref (g2 3), .ref (g2 4), .int 0, .ref (g2 5), .int 0, .ref (g2 6), .ref (g2 7), .ref (g2 8), .int 0, .ref (g2 9), .ref (g2 10)])), (g2 0, .inl (g.2 0, 7, .inl (fun _ => 0))), (g2 1, .inl (g.2 0, 7, .inl (fun _ => 0))), (g2 2, .inl (g.2 0, 7, .inl (fun _ => 0))), (g2 3, .inl (g.2 0, 7, .inl (fun _ => 0))), (g2 4, .inl (g.2 0, 7, .inl (fun _ => 0))), (g2 5, .inl (g.2 0, 6, .inl (fun _ => 0))), (g2 6, .inl (g.2 0, 6, .inl (fun _ => 0))), (g2 7, .inl (g.2 0, 6, .inl (fun _ => 0))), (g2 8, .inl (g.2 0, 6, .inl (fun _ => 0))), (g2 9, .inl (g.2 0, 56, .inl (fun _ => 0))), (g2 10, .inl (g.2 0, 8, .inl (fun _ => 0))), (q3, .inl (g.2 2, 150, .inl (fun _ => 0)))]) (q0 := 0) fp_X5_29 rfl rfl rfl (Nat.le_of_ble_eq_true rfl) rfl dX5_init_36 ?_
  refine nw_aload dX5_init_39 0 rfl rfl ?_
  refine nw_iconst (v := 0) dX5_init_40 (by decide) ?_
  refine nw_put (ws' := [(h0, .inr (5, [.ref q1, .int 0, .ref q3, .int 0, .int 0, .int 0, .int 0])), (q1, .inr (8, [.int 0, .int 0, .int 0, .ref (g2 0), .ref (g2 1), .ref (g2 2), .ref (g2 3), .ref (g2 4), .int 0, .ref (g2 5), .int 0, .ref (g2 6), .ref (g2 7), .ref (g2 8), .int 0, .ref (g2 9), .ref (g2 10)])), (g2 0, .inl (g.2 0, 7, .inl (fun _ => 0))), (g2 1, .inl (g.2 0, 7, .inl (fun _ => 0))), (g2 2, .inl (g.2 0, 7, .inl (fun _ => 0))), (g2 3, .inl (g.2 0, 7, .inl (fun _ => 0))), (g2 4, .inl (g.2 0, 7, .inl (fun _ => 0))), (g2 5, .inl (g.2 0, 6, .inl (fun _ => 0))), (g2 6, .inl (g.2 0, 6, .inl (fun _ => 0))), (g2 7, .inl (g.2 0, 6, .inl (fun _ => 0))), (g2 8, .inl (g.2 0, 6, .inl (fun _ => 0))), (g2 9, .inl (g.2 0, 56, .inl (fun _ => 0))), (g2 10, .inl (g.2 0, 8, .inl (fun _ => 0))), (q3, .inl (g.2 2, 150, .inl (fun _ => 0)))]) (q0 := 0) fp_X5_32 rfl rfl rfl (Nat.le_of_ble_eq_true rfl) rfl dX5_init_41 ?_
  refine nw_aload dX5_init_44 0 rfl rfl ?_
  refine nw_iconst (v := 0) dX5_init_45 (by decide) ?_
  refine nw_put (ws' := [(h0, .inr (5, [.ref q1, .int 0, .ref q3, .int 0, .int 0, .int 0, .int 0])), (q1, .inr (8, [.int 0, .int 0, .int 0, .ref (g2 0), .ref (g2 1), .ref (g2 2), .ref (g2 3), .ref (g2 4), .int 0, .ref (g2 5), .int 0, .ref (g2 6), .ref (g2 7), .ref (g2 8), .int 0, .ref (g2 9), .ref (g2 10)])), (g2 0, .inl (g.2 0, 7, .inl (fun _ => 0))), (g2 1, .inl (g.2 0, 7, .inl (fun _ => 0))), (g2 2, .inl (g.2 0, 7, .inl (fun _ => 0))), (g2 3, .inl (g.2 0, 7, .inl (fun _ => 0))), (g2 4, .inl (g.2 0, 7, .inl (fun _ => 0))), (g2 5, .inl (g.2 0, 6, .inl (fun _ => 0))), (g2 6, .inl (g.2 0, 6, .inl (fun _ => 0))), (g2 7, .inl (g.2 0, 6, .inl (fun _ => 0))), (g2 8, .inl (g.2 0, 6, .inl (fun _ => 0))), (g2 9, .inl (g.2 0, 56, .inl (fun _ => 0))), (g2 10, .inl (g.2 0, 8, .inl (fun _ => 0))), (q3, .inl (g.2 2, 150, .inl (fun _ => 0)))]) (q0 := 0) fp_X5_35 rfl rfl rfl (Nat.le_of_ble_eq_true rfl) rfl dX5_init_46 ?_
  exact nw_ret (fun k => ([q1, g2 0, g2 1, g2 2, g2 3, g2 4, g2 5, g2 6, g2 7, g2 8, g2 9, g2 10, q3] : List Nat).getD k 0) rfl dX5_init_49

abbrev riX3 : Room := { frames := 4, cells := 14, slots := 612, locals := 72 }
def poX3 (g : Gt) (h0 : Nat) (p1 : Nat) (gq : Nat → Nat) : va_W := [(h0, .inr (3, [.ref p1, .ref (gq 0), .ref (gq 7), .ref (gq 8), .ref (gq 9), .ref (gq 10), .ref (gq 11), .ref (gq 12), .ref (gq 13)])), (gq 0, .inl (g.2 4, 6, .inr (.inr (.inr (.inr (va_up (va_up (va_up (va_up (va_up (va_up (fun _ => none) 0 (some (gq 1))) 1 (some (gq 2))) 2 (some (gq 3))) 3 (some (gq 4))) 4 (some (gq 5))) 5 (some (gq 6)))))))), (gq 1, .inr (4, [])), (gq 2, .inr (10, [])), (gq 3, .inr (1, [])), (gq 4, .inr (2, [])), (gq 5, .inr (0, [])), (gq 6, .inr (7, [])), (gq 7, .inl (g.2 0, 448, .inl (fun _ => 0))), (gq 8, .inl (g.2 0, 7, .inl (fun _ => 0))), (gq 9, .inl (g.2 0, 64, .inl (fun _ => 0))), (gq 10, .inl (g.2 0, 64, .inl (fun _ => 0))), (gq 11, .inl (g.2 0, 15, .inl (fun _ => 0))), (gq 12, .inl (g.2 0, 4, .inl (fun _ => 0))), (gq 13, .inl (g.2 0, 4, .inl (fun _ => 0)))]
set_option maxRecDepth 100000 in
set_option maxHeartbeats 4000000 in
theorem ncX3_init {l : Launch} {g : Gt} (h0 : Nat) (p1 : Nat) : NC l g yX3_init cX3_init 2 riX3 [(h0, .inr (3, [.null, .null, .null, .null, .null, .null, .null, .null, .null]))] [.ref h0, .ref p1] (poX3 g h0 p1) 14 612 := by
  refine NC.of (lv := [(0, .ref h0), (1, .ref p1)]) (by decide) rfl (Nat.le_of_ble_eq_true rfl) rfl ?_
  refine nw_aload dX3_init_0 0 rfl rfl ?_
  refine nw_obj wd_215 wd_83 wd_84 ⟨by decide, Nat.le_of_ble_eq_true rfl⟩ dX3_init_1 ?_
  refine nw_aload dX3_init_4 0 rfl rfl ?_
  refine nw_bipush (v := 6) dX3_init_5 (by decide) ?_
  refine nw_newq (t := 4) (C := "CandleLand$Plain") (N' := 6) rfl (fun U h => h.2.2.2.2) wd_216 (by decide) (by decide) (by decide) (by decide) (by decide) dX3_init_7 (fun q1 => ?_)
  refine nw_dup dX3_init_10 rfl ?_
  refine nw_iconst (v := 0) dX3_init_11 (by decide) ?_
  refine nw_new nm_X3_9 (by decide) (by decide) dX3_init_12 (fun q2 => ?_)
  refine nw_dup dX3_init_15 rfl ?_
  refine nw_callN (n := 0) (As := []) (st := [.ref q2, .int 0, .ref q1, .ref q1, .ref h0]) (wr := [(h0, .inr (3, [.null, .null, .null, .null, .null, .null, .null, .null, .null])), (q1, .inl (g.2 4, 6, .inr (.inr (.inr (.inr (fun _ => none))))))]) [2] [0, 1] (ncX4_init 4 q2) (by decide) wd_221 wd_61 wd_220 ⟨rfl, by decide +kernel⟩ ⟨rfl, rfl, by decide, by decide⟩ rfl (Nat.le_of_ble_eq_true rfl) ⟨by decide, by decide⟩ dX3_init_16 rfl rfl rfl (by decide) (by decide) (by decide) (fun g3 => ?_)
  refine nw_aast (q0 := 1) (t := 4) (qk := 2) (j := 0) (C := "CandleLand$Plain") (f' := (va_up (fun _ => none) 0 (some q2))) (ws' := [(h0, .inr (3, [.null, .null, .null, .null, .null, .null, .null, .null, .null])), (q1, .inl (g.2 4, 6, .inr (.inr (.inr (.inr (va_up (fun _ => none) 0 (some q2))))))), (q2, .inr (4, []))]) rfl rfl rfl rfl (Or.inl rfl) (by unfold vp_in; decide) (by decide) rfl rfl dX3_init_19 ?_
  refine nw_dup dX3_init_20 rfl ?_
  refine nw_iconst (v := 1) dX3_init_21 (by decide) ?_
  refine nw_new nm_X3_12 (by decide) (by decide) dX3_init_22 (fun q4 => ?_)
  refine nw_dup dX3_init_25 rfl ?_
  refine nw_callN (n := 0) (As := []) (st := [.ref q4, .int 1, .ref q1, .ref q1, .ref h0]) (wr := [(h0, .inr (3, [.null, .null, .null, .null, .null, .null, .null, .null, .null])), (q1, .inl (g.2 4, 6, .inr (.inr (.inr (.inr (va_up (fun _ => none) 0 (some q2))))))), (q2, .inr (4, []))]) [3] [0, 1, 2] (ncX10_init 10 q4) (by decide) wd_228 wd_62 wd_227 ⟨rfl, by decide +kernel⟩ ⟨rfl, rfl, by decide, by decide⟩ rfl (Nat.le_of_ble_eq_true rfl) ⟨by decide, by decide⟩ dX3_init_26 rfl rfl rfl (by decide) (by decide) (by decide) (fun g5 => ?_)
  refine nw_aast (q0 := 1) (t := 4) (qk := 3) (j := 1) (C := "CandleLand$Plain") (f' := (va_up (va_up (fun _ => none) 0 (some q2)) 1 (some q4))) (ws' := [(h0, .inr (3, [.null, .null, .null, .null, .null, .null, .null, .null, .null])), (q1, .inl (g.2 4, 6, .inr (.inr (.inr (.inr (va_up (va_up (fun _ => none) 0 (some q2)) 1 (some q4))))))), (q2, .inr (4, [])), (q4, .inr (10, []))]) rfl rfl rfl rfl (Or.inr ⟨rfl, by decide⟩) (by unfold vp_in; decide) (by decide) rfl rfl dX3_init_29 ?_
  refine nw_dup dX3_init_30 rfl ?_
  refine nw_iconst (v := 2) dX3_init_31 (by decide) ?_
  refine nw_new nm_X3_15 (by decide) (by decide) dX3_init_32 (fun q6 => ?_)
  refine nw_dup dX3_init_35 rfl ?_
  refine nw_callN (n := 0) (As := []) (st := [.ref q6, .int 2, .ref q1, .ref q1, .ref h0]) (wr := [(h0, .inr (3, [.null, .null, .null, .null, .null, .null, .null, .null, .null])), (q1, .inl (g.2 4, 6, .inr (.inr (.inr (.inr (va_up (va_up (fun _ => none) 0 (some q2)) 1 (some q4))))))), (q2, .inr (4, [])), (q4, .inr (10, []))]) [4] [0, 1, 2, 3] (ncX1_init 1 q6) (by decide) wd_235 wd_63 wd_234 ⟨rfl, by decide +kernel⟩ ⟨rfl, rfl, by decide, by decide⟩ rfl (Nat.le_of_ble_eq_true rfl) ⟨by decide, by decide⟩ dX3_init_36 rfl rfl rfl (by decide) (by decide) (by decide) (fun g7 => ?_)
  refine nw_aast (q0 := 1) (t := 4) (qk := 4) (j := 2) (C := "CandleLand$Plain") (f' := (va_up (va_up (va_up (fun _ => none) 0 (some q2)) 1 (some q4)) 2 (some q6))) (ws' := [(h0, .inr (3, [.null, .null, .null, .null, .null, .null, .null, .null, .null])), (q1, .inl (g.2 4, 6, .inr (.inr (.inr (.inr (va_up (va_up (va_up (fun _ => none) 0 (some q2)) 1 (some q4)) 2 (some q6))))))), (q2, .inr (4, [])), (q4, .inr (10, [])), (q6, .inr (1, []))]) rfl rfl rfl rfl (Or.inr ⟨rfl, by decide⟩) (by unfold vp_in; decide) (by decide) rfl rfl dX3_init_39 ?_
  refine nw_dup dX3_init_40 rfl ?_
  refine nw_iconst (v := 3) dX3_init_41 (by decide) ?_
  refine nw_new nm_X3_18 (by decide) (by decide) dX3_init_42 (fun q8 => ?_)
  refine nw_dup dX3_init_45 rfl ?_
  refine nw_callN (n := 0) (As := []) (st := [.ref q8, .int 3, .ref q1, .ref q1, .ref h0]) (wr := [(h0, .inr (3, [.null, .null, .null, .null, .null, .null, .null, .null, .null])), (q1, .inl (g.2 4, 6, .inr (.inr (.inr (.inr (va_up (va_up (va_up (fun _ => none) 0 (some q2)) 1 (some q4)) 2 (some q6))))))), (q2, .inr (4, [])), (q4, .inr (10, [])), (q6, .inr (1, []))]) [5] [0, 1, 2, 3, 4] (ncX2_init 2 q8) (by decide) wd_242 wd_64 wd_241 ⟨rfl, by decide +kernel⟩ ⟨rfl, rfl, by decide, by decide⟩ rfl (Nat.le_of_ble_eq_true rfl) ⟨by decide, by decide⟩ dX3_init_46 rfl rfl rfl (by decide) (by decide) (by decide) (fun g9 => ?_)
  refine nw_aast (q0 := 1) (t := 4) (qk := 5) (j := 3) (C := "CandleLand$Plain") (f' := (va_up (va_up (va_up (va_up (fun _ => none) 0 (some q2)) 1 (some q4)) 2 (some q6)) 3 (some q8))) (ws' := [(h0, .inr (3, [.null, .null, .null, .null, .null, .null, .null, .null, .null])), (q1, .inl (g.2 4, 6, .inr (.inr (.inr (.inr (va_up (va_up (va_up (va_up (fun _ => none) 0 (some q2)) 1 (some q4)) 2 (some q6)) 3 (some q8))))))), (q2, .inr (4, [])), (q4, .inr (10, [])), (q6, .inr (1, [])), (q8, .inr (2, []))]) rfl rfl rfl rfl (Or.inr ⟨rfl, by decide⟩) (by unfold vp_in; decide) (by decide) rfl rfl dX3_init_49 ?_
  refine nw_dup dX3_init_50 rfl ?_
  refine nw_iconst (v := 4) dX3_init_51 (by decide) ?_
  refine nw_new nm_X3_21 (by decide) (by decide) dX3_init_52 (fun q10 => ?_)
  refine nw_dup dX3_init_55 rfl ?_
  refine nw_callN (n := 0) (As := []) (st := [.ref q10, .int 4, .ref q1, .ref q1, .ref h0]) (wr := [(h0, .inr (3, [.null, .null, .null, .null, .null, .null, .null, .null, .null])), (q1, .inl (g.2 4, 6, .inr (.inr (.inr (.inr (va_up (va_up (va_up (va_up (fun _ => none) 0 (some q2)) 1 (some q4)) 2 (some q6)) 3 (some q8))))))), (q2, .inr (4, [])), (q4, .inr (10, [])), (q6, .inr (1, [])), (q8, .inr (2, []))]) [6] [0, 1, 2, 3, 4, 5] (ncX0_init 0 q10) (by decide) wd_249 wd_65 wd_248 ⟨rfl, by decide +kernel⟩ ⟨rfl, rfl, by decide, by decide⟩ rfl (Nat.le_of_ble_eq_true rfl) ⟨by decide, by decide⟩ dX3_init_56 rfl rfl rfl (by decide) (by decide) (by decide) (fun g11 => ?_)
  refine nw_aast (q0 := 1) (t := 4) (qk := 6) (j := 4) (C := "CandleLand$Plain") (f' := (va_up (va_up (va_up (va_up (va_up (fun _ => none) 0 (some q2)) 1 (some q4)) 2 (some q6)) 3 (some q8)) 4 (some q10))) (ws' := [(h0, .inr (3, [.null, .null, .null, .null, .null, .null, .null, .null, .null])), (q1, .inl (g.2 4, 6, .inr (.inr (.inr (.inr (va_up (va_up (va_up (va_up (va_up (fun _ => none) 0 (some q2)) 1 (some q4)) 2 (some q6)) 3 (some q8)) 4 (some q10))))))), (q2, .inr (4, [])), (q4, .inr (10, [])), (q6, .inr (1, [])), (q8, .inr (2, [])), (q10, .inr (0, []))]) rfl rfl rfl rfl (Or.inr ⟨rfl, by decide⟩) (by unfold vp_in; decide) (by decide) rfl rfl dX3_init_59 ?_
  refine nw_dup dX3_init_60 rfl ?_
  refine nw_iconst (v := 5) dX3_init_61 (by decide) ?_
  refine nw_new nm_X3_24 (by decide) (by decide) dX3_init_62 (fun q12 => ?_)
  refine nw_dup dX3_init_65 rfl ?_
  refine nw_callN (n := 0) (As := []) (st := [.ref q12, .int 5, .ref q1, .ref q1, .ref h0]) (wr := [(h0, .inr (3, [.null, .null, .null, .null, .null, .null, .null, .null, .null])), (q1, .inl (g.2 4, 6, .inr (.inr (.inr (.inr (va_up (va_up (va_up (va_up (va_up (fun _ => none) 0 (some q2)) 1 (some q4)) 2 (some q6)) 3 (some q8)) 4 (some q10))))))), (q2, .inr (4, [])), (q4, .inr (10, [])), (q6, .inr (1, [])), (q8, .inr (2, [])), (q10, .inr (0, []))]) [7] [0, 1, 2, 3, 4, 5, 6] (ncX7_init 7 q12) (by decide) wd_256 wd_66 wd_255 ⟨rfl, by decide +kernel⟩ ⟨rfl, rfl, by decide, by decide⟩ rfl (Nat.le_of_ble_eq_true rfl) ⟨by decide, by decide⟩ dX3_init_66 rfl rfl rfl (by decide) (by decide) (by decide) (fun g13 => ?_)
  refine nw_aast (q0 := 1) (t := 4) (qk := 7) (j := 5) (C := "CandleLand$Plain") (f' := (va_up (va_up (va_up (va_up (va_up (va_up (fun _ => none) 0 (some q2)) 1 (some q4)) 2 (some q6)) 3 (some q8)) 4 (some q10)) 5 (some q12))) (ws' := [(h0, .inr (3, [.null, .null, .null, .null, .null, .null, .null, .null, .null])), (q1, .inl (g.2 4, 6, .inr (.inr (.inr (.inr (va_up (va_up (va_up (va_up (va_up (va_up (fun _ => none) 0 (some q2)) 1 (some q4)) 2 (some q6)) 3 (some q8)) 4 (some q10)) 5 (some q12))))))), (q2, .inr (4, [])), (q4, .inr (10, [])), (q6, .inr (1, [])), (q8, .inr (2, [])), (q10, .inr (0, [])), (q12, .inr (7, []))]) rfl rfl rfl rfl (Or.inr ⟨rfl, by decide⟩) (by unfold vp_in; decide) (by decide) rfl rfl dX3_init_69 ?_
  refine nw_putF (ws' := [(h0, .inr (3, [.null, .ref q1, .null, .null, .null, .null, .null, .null, .null])), (q1, .inl (g.2 4, 6, .inr (.inr (.inr (.inr (va_up (va_up (va_up (va_up (va_up (va_up (fun _ => none) 0 (some q2)) 1 (some q4)) 2 (some q6)) 3 (some q8)) 4 (some q10)) 5 (some q12))))))), (q2, .inr (4, [])), (q4, .inr (10, [])), (q6, .inr (1, [])), (q8, .inr (2, [])), (q10, .inr (0, [])), (q12, .inr (7, []))]) (q0 := 0) nf_X3_27 rfl rfl rfl rfl (Nat.le_of_ble_eq_true rfl) rfl dX3_init_70 ?_
  refine nw_aload dX3_init_73 0 rfl rfl ?_
  refine nw_sipush (v := 448) dX3_init_74 (by decide) ?_
  refine nw_newa (atype := .int) (ty := .int) (t := 0) (N' := 448) rfl rfl rfl wd_174 rfl (by decide) (by decide) (by decide) (by decide) (by decide) dX3_init_77 (fun q14 => ?_)
  refine nw_putF (ws' := [(h0, .inr (3, [.null, .ref q1, .ref q14, .null, .null, .null, .null, .null, .null])), (q1, .inl (g.2 4, 6, .inr (.inr (.inr (.inr (va_up (va_up (va_up (va_up (va_up (va_up (fun _ => none) 0 (some q2)) 1 (some q4)) 2 (some q6)) 3 (some q8)) 4 (some q10)) 5 (some q12))))))), (q2, .inr (4, [])), (q4, .inr (10, [])), (q6, .inr (1, [])), (q8, .inr (2, [])), (q10, .inr (0, [])), (q12, .inr (7, [])), (q14, .inl (g.2 0, 448, .inl (fun _ => 0)))]) (q0 := 0) nf_X3_33 rfl rfl rfl rfl (Nat.le_of_ble_eq_true rfl) rfl dX3_init_79 ?_
  refine nw_aload dX3_init_82 0 rfl rfl ?_
  refine nw_bipush (v := 7) dX3_init_83 (by decide) ?_
  refine nw_newa (atype := .int) (ty := .int) (t := 0) (N' := 7) rfl rfl rfl wd_174 rfl (by decide) (by decide) (by decide) (by decide) (by decide) dX3_init_85 (fun q15 => ?_)
  refine nw_putF (ws' := [(h0, .inr (3, [.null, .ref q1, .ref q14, .ref q15, .null, .null, .null, .null, .null])), (q1, .inl (g.2 4, 6, .inr (.inr (.inr (.inr (va_up (va_up (va_up (va_up (va_up (va_up (fun _ => none) 0 (some q2)) 1 (some q4)) 2 (some q6)) 3 (some q8)) 4 (some q10)) 5 (some q12))))))), (q2, .inr (4, [])), (q4, .inr (10, [])), (q6, .inr (1, [])), (q8, .inr (2, [])), (q10, .inr (0, [])), (q12, .inr (7, [])), (q14, .inl (g.2 0, 448, .inl (fun _ => 0))), (q15, .inl (g.2 0, 7, .inl (fun _ => 0)))]) (q0 := 0) nf_X3_37 rfl rfl rfl rfl (Nat.le_of_ble_eq_true rfl) rfl dX3_init_87 ?_
  refine nw_aload dX3_init_90 0 rfl rfl ?_
  refine nw_bipush (v := 64) dX3_init_91 (by decide) ?_
  refine nw_newa (atype := .int) (ty := .int) (t := 0) (N' := 64) rfl rfl rfl wd_174 rfl (by decide) (by decide) (by decide) (by decide) (by decide) dX3_init_93 (fun q16 => ?_)
  refine nw_putF (ws' := [(h0, .inr (3, [.null, .ref q1, .ref q14, .ref q15, .ref q16, .null, .null, .null, .null])), (q1, .inl (g.2 4, 6, .inr (.inr (.inr (.inr (va_up (va_up (va_up (va_up (va_up (va_up (fun _ => none) 0 (some q2)) 1 (some q4)) 2 (some q6)) 3 (some q8)) 4 (some q10)) 5 (some q12))))))), (q2, .inr (4, [])), (q4, .inr (10, [])), (q6, .inr (1, [])), (q8, .inr (2, [])), (q10, .inr (0, [])), (q12, .inr (7, [])), (q14, .inl (g.2 0, 448, .inl (fun _ => 0))), (q15, .inl (g.2 0, 7, .inl (fun _ => 0))), (q16, .inl (g.2 0, 64, .inl (fun _ => 0)))]) (q0 := 0) nf_X3_40 rfl rfl rfl rfl (Nat.le_of_ble_eq_true rfl) rfl dX3_init_95 ?_
  refine nw_aload dX3_init_98 0 rfl rfl ?_
  refine nw_bipush (v := 64) dX3_init_99 (by decide) ?_
  refine nw_newa (atype := .int) (ty := .int) (t := 0) (N' := 64) rfl rfl rfl wd_174 rfl (by decide) (by decide) (by decide) (by decide) (by decide) dX3_init_101 (fun q17 => ?_)
  refine nw_putF (ws' := [(h0, .inr (3, [.null, .ref q1, .ref q14, .ref q15, .ref q16, .ref q17, .null, .null, .null])), (q1, .inl (g.2 4, 6, .inr (.inr (.inr (.inr (va_up (va_up (va_up (va_up (va_up (va_up (fun _ => none) 0 (some q2)) 1 (some q4)) 2 (some q6)) 3 (some q8)) 4 (some q10)) 5 (some q12))))))), (q2, .inr (4, [])), (q4, .inr (10, [])), (q6, .inr (1, [])), (q8, .inr (2, [])), (q10, .inr (0, [])), (q12, .inr (7, [])), (q14, .inl (g.2 0, 448, .inl (fun _ => 0))), (q15, .inl (g.2 0, 7, .inl (fun _ => 0))), (q16, .inl (g.2 0, 64, .inl (fun _ => 0))), (q17, .inl (g.2 0, 64, .inl (fun _ => 0)))]) (q0 := 0) nf_X3_43 rfl rfl rfl rfl (Nat.le_of_ble_eq_true rfl) rfl dX3_init_103 ?_
  refine nw_aload dX3_init_106 0 rfl rfl ?_
  refine nw_bipush (v := 15) dX3_init_107 (by decide) ?_
  refine nw_newa (atype := .int) (ty := .int) (t := 0) (N' := 15) rfl rfl rfl wd_174 rfl (by decide) (by decide) (by decide) (by decide) (by decide) dX3_init_109 (fun q18 => ?_)
  refine nw_putF (ws' := [(h0, .inr (3, [.null, .ref q1, .ref q14, .ref q15, .ref q16, .ref q17, .ref q18, .null, .null])), (q1, .inl (g.2 4, 6, .inr (.inr (.inr (.inr (va_up (va_up (va_up (va_up (va_up (va_up (fun _ => none) 0 (some q2)) 1 (some q4)) 2 (some q6)) 3 (some q8)) 4 (some q10)) 5 (some q12))))))), (q2, .inr (4, [])), (q4, .inr (10, [])), (q6, .inr (1, [])), (q8, .inr (2, [])), (q10, .inr (0, [])), (q12, .inr (7, [])), (q14, .inl (g.2 0, 448, .inl (fun _ => 0))), (q15, .inl (g.2 0, 7, .inl (fun _ => 0))), (q16, .inl (g.2 0, 64, .inl (fun _ => 0))), (q17, .inl (g.2 0, 64, .inl (fun _ => 0))), (q18, .inl (g.2 0, 15, .inl (fun _ => 0)))]) (q0 := 0) nf_X3_46 rfl rfl rfl rfl (Nat.le_of_ble_eq_true rfl) rfl dX3_init_111 ?_
  refine nw_aload dX3_init_114 0 rfl rfl ?_
  refine nw_iconst (v := 4) dX3_init_115 (by decide) ?_
  refine nw_newa (atype := .int) (ty := .int) (t := 0) (N' := 4) rfl rfl rfl wd_174 rfl (by decide) (by decide) (by decide) (by decide) (by decide) dX3_init_116 (fun q19 => ?_)
  refine nw_putF (ws' := [(h0, .inr (3, [.null, .ref q1, .ref q14, .ref q15, .ref q16, .ref q17, .ref q18, .ref q19, .null])), (q1, .inl (g.2 4, 6, .inr (.inr (.inr (.inr (va_up (va_up (va_up (va_up (va_up (va_up (fun _ => none) 0 (some q2)) 1 (some q4)) 2 (some q6)) 3 (some q8)) 4 (some q10)) 5 (some q12))))))), (q2, .inr (4, [])), (q4, .inr (10, [])), (q6, .inr (1, [])), (q8, .inr (2, [])), (q10, .inr (0, [])), (q12, .inr (7, [])), (q14, .inl (g.2 0, 448, .inl (fun _ => 0))), (q15, .inl (g.2 0, 7, .inl (fun _ => 0))), (q16, .inl (g.2 0, 64, .inl (fun _ => 0))), (q17, .inl (g.2 0, 64, .inl (fun _ => 0))), (q18, .inl (g.2 0, 15, .inl (fun _ => 0))), (q19, .inl (g.2 0, 4, .inl (fun _ => 0)))]) (q0 := 0) nf_X3_49 rfl rfl rfl rfl (Nat.le_of_ble_eq_true rfl) rfl dX3_init_118 ?_
  refine nw_aload dX3_init_121 0 rfl rfl ?_
  refine nw_iconst (v := 4) dX3_init_122 (by decide) ?_
  refine nw_newa (atype := .int) (ty := .int) (t := 0) (N' := 4) rfl rfl rfl wd_174 rfl (by decide) (by decide) (by decide) (by decide) (by decide) dX3_init_123 (fun q20 => ?_)
  refine nw_putF (ws' := [(h0, .inr (3, [.null, .ref q1, .ref q14, .ref q15, .ref q16, .ref q17, .ref q18, .ref q19, .ref q20])), (q1, .inl (g.2 4, 6, .inr (.inr (.inr (.inr (va_up (va_up (va_up (va_up (va_up (va_up (fun _ => none) 0 (some q2)) 1 (some q4)) 2 (some q6)) 3 (some q8)) 4 (some q10)) 5 (some q12))))))), (q2, .inr (4, [])), (q4, .inr (10, [])), (q6, .inr (1, [])), (q8, .inr (2, [])), (q10, .inr (0, [])), (q12, .inr (7, [])), (q14, .inl (g.2 0, 448, .inl (fun _ => 0))), (q15, .inl (g.2 0, 7, .inl (fun _ => 0))), (q16, .inl (g.2 0, 64, .inl (fun _ => 0))), (q17, .inl (g.2 0, 64, .inl (fun _ => 0))), (q18, .inl (g.2 0, 15, .inl (fun _ => 0))), (q19, .inl (g.2 0, 4, .inl (fun _ => 0))), (q20, .inl (g.2 0, 4, .inl (fun _ => 0)))]) (q0 := 0) nf_X3_52 rfl rfl rfl rfl (Nat.le_of_ble_eq_true rfl) rfl dX3_init_125 ?_
  refine nw_aload dX3_init_128 0 rfl rfl ?_
  refine nw_aload dX3_init_129 1 rfl rfl ?_
  refine nw_putF (ws' := [(h0, .inr (3, [.ref p1, .ref q1, .ref q14, .ref q15, .ref q16, .ref q17, .ref q18, .ref q19, .ref q20])), (q1, .inl (g.2 4, 6, .inr (.inr (.inr (.inr (va_up (va_up (va_up (va_up (va_up (va_up (fun _ => none) 0 (some q2)) 1 (some q4)) 2 (some q6)) 3 (some q8)) 4 (some q10)) 5 (some q12))))))), (q2, .inr (4, [])), (q4, .inr (10, [])), (q6, .inr (1, [])), (q8, .inr (2, [])), (q10, .inr (0, [])), (q12, .inr (7, [])), (q14, .inl (g.2 0, 448, .inl (fun _ => 0))), (q15, .inl (g.2 0, 7, .inl (fun _ => 0))), (q16, .inl (g.2 0, 64, .inl (fun _ => 0))), (q17, .inl (g.2 0, 64, .inl (fun _ => 0))), (q18, .inl (g.2 0, 15, .inl (fun _ => 0))), (q19, .inl (g.2 0, 4, .inl (fun _ => 0))), (q20, .inl (g.2 0, 4, .inl (fun _ => 0)))]) (q0 := 0) nf_X3_55 rfl rfl rfl rfl (Nat.le_of_ble_eq_true rfl) rfl dX3_init_130 ?_
  exact nw_ret (fun k => ([q1, q2, q4, q6, q8, q10, q12, q14, q15, q16, q17, q18, q19, q20] : List Nat).getD k 0) rfl dX3_init_133

abbrev riX6 : Room := { frames := 1, cells := 4, slots := 286, locals := 12 }
def poX6 (g : Gt) (h0 : Nat) (p1 : Nat) (p2 : Nat) (gq : Nat → Nat) : va_W := [(h0, .inr (6, [.ref p1, .ref p2, .ref (gq 0), .ref (gq 1), .int 0, .ref (gq 2), .ref (gq 3)])), (gq 0, .inl (g.2 0, 6, .inl (fun _ => 0))), (gq 1, .inl (g.2 1, 128, .inl (fun _ => 0))), (gq 2, .inl (g.2 0, 128, .inl (fun _ => 0))), (gq 3, .inl (g.2 0, 24, .inl (fun _ => 0)))]
set_option maxRecDepth 100000 in
set_option maxHeartbeats 4000000 in
theorem ncX6_init {l : Launch} {g : Gt} (h0 : Nat) (p1 : Nat) (p2 : Nat) : NC l g yX6_init cX6_init 3 riX6 [(h0, .inr (6, [.null, .null, .null, .null, .int 0, .null, .null]))] [.ref h0, .ref p1, .ref p2] (poX6 g h0 p1 p2) 4 286 := by
  refine NC.of (lv := [(0, .ref h0), (1, .ref p1), (2, .ref p2)]) (by decide) rfl (Nat.le_of_ble_eq_true rfl) rfl ?_
  refine nw_aload dX6_init_0 0 rfl rfl ?_
  refine nw_obj wd_293 wd_83 wd_84 ⟨by decide, Nat.le_of_ble_eq_true rfl⟩ dX6_init_1 ?_
  refine nw_aload dX6_init_4 0 rfl rfl ?_
  refine nw_bipush (v := 6) dX6_init_5 (by decide) ?_
  refine nw_newa (atype := .int) (ty := .int) (t := 0) (N' := 6) rfl rfl rfl wd_174 rfl (by decide) (by decide) (by decide) (by decide) (by decide) dX6_init_7 (fun q1 => ?_)
  refine nw_putF (ws' := [(h0, .inr (6, [.null, .null, .ref q1, .null, .int 0, .null, .null])), (q1, .inl (g.2 0, 6, .inl (fun _ => 0)))]) (q0 := 0) nf_X6_9 rfl rfl rfl rfl (Nat.le_of_ble_eq_true rfl) rfl dX6_init_9 ?_
  refine nw_aload dX6_init_12 0 rfl rfl ?_
  refine nw_sipush (v := 128) dX6_init_13 (by decide) ?_
  refine nw_newa (atype := .boolean) (ty := .boolean) (t := 1) (N' := 128) rfl rfl rfl wd_208 rfl (by decide) (by decide) (by decide) (by decide) (by decide) dX6_init_16 (fun q2 => ?_)
  refine nw_putF (ws' := [(h0, .inr (6, [.null, .null, .ref q1, .ref q2, .int 0, .null, .null])), (q1, .inl (g.2 0, 6, .inl (fun _ => 0))), (q2, .inl (g.2 1, 128, .inl (fun _ => 0)))]) (q0 := 0) nf_X6_15 rfl rfl rfl rfl (Nat.le_of_ble_eq_true rfl) rfl dX6_init_18 ?_
  refine nw_aload dX6_init_21 0 rfl rfl ?_
  refine nw_iconst (v := 0) dX6_init_22 (by decide) ?_
  refine nw_put (ws' := [(h0, .inr (6, [.null, .null, .ref q1, .ref q2, .int 0, .null, .null])), (q1, .inl (g.2 0, 6, .inl (fun _ => 0))), (q2, .inl (g.2 1, 128, .inl (fun _ => 0)))]) (q0 := 0) fp_X6_19 rfl rfl rfl (Nat.le_of_ble_eq_true rfl) rfl dX6_init_23 ?_
  refine nw_aload dX6_init_26 0 rfl rfl ?_
  refine nw_sipush (v := 128) dX6_init_27 (by decide) ?_
  refine nw_newa (atype := .int) (ty := .int) (t := 0) (N' := 128) rfl rfl rfl wd_174 rfl (by decide) (by decide) (by decide) (by decide) (by decide) dX6_init_30 (fun q3 => ?_)
  refine nw_putF (ws' := [(h0, .inr (6, [.null, .null, .ref q1, .ref q2, .int 0, .ref q3, .null])), (q1, .inl (g.2 0, 6, .inl (fun _ => 0))), (q2, .inl (g.2 1, 128, .inl (fun _ => 0))), (q3, .inl (g.2 0, 128, .inl (fun _ => 0)))]) (q0 := 0) nf_X6_23 rfl rfl rfl rfl (Nat.le_of_ble_eq_true rfl) rfl dX6_init_32 ?_
  refine nw_aload dX6_init_35 0 rfl rfl ?_
  refine nw_bipush (v := 24) dX6_init_36 (by decide) ?_
  refine nw_newa (atype := .int) (ty := .int) (t := 0) (N' := 24) rfl rfl rfl wd_174 rfl (by decide) (by decide) (by decide) (by decide) (by decide) dX6_init_38 (fun q4 => ?_)
  refine nw_putF (ws' := [(h0, .inr (6, [.null, .null, .ref q1, .ref q2, .int 0, .ref q3, .ref q4])), (q1, .inl (g.2 0, 6, .inl (fun _ => 0))), (q2, .inl (g.2 1, 128, .inl (fun _ => 0))), (q3, .inl (g.2 0, 128, .inl (fun _ => 0))), (q4, .inl (g.2 0, 24, .inl (fun _ => 0)))]) (q0 := 0) nf_X6_26 rfl rfl rfl rfl (Nat.le_of_ble_eq_true rfl) rfl dX6_init_40 ?_
  refine nw_aload dX6_init_43 0 rfl rfl ?_
  refine nw_aload dX6_init_44 1 rfl rfl ?_
  refine nw_putF (ws' := [(h0, .inr (6, [.ref p1, .null, .ref q1, .ref q2, .int 0, .ref q3, .ref q4])), (q1, .inl (g.2 0, 6, .inl (fun _ => 0))), (q2, .inl (g.2 1, 128, .inl (fun _ => 0))), (q3, .inl (g.2 0, 128, .inl (fun _ => 0))), (q4, .inl (g.2 0, 24, .inl (fun _ => 0)))]) (q0 := 0) nf_X6_29 rfl rfl rfl rfl (Nat.le_of_ble_eq_true rfl) rfl dX6_init_45 ?_
  refine nw_aload dX6_init_48 0 rfl rfl ?_
  refine nw_aload dX6_init_49 2 rfl rfl ?_
  refine nw_putF (ws' := [(h0, .inr (6, [.ref p1, .ref p2, .ref q1, .ref q2, .int 0, .ref q3, .ref q4])), (q1, .inl (g.2 0, 6, .inl (fun _ => 0))), (q2, .inl (g.2 1, 128, .inl (fun _ => 0))), (q3, .inl (g.2 0, 128, .inl (fun _ => 0))), (q4, .inl (g.2 0, 24, .inl (fun _ => 0)))]) (q0 := 0) nf_X6_33 rfl rfl rfl rfl (Nat.le_of_ble_eq_true rfl) rfl dX6_init_50 ?_
  exact nw_ret (fun k => ([q1, q2, q3, q4] : List Nat).getD k 0) rfl dX6_init_53

abbrev riX9 : Room := { frames := 1, cells := 3, slots := 192, locals := 12 }
def poX9 (g : Gt) (h0 : Nat) (p1 : Nat) (p2 : Nat) (gq : Nat → Nat) : va_W := [(h0, .inr (9, [.ref p1, .ref p2, .ref (gq 0), .ref (gq 1), .ref (gq 2)])), (gq 0, .inl (g.2 0, 64, .inl (fun _ => 0))), (gq 1, .inl (g.2 1, 64, .inl (fun _ => 0))), (gq 2, .inl (g.2 0, 64, .inl (fun _ => 0)))]
set_option maxRecDepth 100000 in
set_option maxHeartbeats 4000000 in
theorem ncX9_init {l : Launch} {g : Gt} (h0 : Nat) (p1 : Nat) (p2 : Nat) : NC l g yX9_init cX9_init 3 riX9 [(h0, .inr (9, [.null, .null, .null, .null, .null]))] [.ref h0, .ref p1, .ref p2] (poX9 g h0 p1 p2) 3 192 := by
  refine NC.of (lv := [(0, .ref h0), (1, .ref p1), (2, .ref p2)]) (by decide) rfl (Nat.le_of_ble_eq_true rfl) rfl ?_
  refine nw_aload dX9_init_0 0 rfl rfl ?_
  refine nw_obj wd_322 wd_83 wd_84 ⟨by decide, Nat.le_of_ble_eq_true rfl⟩ dX9_init_1 ?_
  refine nw_aload dX9_init_4 0 rfl rfl ?_
  refine nw_bipush (v := 64) dX9_init_5 (by decide) ?_
  refine nw_newa (atype := .int) (ty := .int) (t := 0) (N' := 64) rfl rfl rfl wd_174 rfl (by decide) (by decide) (by decide) (by decide) (by decide) dX9_init_7 (fun q1 => ?_)
  refine nw_putF (ws' := [(h0, .inr (9, [.null, .null, .ref q1, .null, .null])), (q1, .inl (g.2 0, 64, .inl (fun _ => 0)))]) (q0 := 0) nf_X9_9 rfl rfl rfl rfl (Nat.le_of_ble_eq_true rfl) rfl dX9_init_9 ?_
  refine nw_aload dX9_init_12 0 rfl rfl ?_
  refine nw_bipush (v := 64) dX9_init_13 (by decide) ?_
  refine nw_newa (atype := .boolean) (ty := .boolean) (t := 1) (N' := 64) rfl rfl rfl wd_208 rfl (by decide) (by decide) (by decide) (by decide) (by decide) dX9_init_15 (fun q2 => ?_)
  refine nw_putF (ws' := [(h0, .inr (9, [.null, .null, .ref q1, .ref q2, .null])), (q1, .inl (g.2 0, 64, .inl (fun _ => 0))), (q2, .inl (g.2 1, 64, .inl (fun _ => 0)))]) (q0 := 0) nf_X9_15 rfl rfl rfl rfl (Nat.le_of_ble_eq_true rfl) rfl dX9_init_17 ?_
  refine nw_aload dX9_init_20 0 rfl rfl ?_
  refine nw_bipush (v := 64) dX9_init_21 (by decide) ?_
  refine nw_newa (atype := .int) (ty := .int) (t := 0) (N' := 64) rfl rfl rfl wd_174 rfl (by decide) (by decide) (by decide) (by decide) (by decide) dX9_init_23 (fun q3 => ?_)
  refine nw_putF (ws' := [(h0, .inr (9, [.null, .null, .ref q1, .ref q2, .ref q3])), (q1, .inl (g.2 0, 64, .inl (fun _ => 0))), (q2, .inl (g.2 1, 64, .inl (fun _ => 0))), (q3, .inl (g.2 0, 64, .inl (fun _ => 0)))]) (q0 := 0) nf_X9_19 rfl rfl rfl rfl (Nat.le_of_ble_eq_true rfl) rfl dX9_init_25 ?_
  refine nw_aload dX9_init_28 0 rfl rfl ?_
  refine nw_aload dX9_init_29 1 rfl rfl ?_
  refine nw_putF (ws' := [(h0, .inr (9, [.ref p1, .null, .ref q1, .ref q2, .ref q3])), (q1, .inl (g.2 0, 64, .inl (fun _ => 0))), (q2, .inl (g.2 1, 64, .inl (fun _ => 0))), (q3, .inl (g.2 0, 64, .inl (fun _ => 0)))]) (q0 := 0) nf_X9_22 rfl rfl rfl rfl (Nat.le_of_ble_eq_true rfl) rfl dX9_init_30 ?_
  refine nw_aload dX9_init_33 0 rfl rfl ?_
  refine nw_aload dX9_init_34 2 rfl rfl ?_
  refine nw_putF (ws' := [(h0, .inr (9, [.ref p1, .ref p2, .ref q1, .ref q2, .ref q3])), (q1, .inl (g.2 0, 64, .inl (fun _ => 0))), (q2, .inl (g.2 1, 64, .inl (fun _ => 0))), (q3, .inl (g.2 0, 64, .inl (fun _ => 0)))]) (q0 := 0) nf_X9_26 rfl rfl rfl rfl (Nat.le_of_ble_eq_true rfl) rfl dX9_init_35 ?_
  exact nw_ret (fun k => ([q1, q2, q3] : List Nat).getD k 0) rfl dX9_init_38
