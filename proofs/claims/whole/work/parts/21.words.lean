theorem inw_X0 : ∀ w ∈ u_ws RX0 TX0 0, w ∈ ap_gw := by decide +kernel
theorem inw_X1 : ∀ w ∈ u_ws RX1 TX1 0, w ∈ ap_gw := by decide +kernel
theorem inw_X2 : ∀ w ∈ u_ws RX2 TX2 0, w ∈ ap_gw := by decide +kernel
theorem inw_X3 : ∀ w ∈ u_ws RX3 TX3 9, w ∈ ap_gw := by decide +kernel
theorem inw_X4 : ∀ w ∈ u_ws RX4 TX4 0, w ∈ ap_gw := by decide +kernel
theorem inw_X5 : ∀ w ∈ u_ws RX5 TX5 7, w ∈ ap_gw := by decide +kernel
theorem inw_X6 : ∀ w ∈ u_ws RX6 TX6 7, w ∈ ap_gw := by decide +kernel
theorem inw_X7 : ∀ w ∈ u_ws RX7 TX7 0, w ∈ ap_gw := by decide +kernel
theorem inw_X8 : ∀ w ∈ u_ws RX8 TX8 17, w ∈ ap_gw := by decide +kernel
theorem inw_X9 : ∀ w ∈ u_ws RX9 TX9 5, w ∈ ap_gw := by decide +kernel
theorem inw_X10 : ∀ w ∈ u_ws RX10 TX10 0, w ∈ ap_gw := by decide +kernel
theorem inw_X11 : ∀ w ∈ u_ws RX11 TX11 12, w ∈ ap_gw := by decide +kernel
theorem inw_X12 : ∀ w ∈ u_ws RX12 TX12 23, w ∈ ap_gw := by decide +kernel
theorem wd_0 : Cond.selects RX11 yX11_bad yX11_bad ∈ ap_gw := ap_in 0 (by decide +kernel) (by decide +kernel)
theorem wd_1 : Cond.selects RX11 yX11_full yX11_full ∈ ap_gw := ap_in 1 (by decide +kernel) (by decide +kernel)
theorem wd_2 : Cond.selects RX11 yX11_no yX11_no ∈ ap_gw := ap_in 2 (by decide +kernel) (by decide +kernel)
theorem wd_3 : Cond.selects RX5 yX5_advance yX5_advance ∈ ap_gw := ap_in 3 (by decide +kernel) (by decide +kernel)
theorem wd_4 : Cond.selects RX5 yX5_takeItem yX5_takeItem ∈ ap_gw := ap_in 4 (by decide +kernel) (by decide +kernel)
theorem wd_5 : Cond.selects RX5 yX5_spells yX5_spells ∈ ap_gw := ap_in 5 (by decide +kernel) (by decide +kernel)
theorem wd_6 : Cond.selects RX5 yX5_takeFog yX5_takeFog ∈ ap_gw := ap_in 6 (by decide +kernel) (by decide +kernel)
theorem wd_7 : Cond.selects RX5 yX5_takeNumber yX5_takeNumber ∈ ap_gw := ap_in 7 (by decide +kernel) (by decide +kernel)
theorem wd_8 : Cond.selects RX5 yX5_takeStop yX5_takeStop ∈ ap_gw := ap_in 8 (by decide +kernel) (by decide +kernel)
theorem wd_9 : Cond.selects RX5 yX5_takeCandle yX5_takeCandle ∈ ap_gw := ap_in 9 (by decide +kernel) (by decide +kernel)
theorem wd_10 : Cond.selects RX5 yX5_takeOut yX5_takeOut ∈ ap_gw := ap_in 10 (by decide +kernel) (by decide +kernel)
theorem wd_11 : Cond.selects RX3 yX3_layFar yX3_layFar ∈ ap_gw := ap_in 11 (by decide +kernel) (by decide +kernel)
theorem wd_12 : Cond.selects RX6 yX6_howManySets yX6_howManySets ∈ ap_gw := ap_in 12 (by decide +kernel) (by decide +kernel)
theorem wd_13 : Cond.selects RX6 yX6_lightsWanted yX6_lightsWanted ∈ ap_gw := ap_in 13 (by decide +kernel) (by decide +kernel)
theorem wd_14 : Cond.selects RX6 yX6_tallowOf yX6_tallowOf ∈ ap_gw := ap_in 14 (by decide +kernel) (by decide +kernel)
theorem wd_15 : Cond.selects RX3 yX3_candlesOf yX3_candlesOf ∈ ap_gw := ap_in 15 (by decide +kernel) (by decide +kernel)
theorem wd_16 : Cond.selects RX3 yX3_acresFrom yX3_acresFrom ∈ ap_gw := ap_in 16 (by decide +kernel) (by decide +kernel)
theorem wd_17 : Cond.selects RX9 yX9_spreadFrom yX9_spreadFrom ∈ ap_gw := ap_in 17 (by decide +kernel) (by decide +kernel)
theorem wd_18 : Cond.selects RX3 yX3_acresOf yX3_acresOf ∈ ap_gw := ap_in 18 (by decide +kernel) (by decide +kernel)
theorem wd_19 : Cond.selects RX6 yX6_mostAlike yX6_mostAlike ∈ ap_gw := ap_in 19 (by decide +kernel) (by decide +kernel)
theorem wd_20 : Cond.selects RX6 yX6_layLight yX6_layLight ∈ ap_gw := ap_in 20 (by decide +kernel) (by decide +kernel)
theorem wd_21 : Cond.selects RX11 yX11_keepFraction yX11_keepFraction ∈ ap_gw := ap_in 21 (by decide +kernel) (by decide +kernel)
theorem wd_22 : Cond.selects RX11 yX11_howMany yX11_howMany ∈ ap_gw := ap_in 22 (by decide +kernel) (by decide +kernel)
theorem wd_23 : Cond.selects RX12 yX12_bad yX12_bad ∈ ap_gw := ap_in 23 (by decide +kernel) (by decide +kernel)
theorem wd_24 : Cond.selects RX12 yX12_candles yX12_candles ∈ ap_gw := ap_in 24 (by decide +kernel) (by decide +kernel)
theorem wd_25 : Cond.selects RX12 yX12_full yX12_full ∈ ap_gw := ap_in 25 (by decide +kernel) (by decide +kernel)
theorem wd_26 : Cond.selects RX12 yX12_isCandle yX12_isCandle ∈ ap_gw := ap_in 26 (by decide +kernel) (by decide +kernel)
theorem wd_27 : Cond.selects RX12 yX12_get yX12_get ∈ ap_gw := ap_in 27 (by decide +kernel) (by decide +kernel)
theorem wd_28 : Cond.selects RX12 yX12_keep yX12_keep ∈ ap_gw := ap_in 28 (by decide +kernel) (by decide +kernel)
theorem wd_29 : Cond.selects RX12 yX12_no yX12_no ∈ ap_gw := ap_in 29 (by decide +kernel) (by decide +kernel)
theorem wd_30 : Cond.selects RX12 yX12_layHand yX12_layHand ∈ ap_gw := ap_in 30 (by decide +kernel) (by decide +kernel)
theorem wd_31 : Cond.selects RX12 yX12_lightOf yX12_lightOf ∈ ap_gw := ap_in 31 (by decide +kernel) (by decide +kernel)
theorem wd_32 : Cond.selects RX12 yX12_whose yX12_whose ∈ ap_gw := ap_in 32 (by decide +kernel) (by decide +kernel)
theorem wd_33 : Cond.selects RX12 yX12_lightIn yX12_lightIn ∈ ap_gw := ap_in 33 (by decide +kernel) (by decide +kernel)
theorem wd_34 : Cond.selects RX12 yX12_listOf yX12_listOf ∈ ap_gw := ap_in 34 (by decide +kernel) (by decide +kernel)
theorem wd_35 : Cond.selects RX12 yX12_areLight yX12_areLight ∈ ap_gw := ap_in 35 (by decide +kernel) (by decide +kernel)
theorem wd_36 : Cond.selects RX12 yX12_tallowOf yX12_tallowOf ∈ ap_gw := ap_in 36 (by decide +kernel) (by decide +kernel)
theorem wd_37 : Cond.selects RX12 yX12_acresOf yX12_acresOf ∈ ap_gw := ap_in 37 (by decide +kernel) (by decide +kernel)
theorem wd_38 : Cond.selects RX12 yX12_laySteps yX12_laySteps ∈ ap_gw := ap_in 38 (by decide +kernel) (by decide +kernel)
theorem wd_39 : Cond.selects RX12 yX12_isBeside yX12_isBeside ∈ ap_gw := ap_in 39 (by decide +kernel) (by decide +kernel)
theorem wd_40 : Cond.selects RX12 yX12_layGets yX12_layGets ∈ ap_gw := ap_in 40 (by decide +kernel) (by decide +kernel)
theorem wd_41 : Cond.selects RX12 yX12_ownOf yX12_ownOf ∈ ap_gw := ap_in 41 (by decide +kernel) (by decide +kernel)
theorem wd_42 : Cond.selects RX12 yX12_layFits yX12_layFits ∈ ap_gw := ap_in 42 (by decide +kernel) (by decide +kernel)
theorem wd_43 : Cond.selects RX12 yX12_areSo yX12_areSo ∈ ap_gw := ap_in 43 (by decide +kernel) (by decide +kernel)
theorem wd_44 : Cond.selects RX12 yX12_mostLike yX12_mostLike ∈ ap_gw := ap_in 44 (by decide +kernel) (by decide +kernel)
theorem wd_45 : Cond.selects RX12 yX12_fraction yX12_fraction ∈ ap_gw := ap_in 45 (by decide +kernel) (by decide +kernel)
theorem wd_46 : Cond.selects RX12 yX12_lookAt yX12_lookAt ∈ ap_gw := ap_in 46 (by decide +kernel) (by decide +kernel)
theorem wd_47 : Cond.selects RX12 yX12_takesFirst yX12_takesFirst ∈ ap_gw := ap_in 47 (by decide +kernel) (by decide +kernel)
theorem wd_48 : Cond.selects RX12 yX12_isCalled yX12_isCalled ∈ ap_gw := ap_in 48 (by decide +kernel) (by decide +kernel)
theorem wd_49 : Cond.selects RX12 yX12_goBehind yX12_goBehind ∈ ap_gw := ap_in 49 (by decide +kernel) (by decide +kernel)
theorem wd_50 : Cond.selects RX12 yX12_takes yX12_takes ∈ ap_gw := ap_in 50 (by decide +kernel) (by decide +kernel)
theorem wd_51 : Cond.selects RX12 yX12_takesItem yX12_takesItem ∈ ap_gw := ap_in 51 (by decide +kernel) (by decide +kernel)
theorem wd_52 : Cond.selects RX12 yX12_takesCandle yX12_takesCandle ∈ ap_gw := ap_in 52 (by decide +kernel) (by decide +kernel)
theorem wd_53 : Cond.selects RX12 yX12_takesOut yX12_takesOut ∈ ap_gw := ap_in 53 (by decide +kernel) (by decide +kernel)
theorem wd_54 : Cond.selects RX12 yX12_counted yX12_counted ∈ ap_gw := ap_in 54 (by decide +kernel) (by decide +kernel)
theorem wd_55 : Cond.selects RX12 yX12_sums yX12_sums ∈ ap_gw := ap_in 55 (by decide +kernel) (by decide +kernel)
theorem wd_57 : Cond.initialized RX11 ∈ ap_gw := ap_in 57 (by decide +kernel) (by decide +kernel)
theorem wd_58 : Cond.initialized RX8 ∈ ap_gw := ap_in 58 (by decide +kernel) (by decide +kernel)
theorem wd_59 : Cond.initialized RX5 ∈ ap_gw := ap_in 59 (by decide +kernel) (by decide +kernel)
theorem wd_60 : Cond.initialized RX3 ∈ ap_gw := ap_in 60 (by decide +kernel) (by decide +kernel)
theorem wd_61 : Cond.initialized RX4 ∈ ap_gw := ap_in 61 (by decide +kernel) (by decide +kernel)
theorem wd_62 : Cond.initialized RX10 ∈ ap_gw := ap_in 62 (by decide +kernel) (by decide +kernel)
theorem wd_63 : Cond.initialized RX1 ∈ ap_gw := ap_in 63 (by decide +kernel) (by decide +kernel)
theorem wd_64 : Cond.initialized RX2 ∈ ap_gw := ap_in 64 (by decide +kernel) (by decide +kernel)
theorem wd_65 : Cond.initialized RX0 ∈ ap_gw := ap_in 65 (by decide +kernel) (by decide +kernel)
theorem wd_66 : Cond.initialized RX7 ∈ ap_gw := ap_in 66 (by decide +kernel) (by decide +kernel)
theorem wd_67 : Cond.initialized RX6 ∈ ap_gw := ap_in 67 (by decide +kernel) (by decide +kernel)
theorem wd_68 : Cond.initialized RX9 ∈ ap_gw := ap_in 68 (by decide +kernel) (by decide +kernel)
theorem wd_69 : Cond.initialized RX12 ∈ ap_gw := ap_in 69 (by decide +kernel) (by decide +kernel)
theorem wd_70 : Cond.initialized "java/lang/System" ∈ ap_gw := ap_in 70 (by decide +kernel) (by decide +kernel)
theorem wd_75 : Cond.initialized RJ9 ∈ ap_gw := ap_in 75 (by decide +kernel) (by decide +kernel)
theorem wd_76 : Cond.initialized RJ6 ∈ ap_gw := ap_in 76 (by decide +kernel) (by decide +kernel)
theorem wd_91 : Cond.fieldLink RX8 9 "CandleLand$Valley" "fog" "I" ∈ ap_gw := ap_in 91 (by decide +kernel) (by decide +kernel)
theorem wd_92 : Cond.fieldLink RX11 88 "CandleLand$Valley" "fog" "I" ∈ ap_gw := ap_in 92 (by decide +kernel) (by decide +kernel)
theorem wd_93 : Cond.fieldLink RX3 78 "CandleLand$Valley" "fog" "I" ∈ ap_gw := ap_in 93 (by decide +kernel) (by decide +kernel)
theorem wd_94 : Cond.fieldLink RX5 73 "CandleLand$Valley" "fog" "I" ∈ ap_gw := ap_in 94 (by decide +kernel) (by decide +kernel)
theorem wd_95 : Cond.fieldLink RX8 15 "CandleLand$Valley" "candles" "I" ∈ ap_gw := ap_in 95 (by decide +kernel) (by decide +kernel)
theorem wd_96 : Cond.fieldLink RX6 37 "CandleLand$Valley" "candles" "I" ∈ ap_gw := ap_in 96 (by decide +kernel) (by decide +kernel)
theorem wd_97 : Cond.fieldLink RX11 81 "CandleLand$Valley" "candles" "I" ∈ ap_gw := ap_in 97 (by decide +kernel) (by decide +kernel)
theorem wd_98 : Cond.fieldLink RX3 87 "CandleLand$Valley" "candles" "I" ∈ ap_gw := ap_in 98 (by decide +kernel) (by decide +kernel)
theorem wd_99 : Cond.fieldLink RX5 79 "CandleLand$Valley" "candles" "I" ∈ ap_gw := ap_in 99 (by decide +kernel) (by decide +kernel)
theorem wd_100 : Cond.fieldLink RX8 18 "CandleLand$Valley" "lit" "I" ∈ ap_gw := ap_in 100 (by decide +kernel) (by decide +kernel)
theorem wd_101 : Cond.fieldLink RX9 30 "CandleLand$Valley" "lit" "I" ∈ ap_gw := ap_in 101 (by decide +kernel) (by decide +kernel)
theorem wd_102 : Cond.fieldLink RX11 122 "CandleLand$Valley" "lit" "I" ∈ ap_gw := ap_in 102 (by decide +kernel) (by decide +kernel)
theorem wd_103 : Cond.fieldLink RX5 86 "CandleLand$Valley" "lit" "I" ∈ ap_gw := ap_in 103 (by decide +kernel) (by decide +kernel)
theorem wd_104 : Cond.fieldLink RX3 101 "CandleLand$Valley" "lit" "I" ∈ ap_gw := ap_in 104 (by decide +kernel) (by decide +kernel)
theorem wd_105 : Cond.fieldLink RX8 21 "CandleLand$Valley" "kind" "[I" ∈ ap_gw := ap_in 105 (by decide +kernel) (by decide +kernel)
theorem wd_106 : Cond.fieldLink RX3 59 "CandleLand$Valley" "kind" "[I" ∈ ap_gw := ap_in 106 (by decide +kernel) (by decide +kernel)
theorem wd_107 : Cond.fieldLink RX11 146 "CandleLand$Valley" "kind" "[I" ∈ ap_gw := ap_in 107 (by decide +kernel) (by decide +kernel)
theorem wd_108 : Cond.fieldLink RX8 25 "CandleLand$Valley" "cell" "[I" ∈ ap_gw := ap_in 108 (by decide +kernel) (by decide +kernel)
theorem wd_109 : Cond.fieldLink RX11 112 "CandleLand$Valley" "cell" "[I" ∈ ap_gw := ap_in 109 (by decide +kernel) (by decide +kernel)
theorem wd_110 : Cond.fieldLink RX8 28 "CandleLand$Valley" "height" "[I" ∈ ap_gw := ap_in 110 (by decide +kernel) (by decide +kernel)
theorem wd_111 : Cond.fieldLink RX3 71 "CandleLand$Valley" "height" "[I" ∈ ap_gw := ap_in 111 (by decide +kernel) (by decide +kernel)
theorem wd_112 : Cond.fieldLink RX11 149 "CandleLand$Valley" "height" "[I" ∈ ap_gw := ap_in 112 (by decide +kernel) (by decide +kernel)
theorem wd_113 : Cond.fieldLink RX8 31 "CandleLand$Valley" "owner" "[I" ∈ ap_gw := ap_in 113 (by decide +kernel) (by decide +kernel)
theorem wd_114 : Cond.fieldLink RX3 104 "CandleLand$Valley" "owner" "[I" ∈ ap_gw := ap_in 114 (by decide +kernel) (by decide +kernel)
theorem wd_115 : Cond.fieldLink RX11 152 "CandleLand$Valley" "owner" "[I" ∈ ap_gw := ap_in 115 (by decide +kernel) (by decide +kernel)
theorem wd_116 : Cond.fieldLink RX8 34 "CandleLand$Valley" "tallow" "[I" ∈ ap_gw := ap_in 116 (by decide +kernel) (by decide +kernel)
theorem wd_117 : Cond.fieldLink RX3 64 "CandleLand$Valley" "tallow" "[I" ∈ ap_gw := ap_in 117 (by decide +kernel) (by decide +kernel)
theorem wd_118 : Cond.fieldLink RX6 71 "CandleLand$Valley" "tallow" "[I" ∈ ap_gw := ap_in 118 (by decide +kernel) (by decide +kernel)
theorem wd_119 : Cond.fieldLink RX11 155 "CandleLand$Valley" "tallow" "[I" ∈ ap_gw := ap_in 119 (by decide +kernel) (by decide +kernel)
theorem wd_120 : Cond.fieldLink RX8 37 "CandleLand$Valley" "wants" "I" ∈ ap_gw := ap_in 120 (by decide +kernel) (by decide +kernel)
theorem wd_121 : Cond.fieldLink RX6 42 "CandleLand$Valley" "wants" "I" ∈ ap_gw := ap_in 121 (by decide +kernel) (by decide +kernel)
theorem wd_122 : Cond.fieldLink RX11 192 "CandleLand$Valley" "wants" "I" ∈ ap_gw := ap_in 122 (by decide +kernel) (by decide +kernel)
theorem wd_123 : Cond.fieldLink RX8 40 "CandleLand$Valley" "wanted" "[I" ∈ ap_gw := ap_in 123 (by decide +kernel) (by decide +kernel)
theorem wd_124 : Cond.fieldLink RX6 45 "CandleLand$Valley" "wanted" "[I" ∈ ap_gw := ap_in 124 (by decide +kernel) (by decide +kernel)
theorem wd_125 : Cond.fieldLink RX11 195 "CandleLand$Valley" "wanted" "[I" ∈ ap_gw := ap_in 125 (by decide +kernel) (by decide +kernel)
theorem wd_126 : Cond.fieldLink RX8 43 "CandleLand$Valley" "readings" "I" ∈ ap_gw := ap_in 126 (by decide +kernel) (by decide +kernel)
theorem wd_127 : Cond.fieldLink RX6 74 "CandleLand$Valley" "readings" "I" ∈ ap_gw := ap_in 127 (by decide +kernel) (by decide +kernel)
theorem wd_128 : Cond.fieldLink RX11 225 "CandleLand$Valley" "readings" "I" ∈ ap_gw := ap_in 128 (by decide +kernel) (by decide +kernel)
theorem wd_129 : Cond.fieldLink RX8 46 "CandleLand$Valley" "readCell" "[I" ∈ ap_gw := ap_in 129 (by decide +kernel) (by decide +kernel)
theorem wd_130 : Cond.fieldLink RX6 80 "CandleLand$Valley" "readCell" "[I" ∈ ap_gw := ap_in 130 (by decide +kernel) (by decide +kernel)
theorem wd_131 : Cond.fieldLink RX8 49 "CandleLand$Valley" "readHour" "[I" ∈ ap_gw := ap_in 131 (by decide +kernel) (by decide +kernel)
theorem wd_132 : Cond.fieldLink RX6 83 "CandleLand$Valley" "readHour" "[I" ∈ ap_gw := ap_in 132 (by decide +kernel) (by decide +kernel)
theorem wd_133 : Cond.fieldLink RX8 52 "CandleLand$Valley" "readLight" "[I" ∈ ap_gw := ap_in 133 (by decide +kernel) (by decide +kernel)
theorem wd_134 : Cond.fieldLink RX6 77 "CandleLand$Valley" "readLight" "[I" ∈ ap_gw := ap_in 134 (by decide +kernel) (by decide +kernel)
theorem wd_135 : Cond.fieldLink RX8 55 "CandleLand$Valley" "steps" "I" ∈ ap_gw := ap_in 135 (by decide +kernel) (by decide +kernel)
theorem wd_136 : Cond.fieldLink RX11 125 "CandleLand$Valley" "steps" "I" ∈ ap_gw := ap_in 136 (by decide +kernel) (by decide +kernel)
theorem wd_137 : Cond.fieldLink RX8 58 "CandleLand$Valley" "oldCells" "[I" ∈ ap_gw := ap_in 137 (by decide +kernel) (by decide +kernel)
theorem wd_138 : Cond.fieldLink RX8 61 "CandleLand$Valley" "oldLit" "[I" ∈ ap_gw := ap_in 138 (by decide +kernel) (by decide +kernel)
theorem wd_184 : Cond.fieldLink RX5 12 "CandleLand$Reader" "told" "LCandleLand$Valley;" ∈ ap_gw := ap_in 184 (by decide +kernel) (by decide +kernel)
theorem wd_185 : Cond.fieldLink RX11 140 "CandleLand$Reader" "told" "LCandleLand$Valley;" ∈ ap_gw := ap_in 185 (by decide +kernel) (by decide +kernel)
theorem wd_186 : Cond.fieldLink RX5 18 "CandleLand$Reader" "length" "I" ∈ ap_gw := ap_in 186 (by decide +kernel) (by decide +kernel)
theorem wd_187 : Cond.fieldLink RX11 131 "CandleLand$Reader" "length" "I" ∈ ap_gw := ap_in 187 (by decide +kernel) (by decide +kernel)
theorem wd_188 : Cond.fieldLink RX5 22 "CandleLand$Reader" "text" "[B" ∈ ap_gw := ap_in 188 (by decide +kernel) (by decide +kernel)
theorem wd_189 : Cond.fieldLink RX5 26 "CandleLand$Reader" "at" "I" ∈ ap_gw := ap_in 189 (by decide +kernel) (by decide +kernel)
theorem wd_190 : Cond.fieldLink RX5 29 "CandleLand$Reader" "token" "I" ∈ ap_gw := ap_in 190 (by decide +kernel) (by decide +kernel)
theorem wd_191 : Cond.fieldLink RX5 32 "CandleLand$Reader" "start" "I" ∈ ap_gw := ap_in 191 (by decide +kernel) (by decide +kernel)
theorem wd_192 : Cond.fieldLink RX5 35 "CandleLand$Reader" "value" "I" ∈ ap_gw := ap_in 192 (by decide +kernel) (by decide +kernel)
theorem wd_230 : Cond.superclass RX10 RX4 ∈ ap_gw := ap_in 230 (by decide +kernel) (by decide +kernel)
theorem wd_237 : Cond.superclass RX1 RX4 ∈ ap_gw := ap_in 237 (by decide +kernel) (by decide +kernel)
theorem wd_244 : Cond.superclass RX2 RX1 ∈ ap_gw := ap_in 244 (by decide +kernel) (by decide +kernel)
theorem wd_251 : Cond.superclass RX0 RX10 ∈ ap_gw := ap_in 251 (by decide +kernel) (by decide +kernel)
theorem wd_258 : Cond.superclass RX7 RX4 ∈ ap_gw := ap_in 258 (by decide +kernel) (by decide +kernel)
theorem wd_259 : Cond.fieldLink RX3 55 "CandleLand$Night" "land" "LCandleLand$Valley;" ∈ ap_gw := ap_in 259 (by decide +kernel) (by decide +kernel)
theorem wd_260 : Cond.fieldLink RX3 27 "CandleLand$Night" "kinds" "[LCandleLand$Plain;" ∈ ap_gw := ap_in 260 (by decide +kernel) (by decide +kernel)
theorem wd_261 : Cond.fieldLink RX3 33 "CandleLand$Night" "strong" "[I" ∈ ap_gw := ap_in 261 (by decide +kernel) (by decide +kernel)
theorem wd_262 : Cond.fieldLink RX6 99 "CandleLand$Night" "strong" "[I" ∈ ap_gw := ap_in 262 (by decide +kernel) (by decide +kernel)
theorem wd_263 : Cond.fieldLink RX3 37 "CandleLand$Night" "owners" "[I" ∈ ap_gw := ap_in 263 (by decide +kernel) (by decide +kernel)
theorem wd_264 : Cond.fieldLink RX3 40 "CandleLand$Night" "mine" "[I" ∈ ap_gw := ap_in 264 (by decide +kernel) (by decide +kernel)
theorem wd_265 : Cond.fieldLink RX3 43 "CandleLand$Night" "theirs" "[I" ∈ ap_gw := ap_in 265 (by decide +kernel) (by decide +kernel)
theorem wd_266 : Cond.fieldLink RX3 46 "CandleLand$Night" "byFar" "[I" ∈ ap_gw := ap_in 266 (by decide +kernel) (by decide +kernel)
theorem wd_267 : Cond.fieldLink RX3 49 "CandleLand$Night" "gainsA" "[I" ∈ ap_gw := ap_in 267 (by decide +kernel) (by decide +kernel)
theorem wd_268 : Cond.fieldLink RX3 52 "CandleLand$Night" "gainsB" "[I" ∈ ap_gw := ap_in 268 (by decide +kernel) (by decide +kernel)
theorem wd_294 : Cond.fieldLink RX6 29 "CandleLand$Sets" "land" "LCandleLand$Valley;" ∈ ap_gw := ap_in 294 (by decide +kernel) (by decide +kernel)
theorem wd_295 : Cond.fieldLink RX6 33 "CandleLand$Sets" "night" "LCandleLand$Night;" ∈ ap_gw := ap_in 295 (by decide +kernel) (by decide +kernel)
theorem wd_296 : Cond.fieldLink RX6 9 "CandleLand$Sets" "needed" "[I" ∈ ap_gw := ap_in 296 (by decide +kernel) (by decide +kernel)
theorem wd_297 : Cond.fieldLink RX6 15 "CandleLand$Sets" "fits" "[Z" ∈ ap_gw := ap_in 297 (by decide +kernel) (by decide +kernel)
theorem wd_298 : Cond.fieldLink RX6 19 "CandleLand$Sets" "fitting" "I" ∈ ap_gw := ap_in 298 (by decide +kernel) (by decide +kernel)
theorem wd_299 : Cond.fieldLink RX11 234 "CandleLand$Sets" "fitting" "I" ∈ ap_gw := ap_in 299 (by decide +kernel) (by decide +kernel)
theorem wd_300 : Cond.fieldLink RX6 23 "CandleLand$Sets" "light" "[I" ∈ ap_gw := ap_in 300 (by decide +kernel) (by decide +kernel)
theorem wd_301 : Cond.fieldLink RX6 26 "CandleLand$Sets" "alike" "[I" ∈ ap_gw := ap_in 301 (by decide +kernel) (by decide +kernel)
theorem wd_323 : Cond.fieldLink RX9 22 "CandleLand$Walk" "land" "LCandleLand$Valley;" ∈ ap_gw := ap_in 323 (by decide +kernel) (by decide +kernel)
theorem wd_324 : Cond.fieldLink RX9 26 "CandleLand$Walk" "night" "LCandleLand$Night;" ∈ ap_gw := ap_in 324 (by decide +kernel) (by decide +kernel)
theorem wd_325 : Cond.fieldLink RX9 9 "CandleLand$Walk" "steps" "[I" ∈ ap_gw := ap_in 325 (by decide +kernel) (by decide +kernel)
theorem wd_326 : Cond.fieldLink RX9 15 "CandleLand$Walk" "open" "[Z" ∈ ap_gw := ap_in 326 (by decide +kernel) (by decide +kernel)
theorem wd_327 : Cond.fieldLink RX9 19 "CandleLand$Walk" "queue" "[I" ∈ ap_gw := ap_in 327 (by decide +kernel) (by decide +kernel)
theorem wd_339 : Cond.fieldLink RX11 12 "CandleLand" "land" "LCandleLand$Valley;" ∈ ap_gw := ap_in 339 (by decide +kernel) (by decide +kernel)
theorem wd_340 : Cond.fieldLink RX11 16 "CandleLand" "images" "[LCandleLand$Valley;" ∈ ap_gw := ap_in 340 (by decide +kernel) (by decide +kernel)
theorem wd_341 : Cond.fieldLink RX11 20 "CandleLand" "kept" "[Z" ∈ ap_gw := ap_in 341 (by decide +kernel) (by decide +kernel)
theorem wd_342 : Cond.fieldLink RX11 27 "CandleLand" "reader" "LCandleLand$Reader;" ∈ ap_gw := ap_in 342 (by decide +kernel) (by decide +kernel)
theorem wd_343 : Cond.fieldLink RX11 36 "CandleLand" "night" "LCandleLand$Night;" ∈ ap_gw := ap_in 343 (by decide +kernel) (by decide +kernel)
theorem wd_344 : Cond.fieldLink RX11 45 "CandleLand" "sets" "LCandleLand$Sets;" ∈ ap_gw := ap_in 344 (by decide +kernel) (by decide +kernel)
theorem wd_345 : Cond.fieldLink RX11 52 "CandleLand" "walk" "LCandleLand$Walk;" ∈ ap_gw := ap_in 345 (by decide +kernel) (by decide +kernel)
theorem wd_346 : Cond.fieldLink RX11 56 "CandleLand" "above" "J" ∈ ap_gw := ap_in 346 (by decide +kernel) (by decide +kernel)
theorem wd_347 : Cond.fieldLink RX11 60 "CandleLand" "below" "J" ∈ ap_gw := ap_in 347 (by decide +kernel) (by decide +kernel)
theorem wd_348 : Cond.fieldLink RX11 63 "CandleLand" "bads" "I" ∈ ap_gw := ap_in 348 (by decide +kernel) (by decide +kernel)
theorem wd_349 : Cond.fieldLink RX11 67 "CandleLand" "noes" "I" ∈ ap_gw := ap_in 349 (by decide +kernel) (by decide +kernel)
theorem wd_350 : Cond.fieldLink RX11 70 "CandleLand" "fulls" "I" ∈ ap_gw := ap_in 350 (by decide +kernel) (by decide +kernel)
theorem wd_380 : Cond.methodLink RX11 73 yX11_within ∈ ap_gw := ap_in 380 (by decide +kernel) (by decide +kernel)
theorem wd_381 : Cond.static yX11_within ∈ ap_gw := ap_in 381 (by decide +kernel) (by decide +kernel)
theorem wd_382 : Cond.code yX11_within cX11_within 3 (some .boolean) ∈ ap_gw := ap_in 382 (by decide +kernel) (by decide +kernel)
theorem wd_383 : Cond.methodLink RX11 77 yX11_bad ∈ ap_gw := ap_in 383 (by decide +kernel) (by decide +kernel)
theorem wd_385 : Cond.instanceMethod yX11_bad ∈ ap_gw := ap_in 385 (by decide +kernel) (by decide +kernel)
theorem wd_386 : Cond.code yX11_bad cX11_bad 2 (some .int) ∈ ap_gw := ap_in 386 (by decide +kernel) (by decide +kernel)
theorem wd_387 : Cond.methodLink RX11 84 yX8_startAnew ∈ ap_gw := ap_in 387 (by decide +kernel) (by decide +kernel)
theorem wd_388 : Cond.instanceMethod yX8_startAnew ∈ ap_gw := ap_in 388 (by decide +kernel) (by decide +kernel)
theorem wd_389 : Cond.selects RX8 yX8_startAnew yX8_startAnew ∈ ap_gw := ap_in 389 (by decide +kernel) (by decide +kernel)
theorem wd_390 : Cond.code yX8_startAnew cX8_startAnew 2 none ∈ ap_gw := ap_in 390 (by decide +kernel) (by decide +kernel)
theorem wd_399 : Cond.methodLink RX11 91 yX11_isCell ∈ ap_gw := ap_in 399 (by decide +kernel) (by decide +kernel)
theorem wd_400 : Cond.static yX11_isCell ∈ ap_gw := ap_in 400 (by decide +kernel) (by decide +kernel)
theorem wd_401 : Cond.code yX11_isCell cX11_isCell 1 (some .boolean) ∈ ap_gw := ap_in 401 (by decide +kernel) (by decide +kernel)
theorem wd_402 : Cond.methodLink RX11 95 yX11_isOwner ∈ ap_gw := ap_in 402 (by decide +kernel) (by decide +kernel)
theorem wd_403 : Cond.static yX11_isOwner ∈ ap_gw := ap_in 403 (by decide +kernel) (by decide +kernel)
theorem wd_404 : Cond.code yX11_isOwner cX11_isOwner 1 (some .boolean) ∈ ap_gw := ap_in 404 (by decide +kernel) (by decide +kernel)
theorem wd_405 : Cond.methodLink RX11 98 yX11_full ∈ ap_gw := ap_in 405 (by decide +kernel) (by decide +kernel)
theorem wd_407 : Cond.instanceMethod yX11_full ∈ ap_gw := ap_in 407 (by decide +kernel) (by decide +kernel)
theorem wd_408 : Cond.code yX11_full cX11_full 1 (some .int) ∈ ap_gw := ap_in 408 (by decide +kernel) (by decide +kernel)
theorem wd_409 : Cond.methodLink RX11 102 yX8_add ∈ ap_gw := ap_in 409 (by decide +kernel) (by decide +kernel)
theorem wd_410 : Cond.instanceMethod yX8_add ∈ ap_gw := ap_in 410 (by decide +kernel) (by decide +kernel)
theorem wd_411 : Cond.selects RX8 yX8_add yX8_add ∈ ap_gw := ap_in 411 (by decide +kernel) (by decide +kernel)
theorem wd_412 : Cond.code yX8_add cX8_add 7 (some .int) ∈ ap_gw := ap_in 412 (by decide +kernel) (by decide +kernel)
theorem wd_417 : Cond.methodLink RX11 106 yX8_has ∈ ap_gw := ap_in 417 (by decide +kernel) (by decide +kernel)
theorem wd_418 : Cond.instanceMethod yX8_has ∈ ap_gw := ap_in 418 (by decide +kernel) (by decide +kernel)
theorem wd_419 : Cond.selects RX8 yX8_has yX8_has ∈ ap_gw := ap_in 419 (by decide +kernel) (by decide +kernel)
theorem wd_420 : Cond.code yX8_has cX8_has 2 (some .boolean) ∈ ap_gw := ap_in 420 (by decide +kernel) (by decide +kernel)
theorem wd_421 : Cond.methodLink RX11 109 yX8_remember ∈ ap_gw := ap_in 421 (by decide +kernel) (by decide +kernel)
theorem wd_422 : Cond.instanceMethod yX8_remember ∈ ap_gw := ap_in 422 (by decide +kernel) (by decide +kernel)
theorem wd_423 : Cond.selects RX8 yX8_remember yX8_remember ∈ ap_gw := ap_in 423 (by decide +kernel) (by decide +kernel)
theorem wd_424 : Cond.code yX8_remember cX8_remember 1 none ∈ ap_gw := ap_in 424 (by decide +kernel) (by decide +kernel)
theorem wd_425 : Cond.methodLink RX8 68 arraycopyName ∈ ap_gw := ap_in 425 (by decide +kernel) (by decide +kernel)
theorem wd_426 : Cond.static arraycopyName ∈ ap_gw := ap_in 426 (by decide +kernel) (by decide +kernel)
theorem wd_427 : Cond.native arraycopyName ∈ ap_gw := ap_in 427 (by decide +kernel) (by decide +kernel)
theorem wd_432 : Cond.methodLink RX11 116 yX8_litAt ∈ ap_gw := ap_in 432 (by decide +kernel) (by decide +kernel)
theorem wd_433 : Cond.instanceMethod yX8_litAt ∈ ap_gw := ap_in 433 (by decide +kernel) (by decide +kernel)
theorem wd_434 : Cond.selects RX8 yX8_litAt yX8_litAt ∈ ap_gw := ap_in 434 (by decide +kernel) (by decide +kernel)
theorem wd_435 : Cond.code yX8_litAt cX8_litAt 2 (some .int) ∈ ap_gw := ap_in 435 (by decide +kernel) (by decide +kernel)
theorem wd_436 : Cond.methodLink RX11 119 yX11_no ∈ ap_gw := ap_in 436 (by decide +kernel) (by decide +kernel)
theorem wd_438 : Cond.instanceMethod yX11_no ∈ ap_gw := ap_in 438 (by decide +kernel) (by decide +kernel)
theorem wd_439 : Cond.code yX11_no cX11_no 1 (some .int) ∈ ap_gw := ap_in 439 (by decide +kernel) (by decide +kernel)
theorem wd_444 : Cond.methodLink RX11 128 yX8_goBack ∈ ap_gw := ap_in 444 (by decide +kernel) (by decide +kernel)
theorem wd_445 : Cond.instanceMethod yX8_goBack ∈ ap_gw := ap_in 445 (by decide +kernel) (by decide +kernel)
theorem wd_446 : Cond.selects RX8 yX8_goBack yX8_goBack ∈ ap_gw := ap_in 446 (by decide +kernel) (by decide +kernel)
theorem wd_447 : Cond.code yX8_goBack cX8_goBack 1 none ∈ ap_gw := ap_in 447 (by decide +kernel) (by decide +kernel)
theorem wd_452 : Cond.methodLink RX11 134 yX5_append ∈ ap_gw := ap_in 452 (by decide +kernel) (by decide +kernel)
theorem wd_453 : Cond.instanceMethod yX5_append ∈ ap_gw := ap_in 453 (by decide +kernel) (by decide +kernel)
theorem wd_454 : Cond.selects RX5 yX5_append yX5_append ∈ ap_gw := ap_in 454 (by decide +kernel) (by decide +kernel)
theorem wd_455 : Cond.code yX5_append cX5_append 2 (some .int) ∈ ap_gw := ap_in 455 (by decide +kernel) (by decide +kernel)
theorem wd_464 : Cond.methodLink RX11 137 yX5_parse ∈ ap_gw := ap_in 464 (by decide +kernel) (by decide +kernel)
theorem wd_465 : Cond.instanceMethod yX5_parse ∈ ap_gw := ap_in 465 (by decide +kernel) (by decide +kernel)
theorem wd_466 : Cond.selects RX5 yX5_parse yX5_parse ∈ ap_gw := ap_in 466 (by decide +kernel) (by decide +kernel)
theorem wd_467 : Cond.code yX5_parse cX5_parse 2 (some .int) ∈ ap_gw := ap_in 467 (by decide +kernel) (by decide +kernel)
theorem wd_468 : Cond.methodLink RX5 38 yX8_startAnew ∈ ap_gw := ap_in 468 (by decide +kernel) (by decide +kernel)
theorem wd_469 : Cond.methodLink RX5 42 yX5_advance ∈ ap_gw := ap_in 469 (by decide +kernel) (by decide +kernel)
theorem wd_471 : Cond.instanceMethod yX5_advance ∈ ap_gw := ap_in 471 (by decide +kernel) (by decide +kernel)
theorem wd_472 : Cond.code yX5_advance cX5_advance 1 none ∈ ap_gw := ap_in 472 (by decide +kernel) (by decide +kernel)
theorem wd_473 : Cond.methodLink RX5 93 yX5_isLetter ∈ ap_gw := ap_in 473 (by decide +kernel) (by decide +kernel)
theorem wd_474 : Cond.static yX5_isLetter ∈ ap_gw := ap_in 474 (by decide +kernel) (by decide +kernel)
theorem wd_475 : Cond.code yX5_isLetter cX5_isLetter 1 (some .boolean) ∈ ap_gw := ap_in 475 (by decide +kernel) (by decide +kernel)
theorem wd_476 : Cond.methodLink RX5 97 yX5_isFigure ∈ ap_gw := ap_in 476 (by decide +kernel) (by decide +kernel)
theorem wd_477 : Cond.static yX5_isFigure ∈ ap_gw := ap_in 477 (by decide +kernel) (by decide +kernel)
theorem wd_478 : Cond.code yX5_isFigure cX5_isFigure 1 (some .boolean) ∈ ap_gw := ap_in 478 (by decide +kernel) (by decide +kernel)
theorem wd_479 : Cond.methodLink RX5 45 yX5_takeItem ∈ ap_gw := ap_in 479 (by decide +kernel) (by decide +kernel)
theorem wd_481 : Cond.instanceMethod yX5_takeItem ∈ ap_gw := ap_in 481 (by decide +kernel) (by decide +kernel)
theorem wd_482 : Cond.code yX5_takeItem cX5_takeItem 2 (some .boolean) ∈ ap_gw := ap_in 482 (by decide +kernel) (by decide +kernel)
theorem wd_484 : Cond.methodLink RX5 51 yX5_spells ∈ ap_gw := ap_in 484 (by decide +kernel) (by decide +kernel)
theorem wd_486 : Cond.instanceMethod yX5_spells ∈ ap_gw := ap_in 486 (by decide +kernel) (by decide +kernel)
theorem wd_487 : Cond.code yX5_spells cX5_spells 3 (some .boolean) ∈ ap_gw := ap_in 487 (by decide +kernel) (by decide +kernel)
theorem wd_536 : Cond.methodLink RX5 55 yX5_takeFog ∈ ap_gw := ap_in 536 (by decide +kernel) (by decide +kernel)
theorem wd_538 : Cond.instanceMethod yX5_takeFog ∈ ap_gw := ap_in 538 (by decide +kernel) (by decide +kernel)
theorem wd_539 : Cond.code yX5_takeFog cX5_takeFog 1 (some .boolean) ∈ ap_gw := ap_in 539 (by decide +kernel) (by decide +kernel)
theorem wd_540 : Cond.methodLink RX5 69 yX5_takeNumber ∈ ap_gw := ap_in 540 (by decide +kernel) (by decide +kernel)
theorem wd_542 : Cond.instanceMethod yX5_takeNumber ∈ ap_gw := ap_in 542 (by decide +kernel) (by decide +kernel)
theorem wd_543 : Cond.code yX5_takeNumber cX5_takeNumber 3 (some .boolean) ∈ ap_gw := ap_in 543 (by decide +kernel) (by decide +kernel)
theorem wd_545 : Cond.methodLink RX5 76 yX5_takeStop ∈ ap_gw := ap_in 545 (by decide +kernel) (by decide +kernel)
theorem wd_547 : Cond.instanceMethod yX5_takeStop ∈ ap_gw := ap_in 547 (by decide +kernel) (by decide +kernel)
theorem wd_548 : Cond.code yX5_takeStop cX5_takeStop 1 (some .boolean) ∈ ap_gw := ap_in 548 (by decide +kernel) (by decide +kernel)
theorem wd_550 : Cond.methodLink RX5 61 yX5_takeCandle ∈ ap_gw := ap_in 550 (by decide +kernel) (by decide +kernel)
theorem wd_552 : Cond.instanceMethod yX5_takeCandle ∈ ap_gw := ap_in 552 (by decide +kernel) (by decide +kernel)
theorem wd_553 : Cond.code yX5_takeCandle cX5_takeCandle 5 (some .boolean) ∈ ap_gw := ap_in 553 (by decide +kernel) (by decide +kernel)
theorem wd_554 : Cond.methodLink RX5 82 yX8_add ∈ ap_gw := ap_in 554 (by decide +kernel) (by decide +kernel)
theorem wd_556 : Cond.methodLink RX5 66 yX5_takeOut ∈ ap_gw := ap_in 556 (by decide +kernel) (by decide +kernel)
theorem wd_558 : Cond.instanceMethod yX5_takeOut ∈ ap_gw := ap_in 558 (by decide +kernel) (by decide +kernel)
theorem wd_559 : Cond.code yX5_takeOut cX5_takeOut 1 (some .boolean) ∈ ap_gw := ap_in 559 (by decide +kernel) (by decide +kernel)
theorem wd_560 : Cond.methodLink RX11 143 yX8_takeFrom ∈ ap_gw := ap_in 560 (by decide +kernel) (by decide +kernel)
theorem wd_561 : Cond.instanceMethod yX8_takeFrom ∈ ap_gw := ap_in 561 (by decide +kernel) (by decide +kernel)
theorem wd_562 : Cond.selects RX8 yX8_takeFrom yX8_takeFrom ∈ ap_gw := ap_in 562 (by decide +kernel) (by decide +kernel)
theorem wd_563 : Cond.code yX8_takeFrom cX8_takeFrom 2 none ∈ ap_gw := ap_in 563 (by decide +kernel) (by decide +kernel)
theorem wd_568 : Cond.methodLink RX11 158 yX3_hoursOf ∈ ap_gw := ap_in 568 (by decide +kernel) (by decide +kernel)
theorem wd_569 : Cond.instanceMethod yX3_hoursOf ∈ ap_gw := ap_in 569 (by decide +kernel) (by decide +kernel)
theorem wd_570 : Cond.selects RX3 yX3_hoursOf yX3_hoursOf ∈ ap_gw := ap_in 570 (by decide +kernel) (by decide +kernel)
theorem wd_571 : Cond.code yX3_hoursOf cX3_hoursOf 2 (some .int) ∈ ap_gw := ap_in 571 (by decide +kernel) (by decide +kernel)
theorem wd_572 : Cond.methodLink RX3 67 yX4_hours ∈ ap_gw := ap_in 572 (by decide +kernel) (by decide +kernel)
theorem wd_573 : Cond.instanceMethod yX4_hours ∈ ap_gw := ap_in 573 (by decide +kernel) (by decide +kernel)
theorem wd_574 : Cond.selects RX4 yX4_hours yX4_hours ∈ ap_gw := ap_in 574 (by decide +kernel) (by decide +kernel)
theorem wd_575 : Cond.sameMethod "CandleLand$Plain" "CandleLand$Plain" "hours" "(I)I" ∈ ap_gw := ap_in 575 (by decide +kernel) (by decide +kernel)
theorem wd_576 : Cond.selects RX0 yX4_hours yX0_hours ∈ ap_gw := ap_in 576 (by decide +kernel) (by decide +kernel)
theorem wd_577 : Cond.instanceMethod yX0_hours ∈ ap_gw := ap_in 577 (by decide +kernel) (by decide +kernel)
theorem wd_578 : Cond.code yX0_hours cX0_hours 2 (some .int) ∈ ap_gw := ap_in 578 (by decide +kernel) (by decide +kernel)
theorem wd_579 : Cond.methodLink RX0 11 yX10_hours ∈ ap_gw := ap_in 579 (by decide +kernel) (by decide +kernel)
theorem wd_580 : Cond.instanceMethod yX10_hours ∈ ap_gw := ap_in 580 (by decide +kernel) (by decide +kernel)
theorem wd_581 : Cond.code yX10_hours cX10_hours 2 (some .int) ∈ ap_gw := ap_in 581 (by decide +kernel) (by decide +kernel)
theorem wd_582 : Cond.methodLink RX10 11 yX4_hours ∈ ap_gw := ap_in 582 (by decide +kernel) (by decide +kernel)
theorem wd_583 : Cond.selects RX1 yX4_hours yX4_hours ∈ ap_gw := ap_in 583 (by decide +kernel) (by decide +kernel)
theorem wd_584 : Cond.selects RX2 yX4_hours yX2_hours ∈ ap_gw := ap_in 584 (by decide +kernel) (by decide +kernel)
theorem wd_585 : Cond.instanceMethod yX2_hours ∈ ap_gw := ap_in 585 (by decide +kernel) (by decide +kernel)
theorem wd_586 : Cond.code yX2_hours cX2_hours 2 (some .int) ∈ ap_gw := ap_in 586 (by decide +kernel) (by decide +kernel)
theorem wd_587 : Cond.methodLink RX2 7 ⟨"CandleLand$Lamp", "hours", "(I)I"⟩ ∈ ap_gw := ap_in 587 (by decide +kernel) (by decide +kernel)
theorem wd_588 : Cond.sameMethod "CandleLand$Lamp" "CandleLand$Plain" "hours" "(I)I" ∈ ap_gw := ap_in 588 (by decide +kernel) (by decide +kernel)
theorem wd_590 : Cond.selects RX7 yX4_hours yX7_hours ∈ ap_gw := ap_in 590 (by decide +kernel) (by decide +kernel)
theorem wd_591 : Cond.instanceMethod yX7_hours ∈ ap_gw := ap_in 591 (by decide +kernel) (by decide +kernel)
theorem wd_592 : Cond.code yX7_hours cX7_hours 2 (some .int) ∈ ap_gw := ap_in 592 (by decide +kernel) (by decide +kernel)
theorem wd_593 : Cond.selects RX10 yX4_hours yX10_hours ∈ ap_gw := ap_in 593 (by decide +kernel) (by decide +kernel)
theorem wd_594 : Cond.code yX4_hours cX4_hours 2 (some .int) ∈ ap_gw := ap_in 594 (by decide +kernel) (by decide +kernel)
theorem wd_599 : Cond.methodLink RX11 161 yX11_isHour ∈ ap_gw := ap_in 599 (by decide +kernel) (by decide +kernel)
theorem wd_600 : Cond.static yX11_isHour ∈ ap_gw := ap_in 600 (by decide +kernel) (by decide +kernel)
theorem wd_601 : Cond.code yX11_isHour cX11_isHour 1 (some .boolean) ∈ ap_gw := ap_in 601 (by decide +kernel) (by decide +kernel)
theorem wd_602 : Cond.methodLink RX11 164 yX8_farFrom ∈ ap_gw := ap_in 602 (by decide +kernel) (by decide +kernel)
theorem wd_603 : Cond.instanceMethod yX8_farFrom ∈ ap_gw := ap_in 603 (by decide +kernel) (by decide +kernel)
theorem wd_604 : Cond.selects RX8 yX8_farFrom yX8_farFrom ∈ ap_gw := ap_in 604 (by decide +kernel) (by decide +kernel)
theorem wd_605 : Cond.code yX8_farFrom cX8_farFrom 3 (some .int) ∈ ap_gw := ap_in 605 (by decide +kernel) (by decide +kernel)
theorem wd_607 : Cond.static yX11_farBetween ∈ ap_gw := ap_in 607 (by decide +kernel) (by decide +kernel)
theorem wd_608 : Cond.code yX11_farBetween cX11_farBetween 2 (some .int) ∈ ap_gw := ap_in 608 (by decide +kernel) (by decide +kernel)
theorem wd_609 : Cond.methodLink RX11 274 Lib.Math.abs.name ∈ ap_gw := ap_in 609 (by decide +kernel) (by decide +kernel)
theorem wd_610 : Cond.static Lib.Math.abs.name ∈ ap_gw := ap_in 610 (by decide +kernel) (by decide +kernel)
theorem wd_611 : Cond.code Lib.Math.abs.name Lib.Math.abs.code 1 (some .int) ∈ ap_gw := ap_in 611 (by decide +kernel) (by decide +kernel)
theorem wd_612 : Cond.methodLink RX11 168 yX3_ifLit ∈ ap_gw := ap_in 612 (by decide +kernel) (by decide +kernel)
theorem wd_613 : Cond.instanceMethod yX3_ifLit ∈ ap_gw := ap_in 613 (by decide +kernel) (by decide +kernel)
theorem wd_614 : Cond.selects RX3 yX3_ifLit yX3_ifLit ∈ ap_gw := ap_in 614 (by decide +kernel) (by decide +kernel)
theorem wd_615 : Cond.code yX3_ifLit cX3_ifLit 5 (some .int) ∈ ap_gw := ap_in 615 (by decide +kernel) (by decide +kernel)
theorem wd_616 : Cond.methodLink RX3 74 yX4_strength ∈ ap_gw := ap_in 616 (by decide +kernel) (by decide +kernel)
theorem wd_617 : Cond.instanceMethod yX4_strength ∈ ap_gw := ap_in 617 (by decide +kernel) (by decide +kernel)
theorem wd_618 : Cond.selects RX4 yX4_strength yX4_strength ∈ ap_gw := ap_in 618 (by decide +kernel) (by decide +kernel)
theorem wd_619 : Cond.sameMethod "CandleLand$Plain" "CandleLand$Plain" "strength" "(II)I" ∈ ap_gw := ap_in 619 (by decide +kernel) (by decide +kernel)
theorem wd_620 : Cond.selects RX0 yX4_strength yX0_strength ∈ ap_gw := ap_in 620 (by decide +kernel) (by decide +kernel)
theorem wd_621 : Cond.instanceMethod yX0_strength ∈ ap_gw := ap_in 621 (by decide +kernel) (by decide +kernel)
theorem wd_622 : Cond.code yX0_strength cX0_strength 3 (some .int) ∈ ap_gw := ap_in 622 (by decide +kernel) (by decide +kernel)
theorem wd_623 : Cond.methodLink RX0 7 yX10_strength ∈ ap_gw := ap_in 623 (by decide +kernel) (by decide +kernel)
theorem wd_624 : Cond.instanceMethod yX10_strength ∈ ap_gw := ap_in 624 (by decide +kernel) (by decide +kernel)
theorem wd_625 : Cond.code yX10_strength cX10_strength 4 (some .int) ∈ ap_gw := ap_in 625 (by decide +kernel) (by decide +kernel)
theorem wd_626 : Cond.methodLink RX10 7 yX4_strength ∈ ap_gw := ap_in 626 (by decide +kernel) (by decide +kernel)
theorem wd_627 : Cond.selects RX1 yX4_strength yX1_strength ∈ ap_gw := ap_in 627 (by decide +kernel) (by decide +kernel)
theorem wd_628 : Cond.instanceMethod yX1_strength ∈ ap_gw := ap_in 628 (by decide +kernel) (by decide +kernel)
theorem wd_629 : Cond.code yX1_strength cX1_strength 3 (some .int) ∈ ap_gw := ap_in 629 (by decide +kernel) (by decide +kernel)
theorem wd_630 : Cond.methodLink RX1 7 yX4_strength ∈ ap_gw := ap_in 630 (by decide +kernel) (by decide +kernel)
theorem wd_631 : Cond.selects RX2 yX4_strength yX1_strength ∈ ap_gw := ap_in 631 (by decide +kernel) (by decide +kernel)
theorem wd_632 : Cond.selects RX7 yX4_strength yX7_strength ∈ ap_gw := ap_in 632 (by decide +kernel) (by decide +kernel)
theorem wd_633 : Cond.instanceMethod yX7_strength ∈ ap_gw := ap_in 633 (by decide +kernel) (by decide +kernel)
theorem wd_634 : Cond.code yX7_strength cX7_strength 3 (some .int) ∈ ap_gw := ap_in 634 (by decide +kernel) (by decide +kernel)
theorem wd_635 : Cond.methodLink RX7 9 yX4_strength ∈ ap_gw := ap_in 635 (by decide +kernel) (by decide +kernel)
theorem wd_636 : Cond.selects RX10 yX4_strength yX10_strength ∈ ap_gw := ap_in 636 (by decide +kernel) (by decide +kernel)
theorem wd_637 : Cond.code yX4_strength cX4_strength 3 (some .int) ∈ ap_gw := ap_in 637 (by decide +kernel) (by decide +kernel)
theorem wd_638 : Cond.methodLink RX3 82 Lib.Math.max.name ∈ ap_gw := ap_in 638 (by decide +kernel) (by decide +kernel)
theorem wd_639 : Cond.static Lib.Math.max.name ∈ ap_gw := ap_in 639 (by decide +kernel) (by decide +kernel)
theorem wd_640 : Cond.code Lib.Math.max.name Lib.Math.max.code 2 (some .int) ∈ ap_gw := ap_in 640 (by decide +kernel) (by decide +kernel)
theorem wd_645 : Cond.methodLink RX11 172 yX3_layCell ∈ ap_gw := ap_in 645 (by decide +kernel) (by decide +kernel)
theorem wd_646 : Cond.instanceMethod yX3_layCell ∈ ap_gw := ap_in 646 (by decide +kernel) (by decide +kernel)
theorem wd_647 : Cond.selects RX3 yX3_layCell yX3_layCell ∈ ap_gw := ap_in 647 (by decide +kernel) (by decide +kernel)
theorem wd_648 : Cond.code yX3_layCell cX3_layCell 4 none ∈ ap_gw := ap_in 648 (by decide +kernel) (by decide +kernel)
theorem wd_649 : Cond.methodLink RX3 90 yX8_farFrom ∈ ap_gw := ap_in 649 (by decide +kernel) (by decide +kernel)
theorem wd_650 : Cond.methodLink RX3 93 yX3_ifLit ∈ ap_gw := ap_in 650 (by decide +kernel) (by decide +kernel)
theorem wd_651 : Cond.methodLink RX11 176 yX3_strongest ∈ ap_gw := ap_in 651 (by decide +kernel) (by decide +kernel)
theorem wd_652 : Cond.instanceMethod yX3_strongest ∈ ap_gw := ap_in 652 (by decide +kernel) (by decide +kernel)
theorem wd_653 : Cond.selects RX3 yX3_strongest yX3_strongest ∈ ap_gw := ap_in 653 (by decide +kernel) (by decide +kernel)
theorem wd_654 : Cond.code yX3_strongest cX3_strongest 5 (some .int) ∈ ap_gw := ap_in 654 (by decide +kernel) (by decide +kernel)
theorem wd_655 : Cond.methodLink RX11 179 yX3_holder ∈ ap_gw := ap_in 655 (by decide +kernel) (by decide +kernel)
theorem wd_656 : Cond.instanceMethod yX3_holder ∈ ap_gw := ap_in 656 (by decide +kernel) (by decide +kernel)
theorem wd_657 : Cond.selects RX3 yX3_holder yX3_holder ∈ ap_gw := ap_in 657 (by decide +kernel) (by decide +kernel)
theorem wd_658 : Cond.code yX3_holder cX3_holder 8 (some .int) ∈ ap_gw := ap_in 658 (by decide +kernel) (by decide +kernel)
theorem wd_663 : Cond.methodLink RX11 183 yX3_layAll ∈ ap_gw := ap_in 663 (by decide +kernel) (by decide +kernel)
theorem wd_664 : Cond.instanceMethod yX3_layAll ∈ ap_gw := ap_in 664 (by decide +kernel) (by decide +kernel)
theorem wd_665 : Cond.selects RX3 yX3_layAll yX3_layAll ∈ ap_gw := ap_in 665 (by decide +kernel) (by decide +kernel)
theorem wd_666 : Cond.code yX3_layAll cX3_layAll 4 none ∈ ap_gw := ap_in 666 (by decide +kernel) (by decide +kernel)
theorem wd_667 : Cond.methodLink RX3 97 yX3_layFar ∈ ap_gw := ap_in 667 (by decide +kernel) (by decide +kernel)
theorem wd_669 : Cond.instanceMethod yX3_layFar ∈ ap_gw := ap_in 669 (by decide +kernel) (by decide +kernel)
theorem wd_670 : Cond.code yX3_layFar cX3_layFar 4 none ∈ ap_gw := ap_in 670 (by decide +kernel) (by decide +kernel)
theorem wd_671 : Cond.methodLink RX11 186 yX3_pick ∈ ap_gw := ap_in 671 (by decide +kernel) (by decide +kernel)
theorem wd_672 : Cond.instanceMethod yX3_pick ∈ ap_gw := ap_in 672 (by decide +kernel) (by decide +kernel)
theorem wd_673 : Cond.selects RX3 yX3_pick yX3_pick ∈ ap_gw := ap_in 673 (by decide +kernel) (by decide +kernel)
theorem wd_674 : Cond.code yX3_pick cX3_pick 5 (some .int) ∈ ap_gw := ap_in 674 (by decide +kernel) (by decide +kernel)
theorem wd_675 : Cond.methodLink RX3 107 yX3_holder ∈ ap_gw := ap_in 675 (by decide +kernel) (by decide +kernel)
theorem wd_684 : Cond.methodLink RX11 189 yX3_reaching ∈ ap_gw := ap_in 684 (by decide +kernel) (by decide +kernel)
theorem wd_685 : Cond.instanceMethod yX3_reaching ∈ ap_gw := ap_in 685 (by decide +kernel) (by decide +kernel)
theorem wd_686 : Cond.selects RX3 yX3_reaching yX3_reaching ∈ ap_gw := ap_in 686 (by decide +kernel) (by decide +kernel)
theorem wd_687 : Cond.code yX3_reaching cX3_reaching 6 (some .int) ∈ ap_gw := ap_in 687 (by decide +kernel) (by decide +kernel)
theorem wd_700 : Cond.methodLink RX11 198 yX6_layWanted ∈ ap_gw := ap_in 700 (by decide +kernel) (by decide +kernel)
theorem wd_701 : Cond.instanceMethod yX6_layWanted ∈ ap_gw := ap_in 701 (by decide +kernel) (by decide +kernel)
theorem wd_702 : Cond.selects RX6 yX6_layWanted yX6_layWanted ∈ ap_gw := ap_in 702 (by decide +kernel) (by decide +kernel)
theorem wd_703 : Cond.code yX6_layWanted cX6_layWanted 4 none ∈ ap_gw := ap_in 703 (by decide +kernel) (by decide +kernel)
theorem wd_704 : Cond.methodLink RX6 48 yX3_reaching ∈ ap_gw := ap_in 704 (by decide +kernel) (by decide +kernel)
theorem wd_705 : Cond.methodLink RX11 201 yX6_fewest ∈ ap_gw := ap_in 705 (by decide +kernel) (by decide +kernel)
theorem wd_706 : Cond.instanceMethod yX6_fewest ∈ ap_gw := ap_in 706 (by decide +kernel) (by decide +kernel)
theorem wd_707 : Cond.selects RX6 yX6_fewest yX6_fewest ∈ ap_gw := ap_in 707 (by decide +kernel) (by decide +kernel)
theorem wd_708 : Cond.code yX6_fewest cX6_fewest 3 (some .int) ∈ ap_gw := ap_in 708 (by decide +kernel) (by decide +kernel)
theorem wd_709 : Cond.methodLink RX6 54 yX6_howManySets ∈ ap_gw := ap_in 709 (by decide +kernel) (by decide +kernel)
theorem wd_711 : Cond.instanceMethod yX6_howManySets ∈ ap_gw := ap_in 711 (by decide +kernel) (by decide +kernel)
theorem wd_712 : Cond.code yX6_howManySets cX6_howManySets 1 (some .int) ∈ ap_gw := ap_in 712 (by decide +kernel) (by decide +kernel)
theorem wd_713 : Cond.methodLink RX6 58 yX6_lightsWanted ∈ ap_gw := ap_in 713 (by decide +kernel) (by decide +kernel)
theorem wd_715 : Cond.instanceMethod yX6_lightsWanted ∈ ap_gw := ap_in 715 (by decide +kernel) (by decide +kernel)
theorem wd_716 : Cond.code yX6_lightsWanted cX6_lightsWanted 3 (some .boolean) ∈ ap_gw := ap_in 716 (by decide +kernel) (by decide +kernel)
theorem wd_717 : Cond.methodLink RX6 62 yJ6_bitCount_0f7a4 ∈ ap_gw := ap_in 717 (by decide +kernel) (by decide +kernel)
theorem wd_718 : Cond.static yJ6_bitCount_0f7a4 ∈ ap_gw := ap_in 718 (by decide +kernel) (by decide +kernel)
theorem wd_719 : Cond.code yJ6_bitCount_0f7a4 cJ6_bitCount_0f7a4 1 (some .int) ∈ ap_gw := ap_in 719 (by decide +kernel) (by decide +kernel)
theorem wd_720 : Cond.constant RJ6 265 (1431655765) ∈ ap_gw := ap_in 720 (by decide +kernel) (by decide +kernel)
theorem wd_721 : Cond.constant RJ6 266 (858993459) ∈ ap_gw := ap_in 721 (by decide +kernel) (by decide +kernel)
theorem wd_722 : Cond.constant RJ6 267 (252645135) ∈ ap_gw := ap_in 722 (by decide +kernel) (by decide +kernel)
theorem wd_727 : Cond.methodLink RX11 204 yX6_leastTallow ∈ ap_gw := ap_in 727 (by decide +kernel) (by decide +kernel)
theorem wd_728 : Cond.instanceMethod yX6_leastTallow ∈ ap_gw := ap_in 728 (by decide +kernel) (by decide +kernel)
theorem wd_729 : Cond.selects RX6 yX6_leastTallow yX6_leastTallow ∈ ap_gw := ap_in 729 (by decide +kernel) (by decide +kernel)
theorem wd_730 : Cond.code yX6_leastTallow cX6_leastTallow 3 (some .int) ∈ ap_gw := ap_in 730 (by decide +kernel) (by decide +kernel)
theorem wd_731 : Cond.methodLink RX6 68 yX6_tallowOf ∈ ap_gw := ap_in 731 (by decide +kernel) (by decide +kernel)
theorem wd_733 : Cond.instanceMethod yX6_tallowOf ∈ ap_gw := ap_in 733 (by decide +kernel) (by decide +kernel)
theorem wd_734 : Cond.code yX6_tallowOf cX6_tallowOf 4 (some .int) ∈ ap_gw := ap_in 734 (by decide +kernel) (by decide +kernel)
theorem wd_739 : Cond.methodLink RX11 207 yX3_bestPlace ∈ ap_gw := ap_in 739 (by decide +kernel) (by decide +kernel)
theorem wd_740 : Cond.instanceMethod yX3_bestPlace ∈ ap_gw := ap_in 740 (by decide +kernel) (by decide +kernel)
theorem wd_741 : Cond.selects RX3 yX3_bestPlace yX3_bestPlace ∈ ap_gw := ap_in 741 (by decide +kernel) (by decide +kernel)
theorem wd_742 : Cond.code yX3_bestPlace cX3_bestPlace 9 (some .int) ∈ ap_gw := ap_in 742 (by decide +kernel) (by decide +kernel)
theorem wd_743 : Cond.methodLink RX3 132 yX8_litAt ∈ ap_gw := ap_in 743 (by decide +kernel) (by decide +kernel)
theorem wd_744 : Cond.methodLink RX3 114 yX3_candlesOf ∈ ap_gw := ap_in 744 (by decide +kernel) (by decide +kernel)
theorem wd_746 : Cond.instanceMethod yX3_candlesOf ∈ ap_gw := ap_in 746 (by decide +kernel) (by decide +kernel)
theorem wd_747 : Cond.code yX3_candlesOf cX3_candlesOf 4 (some .int) ∈ ap_gw := ap_in 747 (by decide +kernel) (by decide +kernel)
theorem wd_748 : Cond.methodLink RX3 135 yX3_strongest ∈ ap_gw := ap_in 748 (by decide +kernel) (by decide +kernel)
theorem wd_749 : Cond.methodLink RX3 138 yX3_acresFrom ∈ ap_gw := ap_in 749 (by decide +kernel) (by decide +kernel)
theorem wd_751 : Cond.instanceMethod yX3_acresFrom ∈ ap_gw := ap_in 751 (by decide +kernel) (by decide +kernel)
theorem wd_752 : Cond.code yX3_acresFrom cX3_acresFrom 4 (some .int) ∈ ap_gw := ap_in 752 (by decide +kernel) (by decide +kernel)
theorem wd_758 : Cond.methodLink RX11 210 yX9_spread ∈ ap_gw := ap_in 758 (by decide +kernel) (by decide +kernel)
theorem wd_759 : Cond.instanceMethod yX9_spread ∈ ap_gw := ap_in 759 (by decide +kernel) (by decide +kernel)
theorem wd_760 : Cond.selects RX9 yX9_spread yX9_spread ∈ ap_gw := ap_in 760 (by decide +kernel) (by decide +kernel)
theorem wd_761 : Cond.code yX9_spread cX9_spread 5 none ∈ ap_gw := ap_in 761 (by decide +kernel) (by decide +kernel)
theorem wd_762 : Cond.methodLink RX9 36 yX3_strongest ∈ ap_gw := ap_in 762 (by decide +kernel) (by decide +kernel)
theorem wd_763 : Cond.methodLink RX9 42 yX9_spreadFrom ∈ ap_gw := ap_in 763 (by decide +kernel) (by decide +kernel)
theorem wd_765 : Cond.instanceMethod yX9_spreadFrom ∈ ap_gw := ap_in 765 (by decide +kernel) (by decide +kernel)
theorem wd_766 : Cond.code yX9_spreadFrom cX9_spreadFrom 6 (some .int) ∈ ap_gw := ap_in 766 (by decide +kernel) (by decide +kernel)
theorem wd_767 : Cond.methodLink RX9 45 yX9_beside ∈ ap_gw := ap_in 767 (by decide +kernel) (by decide +kernel)
theorem wd_768 : Cond.static yX9_beside ∈ ap_gw := ap_in 768 (by decide +kernel) (by decide +kernel)
theorem wd_769 : Cond.code yX9_beside cX9_beside 2 (some .int) ∈ ap_gw := ap_in 769 (by decide +kernel) (by decide +kernel)
theorem wd_770 : Cond.methodLink RX11 213 yX9_stepsFrom ∈ ap_gw := ap_in 770 (by decide +kernel) (by decide +kernel)
theorem wd_771 : Cond.instanceMethod yX9_stepsFrom ∈ ap_gw := ap_in 771 (by decide +kernel) (by decide +kernel)
theorem wd_772 : Cond.selects RX9 yX9_stepsFrom yX9_stepsFrom ∈ ap_gw := ap_in 772 (by decide +kernel) (by decide +kernel)
theorem wd_773 : Cond.code yX9_stepsFrom cX9_stepsFrom 2 (some .int) ∈ ap_gw := ap_in 773 (by decide +kernel) (by decide +kernel)
theorem wd_774 : Cond.methodLink RX11 216 yX9_firstBehind ∈ ap_gw := ap_in 774 (by decide +kernel) (by decide +kernel)
theorem wd_775 : Cond.instanceMethod yX9_firstBehind ∈ ap_gw := ap_in 775 (by decide +kernel) (by decide +kernel)
theorem wd_776 : Cond.selects RX9 yX9_firstBehind yX9_firstBehind ∈ ap_gw := ap_in 776 (by decide +kernel) (by decide +kernel)
theorem wd_777 : Cond.code yX9_firstBehind cX9_firstBehind 4 (some .int) ∈ ap_gw := ap_in 777 (by decide +kernel) (by decide +kernel)
theorem wd_782 : Cond.methodLink RX11 219 yX3_gainByWedding ∈ ap_gw := ap_in 782 (by decide +kernel) (by decide +kernel)
theorem wd_783 : Cond.instanceMethod yX3_gainByWedding ∈ ap_gw := ap_in 783 (by decide +kernel) (by decide +kernel)
theorem wd_784 : Cond.selects RX3 yX3_gainByWedding yX3_gainByWedding ∈ ap_gw := ap_in 784 (by decide +kernel) (by decide +kernel)
theorem wd_785 : Cond.code yX3_gainByWedding cX3_gainByWedding 4 (some .int) ∈ ap_gw := ap_in 785 (by decide +kernel) (by decide +kernel)
theorem wd_786 : Cond.methodLink RX3 111 yX3_acresOf ∈ ap_gw := ap_in 786 (by decide +kernel) (by decide +kernel)
theorem wd_788 : Cond.instanceMethod yX3_acresOf ∈ ap_gw := ap_in 788 (by decide +kernel) (by decide +kernel)
theorem wd_789 : Cond.code yX3_acresOf cX3_acresOf 6 (some .int) ∈ ap_gw := ap_in 789 (by decide +kernel) (by decide +kernel)
theorem wd_794 : Cond.methodLink RX11 222 yX3_resting ∈ ap_gw := ap_in 794 (by decide +kernel) (by decide +kernel)
theorem wd_795 : Cond.instanceMethod yX3_resting ∈ ap_gw := ap_in 795 (by decide +kernel) (by decide +kernel)
theorem wd_796 : Cond.selects RX3 yX3_resting yX3_resting ∈ ap_gw := ap_in 796 (by decide +kernel) (by decide +kernel)
theorem wd_797 : Cond.code yX3_resting cX3_resting 11 (some .int) ∈ ap_gw := ap_in 797 (by decide +kernel) (by decide +kernel)
theorem wd_798 : Cond.methodLink RX3 117 yJ6_bitCount_0f7a4 ∈ ap_gw := ap_in 798 (by decide +kernel) (by decide +kernel)
theorem wd_803 : Cond.methodLink RX11 228 yX8_addReading ∈ ap_gw := ap_in 803 (by decide +kernel) (by decide +kernel)
theorem wd_804 : Cond.instanceMethod yX8_addReading ∈ ap_gw := ap_in 804 (by decide +kernel) (by decide +kernel)
theorem wd_805 : Cond.selects RX8 yX8_addReading yX8_addReading ∈ ap_gw := ap_in 805 (by decide +kernel) (by decide +kernel)
theorem wd_806 : Cond.code yX8_addReading cX8_addReading 4 (some .int) ∈ ap_gw := ap_in 806 (by decide +kernel) (by decide +kernel)
theorem wd_815 : Cond.methodLink RX11 231 yX6_layFitting ∈ ap_gw := ap_in 815 (by decide +kernel) (by decide +kernel)
theorem wd_816 : Cond.instanceMethod yX6_layFitting ∈ ap_gw := ap_in 816 (by decide +kernel) (by decide +kernel)
theorem wd_817 : Cond.selects RX6 yX6_layFitting yX6_layFitting ∈ ap_gw := ap_in 817 (by decide +kernel) (by decide +kernel)
theorem wd_818 : Cond.code yX6_layFitting cX6_layFitting 7 none ∈ ap_gw := ap_in 818 (by decide +kernel) (by decide +kernel)
theorem wd_819 : Cond.methodLink RX11 237 yX6_inAll ∈ ap_gw := ap_in 819 (by decide +kernel) (by decide +kernel)
theorem wd_820 : Cond.instanceMethod yX6_inAll ∈ ap_gw := ap_in 820 (by decide +kernel) (by decide +kernel)
theorem wd_821 : Cond.selects RX6 yX6_inAll yX6_inAll ∈ ap_gw := ap_in 821 (by decide +kernel) (by decide +kernel)
theorem wd_822 : Cond.code yX6_inAll cX6_inAll 3 (some .int) ∈ ap_gw := ap_in 822 (by decide +kernel) (by decide +kernel)
theorem wd_827 : Cond.methodLink RX11 240 yX6_bestCell ∈ ap_gw := ap_in 827 (by decide +kernel) (by decide +kernel)
theorem wd_828 : Cond.instanceMethod yX6_bestCell ∈ ap_gw := ap_in 828 (by decide +kernel) (by decide +kernel)
theorem wd_829 : Cond.selects RX6 yX6_bestCell yX6_bestCell ∈ ap_gw := ap_in 829 (by decide +kernel) (by decide +kernel)
theorem wd_830 : Cond.code yX6_bestCell cX6_bestCell 5 (some .int) ∈ ap_gw := ap_in 830 (by decide +kernel) (by decide +kernel)
theorem wd_831 : Cond.methodLink RX6 86 yX6_mostAlike ∈ ap_gw := ap_in 831 (by decide +kernel) (by decide +kernel)
theorem wd_833 : Cond.instanceMethod yX6_mostAlike ∈ ap_gw := ap_in 833 (by decide +kernel) (by decide +kernel)
theorem wd_834 : Cond.code yX6_mostAlike cX6_mostAlike 5 (some .int) ∈ ap_gw := ap_in 834 (by decide +kernel) (by decide +kernel)
theorem wd_835 : Cond.methodLink RX6 89 yX6_layLight ∈ ap_gw := ap_in 835 (by decide +kernel) (by decide +kernel)
theorem wd_837 : Cond.instanceMethod yX6_layLight ∈ ap_gw := ap_in 837 (by decide +kernel) (by decide +kernel)
theorem wd_838 : Cond.code yX6_layLight cX6_layLight 6 none ∈ ap_gw := ap_in 838 (by decide +kernel) (by decide +kernel)
theorem wd_839 : Cond.methodLink RX6 93 Lib.Math.max.name ∈ ap_gw := ap_in 839 (by decide +kernel) (by decide +kernel)
theorem wd_844 : Cond.methodLink RX11 243 yX11_keepFraction ∈ ap_gw := ap_in 844 (by decide +kernel) (by decide +kernel)
theorem wd_846 : Cond.instanceMethod yX11_keepFraction ∈ ap_gw := ap_in 846 (by decide +kernel) (by decide +kernel)
theorem wd_847 : Cond.code yX11_keepFraction cX11_keepFraction 7 none ∈ ap_gw := ap_in 847 (by decide +kernel) (by decide +kernel)
theorem wd_848 : Cond.methodLink RX11 270 yX11_divisor ∈ ap_gw := ap_in 848 (by decide +kernel) (by decide +kernel)
theorem wd_849 : Cond.static yX11_divisor ∈ ap_gw := ap_in 849 (by decide +kernel) (by decide +kernel)
theorem wd_850 : Cond.code yX11_divisor cX11_divisor 11 (some .long) ∈ ap_gw := ap_in 850 (by decide +kernel) (by decide +kernel)
theorem wd_851 : Cond.methodLink RX11 247 yJ6_bitCount_0f7a4 ∈ ap_gw := ap_in 851 (by decide +kernel) (by decide +kernel)
theorem wd_852 : Cond.constantLong RX11 252 (10) ∈ ap_gw := ap_in 852 (by decide +kernel) (by decide +kernel)
theorem wd_857 : Cond.constant RX11 254 (999999) ∈ ap_gw := ap_in 857 (by decide +kernel) (by decide +kernel)
theorem wd_858 : Cond.methodLink RX11 255 yX3_acresOfNights ∈ ap_gw := ap_in 858 (by decide +kernel) (by decide +kernel)
theorem wd_859 : Cond.instanceMethod yX3_acresOfNights ∈ ap_gw := ap_in 859 (by decide +kernel) (by decide +kernel)
theorem wd_860 : Cond.selects RX3 yX3_acresOfNights yX3_acresOfNights ∈ ap_gw := ap_in 860 (by decide +kernel) (by decide +kernel)
theorem wd_861 : Cond.code yX3_acresOfNights cX3_acresOfNights 11 (some .int) ∈ ap_gw := ap_in 861 (by decide +kernel) (by decide +kernel)
theorem wd_862 : Cond.constantLong RX3 122 (1103515245) ∈ ap_gw := ap_in 862 (by decide +kernel) (by decide +kernel)
theorem wd_863 : Cond.constantLong RX3 124 (12345) ∈ ap_gw := ap_in 863 (by decide +kernel) (by decide +kernel)
theorem wd_864 : Cond.constantLong RX3 126 (2147483648) ∈ ap_gw := ap_in 864 (by decide +kernel) (by decide +kernel)
theorem wd_865 : Cond.constantLong RX3 128 (65536) ∈ ap_gw := ap_in 865 (by decide +kernel) (by decide +kernel)
theorem wd_866 : Cond.constantLong RX3 130 (100) ∈ ap_gw := ap_in 866 (by decide +kernel) (by decide +kernel)
theorem wd_887 : Cond.methodLink RX11 259 yX11_howMany ∈ ap_gw := ap_in 887 (by decide +kernel) (by decide +kernel)
theorem wd_889 : Cond.instanceMethod yX11_howMany ∈ ap_gw := ap_in 889 (by decide +kernel) (by decide +kernel)
theorem wd_890 : Cond.code yX11_howMany cX11_howMany 2 (some .int) ∈ ap_gw := ap_in 890 (by decide +kernel) (by decide +kernel)
theorem wd_895 : Cond.constantLong RX11 262 (991) ∈ ap_gw := ap_in 895 (by decide +kernel) (by decide +kernel)
theorem wd_896 : Cond.constantLong RX11 264 (31) ∈ ap_gw := ap_in 896 (by decide +kernel) (by decide +kernel)
theorem wd_897 : Cond.methodLink RX11 266 yX8_mix ∈ ap_gw := ap_in 897 (by decide +kernel) (by decide +kernel)
theorem wd_898 : Cond.instanceMethod yX8_mix ∈ ap_gw := ap_in 898 (by decide +kernel) (by decide +kernel)
theorem wd_899 : Cond.selects RX8 yX8_mix yX8_mix ∈ ap_gw := ap_in 899 (by decide +kernel) (by decide +kernel)
theorem wd_900 : Cond.code yX8_mix cX8_mix 6 (some .long) ∈ ap_gw := ap_in 900 (by decide +kernel) (by decide +kernel)
theorem wd_901 : Cond.constantLong RX8 74 (31) ∈ ap_gw := ap_in 901 (by decide +kernel) (by decide +kernel)
theorem wd_908 : Cond.fieldLink RX12 7 "CandleLandModel" "now" "[I" ∈ ap_gw := ap_in 908 (by decide +kernel) (by decide +kernel)
theorem wd_909 : Cond.fieldLink RX12 13 "CandleLandModel" "kept" "[I" ∈ ap_gw := ap_in 909 (by decide +kernel) (by decide +kernel)
theorem wd_910 : Cond.fieldLink RX12 16 "CandleLandModel" "isKept" "[Z" ∈ ap_gw := ap_in 910 (by decide +kernel) (by decide +kernel)
theorem wd_911 : Cond.fieldLink RX12 20 "CandleLandModel" "refused" "[I" ∈ ap_gw := ap_in 911 (by decide +kernel) (by decide +kernel)
theorem wd_912 : Cond.fieldLink RX12 207 "CandleLandModel" "above" "J" ∈ ap_gw := ap_in 912 (by decide +kernel) (by decide +kernel)
theorem wd_913 : Cond.fieldLink RX12 23 "CandleLandModel" "below" "J" ∈ ap_gw := ap_in 913 (by decide +kernel) (by decide +kernel)
theorem wd_914 : Cond.fieldLink RX12 126 "CandleLandModel" "lit" "I" ∈ ap_gw := ap_in 914 (by decide +kernel) (by decide +kernel)
theorem wd_915 : Cond.fieldLink RX12 27 "CandleLandModel" "cells" "[I" ∈ ap_gw := ap_in 915 (by decide +kernel) (by decide +kernel)
theorem wd_916 : Cond.fieldLink RX12 30 "CandleLandModel" "owners" "[I" ∈ ap_gw := ap_in 916 (by decide +kernel) (by decide +kernel)
theorem wd_917 : Cond.fieldLink RX12 33 "CandleLandModel" "steps" "[I" ∈ ap_gw := ap_in 917 (by decide +kernel) (by decide +kernel)
theorem wd_918 : Cond.fieldLink RX12 36 "CandleLandModel" "getsOne" "[I" ∈ ap_gw := ap_in 918 (by decide +kernel) (by decide +kernel)
theorem wd_919 : Cond.fieldLink RX12 39 "CandleLandModel" "getsOther" "[I" ∈ ap_gw := ap_in 919 (by decide +kernel) (by decide +kernel)
theorem wd_920 : Cond.fieldLink RX12 42 "CandleLandModel" "fits" "[Z" ∈ ap_gw := ap_in 920 (by decide +kernel) (by decide +kernel)
theorem wd_921 : Cond.fieldLink RX12 45 "CandleLandModel" "manyLike" "[I" ∈ ap_gw := ap_in 921 (by decide +kernel) (by decide +kernel)
theorem wd_922 : Cond.fieldLink RX12 194 "CandleLandModel" "manyFit" "I" ∈ ap_gw := ap_in 922 (by decide +kernel) (by decide +kernel)
theorem wd_923 : Cond.fieldLink RX12 48 "CandleLandModel" "bytes" "[I" ∈ ap_gw := ap_in 923 (by decide +kernel) (by decide +kernel)
theorem wd_924 : Cond.fieldLink RX12 232 "CandleLandModel" "bytesLong" "I" ∈ ap_gw := ap_in 924 (by decide +kernel) (by decide +kernel)
theorem wd_925 : Cond.fieldLink RX12 243 "CandleLandModel" "tokenAt" "I" ∈ ap_gw := ap_in 925 (by decide +kernel) (by decide +kernel)
theorem wd_926 : Cond.fieldLink RX12 246 "CandleLandModel" "tokenLong" "I" ∈ ap_gw := ap_in 926 (by decide +kernel) (by decide +kernel)
theorem wd_927 : Cond.fieldLink RX12 249 "CandleLandModel" "token" "I" ∈ ap_gw := ap_in 927 (by decide +kernel) (by decide +kernel)
theorem wd_928 : Cond.fieldLink RX12 252 "CandleLandModel" "value" "I" ∈ ap_gw := ap_in 928 (by decide +kernel) (by decide +kernel)
theorem wd_929 : Cond.fieldLink RX12 51 "CandleLandModel" "anew" "[I" ∈ ap_gw := ap_in 929 (by decide +kernel) (by decide +kernel)
theorem wd_930 : Cond.fieldLink RX12 54 "CandleLandModel" "values" "[I" ∈ ap_gw := ap_in 930 (by decide +kernel) (by decide +kernel)
theorem wd_982 : Cond.constantLong RX12 73 (9) ∈ ap_gw := ap_in 982 (by decide +kernel) (by decide +kernel)
theorem wd_983 : Cond.methodLink RX12 61 yX12_in ∈ ap_gw := ap_in 983 (by decide +kernel) (by decide +kernel)
theorem wd_984 : Cond.static yX12_in ∈ ap_gw := ap_in 984 (by decide +kernel) (by decide +kernel)
theorem wd_985 : Cond.code yX12_in cX12_in 6 (some .boolean) ∈ ap_gw := ap_in 985 (by decide +kernel) (by decide +kernel)
theorem wd_986 : Cond.methodLink RX12 75 yX12_bad ∈ ap_gw := ap_in 986 (by decide +kernel) (by decide +kernel)
theorem wd_988 : Cond.instanceMethod yX12_bad ∈ ap_gw := ap_in 988 (by decide +kernel) (by decide +kernel)
theorem wd_989 : Cond.code yX12_bad cX12_bad 2 (some .int) ∈ ap_gw := ap_in 989 (by decide +kernel) (by decide +kernel)
theorem wd_990 : Cond.methodLink RX12 57 yX12_candles ∈ ap_gw := ap_in 990 (by decide +kernel) (by decide +kernel)
theorem wd_992 : Cond.instanceMethod yX12_candles ∈ ap_gw := ap_in 992 (by decide +kernel) (by decide +kernel)
theorem wd_993 : Cond.code yX12_candles cX12_candles 1 (some .int) ∈ ap_gw := ap_in 993 (by decide +kernel) (by decide +kernel)
theorem wd_994 : Cond.methodLink RX12 79 yX12_begin ∈ ap_gw := ap_in 994 (by decide +kernel) (by decide +kernel)
theorem wd_995 : Cond.static yX12_begin ∈ ap_gw := ap_in 995 (by decide +kernel) (by decide +kernel)
theorem wd_996 : Cond.code yX12_begin cX12_begin 3 none ∈ ap_gw := ap_in 996 (by decide +kernel) (by decide +kernel)
theorem wd_1005 : Cond.constantLong RX12 83 (5) ∈ ap_gw := ap_in 1005 (by decide +kernel) (by decide +kernel)
theorem wd_1006 : Cond.methodLink RX12 85 yX12_isCell ∈ ap_gw := ap_in 1006 (by decide +kernel) (by decide +kernel)
theorem wd_1007 : Cond.static yX12_isCell ∈ ap_gw := ap_in 1007 (by decide +kernel) (by decide +kernel)
theorem wd_1008 : Cond.code yX12_isCell cX12_isCell 1 (some .boolean) ∈ ap_gw := ap_in 1008 (by decide +kernel) (by decide +kernel)
theorem wd_1009 : Cond.constantLong RX12 65 (63) ∈ ap_gw := ap_in 1009 (by decide +kernel) (by decide +kernel)
theorem wd_1010 : Cond.methodLink RX12 89 yX12_isLight ∈ ap_gw := ap_in 1010 (by decide +kernel) (by decide +kernel)
theorem wd_1011 : Cond.static yX12_isLight ∈ ap_gw := ap_in 1011 (by decide +kernel) (by decide +kernel)
theorem wd_1012 : Cond.code yX12_isLight cX12_isLight 1 (some .boolean) ∈ ap_gw := ap_in 1012 (by decide +kernel) (by decide +kernel)
theorem wd_1013 : Cond.constantLong RX12 71 (20) ∈ ap_gw := ap_in 1013 (by decide +kernel) (by decide +kernel)
theorem wd_1014 : Cond.methodLink RX12 92 yX12_isOwner ∈ ap_gw := ap_in 1014 (by decide +kernel) (by decide +kernel)
theorem wd_1015 : Cond.static yX12_isOwner ∈ ap_gw := ap_in 1015 (by decide +kernel) (by decide +kernel)
theorem wd_1016 : Cond.code yX12_isOwner cX12_isOwner 1 (some .boolean) ∈ ap_gw := ap_in 1016 (by decide +kernel) (by decide +kernel)
theorem wd_1017 : Cond.constantLong RX12 69 (3) ∈ ap_gw := ap_in 1017 (by decide +kernel) (by decide +kernel)
theorem wd_1018 : Cond.constantLong RX12 95 (12) ∈ ap_gw := ap_in 1018 (by decide +kernel) (by decide +kernel)
theorem wd_1019 : Cond.methodLink RX12 97 yX12_full ∈ ap_gw := ap_in 1019 (by decide +kernel) (by decide +kernel)
theorem wd_1021 : Cond.instanceMethod yX12_full ∈ ap_gw := ap_in 1021 (by decide +kernel) (by decide +kernel)
theorem wd_1022 : Cond.code yX12_full cX12_full 1 (some .int) ∈ ap_gw := ap_in 1022 (by decide +kernel) (by decide +kernel)
theorem wd_1023 : Cond.methodLink RX12 100 yX12_layCandle ∈ ap_gw := ap_in 1023 (by decide +kernel) (by decide +kernel)
theorem wd_1024 : Cond.static yX12_layCandle ∈ ap_gw := ap_in 1024 (by decide +kernel) (by decide +kernel)
theorem wd_1025 : Cond.code yX12_layCandle cX12_layCandle 7 none ∈ ap_gw := ap_in 1025 (by decide +kernel) (by decide +kernel)
theorem wd_1030 : Cond.methodLink RX12 108 yX12_isCandle ∈ ap_gw := ap_in 1030 (by decide +kernel) (by decide +kernel)
theorem wd_1032 : Cond.instanceMethod yX12_isCandle ∈ ap_gw := ap_in 1032 (by decide +kernel) (by decide +kernel)
theorem wd_1033 : Cond.code yX12_isCandle cX12_isCandle 2 (some .boolean) ∈ ap_gw := ap_in 1033 (by decide +kernel) (by decide +kernel)
theorem wd_1034 : Cond.methodLink RX12 104 yX12_get ∈ ap_gw := ap_in 1034 (by decide +kernel) (by decide +kernel)
theorem wd_1036 : Cond.instanceMethod yX12_get ∈ ap_gw := ap_in 1036 (by decide +kernel) (by decide +kernel)
theorem wd_1037 : Cond.code yX12_get cX12_get 3 (some .int) ∈ ap_gw := ap_in 1037 (by decide +kernel) (by decide +kernel)
theorem wd_1038 : Cond.methodLink RX12 111 yX12_keep ∈ ap_gw := ap_in 1038 (by decide +kernel) (by decide +kernel)
theorem wd_1040 : Cond.instanceMethod yX12_keep ∈ ap_gw := ap_in 1040 (by decide +kernel) (by decide +kernel)
theorem wd_1041 : Cond.code yX12_keep cX12_keep 3 none ∈ ap_gw := ap_in 1041 (by decide +kernel) (by decide +kernel)
theorem wd_1046 : Cond.methodLink RX12 114 yX12_no ∈ ap_gw := ap_in 1046 (by decide +kernel) (by decide +kernel)
theorem wd_1048 : Cond.instanceMethod yX12_no ∈ ap_gw := ap_in 1048 (by decide +kernel) (by decide +kernel)
theorem wd_1049 : Cond.code yX12_no cX12_no 1 (some .int) ∈ ap_gw := ap_in 1049 (by decide +kernel) (by decide +kernel)
theorem wd_1058 : Cond.constantLong RX12 149 (6) ∈ ap_gw := ap_in 1058 (by decide +kernel) (by decide +kernel)
theorem wd_1059 : Cond.methodLink RX12 130 yX12_burnsFor ∈ ap_gw := ap_in 1059 (by decide +kernel) (by decide +kernel)
theorem wd_1060 : Cond.static yX12_burnsFor ∈ ap_gw := ap_in 1060 (by decide +kernel) (by decide +kernel)
theorem wd_1061 : Cond.code yX12_burnsFor cX12_burnsFor 2 (some .int) ∈ ap_gw := ap_in 1061 (by decide +kernel) (by decide +kernel)
theorem wd_1066 : Cond.methodLink RX12 151 yX12_isHour ∈ ap_gw := ap_in 1066 (by decide +kernel) (by decide +kernel)
theorem wd_1067 : Cond.static yX12_isHour ∈ ap_gw := ap_in 1067 (by decide +kernel) (by decide +kernel)
theorem wd_1068 : Cond.code yX12_isHour cX12_isHour 1 (some .boolean) ∈ ap_gw := ap_in 1068 (by decide +kernel) (by decide +kernel)
theorem wd_1069 : Cond.constantLong RX12 67 (11) ∈ ap_gw := ap_in 1069 (by decide +kernel) (by decide +kernel)
theorem wd_1070 : Cond.methodLink RX12 154 yX12_layHand ∈ ap_gw := ap_in 1070 (by decide +kernel) (by decide +kernel)
theorem wd_1072 : Cond.instanceMethod yX12_layHand ∈ ap_gw := ap_in 1072 (by decide +kernel) (by decide +kernel)
theorem wd_1073 : Cond.code yX12_layHand cX12_layHand 2 none ∈ ap_gw := ap_in 1073 (by decide +kernel) (by decide +kernel)
theorem wd_1074 : Cond.methodLink RX12 140 yX12_lightOf ∈ ap_gw := ap_in 1074 (by decide +kernel) (by decide +kernel)
theorem wd_1076 : Cond.instanceMethod yX12_lightOf ∈ ap_gw := ap_in 1076 (by decide +kernel) (by decide +kernel)
theorem wd_1077 : Cond.code yX12_lightOf cX12_lightOf 7 (some .int) ∈ ap_gw := ap_in 1077 (by decide +kernel) (by decide +kernel)
theorem wd_1078 : Cond.methodLink RX12 133 yX12_far ∈ ap_gw := ap_in 1078 (by decide +kernel) (by decide +kernel)
theorem wd_1079 : Cond.static yX12_far ∈ ap_gw := ap_in 1079 (by decide +kernel) (by decide +kernel)
theorem wd_1080 : Cond.code yX12_far cX12_far 2 (some .int) ∈ ap_gw := ap_in 1080 (by decide +kernel) (by decide +kernel)
theorem wd_1081 : Cond.methodLink RX12 123 yX12_apart ∈ ap_gw := ap_in 1081 (by decide +kernel) (by decide +kernel)
theorem wd_1082 : Cond.static yX12_apart ∈ ap_gw := ap_in 1082 (by decide +kernel) (by decide +kernel)
theorem wd_1083 : Cond.code yX12_apart cX12_apart 2 (some .int) ∈ ap_gw := ap_in 1083 (by decide +kernel) (by decide +kernel)
theorem wd_1084 : Cond.methodLink RX12 136 yX12_strength ∈ ap_gw := ap_in 1084 (by decide +kernel) (by decide +kernel)
theorem wd_1085 : Cond.static yX12_strength ∈ ap_gw := ap_in 1085 (by decide +kernel) (by decide +kernel)
theorem wd_1086 : Cond.code yX12_strength cX12_strength 3 (some .int) ∈ ap_gw := ap_in 1086 (by decide +kernel) (by decide +kernel)
theorem wd_1087 : Cond.methodLink RX12 117 yX12_wick ∈ ap_gw := ap_in 1087 (by decide +kernel) (by decide +kernel)
theorem wd_1088 : Cond.static yX12_wick ∈ ap_gw := ap_in 1088 (by decide +kernel) (by decide +kernel)
theorem wd_1089 : Cond.code yX12_wick cX12_wick 2 (some .int) ∈ ap_gw := ap_in 1089 (by decide +kernel) (by decide +kernel)
theorem wd_1090 : Cond.methodLink RX12 120 yX12_plain ∈ ap_gw := ap_in 1090 (by decide +kernel) (by decide +kernel)
theorem wd_1091 : Cond.static yX12_plain ∈ ap_gw := ap_in 1091 (by decide +kernel) (by decide +kernel)
theorem wd_1092 : Cond.code yX12_plain cX12_plain 2 (some .int) ∈ ap_gw := ap_in 1092 (by decide +kernel) (by decide +kernel)
theorem wd_1097 : Cond.constantLong RX12 157 (2) ∈ ap_gw := ap_in 1097 (by decide +kernel) (by decide +kernel)
theorem wd_1098 : Cond.methodLink RX12 146 yX12_whose ∈ ap_gw := ap_in 1098 (by decide +kernel) (by decide +kernel)
theorem wd_1100 : Cond.instanceMethod yX12_whose ∈ ap_gw := ap_in 1100 (by decide +kernel) (by decide +kernel)
theorem wd_1101 : Cond.code yX12_whose cX12_whose 7 (some .int) ∈ ap_gw := ap_in 1101 (by decide +kernel) (by decide +kernel)
theorem wd_1102 : Cond.methodLink RX12 143 yX12_lightIn ∈ ap_gw := ap_in 1102 (by decide +kernel) (by decide +kernel)
theorem wd_1104 : Cond.instanceMethod yX12_lightIn ∈ ap_gw := ap_in 1104 (by decide +kernel) (by decide +kernel)
theorem wd_1105 : Cond.code yX12_lightIn cX12_lightIn 6 (some .int) ∈ ap_gw := ap_in 1105 (by decide +kernel) (by decide +kernel)
theorem wd_1110 : Cond.methodLink RX12 159 yX12_listOf ∈ ap_gw := ap_in 1110 (by decide +kernel) (by decide +kernel)
theorem wd_1112 : Cond.instanceMethod yX12_listOf ∈ ap_gw := ap_in 1112 (by decide +kernel) (by decide +kernel)
theorem wd_1113 : Cond.code yX12_listOf cX12_listOf 7 (some .int) ∈ ap_gw := ap_in 1113 (by decide +kernel) (by decide +kernel)
theorem wd_1134 : Cond.methodLink RX12 162 yX12_bits ∈ ap_gw := ap_in 1134 (by decide +kernel) (by decide +kernel)
theorem wd_1135 : Cond.static yX12_bits ∈ ap_gw := ap_in 1135 (by decide +kernel) (by decide +kernel)
theorem wd_1136 : Cond.code yX12_bits cX12_bits 3 (some .int) ∈ ap_gw := ap_in 1136 (by decide +kernel) (by decide +kernel)
theorem wd_1137 : Cond.methodLink RX12 165 yX12_areLight ∈ ap_gw := ap_in 1137 (by decide +kernel) (by decide +kernel)
theorem wd_1139 : Cond.instanceMethod yX12_areLight ∈ ap_gw := ap_in 1139 (by decide +kernel) (by decide +kernel)
theorem wd_1140 : Cond.code yX12_areLight cX12_areLight 5 (some .boolean) ∈ ap_gw := ap_in 1140 (by decide +kernel) (by decide +kernel)
theorem wd_1145 : Cond.methodLink RX12 169 yX12_tallowOf ∈ ap_gw := ap_in 1145 (by decide +kernel) (by decide +kernel)
theorem wd_1147 : Cond.instanceMethod yX12_tallowOf ∈ ap_gw := ap_in 1147 (by decide +kernel) (by decide +kernel)
theorem wd_1148 : Cond.code yX12_tallowOf cX12_tallowOf 4 (some .int) ∈ ap_gw := ap_in 1148 (by decide +kernel) (by decide +kernel)
theorem wd_1153 : Cond.methodLink RX12 172 yX12_acresOf ∈ ap_gw := ap_in 1153 (by decide +kernel) (by decide +kernel)
theorem wd_1155 : Cond.instanceMethod yX12_acresOf ∈ ap_gw := ap_in 1155 (by decide +kernel) (by decide +kernel)
theorem wd_1156 : Cond.code yX12_acresOf cX12_acresOf 5 (some .int) ∈ ap_gw := ap_in 1156 (by decide +kernel) (by decide +kernel)
theorem wd_1161 : Cond.methodLink RX12 179 yX12_laySteps ∈ ap_gw := ap_in 1161 (by decide +kernel) (by decide +kernel)
theorem wd_1163 : Cond.instanceMethod yX12_laySteps ∈ ap_gw := ap_in 1163 (by decide +kernel) (by decide +kernel)
theorem wd_1164 : Cond.code yX12_laySteps cX12_laySteps 9 none ∈ ap_gw := ap_in 1164 (by decide +kernel) (by decide +kernel)
theorem wd_1165 : Cond.constant RX12 175 (1000000) ∈ ap_gw := ap_in 1165 (by decide +kernel) (by decide +kernel)
theorem wd_1166 : Cond.methodLink RX12 176 yX12_isBeside ∈ ap_gw := ap_in 1166 (by decide +kernel) (by decide +kernel)
theorem wd_1168 : Cond.instanceMethod yX12_isBeside ∈ ap_gw := ap_in 1168 (by decide +kernel) (by decide +kernel)
theorem wd_1169 : Cond.code yX12_isBeside cX12_isBeside 3 (some .boolean) ∈ ap_gw := ap_in 1169 (by decide +kernel) (by decide +kernel)
theorem wd_1178 : Cond.constantLong RX12 186 (99) ∈ ap_gw := ap_in 1178 (by decide +kernel) (by decide +kernel)
theorem wd_1179 : Cond.methodLink RX12 188 yX12_layGets ∈ ap_gw := ap_in 1179 (by decide +kernel) (by decide +kernel)
theorem wd_1181 : Cond.instanceMethod yX12_layGets ∈ ap_gw := ap_in 1181 (by decide +kernel) (by decide +kernel)
theorem wd_1182 : Cond.code yX12_layGets cX12_layGets 9 none ∈ ap_gw := ap_in 1182 (by decide +kernel) (by decide +kernel)
theorem wd_1183 : Cond.methodLink RX12 183 yX12_ownOf ∈ ap_gw := ap_in 1183 (by decide +kernel) (by decide +kernel)
theorem wd_1185 : Cond.instanceMethod yX12_ownOf ∈ ap_gw := ap_in 1185 (by decide +kernel) (by decide +kernel)
theorem wd_1186 : Cond.code yX12_ownOf cX12_ownOf 4 (some .int) ∈ ap_gw := ap_in 1186 (by decide +kernel) (by decide +kernel)
theorem wd_1191 : Cond.constantLong RX12 192 (23) ∈ ap_gw := ap_in 1191 (by decide +kernel) (by decide +kernel)
theorem wd_1200 : Cond.methodLink RX12 201 yX12_layFits ∈ ap_gw := ap_in 1200 (by decide +kernel) (by decide +kernel)
theorem wd_1202 : Cond.instanceMethod yX12_layFits ∈ ap_gw := ap_in 1202 (by decide +kernel) (by decide +kernel)
theorem wd_1203 : Cond.code yX12_layFits cX12_layFits 2 none ∈ ap_gw := ap_in 1203 (by decide +kernel) (by decide +kernel)
theorem wd_1204 : Cond.methodLink RX12 197 yX12_areSo ∈ ap_gw := ap_in 1204 (by decide +kernel) (by decide +kernel)
theorem wd_1206 : Cond.instanceMethod yX12_areSo ∈ ap_gw := ap_in 1206 (by decide +kernel) (by decide +kernel)
theorem wd_1207 : Cond.code yX12_areSo cX12_areSo 4 (some .boolean) ∈ ap_gw := ap_in 1207 (by decide +kernel) (by decide +kernel)
theorem wd_1212 : Cond.methodLink RX12 204 yX12_mostLike ∈ ap_gw := ap_in 1212 (by decide +kernel) (by decide +kernel)
theorem wd_1214 : Cond.instanceMethod yX12_mostLike ∈ ap_gw := ap_in 1214 (by decide +kernel) (by decide +kernel)
theorem wd_1215 : Cond.code yX12_mostLike cX12_mostLike 6 (some .int) ∈ ap_gw := ap_in 1215 (by decide +kernel) (by decide +kernel)
theorem wd_1220 : Cond.constantLong RX12 210 (10) ∈ ap_gw := ap_in 1220 (by decide +kernel) (by decide +kernel)
theorem wd_1221 : Cond.methodLink RX12 212 yX12_fraction ∈ ap_gw := ap_in 1221 (by decide +kernel) (by decide +kernel)
theorem wd_1223 : Cond.instanceMethod yX12_fraction ∈ ap_gw := ap_in 1223 (by decide +kernel) (by decide +kernel)
theorem wd_1224 : Cond.code yX12_fraction cX12_fraction 11 none ∈ ap_gw := ap_in 1224 (by decide +kernel) (by decide +kernel)
theorem wd_1229 : Cond.constantLong RX12 216 (999999) ∈ ap_gw := ap_in 1229 (by decide +kernel) (by decide +kernel)
theorem wd_1230 : Cond.constantLong RX12 218 (30) ∈ ap_gw := ap_in 1230 (by decide +kernel) (by decide +kernel)
theorem wd_1231 : Cond.constantLong RX12 220 (100) ∈ ap_gw := ap_in 1231 (by decide +kernel) (by decide +kernel)
theorem wd_1232 : Cond.constantLong RX12 222 (1103515245) ∈ ap_gw := ap_in 1232 (by decide +kernel) (by decide +kernel)
theorem wd_1233 : Cond.constantLong RX12 224 (12345) ∈ ap_gw := ap_in 1233 (by decide +kernel) (by decide +kernel)
theorem wd_1234 : Cond.constantLong RX12 226 (2147483648) ∈ ap_gw := ap_in 1234 (by decide +kernel) (by decide +kernel)
theorem wd_1235 : Cond.constantLong RX12 228 (65536) ∈ ap_gw := ap_in 1235 (by decide +kernel) (by decide +kernel)
theorem wd_1240 : Cond.constantLong RX12 230 (127) ∈ ap_gw := ap_in 1240 (by decide +kernel) (by decide +kernel)
theorem wd_1249 : Cond.methodLink RX12 261 yX12_lookAt ∈ ap_gw := ap_in 1249 (by decide +kernel) (by decide +kernel)
theorem wd_1251 : Cond.instanceMethod yX12_lookAt ∈ ap_gw := ap_in 1251 (by decide +kernel) (by decide +kernel)
theorem wd_1252 : Cond.code yX12_lookAt cX12_lookAt 5 none ∈ ap_gw := ap_in 1252 (by decide +kernel) (by decide +kernel)
theorem wd_1253 : Cond.methodLink RX12 255 yX12_isSmall ∈ ap_gw := ap_in 1253 (by decide +kernel) (by decide +kernel)
theorem wd_1254 : Cond.static yX12_isSmall ∈ ap_gw := ap_in 1254 (by decide +kernel) (by decide +kernel)
theorem wd_1255 : Cond.code yX12_isSmall cX12_isSmall 1 (some .boolean) ∈ ap_gw := ap_in 1255 (by decide +kernel) (by decide +kernel)
theorem wd_1256 : Cond.constantLong RX12 235 (97) ∈ ap_gw := ap_in 1256 (by decide +kernel) (by decide +kernel)
theorem wd_1257 : Cond.constantLong RX12 237 (122) ∈ ap_gw := ap_in 1257 (by decide +kernel) (by decide +kernel)
theorem wd_1258 : Cond.methodLink RX12 258 yX12_isFigure ∈ ap_gw := ap_in 1258 (by decide +kernel) (by decide +kernel)
theorem wd_1259 : Cond.static yX12_isFigure ∈ ap_gw := ap_in 1259 (by decide +kernel) (by decide +kernel)
theorem wd_1260 : Cond.code yX12_isFigure cX12_isFigure 1 (some .boolean) ∈ ap_gw := ap_in 1260 (by decide +kernel) (by decide +kernel)
theorem wd_1261 : Cond.constantLong RX12 239 (48) ∈ ap_gw := ap_in 1261 (by decide +kernel) (by decide +kernel)
theorem wd_1262 : Cond.constantLong RX12 241 (57) ∈ ap_gw := ap_in 1262 (by decide +kernel) (by decide +kernel)
theorem wd_1263 : Cond.methodLink RX12 282 yX12_takesFirst ∈ ap_gw := ap_in 1263 (by decide +kernel) (by decide +kernel)
theorem wd_1265 : Cond.instanceMethod yX12_takesFirst ∈ ap_gw := ap_in 1265 (by decide +kernel) (by decide +kernel)
theorem wd_1266 : Cond.code yX12_takesFirst cX12_takesFirst 1 (some .boolean) ∈ ap_gw := ap_in 1266 (by decide +kernel) (by decide +kernel)
theorem wd_1267 : Cond.methodLink RX12 268 yX12_isCalled ∈ ap_gw := ap_in 1267 (by decide +kernel) (by decide +kernel)
theorem wd_1269 : Cond.instanceMethod yX12_isCalled ∈ ap_gw := ap_in 1269 (by decide +kernel) (by decide +kernel)
theorem wd_1270 : Cond.code yX12_isCalled cX12_isCalled 10 (some .boolean) ∈ ap_gw := ap_in 1270 (by decide +kernel) (by decide +kernel)
theorem wd_1271 : Cond.methodLink RX12 265 yX12_goBehind ∈ ap_gw := ap_in 1271 (by decide +kernel) (by decide +kernel)
theorem wd_1273 : Cond.instanceMethod yX12_goBehind ∈ ap_gw := ap_in 1273 (by decide +kernel) (by decide +kernel)
theorem wd_1274 : Cond.code yX12_goBehind cX12_goBehind 1 none ∈ ap_gw := ap_in 1274 (by decide +kernel) (by decide +kernel)
theorem wd_1275 : Cond.methodLink RX12 272 yX12_takes ∈ ap_gw := ap_in 1275 (by decide +kernel) (by decide +kernel)
theorem wd_1277 : Cond.instanceMethod yX12_takes ∈ ap_gw := ap_in 1277 (by decide +kernel) (by decide +kernel)
theorem wd_1278 : Cond.code yX12_takes cX12_takes 4 (some .boolean) ∈ ap_gw := ap_in 1278 (by decide +kernel) (by decide +kernel)
theorem wd_1279 : Cond.methodLink RX12 285 yX12_takesItem ∈ ap_gw := ap_in 1279 (by decide +kernel) (by decide +kernel)
theorem wd_1281 : Cond.instanceMethod yX12_takesItem ∈ ap_gw := ap_in 1281 (by decide +kernel) (by decide +kernel)
theorem wd_1282 : Cond.code yX12_takesItem cX12_takesItem 1 (some .boolean) ∈ ap_gw := ap_in 1282 (by decide +kernel) (by decide +kernel)
theorem wd_1283 : Cond.methodLink RX12 276 yX12_takesCandle ∈ ap_gw := ap_in 1283 (by decide +kernel) (by decide +kernel)
theorem wd_1285 : Cond.instanceMethod yX12_takesCandle ∈ ap_gw := ap_in 1285 (by decide +kernel) (by decide +kernel)
theorem wd_1286 : Cond.code yX12_takesCandle cX12_takesCandle 1 (some .boolean) ∈ ap_gw := ap_in 1286 (by decide +kernel) (by decide +kernel)
theorem wd_1287 : Cond.methodLink RX12 279 yX12_takesOut ∈ ap_gw := ap_in 1287 (by decide +kernel) (by decide +kernel)
theorem wd_1289 : Cond.instanceMethod yX12_takesOut ∈ ap_gw := ap_in 1289 (by decide +kernel) (by decide +kernel)
theorem wd_1290 : Cond.code yX12_takesOut cX12_takesOut 1 (some .boolean) ∈ ap_gw := ap_in 1290 (by decide +kernel) (by decide +kernel)
theorem wd_1311 : Cond.methodLink RX12 288 yX12_counted ∈ ap_gw := ap_in 1311 (by decide +kernel) (by decide +kernel)
theorem wd_1313 : Cond.instanceMethod yX12_counted ∈ ap_gw := ap_in 1313 (by decide +kernel) (by decide +kernel)
theorem wd_1314 : Cond.code yX12_counted cX12_counted 2 (some .int) ∈ ap_gw := ap_in 1314 (by decide +kernel) (by decide +kernel)
theorem wd_1319 : Cond.constantLong RX12 293 (991) ∈ ap_gw := ap_in 1319 (by decide +kernel) (by decide +kernel)
theorem wd_1320 : Cond.constantLong RX12 291 (31) ∈ ap_gw := ap_in 1320 (by decide +kernel) (by decide +kernel)
theorem wd_1321 : Cond.methodLink RX12 295 yX12_sums ∈ ap_gw := ap_in 1321 (by decide +kernel) (by decide +kernel)
theorem wd_1323 : Cond.instanceMethod yX12_sums ∈ ap_gw := ap_in 1323 (by decide +kernel) (by decide +kernel)
theorem wd_1324 : Cond.code yX12_sums cX12_sums 8 (some .long) ∈ ap_gw := ap_in 1324 (by decide +kernel) (by decide +kernel)
theorem wd_1325 : Cond.sameMethod "CandleLand$Wick" "CandleLand$Wick" "hours" "(I)I" ∈ ap_gw := ap_in 1325 (by decide +kernel) (by decide +kernel)
theorem wd_1326 : Cond.sameMethod "CandleLand$Wick" "CandleLand$Wick" "strength" "(II)I" ∈ ap_gw := ap_in 1326 (by decide +kernel) (by decide +kernel)
theorem ly_0 : LAY[0]? = some (.inl (11, [some (some 1), some (some 49), some (some 50), some (some 51), some (some 53), some (some 68), some (some 73), some none, some none, none, none, none])) := by decide +kernel
theorem ly_1 : LAY[1]? = some (.inl (8, [none, none, none, some (some 2), some (some 3), some (some 4), some (some 5), some (some 6), none, some (some 7), none, some (some 8), some (some 9), some (some 10), none, some (some 11), some (some 12)])) := by decide +kernel
theorem ly_2 : LAY[2]? = some (.inr (.inl (0, 7))) := by decide +kernel
theorem ly_3 : LAY[3]? = some (.inr (.inl (0, 7))) := by decide +kernel
theorem ly_4 : LAY[4]? = some (.inr (.inl (0, 7))) := by decide +kernel
theorem ly_5 : LAY[5]? = some (.inr (.inl (0, 7))) := by decide +kernel
theorem ly_6 : LAY[6]? = some (.inr (.inl (0, 7))) := by decide +kernel
theorem ly_7 : LAY[7]? = some (.inr (.inl (0, 6))) := by decide +kernel
theorem ly_8 : LAY[8]? = some (.inr (.inl (0, 6))) := by decide +kernel
theorem ly_9 : LAY[9]? = some (.inr (.inl (0, 6))) := by decide +kernel
theorem ly_10 : LAY[10]? = some (.inr (.inl (0, 6))) := by decide +kernel
theorem ly_11 : LAY[11]? = some (.inr (.inl (0, 56))) := by decide +kernel
theorem ly_12 : LAY[12]? = some (.inr (.inl (0, 8))) := by decide +kernel
theorem ly_13 : LAY[13]? = some (.inl (8, [none, none, none, some (some 14), some (some 15), some (some 16), some (some 17), some (some 18), none, some (some 19), none, some (some 20), some (some 21), some (some 22), none, some (some 23), some (some 24)])) := by decide +kernel
theorem ly_14 : LAY[14]? = some (.inr (.inl (0, 7))) := by decide +kernel
theorem ly_15 : LAY[15]? = some (.inr (.inl (0, 7))) := by decide +kernel
theorem ly_16 : LAY[16]? = some (.inr (.inl (0, 7))) := by decide +kernel
theorem ly_17 : LAY[17]? = some (.inr (.inl (0, 7))) := by decide +kernel
theorem ly_18 : LAY[18]? = some (.inr (.inl (0, 7))) := by decide +kernel
theorem ly_19 : LAY[19]? = some (.inr (.inl (0, 6))) := by decide +kernel
theorem ly_20 : LAY[20]? = some (.inr (.inl (0, 6))) := by decide +kernel
theorem ly_21 : LAY[21]? = some (.inr (.inl (0, 6))) := by decide +kernel
theorem ly_22 : LAY[22]? = some (.inr (.inl (0, 6))) := by decide +kernel
theorem ly_23 : LAY[23]? = some (.inr (.inl (0, 56))) := by decide +kernel
theorem ly_24 : LAY[24]? = some (.inr (.inl (0, 8))) := by decide +kernel
theorem ly_25 : LAY[25]? = some (.inl (8, [none, none, none, some (some 26), some (some 27), some (some 28), some (some 29), some (some 30), none, some (some 31), none, some (some 32), some (some 33), some (some 34), none, some (some 35), some (some 36)])) := by decide +kernel
theorem ly_26 : LAY[26]? = some (.inr (.inl (0, 7))) := by decide +kernel
theorem ly_27 : LAY[27]? = some (.inr (.inl (0, 7))) := by decide +kernel
theorem ly_28 : LAY[28]? = some (.inr (.inl (0, 7))) := by decide +kernel
theorem ly_29 : LAY[29]? = some (.inr (.inl (0, 7))) := by decide +kernel
theorem ly_30 : LAY[30]? = some (.inr (.inl (0, 7))) := by decide +kernel
theorem ly_31 : LAY[31]? = some (.inr (.inl (0, 6))) := by decide +kernel
theorem ly_32 : LAY[32]? = some (.inr (.inl (0, 6))) := by decide +kernel
theorem ly_33 : LAY[33]? = some (.inr (.inl (0, 6))) := by decide +kernel
theorem ly_34 : LAY[34]? = some (.inr (.inl (0, 6))) := by decide +kernel
theorem ly_35 : LAY[35]? = some (.inr (.inl (0, 56))) := by decide +kernel
theorem ly_36 : LAY[36]? = some (.inr (.inl (0, 8))) := by decide +kernel
theorem ly_37 : LAY[37]? = some (.inl (8, [none, none, none, some (some 38), some (some 39), some (some 40), some (some 41), some (some 42), none, some (some 43), none, some (some 44), some (some 45), some (some 46), none, some (some 47), some (some 48)])) := by decide +kernel
theorem ly_38 : LAY[38]? = some (.inr (.inl (0, 7))) := by decide +kernel
theorem ly_39 : LAY[39]? = some (.inr (.inl (0, 7))) := by decide +kernel
theorem ly_40 : LAY[40]? = some (.inr (.inl (0, 7))) := by decide +kernel
theorem ly_41 : LAY[41]? = some (.inr (.inl (0, 7))) := by decide +kernel
theorem ly_42 : LAY[42]? = some (.inr (.inl (0, 7))) := by decide +kernel
theorem ly_43 : LAY[43]? = some (.inr (.inl (0, 6))) := by decide +kernel
theorem ly_44 : LAY[44]? = some (.inr (.inl (0, 6))) := by decide +kernel
theorem ly_45 : LAY[45]? = some (.inr (.inl (0, 6))) := by decide +kernel
theorem ly_46 : LAY[46]? = some (.inr (.inl (0, 6))) := by decide +kernel
theorem ly_47 : LAY[47]? = some (.inr (.inl (0, 56))) := by decide +kernel
theorem ly_48 : LAY[48]? = some (.inr (.inl (0, 8))) := by decide +kernel
theorem ly_49 : LAY[49]? = some (.inr (.inr (3, [13, 25]))) := by decide +kernel
theorem ly_50 : LAY[50]? = some (.inr (.inl (1, 2))) := by decide +kernel
theorem ly_51 : LAY[51]? = some (.inl (5, [some (some 37), none, some (some 52), none, none, none, none])) := by decide +kernel
theorem ly_52 : LAY[52]? = some (.inr (.inl (2, 150))) := by decide +kernel
theorem ly_53 : LAY[53]? = some (.inl (3, [some (some 1), some (some 54), some (some 61), some (some 62), some (some 63), some (some 64), some (some 65), some (some 66), some (some 67)])) := by decide +kernel
theorem ly_54 : LAY[54]? = some (.inr (.inr (4, [55, 56, 57, 58, 59, 60]))) := by decide +kernel
theorem ly_55 : LAY[55]? = some (.inl (4, [])) := by decide +kernel
theorem ly_56 : LAY[56]? = some (.inl (10, [])) := by decide +kernel
theorem ly_57 : LAY[57]? = some (.inl (1, [])) := by decide +kernel
theorem ly_58 : LAY[58]? = some (.inl (2, [])) := by decide +kernel
theorem ly_59 : LAY[59]? = some (.inl (0, [])) := by decide +kernel
theorem ly_60 : LAY[60]? = some (.inl (7, [])) := by decide +kernel
theorem ly_61 : LAY[61]? = some (.inr (.inl (0, 448))) := by decide +kernel
theorem ly_62 : LAY[62]? = some (.inr (.inl (0, 7))) := by decide +kernel
theorem ly_63 : LAY[63]? = some (.inr (.inl (0, 64))) := by decide +kernel
theorem ly_64 : LAY[64]? = some (.inr (.inl (0, 64))) := by decide +kernel
theorem ly_65 : LAY[65]? = some (.inr (.inl (0, 15))) := by decide +kernel
theorem ly_66 : LAY[66]? = some (.inr (.inl (0, 4))) := by decide +kernel
theorem ly_67 : LAY[67]? = some (.inr (.inl (0, 4))) := by decide +kernel
theorem ly_68 : LAY[68]? = some (.inl (6, [some (some 1), some (some 53), some (some 69), some (some 70), none, some (some 71), some (some 72)])) := by decide +kernel
theorem ly_69 : LAY[69]? = some (.inr (.inl (0, 6))) := by decide +kernel
theorem ly_70 : LAY[70]? = some (.inr (.inl (1, 128))) := by decide +kernel
theorem ly_71 : LAY[71]? = some (.inr (.inl (0, 128))) := by decide +kernel
theorem ly_72 : LAY[72]? = some (.inr (.inl (0, 24))) := by decide +kernel
theorem ly_73 : LAY[73]? = some (.inl (9, [some (some 1), some (some 53), some (some 74), some (some 75), some (some 76)])) := by decide +kernel
theorem ly_74 : LAY[74]? = some (.inr (.inl (0, 64))) := by decide +kernel
theorem ly_75 : LAY[75]? = some (.inr (.inl (1, 64))) := by decide +kernel
theorem ly_76 : LAY[76]? = some (.inr (.inl (0, 64))) := by decide +kernel
theorem ly_77 : LAY[77]? = some (.inl (12, [some (some 78), some (some 79), some (some 80), some (some 81), some none, some none, none, some (some 82), some (some 83), some (some 84), some (some 85), some (some 86), some (some 87), some (some 88), none, some (some 89), none, none, none, none, none, some (some 90), some (some 91)])) := by decide +kernel
theorem ly_78 : LAY[78]? = some (.inr (.inl (0, 129))) := by decide +kernel
theorem ly_79 : LAY[79]? = some (.inr (.inl (0, 258))) := by decide +kernel
theorem ly_80 : LAY[80]? = some (.inr (.inl (1, 2))) := by decide +kernel
theorem ly_81 : LAY[81]? = some (.inr (.inl (0, 3))) := by decide +kernel
theorem ly_82 : LAY[82]? = some (.inr (.inl (0, 7))) := by decide +kernel
theorem ly_83 : LAY[83]? = some (.inr (.inl (0, 7))) := by decide +kernel
theorem ly_84 : LAY[84]? = some (.inr (.inl (0, 64))) := by decide +kernel
theorem ly_85 : LAY[85]? = some (.inr (.inl (0, 4))) := by decide +kernel
theorem ly_86 : LAY[86]? = some (.inr (.inl (0, 4))) := by decide +kernel
theorem ly_87 : LAY[87]? = some (.inr (.inl (1, 128))) := by decide +kernel
theorem ly_88 : LAY[88]? = some (.inr (.inl (0, 24))) := by decide +kernel
theorem ly_89 : LAY[89]? = some (.inr (.inl (0, 150))) := by decide +kernel
theorem ly_90 : LAY[90]? = some (.inr (.inl (0, 65))) := by decide +kernel
theorem ly_91 : LAY[91]? = some (.inr (.inl (0, 5))) := by decide +kernel
theorem lyv_0 {v : Nat} (hv : isV v) : LAY[v]? = some (.inl (8, [none, none, none, some (some (v + 1)), some (some (v + 2)), some (some (v + 3)), some (some (v + 4)), some (some (v + 5)), none, some (some (v + 6)), none, some (some (v + 7)), some (some (v + 8)), some (some (v + 9)), none, some (some (v + 10)), some (some (v + 11))])) := by
  rcases hv with rfl | rfl | rfl | rfl
  · exact ly_1
  · exact ly_13
  · exact ly_25
  · exact ly_37
theorem lyv_1 {v : Nat} (hv : isV v) : LAY[v + 1]? = some (.inr (.inl (0, 7))) := by
  rcases hv with rfl | rfl | rfl | rfl
  · exact ly_2
  · exact ly_14
  · exact ly_26
  · exact ly_38
theorem lyv_2 {v : Nat} (hv : isV v) : LAY[v + 2]? = some (.inr (.inl (0, 7))) := by
  rcases hv with rfl | rfl | rfl | rfl
  · exact ly_3
  · exact ly_15
  · exact ly_27
  · exact ly_39
theorem lyv_3 {v : Nat} (hv : isV v) : LAY[v + 3]? = some (.inr (.inl (0, 7))) := by
  rcases hv with rfl | rfl | rfl | rfl
  · exact ly_4
  · exact ly_16
  · exact ly_28
  · exact ly_40
theorem lyv_4 {v : Nat} (hv : isV v) : LAY[v + 4]? = some (.inr (.inl (0, 7))) := by
  rcases hv with rfl | rfl | rfl | rfl
  · exact ly_5
  · exact ly_17
  · exact ly_29
  · exact ly_41
theorem lyv_5 {v : Nat} (hv : isV v) : LAY[v + 5]? = some (.inr (.inl (0, 7))) := by
  rcases hv with rfl | rfl | rfl | rfl
  · exact ly_6
  · exact ly_18
  · exact ly_30
  · exact ly_42
theorem lyv_6 {v : Nat} (hv : isV v) : LAY[v + 6]? = some (.inr (.inl (0, 6))) := by
  rcases hv with rfl | rfl | rfl | rfl
  · exact ly_7
  · exact ly_19
  · exact ly_31
  · exact ly_43
theorem lyv_7 {v : Nat} (hv : isV v) : LAY[v + 7]? = some (.inr (.inl (0, 6))) := by
  rcases hv with rfl | rfl | rfl | rfl
  · exact ly_8
  · exact ly_20
  · exact ly_32
  · exact ly_44
theorem lyv_8 {v : Nat} (hv : isV v) : LAY[v + 8]? = some (.inr (.inl (0, 6))) := by
  rcases hv with rfl | rfl | rfl | rfl
  · exact ly_9
  · exact ly_21
  · exact ly_33
  · exact ly_45
theorem lyv_9 {v : Nat} (hv : isV v) : LAY[v + 9]? = some (.inr (.inl (0, 6))) := by
  rcases hv with rfl | rfl | rfl | rfl
  · exact ly_10
  · exact ly_22
  · exact ly_34
  · exact ly_46
theorem lyv_10 {v : Nat} (hv : isV v) : LAY[v + 10]? = some (.inr (.inl (0, 56))) := by
  rcases hv with rfl | rfl | rfl | rfl
  · exact ly_11
  · exact ly_23
  · exact ly_35
  · exact ly_47
theorem lyv_11 {v : Nat} (hv : isV v) : LAY[v + 11]? = some (.inr (.inl (0, 8))) := by
  rcases hv with rfl | rfl | rfl | rfl
  · exact ly_12
  · exact ly_24
  · exact ly_36
  · exact ly_48
theorem isV_1 : isV 1 := by unfold isV; decide
theorem isV_13 : isV 13 := by unfold isV; decide
theorem isV_25 : isV 25 := by unfold isV; decide
theorem isV_37 : isV 37 := by unfold isV; decide
theorem isV_img {j : Nat} (h : j < 2) : isV (13 + 12 * j) := by unfold isV; omega
theorem isK_55 : isK 55 := ⟨_, _, _, rfl, ly_55⟩
theorem isK_56 : isK 56 := ⟨_, _, _, rfl, ly_56⟩
theorem isK_57 : isK 57 := ⟨_, _, _, rfl, ly_57⟩
theorem isK_58 : isK 58 := ⟨_, _, _, rfl, ly_58⟩
theorem isK_59 : isK 59 := ⟨_, _, _, rfl, ly_59⟩
theorem isK_60 : isK 60 := ⟨_, _, _, rfl, ly_60⟩
theorem ap_k6 {j : Nat} (h : j < 6) : ([55, 56, 57, 58, 59, 60] : List Nat)[j]? = some (55 + j) := by
  rcases (show j = 0 ∨ j = 1 ∨ j = 2 ∨ j = 3 ∨ j = 4 ∨ j = 5 by omega) with rfl | rfl | rfl | rfl | rfl | rfl <;> rfl
theorem ap_k2 {j : Nat} (h : j < 2) : ([13, 25] : List Nat)[j]? = some (13 + 12 * j) := by
  rcases (show j = 0 ∨ j = 1 by omega) with rfl | rfl <;> rfl
theorem rdA_c {w : Mm} {k n j : Nat} {i : Int32} (hj : i.toNatClampNeg = j) (hi : ¬ (i < 0 ∨ n ≤ i.toNatClampNeg)) : rdA w k n i = some (w.1 k j) := by
  unfold rdA
  rw [if_neg hi, hj]
theorem wrA_c {w : Mm} {k n j : Nat} {i v : Int32} (hj : i.toNatClampNeg = j) (hi : ¬ (i < 0 ∨ n ≤ i.toNatClampNeg)) : wrA w k n i v = some (sI w k j v) := by
  unfold wrA
  rw [if_neg hi, hj]
abbrev rmX0_strength : Room := { frames := 2, cells := 0, slots := 0, locals := 45 }
abbrev rmX0_hours : Room := { frames := 2, cells := 0, slots := 0, locals := 42 }
abbrev rmX1_strength : Room := { frames := 1, cells := 0, slots := 0, locals := 22 }
abbrev rmX2_hours : Room := { frames := 1, cells := 0, slots := 0, locals := 21 }
abbrev rmX3_hoursOf : Room := { frames := 3, cells := 0, slots := 0, locals := 65 }
abbrev rmX3_ifLit : Room := { frames := 3, cells := 0, slots := 0, locals := 68 }
abbrev rmX3_layCell : Room := { frames := 4, cells := 0, slots := 0, locals := 92 }
abbrev rmX3_layAll : Room := { frames := 5, cells := 0, slots := 0, locals := 115 }
abbrev rmX3_layFar : Room := { frames := 4, cells := 0, slots := 0, locals := 92 }
abbrev rmX3_reaching : Room := { frames := 4, cells := 0, slots := 0, locals := 92 }
abbrev rmX3_strongest : Room := { frames := 1, cells := 0, slots := 0, locals := 21 }
abbrev rmX3_holder : Room := { frames := 0, cells := 0, slots := 0, locals := 0 }
abbrev rmX3_pick : Room := { frames := 1, cells := 0, slots := 0, locals := 27 }
abbrev rmX3_acresOf : Room := { frames := 1, cells := 0, slots := 0, locals := 27 }
abbrev rmX3_gainByWedding : Room := { frames := 2, cells := 0, slots := 0, locals := 52 }
abbrev rmX3_candlesOf : Room := { frames := 0, cells := 0, slots := 0, locals := 0 }
abbrev rmX3_resting : Room := { frames := 2, cells := 0, slots := 0, locals := 52 }
abbrev rmX3_acresOfNights : Room := { frames := 2, cells := 0, slots := 0, locals := 52 }
abbrev rmX3_bestPlace : Room := { frames := 5, cells := 0, slots := 0, locals := 115 }
abbrev rmX3_acresFrom : Room := { frames := 2, cells := 0, slots := 0, locals := 42 }
abbrev rmX4_strength : Room := { frames := 0, cells := 0, slots := 0, locals := 0 }
abbrev rmX4_hours : Room := { frames := 0, cells := 0, slots := 0, locals := 0 }
abbrev rmX5_append : Room := { frames := 0, cells := 0, slots := 0, locals := 0 }
abbrev rmX5_parse : Room := { frames := 6, cells := 0, slots := 0, locals := 183 }
abbrev rmX5_takeItem : Room := { frames := 5, cells := 0, slots := 0, locals := 162 }
abbrev rmX5_takeFog : Room := { frames := 3, cells := 0, slots := 0, locals := 62 }
abbrev rmX5_takeCandle : Room := { frames := 3, cells := 0, slots := 0, locals := 62 }
abbrev rmX5_takeOut : Room := { frames := 3, cells := 0, slots := 0, locals := 62 }
abbrev rmX5_takeNumber : Room := { frames := 2, cells := 0, slots := 0, locals := 40 }
abbrev rmX5_takeStop : Room := { frames := 2, cells := 0, slots := 0, locals := 40 }
abbrev rmX5_advance : Room := { frames := 1, cells := 0, slots := 0, locals := 20 }
abbrev rmX5_isLetter : Room := { frames := 0, cells := 0, slots := 0, locals := 0 }
abbrev rmX5_isFigure : Room := { frames := 0, cells := 0, slots := 0, locals := 0 }
abbrev rmX6_howManySets : Room := { frames := 0, cells := 0, slots := 0, locals := 0 }
abbrev rmX6_layWanted : Room := { frames := 5, cells := 0, slots := 0, locals := 117 }
abbrev rmX6_lightsWanted : Room := { frames := 0, cells := 0, slots := 0, locals := 0 }
abbrev rmX6_fewest : Room := { frames := 1, cells := 0, slots := 0, locals := 22 }
abbrev rmX6_leastTallow : Room := { frames := 1, cells := 0, slots := 0, locals := 23 }
abbrev rmX6_tallowOf : Room := { frames := 0, cells := 0, slots := 0, locals := 0 }
abbrev rmX6_layFitting : Room := { frames := 5, cells := 0, slots := 0, locals := 117 }
abbrev rmX6_inAll : Room := { frames := 1, cells := 0, slots := 0, locals := 20 }
abbrev rmX6_bestCell : Room := { frames := 3, cells := 0, slots := 0, locals := 70 }
abbrev rmX6_mostAlike : Room := { frames := 2, cells := 0, slots := 0, locals := 46 }
abbrev rmX6_layLight : Room := { frames := 1, cells := 0, slots := 0, locals := 21 }
abbrev rmX7_strength : Room := { frames := 1, cells := 0, slots := 0, locals := 22 }
abbrev rmX7_hours : Room := { frames := 0, cells := 0, slots := 0, locals := 0 }
abbrev rmX8_startAnew : Room := { frames := 0, cells := 0, slots := 0, locals := 0 }
abbrev rmX8_has : Room := { frames := 0, cells := 0, slots := 0, locals := 0 }
abbrev rmX8_litAt : Room := { frames := 0, cells := 0, slots := 0, locals := 0 }
abbrev rmX8_farFrom : Room := { frames := 2, cells := 0, slots := 0, locals := 42 }
abbrev rmX8_add : Room := { frames := 0, cells := 0, slots := 0, locals := 0 }
abbrev rmX8_addReading : Room := { frames := 0, cells := 0, slots := 0, locals := 0 }
abbrev rmX8_remember : Room := { frames := 1, cells := 0, slots := 0, locals := 18 }
abbrev rmX8_goBack : Room := { frames := 1, cells := 0, slots := 0, locals := 18 }
abbrev rmX8_takeFrom : Room := { frames := 1, cells := 0, slots := 0, locals := 18 }
abbrev rmX8_mix : Room := { frames := 0, cells := 0, slots := 0, locals := 0 }
abbrev rmX9_spread : Room := { frames := 2, cells := 0, slots := 0, locals := 46 }
abbrev rmX9_spreadFrom : Room := { frames := 1, cells := 0, slots := 0, locals := 21 }
abbrev rmX9_stepsFrom : Room := { frames := 0, cells := 0, slots := 0, locals := 0 }
abbrev rmX9_firstBehind : Room := { frames := 1, cells := 0, slots := 0, locals := 21 }
abbrev rmX9_beside : Room := { frames := 0, cells := 0, slots := 0, locals := 0 }
abbrev rmX10_strength : Room := { frames := 1, cells := 0, slots := 0, locals := 22 }
abbrev rmX10_hours : Room := { frames := 1, cells := 0, slots := 0, locals := 21 }
abbrev rmX11_valley : Room := { frames := 1, cells := 0, slots := 0, locals := 22 }
abbrev rmX11_fog : Room := { frames := 1, cells := 0, slots := 0, locals := 22 }
abbrev rmX11_candle : Room := { frames := 2, cells := 0, slots := 0, locals := 42 }
abbrev rmX11_move : Room := { frames := 2, cells := 0, slots := 0, locals := 42 }
abbrev rmX11_light : Room := { frames := 2, cells := 0, slots := 0, locals := 38 }
abbrev rmX11_undo : Room := { frames := 2, cells := 0, slots := 0, locals := 38 }
abbrev rmX11_type : Room := { frames := 1, cells := 0, slots := 0, locals := 22 }
abbrev rmX11_clear : Room := { frames := 0, cells := 0, slots := 0, locals := 0 }
abbrev rmX11_read : Room := { frames := 7, cells := 0, slots := 0, locals := 204 }
abbrev rmX11_of : Room := { frames := 4, cells := 0, slots := 0, locals := 86 }
abbrev rmX11_shines : Room := { frames := 4, cells := 0, slots := 0, locals := 92 }
abbrev rmX11_cell : Room := { frames := 5, cells := 0, slots := 0, locals := 115 }
abbrev rmX11_acres : Room := { frames := 6, cells := 0, slots := 0, locals := 138 }
abbrev rmX11_hedges : Room := { frames := 6, cells := 0, slots := 0, locals := 138 }
abbrev rmX11_dark : Room := { frames := 5, cells := 0, slots := 0, locals := 117 }
abbrev rmX11_want : Room := { frames := 2, cells := 0, slots := 0, locals := 42 }
abbrev rmX11_forget : Room := { frames := 0, cells := 0, slots := 0, locals := 0 }
abbrev rmX11_lighting : Room := { frames := 6, cells := 0, slots := 0, locals := 140 }
abbrev rmX11_tallow : Room := { frames := 6, cells := 0, slots := 0, locals := 140 }
abbrev rmX11_put : Room := { frames := 6, cells := 0, slots := 0, locals := 143 }
abbrev rmX11_thief : Room := { frames := 6, cells := 0, slots := 0, locals := 138 }
abbrev rmX11_wedding : Room := { frames := 6, cells := 0, slots := 0, locals := 138 }
abbrev rmX11_spite : Room := { frames := 6, cells := 0, slots := 0, locals := 138 }
abbrev rmX11_reading : Room := { frames := 2, cells := 0, slots := 0, locals := 42 }
abbrev rmX11_burnt : Room := { frames := 0, cells := 0, slots := 0, locals := 0 }
abbrev rmX11_burn : Room := { frames := 6, cells := 0, slots := 0, locals := 143 }
abbrev rmX11_measure : Room := { frames := 6, cells := 0, slots := 0, locals := 143 }
abbrev rmX11_draught : Room := { frames := 5, cells := 0, slots := 0, locals := 117 }
abbrev rmX11_nights : Room := { frames := 6, cells := 0, slots := 0, locals := 138 }
abbrev rmX11_part : Room := { frames := 1, cells := 0, slots := 0, locals := 22 }
abbrev rmX11_image : Room := { frames := 2, cells := 0, slots := 0, locals := 39 }
abbrev rmX11_from : Room := { frames := 2, cells := 0, slots := 0, locals := 39 }
abbrev rmX11_status : Room := { frames := 1, cells := 0, slots := 0, locals := 21 }
abbrev rmX11_count : Room := { frames := 1, cells := 0, slots := 0, locals := 22 }
abbrev rmX11_digest : Room := { frames := 1, cells := 0, slots := 0, locals := 25 }
abbrev rmX11_howMany : Room := { frames := 0, cells := 0, slots := 0, locals := 0 }
abbrev rmX11_bad : Room := { frames := 0, cells := 0, slots := 0, locals := 0 }
abbrev rmX11_no : Room := { frames := 0, cells := 0, slots := 0, locals := 0 }
abbrev rmX11_full : Room := { frames := 0, cells := 0, slots := 0, locals := 0 }
abbrev rmX11_keepFraction : Room := { frames := 1, cells := 0, slots := 0, locals := 30 }
abbrev rmX11_divisor : Room := { frames := 0, cells := 0, slots := 0, locals := 0 }
abbrev rmX11_within : Room := { frames := 0, cells := 0, slots := 0, locals := 0 }
abbrev rmX11_isCell : Room := { frames := 1, cells := 0, slots := 0, locals := 22 }
abbrev rmX11_isHour : Room := { frames := 1, cells := 0, slots := 0, locals := 22 }
abbrev rmX11_isOwner : Room := { frames := 1, cells := 0, slots := 0, locals := 22 }
abbrev rmX11_farBetween : Room := { frames := 1, cells := 0, slots := 0, locals := 21 }
abbrev rmX12_in : Room := { frames := 0, cells := 0, slots := 0, locals := 0 }
abbrev rmX12_bad : Room := { frames := 0, cells := 0, slots := 0, locals := 0 }
abbrev rmX12_no : Room := { frames := 0, cells := 0, slots := 0, locals := 0 }
abbrev rmX12_full : Room := { frames := 0, cells := 0, slots := 0, locals := 0 }
abbrev rmX12_bits : Room := { frames := 0, cells := 0, slots := 0, locals := 0 }
abbrev rmX12_begin : Room := { frames := 0, cells := 0, slots := 0, locals := 0 }
abbrev rmX12_candles : Room := { frames := 0, cells := 0, slots := 0, locals := 0 }
abbrev rmX12_isCandle : Room := { frames := 1, cells := 0, slots := 0, locals := 25 }
abbrev rmX12_isCell : Room := { frames := 1, cells := 0, slots := 0, locals := 25 }
abbrev rmX12_isHour : Room := { frames := 1, cells := 0, slots := 0, locals := 25 }
abbrev rmX12_isOwner : Room := { frames := 1, cells := 0, slots := 0, locals := 25 }
abbrev rmX12_isLight : Room := { frames := 1, cells := 0, slots := 0, locals := 25 }
abbrev rmX12_get : Room := { frames := 0, cells := 0, slots := 0, locals := 0 }
abbrev rmX12_valley : Room := { frames := 1, cells := 0, slots := 0, locals := 25 }
abbrev rmX12_fog : Room := { frames := 1, cells := 0, slots := 0, locals := 25 }
abbrev rmX12_layCandle : Room := { frames := 0, cells := 0, slots := 0, locals := 0 }
abbrev rmX12_candle : Room := { frames := 2, cells := 0, slots := 0, locals := 45 }
abbrev rmX12_keep : Room := { frames := 1, cells := 0, slots := 0, locals := 22 }
abbrev rmX12_move : Room := { frames := 2, cells := 0, slots := 0, locals := 46 }
abbrev rmX12_light : Room := { frames := 2, cells := 0, slots := 0, locals := 46 }
abbrev rmX12_undo : Room := { frames := 1, cells := 0, slots := 0, locals := 20 }
abbrev rmX12_plain : Room := { frames := 0, cells := 0, slots := 0, locals := 0 }
abbrev rmX12_wick : Room := { frames := 0, cells := 0, slots := 0, locals := 0 }
abbrev rmX12_strength : Room := { frames := 1, cells := 0, slots := 0, locals := 21 }
abbrev rmX12_burnsFor : Room := { frames := 0, cells := 0, slots := 0, locals := 0 }
abbrev rmX12_apart : Room := { frames := 0, cells := 0, slots := 0, locals := 0 }
abbrev rmX12_far : Room := { frames := 1, cells := 0, slots := 0, locals := 21 }
abbrev rmX12_layHand : Room := { frames := 1, cells := 0, slots := 0, locals := 22 }
abbrev rmX12_lightOf : Room := { frames := 2, cells := 0, slots := 0, locals := 43 }
abbrev rmX12_lightIn : Room := { frames := 3, cells := 0, slots := 0, locals := 69 }
abbrev rmX12_whose : Room := { frames := 4, cells := 0, slots := 0, locals := 94 }
abbrev rmX12_acresOf : Room := { frames := 5, cells := 0, slots := 0, locals := 120 }
abbrev rmX12_of : Room := { frames := 2, cells := 0, slots := 0, locals := 46 }
abbrev rmX12_shines : Room := { frames := 3, cells := 0, slots := 0, locals := 69 }
abbrev rmX12_cell : Room := { frames := 5, cells := 0, slots := 0, locals := 120 }
abbrev rmX12_listOf : Room := { frames := 5, cells := 0, slots := 0, locals := 120 }
abbrev rmX12_acres : Room := { frames := 6, cells := 0, slots := 0, locals := 146 }
abbrev rmX12_hedges : Room := { frames := 6, cells := 0, slots := 0, locals := 146 }
abbrev rmX12_dark : Room := { frames := 4, cells := 0, slots := 0, locals := 94 }
abbrev rmX12_want : Room := { frames := 2, cells := 0, slots := 0, locals := 45 }
abbrev rmX12_forget : Room := { frames := 0, cells := 0, slots := 0, locals := 0 }
abbrev rmX12_areLight : Room := { frames := 4, cells := 0, slots := 0, locals := 94 }
abbrev rmX12_tallowOf : Room := { frames := 1, cells := 0, slots := 0, locals := 22 }
abbrev rmX12_lighting : Room := { frames := 5, cells := 0, slots := 0, locals := 118 }
abbrev rmX12_tallow : Room := { frames := 5, cells := 0, slots := 0, locals := 118 }
abbrev rmX12_put : Room := { frames := 6, cells := 0, slots := 0, locals := 144 }
abbrev rmX12_isBeside : Room := { frames := 2, cells := 0, slots := 0, locals := 42 }
abbrev rmX12_laySteps : Room := { frames := 4, cells := 0, slots := 0, locals := 94 }
abbrev rmX12_thief : Room := { frames := 5, cells := 0, slots := 0, locals := 122 }
abbrev rmX12_wedding : Room := { frames := 6, cells := 0, slots := 0, locals := 144 }
abbrev rmX12_ownOf : Room := { frames := 1, cells := 0, slots := 0, locals := 22 }
abbrev rmX12_layGets : Room := { frames := 6, cells := 0, slots := 0, locals := 144 }
abbrev rmX12_spite : Room := { frames := 7, cells := 0, slots := 0, locals := 172 }
abbrev rmX12_reading : Room := { frames := 2, cells := 0, slots := 0, locals := 45 }
abbrev rmX12_burnt : Room := { frames := 0, cells := 0, slots := 0, locals := 0 }
abbrev rmX12_areSo : Room := { frames := 4, cells := 0, slots := 0, locals := 94 }
abbrev rmX12_layFits : Room := { frames := 5, cells := 0, slots := 0, locals := 117 }
abbrev rmX12_burn : Room := { frames := 6, cells := 0, slots := 0, locals := 138 }
abbrev rmX12_mostLike : Room := { frames := 4, cells := 0, slots := 0, locals := 94 }
abbrev rmX12_measure : Room := { frames := 6, cells := 0, slots := 0, locals := 138 }
abbrev rmX12_fraction : Room := { frames := 0, cells := 0, slots := 0, locals := 0 }
abbrev rmX12_draught : Room := { frames := 4, cells := 0, slots := 0, locals := 94 }
abbrev rmX12_nights : Room := { frames := 6, cells := 0, slots := 0, locals := 144 }
abbrev rmX12_type : Room := { frames := 1, cells := 0, slots := 0, locals := 25 }
abbrev rmX12_clear : Room := { frames := 0, cells := 0, slots := 0, locals := 0 }
abbrev rmX12_isSmall : Room := { frames := 1, cells := 0, slots := 0, locals := 25 }
abbrev rmX12_isFigure : Room := { frames := 1, cells := 0, slots := 0, locals := 25 }
abbrev rmX12_lookAt : Room := { frames := 2, cells := 0, slots := 0, locals := 45 }
abbrev rmX12_goBehind : Room := { frames := 3, cells := 0, slots := 0, locals := 69 }
abbrev rmX12_isCalled : Room := { frames := 0, cells := 0, slots := 0, locals := 0 }
abbrev rmX12_takes : Room := { frames := 4, cells := 0, slots := 0, locals := 89 }
abbrev rmX12_takesFirst : Room := { frames := 5, cells := 0, slots := 0, locals := 112 }
abbrev rmX12_takesCandle : Room := { frames := 5, cells := 0, slots := 0, locals := 112 }
abbrev rmX12_takesOut : Room := { frames := 5, cells := 0, slots := 0, locals := 112 }
abbrev rmX12_takesItem : Room := { frames := 6, cells := 0, slots := 0, locals := 132 }
abbrev rmX12_read : Room := { frames := 7, cells := 0, slots := 0, locals := 152 }
abbrev rmX12_part : Room := { frames := 1, cells := 0, slots := 0, locals := 21 }
abbrev rmX12_image : Room := { frames := 1, cells := 0, slots := 0, locals := 25 }
abbrev rmX12_from : Room := { frames := 1, cells := 0, slots := 0, locals := 25 }
abbrev rmX12_status : Room := { frames := 1, cells := 0, slots := 0, locals := 25 }
abbrev rmX12_counted : Room := { frames := 0, cells := 0, slots := 0, locals := 0 }
abbrev rmX12_count : Room := { frames := 1, cells := 0, slots := 0, locals := 25 }
abbrev rmX12_sums : Room := { frames := 0, cells := 0, slots := 0, locals := 0 }
abbrev rmX12_digest : Room := { frames := 1, cells := 0, slots := 0, locals := 27 }
abbrev rmJ6_bitCount_0f7a4 : Room := { frames := 0, cells := 0, slots := 0, locals := 0 }
abbrev rmX5_spells : Room := { frames := 4, cells := 0, slots := 0, locals := 140 }
theorem cu_X0_7 : ap_cU RX0 7 yX10_strength cX10_strength 4 (some .int) 2 := ⟨ap_gl (List.forall_mem_cons.mpr ⟨wd_623, List.forall_mem_cons.mpr ⟨wd_1326, List.forall_mem_cons.mpr ⟨wd_251, List.forall_mem_cons.mpr ⟨wd_624, List.forall_mem_cons.mpr ⟨wd_62, fun _ h => absurd h List.not_mem_nil⟩⟩⟩⟩⟩) (ap_good wd_625), by decide +kernel⟩
theorem cu_X0_11 : ap_cU RX0 11 yX10_hours cX10_hours 2 (some .int) 1 := ⟨ap_gl (List.forall_mem_cons.mpr ⟨wd_579, List.forall_mem_cons.mpr ⟨wd_1325, List.forall_mem_cons.mpr ⟨wd_251, List.forall_mem_cons.mpr ⟨wd_580, List.forall_mem_cons.mpr ⟨wd_62, fun _ h => absurd h List.not_mem_nil⟩⟩⟩⟩⟩) (ap_good wd_581), by decide +kernel⟩
theorem cu_X1_7 : ap_cU RX1 7 yX4_strength cX4_strength 3 (some .int) 2 := ⟨ap_gl (List.forall_mem_cons.mpr ⟨wd_630, List.forall_mem_cons.mpr ⟨wd_619, List.forall_mem_cons.mpr ⟨wd_237, List.forall_mem_cons.mpr ⟨wd_617, List.forall_mem_cons.mpr ⟨wd_61, fun _ h => absurd h List.not_mem_nil⟩⟩⟩⟩⟩) (ap_good wd_637), by decide +kernel⟩
theorem fl_X3_27 : ap_fld RX3 27 3 1 := ⟨RX3, TX3, 9, rfl, inw_X3, by decide, wd_260⟩
theorem fl_X3_55 : ap_fld RX3 55 3 0 := ⟨RX3, TX3, 9, rfl, inw_X3, by decide, wd_259⟩
theorem fl_X3_59 : ap_fld RX3 59 8 3 := ⟨RX8, TX8, 17, rfl, inw_X8, by decide, wd_106⟩
theorem fl_X3_64 : ap_fld RX3 64 8 7 := ⟨RX8, TX8, 17, rfl, inw_X8, by decide, wd_117⟩
theorem fl_X3_71 : ap_fld RX3 71 8 5 := ⟨RX8, TX8, 17, rfl, inw_X8, by decide, wd_111⟩
theorem fl_X3_78 : ap_fld RX3 78 8 0 := ⟨RX8, TX8, 17, rfl, inw_X8, by decide, wd_93⟩
theorem fl_X3_87 : ap_fld RX3 87 8 1 := ⟨RX8, TX8, 17, rfl, inw_X8, by decide, wd_98⟩
theorem fl_X3_33 : ap_fld RX3 33 3 2 := ⟨RX3, TX3, 9, rfl, inw_X3, by decide, wd_261⟩
theorem cv_X3_90 : ap_cV RX3 90 RX8 yX8_farFrom cX8_farFrom 3 (some .int) 2 := ⟨ap_g4 wd_649 wd_603 wd_604 wd_58 (ap_good wd_605), by decide +kernel⟩
theorem cv_X3_93 : ap_cV RX3 93 RX3 yX3_ifLit cX3_ifLit 5 (some .int) 3 := ⟨ap_g4 wd_650 wd_613 wd_614 wd_60 (ap_good wd_615), by decide +kernel⟩
theorem cv_X3_97 : ap_cV RX3 97 RX3 yX3_layFar cX3_layFar 4 none 2 := ⟨ap_g4 wd_667 wd_669 wd_11 wd_60 (ap_good wd_670), by decide +kernel⟩
theorem fl_X3_46 : ap_fld RX3 46 3 6 := ⟨RX3, TX3, 9, rfl, inw_X3, by decide, wd_266⟩
theorem fl_X3_101 : ap_fld RX3 101 8 2 := ⟨RX8, TX8, 17, rfl, inw_X8, by decide, wd_104⟩
theorem fl_X3_104 : ap_fld RX3 104 8 6 := ⟨RX8, TX8, 17, rfl, inw_X8, by decide, wd_114⟩
theorem cv_X3_107 : ap_cV RX3 107 RX3 yX3_holder cX3_holder 8 (some .int) 3 := ⟨ap_g4 wd_675 wd_656 wd_657 wd_60 (ap_good wd_658), by decide +kernel⟩
theorem cv_X3_111 : ap_cV RX3 111 RX3 yX3_acresOf cX3_acresOf 6 (some .int) 3 := ⟨ap_g4 wd_786 wd_788 wd_18 wd_60 (ap_good wd_789), by decide +kernel⟩
theorem fl_X3_37 : ap_fld RX3 37 3 3 := ⟨RX3, TX3, 9, rfl, inw_X3, by decide, wd_263⟩
theorem cv_X3_114 : ap_cV RX3 114 RX3 yX3_candlesOf cX3_candlesOf 4 (some .int) 1 := ⟨ap_g4 wd_744 wd_746 wd_15 wd_60 (ap_good wd_747), by decide +kernel⟩
theorem fl_X3_49 : ap_fld RX3 49 3 7 := ⟨RX3, TX3, 9, rfl, inw_X3, by decide, wd_267⟩
theorem cs_X3_117 : ap_cS RX3 117 yJ6_bitCount_0f7a4 cJ6_bitCount_0f7a4 1 (some .int) 1 := ⟨ap_gl (List.forall_mem_cons.mpr ⟨wd_798, List.forall_mem_cons.mpr ⟨wd_718, List.forall_mem_cons.mpr ⟨wd_76, fun _ h => absurd h List.not_mem_nil⟩⟩⟩) (ap_good wd_719), by decide +kernel⟩
theorem fl_X3_52 : ap_fld RX3 52 3 8 := ⟨RX3, TX3, 9, rfl, inw_X3, by decide, wd_268⟩
theorem cv_X3_132 : ap_cV RX3 132 RX8 yX8_litAt cX8_litAt 2 (some .int) 1 := ⟨ap_g4 wd_743 wd_433 wd_434 wd_58 (ap_good wd_435), by decide +kernel⟩
theorem fl_X3_40 : ap_fld RX3 40 3 4 := ⟨RX3, TX3, 9, rfl, inw_X3, by decide, wd_264⟩
theorem cv_X3_135 : ap_cV RX3 135 RX3 yX3_strongest cX3_strongest 5 (some .int) 2 := ⟨ap_g4 wd_748 wd_652 wd_653 wd_60 (ap_good wd_654), by decide +kernel⟩
theorem fl_X3_43 : ap_fld RX3 43 3 5 := ⟨RX3, TX3, 9, rfl, inw_X3, by decide, wd_265⟩
theorem cv_X3_138 : ap_cV RX3 138 RX3 yX3_acresFrom cX3_acresFrom 4 (some .int) 1 := ⟨ap_g4 wd_749 wd_751 wd_16 wd_60 (ap_good wd_752), by decide +kernel⟩
theorem cn_X3_141 : ap_cN RX3 141 yX11_farBetween "CandleLand" cX11_farBetween 2 (some .int) 2 := ⟨wd_608, wd_607, wd_57, by decide +kernel, by decide +kernel⟩
theorem fl_X5_18 : ap_fld RX5 18 5 1 := ⟨RX5, TX5, 7, rfl, inw_X5, by decide, wd_186⟩
theorem fl_X5_22 : ap_fld RX5 22 5 2 := ⟨RX5, TX5, 7, rfl, inw_X5, by decide, wd_188⟩
theorem fp_X5_18 : ap_fldP RX5 18 5 1 .int := ⟨RX5, TX5, 7, tyX5, rfl, inw_X5, by decide, wd_186, tyX5_ok, nmX5, rfl, by decide +kernel⟩
theorem fp_X5_26 : ap_fldP RX5 26 5 3 .int := ⟨RX5, TX5, 7, tyX5, rfl, inw_X5, by decide, wd_189, tyX5_ok, nmX5, rfl, by decide +kernel⟩
theorem fl_X5_12 : ap_fld RX5 12 5 0 := ⟨RX5, TX5, 7, rfl, inw_X5, by decide, wd_184⟩
theorem cv_X5_38 : ap_cV RX5 38 RX8 yX8_startAnew cX8_startAnew 2 none 1 := ⟨ap_g4 wd_468 wd_388 wd_389 wd_58 (ap_good wd_390), by decide +kernel⟩
theorem fl_X5_32 : ap_fld RX5 32 5 5 := ⟨RX5, TX5, 7, rfl, inw_X5, by decide, wd_191⟩
theorem cv_X5_42 : ap_cV RX5 42 RX5 yX5_advance cX5_advance 1 none 0 := ⟨ap_g4 wd_469 wd_471 wd_3 wd_59 (ap_good wd_472), by decide +kernel⟩
theorem fl_X5_29 : ap_fld RX5 29 5 4 := ⟨RX5, TX5, 7, rfl, inw_X5, by decide, wd_190⟩
theorem cv_X5_45 : ap_cV RX5 45 RX5 yX5_takeItem cX5_takeItem 2 (some .boolean) 1 := ⟨ap_g4 wd_479 wd_481 wd_4 wd_59 (ap_good wd_482), by decide +kernel⟩
theorem cv_X5_51 : ap_cV RX5 51 RX5 yX5_spells cX5_spells 3 (some .boolean) 1 := ⟨ap_g4 wd_484 wd_486 wd_5 wd_59 (ap_good wd_487), by decide +kernel⟩
theorem cv_X5_66 : ap_cV RX5 66 RX5 yX5_takeOut cX5_takeOut 1 (some .boolean) 0 := ⟨ap_g4 wd_556 wd_558 wd_10 wd_59 (ap_good wd_559), by decide +kernel⟩
theorem cv_X5_61 : ap_cV RX5 61 RX5 yX5_takeCandle cX5_takeCandle 5 (some .boolean) 0 := ⟨ap_g4 wd_550 wd_552 wd_9 wd_59 (ap_good wd_553), by decide +kernel⟩
theorem cv_X5_55 : ap_cV RX5 55 RX5 yX5_takeFog cX5_takeFog 1 (some .boolean) 0 := ⟨ap_g4 wd_536 wd_538 wd_6 wd_59 (ap_good wd_539), by decide +kernel⟩
theorem cv_X5_69 : ap_cV RX5 69 RX5 yX5_takeNumber cX5_takeNumber 3 (some .boolean) 2 := ⟨ap_g4 wd_540 wd_542 wd_7 wd_59 (ap_good wd_543), by decide +kernel⟩
theorem fl_X5_35 : ap_fld RX5 35 5 6 := ⟨RX5, TX5, 7, rfl, inw_X5, by decide, wd_192⟩
theorem fp_X5_73 : ap_fldP RX5 73 8 0 .int := ⟨RX8, TX8, 17, tyX8, rfl, inw_X8, by decide, wd_94, tyX8_ok, nmX8, rfl, by decide +kernel⟩
theorem cv_X5_76 : ap_cV RX5 76 RX5 yX5_takeStop cX5_takeStop 1 (some .boolean) 0 := ⟨ap_g4 wd_545 wd_547 wd_8 wd_59 (ap_good wd_548), by decide +kernel⟩
theorem fl_X5_79 : ap_fld RX5 79 8 1 := ⟨RX8, TX8, 17, rfl, inw_X8, by decide, wd_99⟩
theorem cv_X5_82 : ap_cV RX5 82 RX8 yX8_add cX8_add 7 (some .int) 5 := ⟨ap_g4 wd_554 wd_410 wd_411 wd_58 (ap_good wd_412), by decide +kernel⟩
theorem fl_X5_86 : ap_fld RX5 86 8 2 := ⟨RX8, TX8, 17, rfl, inw_X8, by decide, wd_103⟩
theorem fp_X5_86 : ap_fldP RX5 86 8 2 .int := ⟨RX8, TX8, 17, tyX8, rfl, inw_X8, by decide, wd_103, tyX8_ok, nmX8, rfl, by decide +kernel⟩
theorem cn_X5_89 : ap_cN RX5 89 yX11_within "CandleLand" cX11_within 3 (some .boolean) 3 := ⟨wd_382, wd_381, wd_57, by decide +kernel, by decide +kernel⟩
theorem fl_X5_26 : ap_fld RX5 26 5 3 := ⟨RX5, TX5, 7, rfl, inw_X5, by decide, wd_189⟩
theorem fp_X5_32 : ap_fldP RX5 32 5 5 .int := ⟨RX5, TX5, 7, tyX5, rfl, inw_X5, by decide, wd_191, tyX5_ok, nmX5, rfl, by decide +kernel⟩
theorem cs_X5_93 : ap_cS RX5 93 yX5_isLetter cX5_isLetter 1 (some .boolean) 1 := ⟨ap_gl (List.forall_mem_cons.mpr ⟨wd_473, List.forall_mem_cons.mpr ⟨wd_474, List.forall_mem_cons.mpr ⟨wd_59, fun _ h => absurd h List.not_mem_nil⟩⟩⟩) (ap_good wd_475), by decide +kernel⟩
theorem cs_X5_97 : ap_cS RX5 97 yX5_isFigure cX5_isFigure 1 (some .boolean) 1 := ⟨ap_gl (List.forall_mem_cons.mpr ⟨wd_476, List.forall_mem_cons.mpr ⟨wd_477, List.forall_mem_cons.mpr ⟨wd_59, fun _ h => absurd h List.not_mem_nil⟩⟩⟩) (ap_good wd_478), by decide +kernel⟩
theorem fp_X5_29 : ap_fldP RX5 29 5 4 .int := ⟨RX5, TX5, 7, tyX5, rfl, inw_X5, by decide, wd_190, tyX5_ok, nmX5, rfl, by decide +kernel⟩
theorem fp_X5_35 : ap_fldP RX5 35 5 6 .int := ⟨RX5, TX5, 7, tyX5, rfl, inw_X5, by decide, wd_192, tyX5_ok, nmX5, rfl, by decide +kernel⟩
theorem fl_X6_29 : ap_fld RX6 29 6 0 := ⟨RX6, TX6, 7, rfl, inw_X6, by decide, wd_294⟩
theorem fl_X6_37 : ap_fld RX6 37 8 1 := ⟨RX8, TX8, 17, rfl, inw_X8, by decide, wd_96⟩
theorem fl_X6_42 : ap_fld RX6 42 8 8 := ⟨RX8, TX8, 17, rfl, inw_X8, by decide, wd_121⟩
theorem fl_X6_9 : ap_fld RX6 9 6 2 := ⟨RX6, TX6, 7, rfl, inw_X6, by decide, wd_296⟩
theorem fl_X6_33 : ap_fld RX6 33 6 1 := ⟨RX6, TX6, 7, rfl, inw_X6, by decide, wd_295⟩
theorem fl_X6_45 : ap_fld RX6 45 8 9 := ⟨RX8, TX8, 17, rfl, inw_X8, by decide, wd_124⟩
theorem cv_X6_48 : ap_cV RX6 48 RX3 yX3_reaching cX3_reaching 6 (some .int) 3 := ⟨ap_g4 wd_704 wd_685 wd_686 wd_60 (ap_good wd_687), by decide +kernel⟩
theorem cv_X6_54 : ap_cV RX6 54 RX6 yX6_howManySets cX6_howManySets 1 (some .int) 0 := ⟨ap_g4 wd_709 wd_711 wd_12 wd_67 (ap_good wd_712), by decide +kernel⟩
theorem cv_X6_58 : ap_cV RX6 58 RX6 yX6_lightsWanted cX6_lightsWanted 3 (some .boolean) 1 := ⟨ap_g4 wd_713 wd_715 wd_13 wd_67 (ap_good wd_716), by decide +kernel⟩
theorem cs_X6_62 : ap_cS RX6 62 yJ6_bitCount_0f7a4 cJ6_bitCount_0f7a4 1 (some .int) 1 := ⟨ap_gl (List.forall_mem_cons.mpr ⟨wd_717, List.forall_mem_cons.mpr ⟨wd_718, List.forall_mem_cons.mpr ⟨wd_76, fun _ h => absurd h List.not_mem_nil⟩⟩⟩) (ap_good wd_719), by decide +kernel⟩
theorem cv_X6_68 : ap_cV RX6 68 RX6 yX6_tallowOf cX6_tallowOf 4 (some .int) 1 := ⟨ap_g4 wd_731 wd_733 wd_14 wd_67 (ap_good wd_734), by decide +kernel⟩
theorem fl_X6_71 : ap_fld RX6 71 8 7 := ⟨RX8, TX8, 17, rfl, inw_X8, by decide, wd_118⟩
theorem fl_X6_15 : ap_fld RX6 15 6 3 := ⟨RX6, TX6, 7, rfl, inw_X6, by decide, wd_297⟩
theorem fl_X6_74 : ap_fld RX6 74 8 10 := ⟨RX8, TX8, 17, rfl, inw_X8, by decide, wd_127⟩
theorem fp_X6_19 : ap_fldP RX6 19 6 4 .int := ⟨RX6, TX6, 7, tyX6, rfl, inw_X6, by decide, wd_298, tyX6_ok, nmX6, rfl, by decide +kernel⟩
theorem fl_X6_77 : ap_fld RX6 77 8 13 := ⟨RX8, TX8, 17, rfl, inw_X8, by decide, wd_134⟩
theorem fl_X6_80 : ap_fld RX6 80 8 11 := ⟨RX8, TX8, 17, rfl, inw_X8, by decide, wd_130⟩
theorem fl_X6_83 : ap_fld RX6 83 8 12 := ⟨RX8, TX8, 17, rfl, inw_X8, by decide, wd_132⟩
theorem fl_X6_19 : ap_fld RX6 19 6 4 := ⟨RX6, TX6, 7, rfl, inw_X6, by decide, wd_298⟩
theorem cv_X6_86 : ap_cV RX6 86 RX6 yX6_mostAlike cX6_mostAlike 5 (some .int) 1 := ⟨ap_g4 wd_831 wd_833 wd_19 wd_67 (ap_good wd_834), by decide +kernel⟩
theorem cv_X6_89 : ap_cV RX6 89 RX6 yX6_layLight cX6_layLight 6 none 1 := ⟨ap_g4 wd_835 wd_837 wd_20 wd_67 (ap_good wd_838), by decide +kernel⟩
theorem fl_X6_26 : ap_fld RX6 26 6 6 := ⟨RX6, TX6, 7, rfl, inw_X6, by decide, wd_301⟩
theorem fl_X6_23 : ap_fld RX6 23 6 5 := ⟨RX6, TX6, 7, rfl, inw_X6, by decide, wd_300⟩
theorem fl_X6_99 : ap_fld RX6 99 3 2 := ⟨RX3, TX3, 9, rfl, inw_X3, by decide, wd_262⟩
theorem cu_X7_9 : ap_cU RX7 9 yX4_strength cX4_strength 3 (some .int) 2 := ⟨ap_gl (List.forall_mem_cons.mpr ⟨wd_635, List.forall_mem_cons.mpr ⟨wd_619, List.forall_mem_cons.mpr ⟨wd_258, List.forall_mem_cons.mpr ⟨wd_617, List.forall_mem_cons.mpr ⟨wd_61, fun _ h => absurd h List.not_mem_nil⟩⟩⟩⟩⟩) (ap_good wd_637), by decide +kernel⟩
theorem fp_X8_9 : ap_fldP RX8 9 8 0 .int := ⟨RX8, TX8, 17, tyX8, rfl, inw_X8, by decide, wd_91, tyX8_ok, nmX8, rfl, by decide +kernel⟩
theorem fp_X8_15 : ap_fldP RX8 15 8 1 .int := ⟨RX8, TX8, 17, tyX8, rfl, inw_X8, by decide, wd_95, tyX8_ok, nmX8, rfl, by decide +kernel⟩
theorem fp_X8_18 : ap_fldP RX8 18 8 2 .int := ⟨RX8, TX8, 17, tyX8, rfl, inw_X8, by decide, wd_100, tyX8_ok, nmX8, rfl, by decide +kernel⟩
theorem fp_X8_37 : ap_fldP RX8 37 8 8 .int := ⟨RX8, TX8, 17, tyX8, rfl, inw_X8, by decide, wd_120, tyX8_ok, nmX8, rfl, by decide +kernel⟩
theorem fp_X8_43 : ap_fldP RX8 43 8 10 .int := ⟨RX8, TX8, 17, tyX8, rfl, inw_X8, by decide, wd_126, tyX8_ok, nmX8, rfl, by decide +kernel⟩
theorem fp_X8_55 : ap_fldP RX8 55 8 14 .int := ⟨RX8, TX8, 17, tyX8, rfl, inw_X8, by decide, wd_135, tyX8_ok, nmX8, rfl, by decide +kernel⟩
theorem fl_X8_15 : ap_fld RX8 15 8 1 := ⟨RX8, TX8, 17, rfl, inw_X8, by decide, wd_95⟩
theorem fl_X8_18 : ap_fld RX8 18 8 2 := ⟨RX8, TX8, 17, rfl, inw_X8, by decide, wd_100⟩
theorem fl_X8_25 : ap_fld RX8 25 8 4 := ⟨RX8, TX8, 17, rfl, inw_X8, by decide, wd_108⟩
theorem cn_X8_64 : ap_cN RX8 64 yX11_farBetween "CandleLand" cX11_farBetween 2 (some .int) 2 := ⟨wd_608, wd_607, wd_57, by decide +kernel, by decide +kernel⟩
theorem fl_X8_21 : ap_fld RX8 21 8 3 := ⟨RX8, TX8, 17, rfl, inw_X8, by decide, wd_105⟩
theorem fl_X8_28 : ap_fld RX8 28 8 5 := ⟨RX8, TX8, 17, rfl, inw_X8, by decide, wd_110⟩
theorem fl_X8_31 : ap_fld RX8 31 8 6 := ⟨RX8, TX8, 17, rfl, inw_X8, by decide, wd_113⟩
theorem fl_X8_34 : ap_fld RX8 34 8 7 := ⟨RX8, TX8, 17, rfl, inw_X8, by decide, wd_116⟩
theorem fl_X8_43 : ap_fld RX8 43 8 10 := ⟨RX8, TX8, 17, rfl, inw_X8, by decide, wd_126⟩
theorem fl_X8_46 : ap_fld RX8 46 8 11 := ⟨RX8, TX8, 17, rfl, inw_X8, by decide, wd_129⟩
theorem fl_X8_49 : ap_fld RX8 49 8 12 := ⟨RX8, TX8, 17, rfl, inw_X8, by decide, wd_131⟩
theorem fl_X8_52 : ap_fld RX8 52 8 13 := ⟨RX8, TX8, 17, rfl, inw_X8, by decide, wd_133⟩
theorem fl_X8_55 : ap_fld RX8 55 8 14 := ⟨RX8, TX8, 17, rfl, inw_X8, by decide, wd_135⟩
theorem fl_X8_58 : ap_fld RX8 58 8 15 := ⟨RX8, TX8, 17, rfl, inw_X8, by decide, wd_137⟩
theorem fl_X8_61 : ap_fld RX8 61 8 16 := ⟨RX8, TX8, 17, rfl, inw_X8, by decide, wd_138⟩
theorem fl_X8_9 : ap_fld RX8 9 8 0 := ⟨RX8, TX8, 17, rfl, inw_X8, by decide, wd_91⟩
theorem fl_X8_37 : ap_fld RX8 37 8 8 := ⟨RX8, TX8, 17, rfl, inw_X8, by decide, wd_120⟩
theorem fl_X8_40 : ap_fld RX8 40 8 9 := ⟨RX8, TX8, 17, rfl, inw_X8, by decide, wd_123⟩
theorem fl_X9_15 : ap_fld RX9 15 9 3 := ⟨RX9, TX9, 5, rfl, inw_X9, by decide, wd_326⟩
theorem fl_X9_9 : ap_fld RX9 9 9 2 := ⟨RX9, TX9, 5, rfl, inw_X9, by decide, wd_325⟩
theorem fl_X9_19 : ap_fld RX9 19 9 4 := ⟨RX9, TX9, 5, rfl, inw_X9, by decide, wd_327⟩
theorem fl_X9_26 : ap_fld RX9 26 9 1 := ⟨RX9, TX9, 5, rfl, inw_X9, by decide, wd_324⟩
theorem fl_X9_22 : ap_fld RX9 22 9 0 := ⟨RX9, TX9, 5, rfl, inw_X9, by decide, wd_323⟩
theorem fl_X9_30 : ap_fld RX9 30 8 2 := ⟨RX8, TX8, 17, rfl, inw_X8, by decide, wd_101⟩
theorem cv_X9_36 : ap_cV RX9 36 RX3 yX3_strongest cX3_strongest 5 (some .int) 2 := ⟨ap_g4 wd_762 wd_652 wd_653 wd_60 (ap_good wd_654), by decide +kernel⟩
theorem cv_X9_42 : ap_cV RX9 42 RX9 yX9_spreadFrom cX9_spreadFrom 6 (some .int) 2 := ⟨ap_g4 wd_763 wd_765 wd_17 wd_68 (ap_good wd_766), by decide +kernel⟩
theorem cs_X9_45 : ap_cS RX9 45 yX9_beside cX9_beside 2 (some .int) 2 := ⟨ap_gl (List.forall_mem_cons.mpr ⟨wd_767, List.forall_mem_cons.mpr ⟨wd_768, List.forall_mem_cons.mpr ⟨wd_68, fun _ h => absurd h List.not_mem_nil⟩⟩⟩) (ap_good wd_769), by decide +kernel⟩
theorem cu_X10_7 : ap_cU RX10 7 yX4_strength cX4_strength 3 (some .int) 2 := ⟨ap_gl (List.forall_mem_cons.mpr ⟨wd_626, List.forall_mem_cons.mpr ⟨wd_619, List.forall_mem_cons.mpr ⟨wd_230, List.forall_mem_cons.mpr ⟨wd_617, List.forall_mem_cons.mpr ⟨wd_61, fun _ h => absurd h List.not_mem_nil⟩⟩⟩⟩⟩) (ap_good wd_637), by decide +kernel⟩
theorem cu_X10_11 : ap_cU RX10 11 yX4_hours cX4_hours 2 (some .int) 1 := ⟨ap_gl (List.forall_mem_cons.mpr ⟨wd_582, List.forall_mem_cons.mpr ⟨wd_575, List.forall_mem_cons.mpr ⟨wd_230, List.forall_mem_cons.mpr ⟨wd_573, List.forall_mem_cons.mpr ⟨wd_61, fun _ h => absurd h List.not_mem_nil⟩⟩⟩⟩⟩) (ap_good wd_594), by decide +kernel⟩
theorem cs_X11_73 : ap_cS RX11 73 yX11_within cX11_within 3 (some .boolean) 3 := ⟨ap_gl (List.forall_mem_cons.mpr ⟨wd_380, List.forall_mem_cons.mpr ⟨wd_381, List.forall_mem_cons.mpr ⟨wd_57, fun _ h => absurd h List.not_mem_nil⟩⟩⟩) (ap_good wd_382), by decide +kernel⟩
theorem fl_X11_12 : ap_fld RX11 12 11 0 := ⟨RX11, TX11, 12, rfl, inw_X11, by decide, wd_339⟩
theorem fl_X11_81 : ap_fld RX11 81 8 1 := ⟨RX8, TX8, 17, rfl, inw_X8, by decide, wd_97⟩
theorem cv_X11_84 : ap_cV RX11 84 RX8 yX8_startAnew cX8_startAnew 2 none 1 := ⟨ap_g4 wd_387 wd_388 wd_389 wd_58 (ap_good wd_390), by decide +kernel⟩
theorem cv_X11_77 : ap_cV RX11 77 RX11 yX11_bad cX11_bad 2 (some .int) 1 := ⟨ap_g4 wd_383 wd_385 wd_0 wd_57 (ap_good wd_386), by decide +kernel⟩
theorem fl_X11_88 : ap_fld RX11 88 8 0 := ⟨RX8, TX8, 17, rfl, inw_X8, by decide, wd_92⟩
theorem fp_X11_88 : ap_fldP RX11 88 8 0 .int := ⟨RX8, TX8, 17, tyX8, rfl, inw_X8, by decide, wd_92, tyX8_ok, nmX8, rfl, by decide +kernel⟩
theorem cs_X11_91 : ap_cS RX11 91 yX11_isCell cX11_isCell 1 (some .boolean) 1 := ⟨ap_gl (List.forall_mem_cons.mpr ⟨wd_399, List.forall_mem_cons.mpr ⟨wd_400, List.forall_mem_cons.mpr ⟨wd_57, fun _ h => absurd h List.not_mem_nil⟩⟩⟩) (ap_good wd_401), by decide +kernel⟩
theorem cs_X11_95 : ap_cS RX11 95 yX11_isOwner cX11_isOwner 1 (some .boolean) 1 := ⟨ap_gl (List.forall_mem_cons.mpr ⟨wd_402, List.forall_mem_cons.mpr ⟨wd_403, List.forall_mem_cons.mpr ⟨wd_57, fun _ h => absurd h List.not_mem_nil⟩⟩⟩) (ap_good wd_404), by decide +kernel⟩
theorem cv_X11_102 : ap_cV RX11 102 RX8 yX8_add cX8_add 7 (some .int) 5 := ⟨ap_g4 wd_409 wd_410 wd_411 wd_58 (ap_good wd_412), by decide +kernel⟩
theorem cv_X11_98 : ap_cV RX11 98 RX11 yX11_full cX11_full 1 (some .int) 0 := ⟨ap_g4 wd_405 wd_407 wd_1 wd_57 (ap_good wd_408), by decide +kernel⟩
theorem cv_X11_106 : ap_cV RX11 106 RX8 yX8_has cX8_has 2 (some .boolean) 1 := ⟨ap_g4 wd_417 wd_418 wd_419 wd_58 (ap_good wd_420), by decide +kernel⟩
theorem cv_X11_109 : ap_cV RX11 109 RX8 yX8_remember cX8_remember 1 none 0 := ⟨ap_g4 wd_421 wd_422 wd_423 wd_58 (ap_good wd_424), by decide +kernel⟩
theorem fl_X11_112 : ap_fld RX11 112 8 4 := ⟨RX8, TX8, 17, rfl, inw_X8, by decide, wd_109⟩
theorem cv_X11_116 : ap_cV RX11 116 RX8 yX8_litAt cX8_litAt 2 (some .int) 1 := ⟨ap_g4 wd_432 wd_433 wd_434 wd_58 (ap_good wd_435), by decide +kernel⟩
theorem fl_X11_122 : ap_fld RX11 122 8 2 := ⟨RX8, TX8, 17, rfl, inw_X8, by decide, wd_102⟩
theorem fp_X11_122 : ap_fldP RX11 122 8 2 .int := ⟨RX8, TX8, 17, tyX8, rfl, inw_X8, by decide, wd_102, tyX8_ok, nmX8, rfl, by decide +kernel⟩
theorem cv_X11_119 : ap_cV RX11 119 RX11 yX11_no cX11_no 1 (some .int) 0 := ⟨ap_g4 wd_436 wd_438 wd_2 wd_57 (ap_good wd_439), by decide +kernel⟩
theorem fl_X11_125 : ap_fld RX11 125 8 14 := ⟨RX8, TX8, 17, rfl, inw_X8, by decide, wd_136⟩
theorem cv_X11_128 : ap_cV RX11 128 RX8 yX8_goBack cX8_goBack 1 none 0 := ⟨ap_g4 wd_444 wd_445 wd_446 wd_58 (ap_good wd_447), by decide +kernel⟩
theorem fl_X11_27 : ap_fld RX11 27 11 3 := ⟨RX11, TX11, 12, rfl, inw_X11, by decide, wd_342⟩
theorem fl_X11_131 : ap_fld RX11 131 5 1 := ⟨RX5, TX5, 7, rfl, inw_X5, by decide, wd_187⟩
theorem cv_X11_134 : ap_cV RX11 134 RX5 yX5_append cX5_append 2 (some .int) 1 := ⟨ap_g4 wd_452 wd_453 wd_454 wd_59 (ap_good wd_455), by decide +kernel⟩
theorem fp_X11_131 : ap_fldP RX11 131 5 1 .int := ⟨RX5, TX5, 7, tyX5, rfl, inw_X5, by decide, wd_187, tyX5_ok, nmX5, rfl, by decide +kernel⟩
theorem cv_X11_137 : ap_cV RX11 137 RX5 yX5_parse cX5_parse 2 (some .int) 0 := ⟨ap_g4 wd_464 wd_465 wd_466 wd_59 (ap_good wd_467), by decide +kernel⟩
theorem fl_X11_140 : ap_fld RX11 140 5 0 := ⟨RX5, TX5, 7, rfl, inw_X5, by decide, wd_185⟩
theorem cv_X11_143 : ap_cV RX11 143 RX8 yX8_takeFrom cX8_takeFrom 2 none 1 := ⟨ap_g4 wd_560 wd_561 wd_562 wd_58 (ap_good wd_563), by decide +kernel⟩
theorem fl_X11_146 : ap_fld RX11 146 8 3 := ⟨RX8, TX8, 17, rfl, inw_X8, by decide, wd_107⟩
theorem fl_X11_149 : ap_fld RX11 149 8 5 := ⟨RX8, TX8, 17, rfl, inw_X8, by decide, wd_112⟩
theorem fl_X11_152 : ap_fld RX11 152 8 6 := ⟨RX8, TX8, 17, rfl, inw_X8, by decide, wd_115⟩
theorem fl_X11_155 : ap_fld RX11 155 8 7 := ⟨RX8, TX8, 17, rfl, inw_X8, by decide, wd_119⟩
theorem fl_X11_36 : ap_fld RX11 36 11 4 := ⟨RX11, TX11, 12, rfl, inw_X11, by decide, wd_343⟩
theorem cv_X11_158 : ap_cV RX11 158 RX3 yX3_hoursOf cX3_hoursOf 2 (some .int) 1 := ⟨ap_g4 wd_568 wd_569 wd_570 wd_60 (ap_good wd_571), by decide +kernel⟩
theorem cs_X11_161 : ap_cS RX11 161 yX11_isHour cX11_isHour 1 (some .boolean) 1 := ⟨ap_gl (List.forall_mem_cons.mpr ⟨wd_599, List.forall_mem_cons.mpr ⟨wd_600, List.forall_mem_cons.mpr ⟨wd_57, fun _ h => absurd h List.not_mem_nil⟩⟩⟩) (ap_good wd_601), by decide +kernel⟩
theorem cv_X11_164 : ap_cV RX11 164 RX8 yX8_farFrom cX8_farFrom 3 (some .int) 2 := ⟨ap_g4 wd_602 wd_603 wd_604 wd_58 (ap_good wd_605), by decide +kernel⟩
theorem cv_X11_168 : ap_cV RX11 168 RX3 yX3_ifLit cX3_ifLit 5 (some .int) 3 := ⟨ap_g4 wd_612 wd_613 wd_614 wd_60 (ap_good wd_615), by decide +kernel⟩
theorem cv_X11_172 : ap_cV RX11 172 RX3 yX3_layCell cX3_layCell 4 none 2 := ⟨ap_g4 wd_645 wd_646 wd_647 wd_60 (ap_good wd_648), by decide +kernel⟩
theorem cv_X11_179 : ap_cV RX11 179 RX3 yX3_holder cX3_holder 8 (some .int) 3 := ⟨ap_g4 wd_655 wd_656 wd_657 wd_60 (ap_good wd_658), by decide +kernel⟩
theorem cv_X11_176 : ap_cV RX11 176 RX3 yX3_strongest cX3_strongest 5 (some .int) 2 := ⟨ap_g4 wd_651 wd_652 wd_653 wd_60 (ap_good wd_654), by decide +kernel⟩
theorem cv_X11_183 : ap_cV RX11 183 RX3 yX3_layAll cX3_layAll 4 none 1 := ⟨ap_g4 wd_663 wd_664 wd_665 wd_60 (ap_good wd_666), by decide +kernel⟩
theorem cv_X11_186 : ap_cV RX11 186 RX3 yX3_pick cX3_pick 5 (some .int) 2 := ⟨ap_g4 wd_671 wd_672 wd_673 wd_60 (ap_good wd_674), by decide +kernel⟩
theorem cv_X11_189 : ap_cV RX11 189 RX3 yX3_reaching cX3_reaching 6 (some .int) 3 := ⟨ap_g4 wd_684 wd_685 wd_686 wd_60 (ap_good wd_687), by decide +kernel⟩
theorem fl_X11_192 : ap_fld RX11 192 8 8 := ⟨RX8, TX8, 17, rfl, inw_X8, by decide, wd_122⟩
theorem fl_X11_195 : ap_fld RX11 195 8 9 := ⟨RX8, TX8, 17, rfl, inw_X8, by decide, wd_125⟩
theorem fp_X11_192 : ap_fldP RX11 192 8 8 .int := ⟨RX8, TX8, 17, tyX8, rfl, inw_X8, by decide, wd_122, tyX8_ok, nmX8, rfl, by decide +kernel⟩
theorem fl_X11_45 : ap_fld RX11 45 11 5 := ⟨RX11, TX11, 12, rfl, inw_X11, by decide, wd_344⟩
theorem cv_X11_198 : ap_cV RX11 198 RX6 yX6_layWanted cX6_layWanted 4 none 2 := ⟨ap_g4 wd_700 wd_701 wd_702 wd_67 (ap_good wd_703), by decide +kernel⟩
theorem cv_X11_201 : ap_cV RX11 201 RX6 yX6_fewest cX6_fewest 3 (some .int) 0 := ⟨ap_g4 wd_705 wd_706 wd_707 wd_67 (ap_good wd_708), by decide +kernel⟩
theorem cv_X11_204 : ap_cV RX11 204 RX6 yX6_leastTallow cX6_leastTallow 3 (some .int) 0 := ⟨ap_g4 wd_727 wd_728 wd_729 wd_67 (ap_good wd_730), by decide +kernel⟩
theorem cv_X11_207 : ap_cV RX11 207 RX3 yX3_bestPlace cX3_bestPlace 9 (some .int) 2 := ⟨ap_g4 wd_739 wd_740 wd_741 wd_60 (ap_good wd_742), by decide +kernel⟩
theorem fl_X11_52 : ap_fld RX11 52 11 6 := ⟨RX11, TX11, 12, rfl, inw_X11, by decide, wd_345⟩
theorem cv_X11_210 : ap_cV RX11 210 RX9 yX9_spread cX9_spread 5 none 2 := ⟨ap_g4 wd_758 wd_759 wd_760 wd_68 (ap_good wd_761), by decide +kernel⟩
theorem cv_X11_216 : ap_cV RX11 216 RX9 yX9_firstBehind cX9_firstBehind 4 (some .int) 1 := ⟨ap_g4 wd_774 wd_775 wd_776 wd_68 (ap_good wd_777), by decide +kernel⟩
theorem cv_X11_213 : ap_cV RX11 213 RX9 yX9_stepsFrom cX9_stepsFrom 2 (some .int) 1 := ⟨ap_g4 wd_770 wd_771 wd_772 wd_68 (ap_good wd_773), by decide +kernel⟩
theorem cv_X11_219 : ap_cV RX11 219 RX3 yX3_gainByWedding cX3_gainByWedding 4 (some .int) 2 := ⟨ap_g4 wd_782 wd_783 wd_784 wd_60 (ap_good wd_785), by decide +kernel⟩
theorem cv_X11_222 : ap_cV RX11 222 RX3 yX3_resting cX3_resting 11 (some .int) 3 := ⟨ap_g4 wd_794 wd_795 wd_796 wd_60 (ap_good wd_797), by decide +kernel⟩
theorem fl_X11_225 : ap_fld RX11 225 8 10 := ⟨RX8, TX8, 17, rfl, inw_X8, by decide, wd_128⟩
theorem cv_X11_228 : ap_cV RX11 228 RX8 yX8_addReading cX8_addReading 4 (some .int) 3 := ⟨ap_g4 wd_803 wd_804 wd_805 wd_58 (ap_good wd_806), by decide +kernel⟩
theorem fp_X11_225 : ap_fldP RX11 225 8 10 .int := ⟨RX8, TX8, 17, tyX8, rfl, inw_X8, by decide, wd_128, tyX8_ok, nmX8, rfl, by decide +kernel⟩
theorem cv_X11_231 : ap_cV RX11 231 RX6 yX6_layFitting cX6_layFitting 7 none 0 := ⟨ap_g4 wd_815 wd_816 wd_817 wd_67 (ap_good wd_818), by decide +kernel⟩
theorem cv_X11_237 : ap_cV RX11 237 RX6 yX6_inAll cX6_inAll 3 (some .int) 0 := ⟨ap_g4 wd_819 wd_820 wd_821 wd_67 (ap_good wd_822), by decide +kernel⟩
theorem fl_X11_234 : ap_fld RX11 234 6 4 := ⟨RX6, TX6, 7, rfl, inw_X6, by decide, wd_299⟩
theorem cv_X11_240 : ap_cV RX11 240 RX6 yX6_bestCell cX6_bestCell 5 (some .int) 0 := ⟨ap_g4 wd_827 wd_828 wd_829 wd_67 (ap_good wd_830), by decide +kernel⟩
theorem cs_X11_247 : ap_cS RX11 247 yJ6_bitCount_0f7a4 cJ6_bitCount_0f7a4 1 (some .int) 1 := ⟨ap_gl (List.forall_mem_cons.mpr ⟨wd_851, List.forall_mem_cons.mpr ⟨wd_718, List.forall_mem_cons.mpr ⟨wd_76, fun _ h => absurd h List.not_mem_nil⟩⟩⟩) (ap_good wd_719), by decide +kernel⟩
theorem cv_X11_243 : ap_cV RX11 243 RX11 yX11_keepFraction cX11_keepFraction 7 none 2 := ⟨ap_g4 wd_844 wd_846 wd_21 wd_57 (ap_good wd_847), by decide +kernel⟩
theorem cv_X11_255 : ap_cV RX11 255 RX3 yX3_acresOfNights cX3_acresOfNights 11 (some .int) 4 := ⟨ap_g4 wd_858 wd_859 wd_860 wd_60 (ap_good wd_861), by decide +kernel⟩
theorem fl_X11_60 : ap_fld RX11 60 11 8 := ⟨RX11, TX11, 12, rfl, inw_X11, by decide, wd_347⟩
theorem fl_X11_56 : ap_fld RX11 56 11 7 := ⟨RX11, TX11, 12, rfl, inw_X11, by decide, wd_346⟩
theorem fl_X11_16 : ap_fld RX11 16 11 1 := ⟨RX11, TX11, 12, rfl, inw_X11, by decide, wd_340⟩
theorem fl_X11_20 : ap_fld RX11 20 11 2 := ⟨RX11, TX11, 12, rfl, inw_X11, by decide, wd_341⟩
theorem fl_X11_63 : ap_fld RX11 63 11 9 := ⟨RX11, TX11, 12, rfl, inw_X11, by decide, wd_348⟩
theorem fl_X11_67 : ap_fld RX11 67 11 10 := ⟨RX11, TX11, 12, rfl, inw_X11, by decide, wd_349⟩
theorem fl_X11_70 : ap_fld RX11 70 11 11 := ⟨RX11, TX11, 12, rfl, inw_X11, by decide, wd_350⟩
theorem cv_X11_259 : ap_cV RX11 259 RX11 yX11_howMany cX11_howMany 2 (some .int) 1 := ⟨ap_g4 wd_887 wd_889 wd_22 wd_57 (ap_good wd_890), by decide +kernel⟩
theorem cv_X11_266 : ap_cV RX11 266 RX8 yX8_mix cX8_mix 6 (some .long) 1 := ⟨ap_g4 wd_897 wd_898 wd_899 wd_58 (ap_good wd_900), by decide +kernel⟩
theorem fp_X11_63 : ap_fldP RX11 63 11 9 .int := ⟨RX11, TX11, 12, tyX11, rfl, inw_X11, by decide, wd_348, tyX11_ok, nmX11, rfl, by decide +kernel⟩
theorem fp_X11_67 : ap_fldP RX11 67 11 10 .int := ⟨RX11, TX11, 12, tyX11, rfl, inw_X11, by decide, wd_349, tyX11_ok, nmX11, rfl, by decide +kernel⟩
theorem fp_X11_70 : ap_fldP RX11 70 11 11 .int := ⟨RX11, TX11, 12, tyX11, rfl, inw_X11, by decide, wd_350, tyX11_ok, nmX11, rfl, by decide +kernel⟩
theorem cs_X11_270 : ap_cS RX11 270 yX11_divisor cX11_divisor 11 (some .long) 2 := ⟨ap_gl (List.forall_mem_cons.mpr ⟨wd_848, List.forall_mem_cons.mpr ⟨wd_849, List.forall_mem_cons.mpr ⟨wd_57, fun _ h => absurd h List.not_mem_nil⟩⟩⟩) (ap_good wd_850), by decide +kernel⟩
theorem fp_X11_56 : ap_fldP RX11 56 11 7 .long := ⟨RX11, TX11, 12, tyX11, rfl, inw_X11, by decide, wd_346, tyX11_ok, nmX11, rfl, by decide +kernel⟩
theorem fp_X11_60 : ap_fldP RX11 60 11 8 .long := ⟨RX11, TX11, 12, tyX11, rfl, inw_X11, by decide, wd_347, tyX11_ok, nmX11, rfl, by decide +kernel⟩
theorem fl_X12_20 : ap_fld RX12 20 12 3 := ⟨RX12, TX12, 23, rfl, inw_X12, by decide, wd_911⟩
theorem fl_X12_7 : ap_fld RX12 7 12 0 := ⟨RX12, TX12, 23, rfl, inw_X12, by decide, wd_908⟩
theorem cv_X12_57 : ap_cV RX12 57 RX12 yX12_candles cX12_candles 1 (some .int) 0 := ⟨ap_g4 wd_990 wd_992 wd_24 wd_69 (ap_good wd_993), by decide +kernel⟩
theorem cs_X12_61 : ap_cS RX12 61 yX12_in cX12_in 6 (some .boolean) 3 := ⟨ap_gl (List.forall_mem_cons.mpr ⟨wd_983, List.forall_mem_cons.mpr ⟨wd_984, List.forall_mem_cons.mpr ⟨wd_69, fun _ h => absurd h List.not_mem_nil⟩⟩⟩) (ap_good wd_985), by decide +kernel⟩
theorem cs_X12_79 : ap_cS RX12 79 yX12_begin cX12_begin 3 none 2 := ⟨ap_gl (List.forall_mem_cons.mpr ⟨wd_994, List.forall_mem_cons.mpr ⟨wd_995, List.forall_mem_cons.mpr ⟨wd_69, fun _ h => absurd h List.not_mem_nil⟩⟩⟩) (ap_good wd_996), by decide +kernel⟩
theorem cv_X12_75 : ap_cV RX12 75 RX12 yX12_bad cX12_bad 2 (some .int) 1 := ⟨ap_g4 wd_986 wd_988 wd_23 wd_69 (ap_good wd_989), by decide +kernel⟩
theorem cs_X12_85 : ap_cS RX12 85 yX12_isCell cX12_isCell 1 (some .boolean) 1 := ⟨ap_gl (List.forall_mem_cons.mpr ⟨wd_1006, List.forall_mem_cons.mpr ⟨wd_1007, List.forall_mem_cons.mpr ⟨wd_69, fun _ h => absurd h List.not_mem_nil⟩⟩⟩) (ap_good wd_1008), by decide +kernel⟩
theorem cs_X12_89 : ap_cS RX12 89 yX12_isLight cX12_isLight 1 (some .boolean) 1 := ⟨ap_gl (List.forall_mem_cons.mpr ⟨wd_1010, List.forall_mem_cons.mpr ⟨wd_1011, List.forall_mem_cons.mpr ⟨wd_69, fun _ h => absurd h List.not_mem_nil⟩⟩⟩) (ap_good wd_1012), by decide +kernel⟩
theorem cs_X12_92 : ap_cS RX12 92 yX12_isOwner cX12_isOwner 1 (some .boolean) 1 := ⟨ap_gl (List.forall_mem_cons.mpr ⟨wd_1014, List.forall_mem_cons.mpr ⟨wd_1015, List.forall_mem_cons.mpr ⟨wd_69, fun _ h => absurd h List.not_mem_nil⟩⟩⟩) (ap_good wd_1016), by decide +kernel⟩
theorem cs_X12_100 : ap_cS RX12 100 yX12_layCandle cX12_layCandle 7 none 6 := ⟨ap_gl (List.forall_mem_cons.mpr ⟨wd_1023, List.forall_mem_cons.mpr ⟨wd_1024, List.forall_mem_cons.mpr ⟨wd_69, fun _ h => absurd h List.not_mem_nil⟩⟩⟩) (ap_good wd_1025), by decide +kernel⟩
theorem cv_X12_97 : ap_cV RX12 97 RX12 yX12_full cX12_full 1 (some .int) 0 := ⟨ap_g4 wd_1019 wd_1021 wd_25 wd_69 (ap_good wd_1022), by decide +kernel⟩
theorem cv_X12_104 : ap_cV RX12 104 RX12 yX12_get cX12_get 3 (some .int) 2 := ⟨ap_g4 wd_1034 wd_1036 wd_27 wd_69 (ap_good wd_1037), by decide +kernel⟩
theorem cv_X12_108 : ap_cV RX12 108 RX12 yX12_isCandle cX12_isCandle 2 (some .boolean) 1 := ⟨ap_g4 wd_1030 wd_1032 wd_26 wd_69 (ap_good wd_1033), by decide +kernel⟩
theorem cv_X12_111 : ap_cV RX12 111 RX12 yX12_keep cX12_keep 3 none 0 := ⟨ap_g4 wd_1038 wd_1040 wd_28 wd_69 (ap_good wd_1041), by decide +kernel⟩
theorem cv_X12_114 : ap_cV RX12 114 RX12 yX12_no cX12_no 1 (some .int) 0 := ⟨ap_g4 wd_1046 wd_1048 wd_29 wd_69 (ap_good wd_1049), by decide +kernel⟩
theorem cs_X12_117 : ap_cS RX12 117 yX12_wick cX12_wick 2 (some .int) 2 := ⟨ap_gl (List.forall_mem_cons.mpr ⟨wd_1087, List.forall_mem_cons.mpr ⟨wd_1088, List.forall_mem_cons.mpr ⟨wd_69, fun _ h => absurd h List.not_mem_nil⟩⟩⟩) (ap_good wd_1089), by decide +kernel⟩
theorem cs_X12_120 : ap_cS RX12 120 yX12_plain cX12_plain 2 (some .int) 2 := ⟨ap_gl (List.forall_mem_cons.mpr ⟨wd_1090, List.forall_mem_cons.mpr ⟨wd_1091, List.forall_mem_cons.mpr ⟨wd_69, fun _ h => absurd h List.not_mem_nil⟩⟩⟩) (ap_good wd_1092), by decide +kernel⟩
theorem cs_X12_123 : ap_cS RX12 123 yX12_apart cX12_apart 2 (some .int) 2 := ⟨ap_gl (List.forall_mem_cons.mpr ⟨wd_1081, List.forall_mem_cons.mpr ⟨wd_1082, List.forall_mem_cons.mpr ⟨wd_69, fun _ h => absurd h List.not_mem_nil⟩⟩⟩) (ap_good wd_1083), by decide +kernel⟩
theorem fp_X12_126 : ap_fldP RX12 126 12 6 .int := ⟨RX12, TX12, 23, tyX12, rfl, inw_X12, by decide, wd_914, tyX12_ok, nmX12, rfl, by decide +kernel⟩
theorem fl_X12_27 : ap_fld RX12 27 12 7 := ⟨RX12, TX12, 23, rfl, inw_X12, by decide, wd_915⟩
theorem fl_X12_30 : ap_fld RX12 30 12 8 := ⟨RX12, TX12, 23, rfl, inw_X12, by decide, wd_916⟩
theorem fl_X12_126 : ap_fld RX12 126 12 6 := ⟨RX12, TX12, 23, rfl, inw_X12, by decide, wd_914⟩
theorem cs_X12_130 : ap_cS RX12 130 yX12_burnsFor cX12_burnsFor 2 (some .int) 2 := ⟨ap_gl (List.forall_mem_cons.mpr ⟨wd_1059, List.forall_mem_cons.mpr ⟨wd_1060, List.forall_mem_cons.mpr ⟨wd_69, fun _ h => absurd h List.not_mem_nil⟩⟩⟩) (ap_good wd_1061), by decide +kernel⟩
theorem cs_X12_133 : ap_cS RX12 133 yX12_far cX12_far 2 (some .int) 2 := ⟨ap_gl (List.forall_mem_cons.mpr ⟨wd_1078, List.forall_mem_cons.mpr ⟨wd_1079, List.forall_mem_cons.mpr ⟨wd_69, fun _ h => absurd h List.not_mem_nil⟩⟩⟩) (ap_good wd_1080), by decide +kernel⟩
theorem cs_X12_136 : ap_cS RX12 136 yX12_strength cX12_strength 3 (some .int) 3 := ⟨ap_gl (List.forall_mem_cons.mpr ⟨wd_1084, List.forall_mem_cons.mpr ⟨wd_1085, List.forall_mem_cons.mpr ⟨wd_69, fun _ h => absurd h List.not_mem_nil⟩⟩⟩) (ap_good wd_1086), by decide +kernel⟩
theorem cv_X12_140 : ap_cV RX12 140 RX12 yX12_lightOf cX12_lightOf 7 (some .int) 3 := ⟨ap_g4 wd_1074 wd_1076 wd_31 wd_69 (ap_good wd_1077), by decide +kernel⟩
theorem cv_X12_143 : ap_cV RX12 143 RX12 yX12_lightIn cX12_lightIn 6 (some .int) 2 := ⟨ap_g4 wd_1102 wd_1104 wd_33 wd_69 (ap_good wd_1105), by decide +kernel⟩
theorem cv_X12_146 : ap_cV RX12 146 RX12 yX12_whose cX12_whose 7 (some .int) 2 := ⟨ap_g4 wd_1098 wd_1100 wd_32 wd_69 (ap_good wd_1101), by decide +kernel⟩
theorem cs_X12_151 : ap_cS RX12 151 yX12_isHour cX12_isHour 1 (some .boolean) 1 := ⟨ap_gl (List.forall_mem_cons.mpr ⟨wd_1066, List.forall_mem_cons.mpr ⟨wd_1067, List.forall_mem_cons.mpr ⟨wd_69, fun _ h => absurd h List.not_mem_nil⟩⟩⟩) (ap_good wd_1068), by decide +kernel⟩
theorem cv_X12_154 : ap_cV RX12 154 RX12 yX12_layHand cX12_layHand 2 none 0 := ⟨ap_g4 wd_1070 wd_1072 wd_30 wd_69 (ap_good wd_1073), by decide +kernel⟩
theorem cv_X12_159 : ap_cV RX12 159 RX12 yX12_listOf cX12_listOf 7 (some .int) 3 := ⟨ap_g4 wd_1110 wd_1112 wd_34 wd_69 (ap_good wd_1113), by decide +kernel⟩
theorem cs_X12_162 : ap_cS RX12 162 yX12_bits cX12_bits 3 (some .int) 1 := ⟨ap_gl (List.forall_mem_cons.mpr ⟨wd_1134, List.forall_mem_cons.mpr ⟨wd_1135, List.forall_mem_cons.mpr ⟨wd_69, fun _ h => absurd h List.not_mem_nil⟩⟩⟩) (ap_good wd_1136), by decide +kernel⟩
theorem cv_X12_165 : ap_cV RX12 165 RX12 yX12_areLight cX12_areLight 5 (some .boolean) 2 := ⟨ap_g4 wd_1137 wd_1139 wd_35 wd_69 (ap_good wd_1140), by decide +kernel⟩
theorem cv_X12_169 : ap_cV RX12 169 RX12 yX12_tallowOf cX12_tallowOf 4 (some .int) 1 := ⟨ap_g4 wd_1145 wd_1147 wd_36 wd_69 (ap_good wd_1148), by decide +kernel⟩
theorem cv_X12_172 : ap_cV RX12 172 RX12 yX12_acresOf cX12_acresOf 5 (some .int) 2 := ⟨ap_g4 wd_1153 wd_1155 wd_37 wd_69 (ap_good wd_1156), by decide +kernel⟩
theorem fl_X12_33 : ap_fld RX12 33 12 9 := ⟨RX12, TX12, 23, rfl, inw_X12, by decide, wd_917⟩
theorem cv_X12_176 : ap_cV RX12 176 RX12 yX12_isBeside cX12_isBeside 3 (some .boolean) 2 := ⟨ap_g4 wd_1166 wd_1168 wd_39 wd_69 (ap_good wd_1169), by decide +kernel⟩
theorem cv_X12_179 : ap_cV RX12 179 RX12 yX12_laySteps cX12_laySteps 9 none 3 := ⟨ap_g4 wd_1161 wd_1163 wd_38 wd_69 (ap_good wd_1164), by decide +kernel⟩
theorem cv_X12_183 : ap_cV RX12 183 RX12 yX12_ownOf cX12_ownOf 4 (some .int) 1 := ⟨ap_g4 wd_1183 wd_1185 wd_41 wd_69 (ap_good wd_1186), by decide +kernel⟩
theorem fl_X12_36 : ap_fld RX12 36 12 10 := ⟨RX12, TX12, 23, rfl, inw_X12, by decide, wd_918⟩
theorem fl_X12_39 : ap_fld RX12 39 12 11 := ⟨RX12, TX12, 23, rfl, inw_X12, by decide, wd_919⟩
theorem cv_X12_188 : ap_cV RX12 188 RX12 yX12_layGets cX12_layGets 9 none 4 := ⟨ap_g4 wd_1179 wd_1181 wd_40 wd_69 (ap_good wd_1182), by decide +kernel⟩
theorem fp_X12_194 : ap_fldP RX12 194 12 14 .int := ⟨RX12, TX12, 23, tyX12, rfl, inw_X12, by decide, wd_922, tyX12_ok, nmX12, rfl, by decide +kernel⟩
theorem fl_X12_42 : ap_fld RX12 42 12 12 := ⟨RX12, TX12, 23, rfl, inw_X12, by decide, wd_920⟩
theorem cv_X12_197 : ap_cV RX12 197 RX12 yX12_areSo cX12_areSo 4 (some .boolean) 0 := ⟨ap_g4 wd_1204 wd_1206 wd_43 wd_69 (ap_good wd_1207), by decide +kernel⟩
theorem fl_X12_194 : ap_fld RX12 194 12 14 := ⟨RX12, TX12, 23, rfl, inw_X12, by decide, wd_922⟩
theorem cv_X12_201 : ap_cV RX12 201 RX12 yX12_layFits cX12_layFits 2 none 0 := ⟨ap_g4 wd_1200 wd_1202 wd_42 wd_69 (ap_good wd_1203), by decide +kernel⟩
theorem fl_X12_45 : ap_fld RX12 45 12 13 := ⟨RX12, TX12, 23, rfl, inw_X12, by decide, wd_921⟩
theorem cv_X12_204 : ap_cV RX12 204 RX12 yX12_mostLike cX12_mostLike 6 (some .int) 2 := ⟨ap_g4 wd_1212 wd_1214 wd_44 wd_69 (ap_good wd_1215), by decide +kernel⟩
theorem fp_X12_207 : ap_fldP RX12 207 12 4 .long := ⟨RX12, TX12, 23, tyX12, rfl, inw_X12, by decide, wd_912, tyX12_ok, nmX12, rfl, by decide +kernel⟩
theorem fp_X12_23 : ap_fldP RX12 23 12 5 .long := ⟨RX12, TX12, 23, tyX12, rfl, inw_X12, by decide, wd_913, tyX12_ok, nmX12, rfl, by decide +kernel⟩
theorem cv_X12_212 : ap_cV RX12 212 RX12 yX12_fraction cX12_fraction 11 none 2 := ⟨ap_g4 wd_1221 wd_1223 wd_45 wd_69 (ap_good wd_1224), by decide +kernel⟩
theorem fl_X12_232 : ap_fld RX12 232 12 16 := ⟨RX12, TX12, 23, rfl, inw_X12, by decide, wd_924⟩
theorem fl_X12_48 : ap_fld RX12 48 12 15 := ⟨RX12, TX12, 23, rfl, inw_X12, by decide, wd_923⟩
theorem fp_X12_232 : ap_fldP RX12 232 12 16 .int := ⟨RX12, TX12, 23, tyX12, rfl, inw_X12, by decide, wd_924, tyX12_ok, nmX12, rfl, by decide +kernel⟩
theorem fp_X12_243 : ap_fldP RX12 243 12 17 .int := ⟨RX12, TX12, 23, tyX12, rfl, inw_X12, by decide, wd_925, tyX12_ok, nmX12, rfl, by decide +kernel⟩
theorem fl_X12_243 : ap_fld RX12 243 12 17 := ⟨RX12, TX12, 23, rfl, inw_X12, by decide, wd_925⟩
theorem fp_X12_246 : ap_fldP RX12 246 12 18 .int := ⟨RX12, TX12, 23, tyX12, rfl, inw_X12, by decide, wd_926, tyX12_ok, nmX12, rfl, by decide +kernel⟩
theorem fp_X12_249 : ap_fldP RX12 249 12 19 .int := ⟨RX12, TX12, 23, tyX12, rfl, inw_X12, by decide, wd_927, tyX12_ok, nmX12, rfl, by decide +kernel⟩
theorem fp_X12_252 : ap_fldP RX12 252 12 20 .int := ⟨RX12, TX12, 23, tyX12, rfl, inw_X12, by decide, wd_928, tyX12_ok, nmX12, rfl, by decide +kernel⟩
theorem cs_X12_255 : ap_cS RX12 255 yX12_isSmall cX12_isSmall 1 (some .boolean) 1 := ⟨ap_gl (List.forall_mem_cons.mpr ⟨wd_1253, List.forall_mem_cons.mpr ⟨wd_1254, List.forall_mem_cons.mpr ⟨wd_69, fun _ h => absurd h List.not_mem_nil⟩⟩⟩) (ap_good wd_1255), by decide +kernel⟩
theorem cs_X12_258 : ap_cS RX12 258 yX12_isFigure cX12_isFigure 1 (some .boolean) 1 := ⟨ap_gl (List.forall_mem_cons.mpr ⟨wd_1258, List.forall_mem_cons.mpr ⟨wd_1259, List.forall_mem_cons.mpr ⟨wd_69, fun _ h => absurd h List.not_mem_nil⟩⟩⟩) (ap_good wd_1260), by decide +kernel⟩
theorem fl_X12_249 : ap_fld RX12 249 12 19 := ⟨RX12, TX12, 23, rfl, inw_X12, by decide, wd_927⟩
theorem fl_X12_246 : ap_fld RX12 246 12 18 := ⟨RX12, TX12, 23, rfl, inw_X12, by decide, wd_926⟩
theorem fl_X12_252 : ap_fld RX12 252 12 20 := ⟨RX12, TX12, 23, rfl, inw_X12, by decide, wd_928⟩
theorem cv_X12_261 : ap_cV RX12 261 RX12 yX12_lookAt cX12_lookAt 5 none 1 := ⟨ap_g4 wd_1249 wd_1251 wd_46 wd_69 (ap_good wd_1252), by decide +kernel⟩
theorem fl_X12_54 : ap_fld RX12 54 12 22 := ⟨RX12, TX12, 23, rfl, inw_X12, by decide, wd_930⟩
theorem cv_X12_265 : ap_cV RX12 265 RX12 yX12_goBehind cX12_goBehind 1 none 0 := ⟨ap_g4 wd_1271 wd_1273 wd_49 wd_69 (ap_good wd_1274), by decide +kernel⟩
theorem cv_X12_268 : ap_cV RX12 268 RX12 yX12_isCalled cX12_isCalled 10 (some .boolean) 7 := ⟨ap_g4 wd_1267 wd_1269 wd_48 wd_69 (ap_good wd_1270), by decide +kernel⟩
theorem cv_X12_272 : ap_cV RX12 272 RX12 yX12_takes cX12_takes 4 (some .boolean) 3 := ⟨ap_g4 wd_1275 wd_1277 wd_50 wd_69 (ap_good wd_1278), by decide +kernel⟩
theorem fl_X12_51 : ap_fld RX12 51 12 21 := ⟨RX12, TX12, 23, rfl, inw_X12, by decide, wd_929⟩
theorem cv_X12_279 : ap_cV RX12 279 RX12 yX12_takesOut cX12_takesOut 1 (some .boolean) 0 := ⟨ap_g4 wd_1287 wd_1289 wd_53 wd_69 (ap_good wd_1290), by decide +kernel⟩
theorem cv_X12_276 : ap_cV RX12 276 RX12 yX12_takesCandle cX12_takesCandle 1 (some .boolean) 0 := ⟨ap_g4 wd_1283 wd_1285 wd_52 wd_69 (ap_good wd_1286), by decide +kernel⟩
theorem cv_X12_282 : ap_cV RX12 282 RX12 yX12_takesFirst cX12_takesFirst 1 (some .boolean) 0 := ⟨ap_g4 wd_1263 wd_1265 wd_47 wd_69 (ap_good wd_1266), by decide +kernel⟩
theorem cv_X12_285 : ap_cV RX12 285 RX12 yX12_takesItem cX12_takesItem 1 (some .boolean) 0 := ⟨ap_g4 wd_1279 wd_1281 wd_51 wd_69 (ap_good wd_1282), by decide +kernel⟩
theorem fl_X12_23 : ap_fld RX12 23 12 5 := ⟨RX12, TX12, 23, rfl, inw_X12, by decide, wd_913⟩
theorem fl_X12_207 : ap_fld RX12 207 12 4 := ⟨RX12, TX12, 23, rfl, inw_X12, by decide, wd_912⟩
theorem fl_X12_16 : ap_fld RX12 16 12 2 := ⟨RX12, TX12, 23, rfl, inw_X12, by decide, wd_910⟩
theorem fl_X12_13 : ap_fld RX12 13 12 1 := ⟨RX12, TX12, 23, rfl, inw_X12, by decide, wd_909⟩
theorem cv_X12_288 : ap_cV RX12 288 RX12 yX12_counted cX12_counted 2 (some .int) 1 := ⟨ap_g4 wd_1311 wd_1313 wd_54 wd_69 (ap_good wd_1314), by decide +kernel⟩
theorem cv_X12_295 : ap_cV RX12 295 RX12 yX12_sums cX12_sums 8 (some .long) 3 := ⟨ap_g4 wd_1321 wd_1323 wd_55 wd_69 (ap_good wd_1324), by decide +kernel⟩
theorem co_X3_67_X4 : ap_cO RX3 67 RX4 "CandleLand$Plain" yX4_hours yX4_hours cX4_hours 2 (some .int) 1 := ⟨ap_gl (List.forall_mem_cons.mpr ⟨wd_572, List.forall_mem_cons.mpr ⟨wd_575, List.forall_mem_cons.mpr ⟨wd_573, List.forall_mem_cons.mpr ⟨wd_574, List.forall_mem_cons.mpr ⟨wd_573, List.forall_mem_cons.mpr ⟨wd_61, fun _ h => absurd h List.not_mem_nil⟩⟩⟩⟩⟩⟩) (ap_good wd_594), ⟨_, _, _, wd_594⟩, by decide +kernel⟩
theorem co_X3_67_X10 : ap_cO RX3 67 RX10 "CandleLand$Plain" yX4_hours yX10_hours cX10_hours 2 (some .int) 1 := ⟨ap_gl (List.forall_mem_cons.mpr ⟨wd_572, List.forall_mem_cons.mpr ⟨wd_575, List.forall_mem_cons.mpr ⟨wd_573, List.forall_mem_cons.mpr ⟨wd_593, List.forall_mem_cons.mpr ⟨wd_580, List.forall_mem_cons.mpr ⟨wd_62, fun _ h => absurd h List.not_mem_nil⟩⟩⟩⟩⟩⟩) (ap_good wd_581), ⟨_, _, _, wd_594⟩, by decide +kernel⟩
theorem co_X3_67_X1 : ap_cO RX3 67 RX1 "CandleLand$Plain" yX4_hours yX4_hours cX4_hours 2 (some .int) 1 := ⟨ap_gl (List.forall_mem_cons.mpr ⟨wd_572, List.forall_mem_cons.mpr ⟨wd_575, List.forall_mem_cons.mpr ⟨wd_573, List.forall_mem_cons.mpr ⟨wd_583, List.forall_mem_cons.mpr ⟨wd_573, List.forall_mem_cons.mpr ⟨wd_61, fun _ h => absurd h List.not_mem_nil⟩⟩⟩⟩⟩⟩) (ap_good wd_594), ⟨_, _, _, wd_594⟩, by decide +kernel⟩
theorem co_X3_67_X2 : ap_cO RX3 67 RX2 "CandleLand$Plain" yX4_hours yX2_hours cX2_hours 2 (some .int) 1 := ⟨ap_gl (List.forall_mem_cons.mpr ⟨wd_572, List.forall_mem_cons.mpr ⟨wd_575, List.forall_mem_cons.mpr ⟨wd_573, List.forall_mem_cons.mpr ⟨wd_584, List.forall_mem_cons.mpr ⟨wd_585, List.forall_mem_cons.mpr ⟨wd_64, fun _ h => absurd h List.not_mem_nil⟩⟩⟩⟩⟩⟩) (ap_good wd_586), ⟨_, _, _, wd_594⟩, by decide +kernel⟩
theorem co_X3_67_X0 : ap_cO RX3 67 RX0 "CandleLand$Plain" yX4_hours yX0_hours cX0_hours 2 (some .int) 1 := ⟨ap_gl (List.forall_mem_cons.mpr ⟨wd_572, List.forall_mem_cons.mpr ⟨wd_575, List.forall_mem_cons.mpr ⟨wd_573, List.forall_mem_cons.mpr ⟨wd_576, List.forall_mem_cons.mpr ⟨wd_577, List.forall_mem_cons.mpr ⟨wd_65, fun _ h => absurd h List.not_mem_nil⟩⟩⟩⟩⟩⟩) (ap_good wd_578), ⟨_, _, _, wd_594⟩, by decide +kernel⟩
theorem co_X3_67_X7 : ap_cO RX3 67 RX7 "CandleLand$Plain" yX4_hours yX7_hours cX7_hours 2 (some .int) 1 := ⟨ap_gl (List.forall_mem_cons.mpr ⟨wd_572, List.forall_mem_cons.mpr ⟨wd_575, List.forall_mem_cons.mpr ⟨wd_573, List.forall_mem_cons.mpr ⟨wd_590, List.forall_mem_cons.mpr ⟨wd_591, List.forall_mem_cons.mpr ⟨wd_66, fun _ h => absurd h List.not_mem_nil⟩⟩⟩⟩⟩⟩) (ap_good wd_592), ⟨_, _, _, wd_594⟩, by decide +kernel⟩
theorem co_X3_74_X4 : ap_cO RX3 74 RX4 "CandleLand$Plain" yX4_strength yX4_strength cX4_strength 3 (some .int) 2 := ⟨ap_gl (List.forall_mem_cons.mpr ⟨wd_616, List.forall_mem_cons.mpr ⟨wd_619, List.forall_mem_cons.mpr ⟨wd_617, List.forall_mem_cons.mpr ⟨wd_618, List.forall_mem_cons.mpr ⟨wd_617, List.forall_mem_cons.mpr ⟨wd_61, fun _ h => absurd h List.not_mem_nil⟩⟩⟩⟩⟩⟩) (ap_good wd_637), ⟨_, _, _, wd_637⟩, by decide +kernel⟩
theorem co_X3_74_X10 : ap_cO RX3 74 RX10 "CandleLand$Plain" yX4_strength yX10_strength cX10_strength 4 (some .int) 2 := ⟨ap_gl (List.forall_mem_cons.mpr ⟨wd_616, List.forall_mem_cons.mpr ⟨wd_619, List.forall_mem_cons.mpr ⟨wd_617, List.forall_mem_cons.mpr ⟨wd_636, List.forall_mem_cons.mpr ⟨wd_624, List.forall_mem_cons.mpr ⟨wd_62, fun _ h => absurd h List.not_mem_nil⟩⟩⟩⟩⟩⟩) (ap_good wd_625), ⟨_, _, _, wd_637⟩, by decide +kernel⟩
theorem co_X3_74_X1 : ap_cO RX3 74 RX1 "CandleLand$Plain" yX4_strength yX1_strength cX1_strength 3 (some .int) 2 := ⟨ap_gl (List.forall_mem_cons.mpr ⟨wd_616, List.forall_mem_cons.mpr ⟨wd_619, List.forall_mem_cons.mpr ⟨wd_617, List.forall_mem_cons.mpr ⟨wd_627, List.forall_mem_cons.mpr ⟨wd_628, List.forall_mem_cons.mpr ⟨wd_63, fun _ h => absurd h List.not_mem_nil⟩⟩⟩⟩⟩⟩) (ap_good wd_629), ⟨_, _, _, wd_637⟩, by decide +kernel⟩
theorem co_X3_74_X2 : ap_cO RX3 74 RX2 "CandleLand$Plain" yX4_strength yX1_strength cX1_strength 3 (some .int) 2 := ⟨ap_gl (List.forall_mem_cons.mpr ⟨wd_616, List.forall_mem_cons.mpr ⟨wd_619, List.forall_mem_cons.mpr ⟨wd_617, List.forall_mem_cons.mpr ⟨wd_631, List.forall_mem_cons.mpr ⟨wd_628, List.forall_mem_cons.mpr ⟨wd_63, fun _ h => absurd h List.not_mem_nil⟩⟩⟩⟩⟩⟩) (ap_good wd_629), ⟨_, _, _, wd_637⟩, by decide +kernel⟩
theorem co_X3_74_X0 : ap_cO RX3 74 RX0 "CandleLand$Plain" yX4_strength yX0_strength cX0_strength 3 (some .int) 2 := ⟨ap_gl (List.forall_mem_cons.mpr ⟨wd_616, List.forall_mem_cons.mpr ⟨wd_619, List.forall_mem_cons.mpr ⟨wd_617, List.forall_mem_cons.mpr ⟨wd_620, List.forall_mem_cons.mpr ⟨wd_621, List.forall_mem_cons.mpr ⟨wd_65, fun _ h => absurd h List.not_mem_nil⟩⟩⟩⟩⟩⟩) (ap_good wd_622), ⟨_, _, _, wd_637⟩, by decide +kernel⟩
theorem co_X3_74_X7 : ap_cO RX3 74 RX7 "CandleLand$Plain" yX4_strength yX7_strength cX7_strength 3 (some .int) 2 := ⟨ap_gl (List.forall_mem_cons.mpr ⟨wd_616, List.forall_mem_cons.mpr ⟨wd_619, List.forall_mem_cons.mpr ⟨wd_617, List.forall_mem_cons.mpr ⟨wd_632, List.forall_mem_cons.mpr ⟨wd_633, List.forall_mem_cons.mpr ⟨wd_66, fun _ h => absurd h List.not_mem_nil⟩⟩⟩⟩⟩⟩) (ap_good wd_634), ⟨_, _, _, wd_637⟩, by decide +kernel⟩
