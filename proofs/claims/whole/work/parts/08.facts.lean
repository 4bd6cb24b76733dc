theorem uin_X0 : ∀ w ∈ u_ws RX0 TX0 3, w ∈ gw := by
  show ∀ w ∈ ([u_lay RX0 TX0 0, u_lay RX0 TX0 1, u_lay RX0 TX0 2] : List Cond), w ∈ gw
  refine List.forall_mem_cons.mpr ⟨gk_1_136, List.forall_mem_cons.mpr ⟨gk_1_138, List.forall_mem_cons.mpr ⟨gk_1_140, fun _ h => absurd h List.not_mem_nil⟩⟩⟩
theorem uin_X1 : ∀ w ∈ u_ws RX1 TX1 12, w ∈ gw := by
  show ∀ w ∈ ([u_lay RX1 TX1 0, u_lay RX1 TX1 1, u_lay RX1 TX1 2, u_lay RX1 TX1 3, u_lay RX1 TX1 4, u_lay RX1 TX1 5, u_lay RX1 TX1 6, u_lay RX1 TX1 7, u_lay RX1 TX1 8, u_lay RX1 TX1 9, u_lay RX1 TX1 10, u_lay RX1 TX1 11] : List Cond), w ∈ gw
  refine List.forall_mem_cons.mpr ⟨gk_1_75, List.forall_mem_cons.mpr ⟨gk_1_77, List.forall_mem_cons.mpr ⟨gk_1_79, List.forall_mem_cons.mpr ⟨gk_1_81, List.forall_mem_cons.mpr ⟨gk_1_83, List.forall_mem_cons.mpr ⟨gk_1_85, List.forall_mem_cons.mpr ⟨gk_1_87, List.forall_mem_cons.mpr ⟨gk_1_89, List.forall_mem_cons.mpr ⟨gk_1_91, List.forall_mem_cons.mpr ⟨gk_1_93, List.forall_mem_cons.mpr ⟨gk_1_95, List.forall_mem_cons.mpr ⟨gk_1_97, fun _ h => absurd h List.not_mem_nil⟩⟩⟩⟩⟩⟩⟩⟩⟩⟩⟩⟩
theorem uin_X2 : ∀ w ∈ u_ws RX2 TX2 2, w ∈ gw := by
  show ∀ w ∈ ([u_lay RX2 TX2 0, u_lay RX2 TX2 1] : List Cond), w ∈ gw
  refine List.forall_mem_cons.mpr ⟨gk_1_188, List.forall_mem_cons.mpr ⟨gk_1_190, fun _ h => absurd h List.not_mem_nil⟩⟩
theorem uin_X3 : ∀ w ∈ u_ws RX3 TX3 3, w ∈ gw := by
  show ∀ w ∈ ([u_lay RX3 TX3 0, u_lay RX3 TX3 1, u_lay RX3 TX3 2] : List Cond), w ∈ gw
  refine List.forall_mem_cons.mpr ⟨gk_1_203, List.forall_mem_cons.mpr ⟨gk_1_205, List.forall_mem_cons.mpr ⟨gk_1_207, fun _ h => absurd h List.not_mem_nil⟩⟩⟩
theorem uin_X4 : ∀ w ∈ u_ws RX4 TX4 8, w ∈ gw := by
  show ∀ w ∈ ([u_lay RX4 TX4 0, u_lay RX4 TX4 1, u_lay RX4 TX4 2, u_lay RX4 TX4 3, u_lay RX4 TX4 4, u_lay RX4 TX4 5, u_lay RX4 TX4 6, u_lay RX4 TX4 7] : List Cond), w ∈ gw
  refine List.forall_mem_cons.mpr ⟨gk_1_161, List.forall_mem_cons.mpr ⟨gk_1_163, List.forall_mem_cons.mpr ⟨gk_1_165, List.forall_mem_cons.mpr ⟨gk_1_167, List.forall_mem_cons.mpr ⟨gk_1_169, List.forall_mem_cons.mpr ⟨gk_1_171, List.forall_mem_cons.mpr ⟨gk_1_173, List.forall_mem_cons.mpr ⟨gk_1_175, fun _ h => absurd h List.not_mem_nil⟩⟩⟩⟩⟩⟩⟩⟩
theorem uin_X5 : ∀ w ∈ u_ws RX5 TX5 5, w ∈ gw := by
  show ∀ w ∈ ([u_lay RX5 TX5 0, u_lay RX5 TX5 1, u_lay RX5 TX5 2, u_lay RX5 TX5 3, u_lay RX5 TX5 4] : List Cond), w ∈ gw
  refine List.forall_mem_cons.mpr ⟨gk_1_115, List.forall_mem_cons.mpr ⟨gk_1_117, List.forall_mem_cons.mpr ⟨gk_1_119, List.forall_mem_cons.mpr ⟨gk_1_121, List.forall_mem_cons.mpr ⟨gk_1_123, fun _ h => absurd h List.not_mem_nil⟩⟩⟩⟩⟩
theorem uin_X6 : ∀ w ∈ u_ws RX6 TX6 10, w ∈ gw := by
  show ∀ w ∈ ([u_lay RX6 TX6 0, u_lay RX6 TX6 1, u_lay RX6 TX6 2, u_lay RX6 TX6 3, u_lay RX6 TX6 4, u_lay RX6 TX6 5, u_lay RX6 TX6 6, u_lay RX6 TX6 7, u_lay RX6 TX6 8, u_lay RX6 TX6 9] : List Cond), w ∈ gw
  refine List.forall_mem_cons.mpr ⟨gk_1_220, List.forall_mem_cons.mpr ⟨gk_1_222, List.forall_mem_cons.mpr ⟨gk_1_224, List.forall_mem_cons.mpr ⟨gk_1_226, List.forall_mem_cons.mpr ⟨gk_1_228, List.forall_mem_cons.mpr ⟨gk_1_230, List.forall_mem_cons.mpr ⟨gk_1_232, List.forall_mem_cons.mpr ⟨gk_1_234, List.forall_mem_cons.mpr ⟨gk_1_236, List.forall_mem_cons.mpr ⟨gk_1_238, fun _ h => absurd h List.not_mem_nil⟩⟩⟩⟩⟩⟩⟩⟩⟩⟩
theorem uin_X7 : ∀ w ∈ u_ws RX7 TX7 17, w ∈ gw := by
  show ∀ w ∈ ([u_lay RX7 TX7 0, u_lay RX7 TX7 1, u_lay RX7 TX7 2, u_lay RX7 TX7 3, u_lay RX7 TX7 4, u_lay RX7 TX7 5, u_lay RX7 TX7 6, u_lay RX7 TX7 7, u_lay RX7 TX7 8, u_lay RX7 TX7 9, u_lay RX7 TX7 10, u_lay RX7 TX7 11, u_lay RX7 TX7 12, u_lay RX7 TX7 13, u_lay RX7 TX7 14, u_lay RX7 TX7 15, u_lay RX7 TX7 16] : List Cond), w ∈ gw
  refine List.forall_mem_cons.mpr ⟨gk_3_229, List.forall_mem_cons.mpr ⟨gk_3_231, List.forall_mem_cons.mpr ⟨gk_3_233, List.forall_mem_cons.mpr ⟨gk_3_235, List.forall_mem_cons.mpr ⟨gk_3_237, List.forall_mem_cons.mpr ⟨gk_3_239, List.forall_mem_cons.mpr ⟨gk_4_1, List.forall_mem_cons.mpr ⟨gk_4_3, List.forall_mem_cons.mpr ⟨gk_4_5, List.forall_mem_cons.mpr ⟨gk_4_7, List.forall_mem_cons.mpr ⟨gk_4_9, List.forall_mem_cons.mpr ⟨gk_4_11, List.forall_mem_cons.mpr ⟨gk_4_13, List.forall_mem_cons.mpr ⟨gk_4_15, List.forall_mem_cons.mpr ⟨gk_4_17, List.forall_mem_cons.mpr ⟨gk_4_19, List.forall_mem_cons.mpr ⟨gk_4_21, fun _ h => absurd h List.not_mem_nil⟩⟩⟩⟩⟩⟩⟩⟩⟩⟩⟩⟩⟩⟩⟩⟩⟩
theorem fk_X6_11 : FK RX6 11 6 0 := ⟨RX6, TX6, 10, rfl, uin_X6, by decide, gk_1_210⟩
theorem fk_X6_17 : FK RX6 17 6 1 := ⟨RX6, TX6, 10, rfl, uin_X6, by decide, gk_1_211⟩
theorem fk_X6_22 : FK RX6 22 6 2 := ⟨RX6, TX6, 10, rfl, uin_X6, by decide, gk_1_212⟩
theorem fk_X6_26 : FK RX6 26 6 3 := ⟨RX6, TX6, 10, rfl, uin_X6, by decide, gk_1_213⟩
theorem fk_X6_32 : FK RX6 32 6 4 := ⟨RX6, TX6, 10, rfl, uin_X6, by decide, gk_1_214⟩
theorem fk_X6_39 : FK RX6 39 6 5 := ⟨RX6, TX6, 10, rfl, uin_X6, by decide, gk_1_215⟩
theorem fk_X6_46 : FK RX6 46 6 6 := ⟨RX6, TX6, 10, rfl, uin_X6, by decide, gk_1_216⟩
theorem fk_X6_53 : FK RX6 53 6 7 := ⟨RX6, TX6, 10, rfl, uin_X6, by decide, gk_1_217⟩
theorem ms_X6_58 : MKs RX6 58 yX6_isWithin cX6_isWithin 3 (some .boolean) 3 := ⟨⟨gk_2_5, gk_1_1, gk_2_7, by decide +kernel, by decide +kernel, by decide +kernel⟩, gk_2_6⟩
theorem kc_X6_62 : Cond.constant RX6 62 (-1000001) ∈ gw := gk_2_8
theorem mv_X6_63 : MKv RX6 63 yX6_found cX6_found 2 (some .int) 1 := ⟨⟨gk_2_9, gk_1_1, gk_2_12, by decide +kernel, by decide +kernel, by decide +kernel⟩, gk_2_11, gw_p (q := (⟨"WakeLet", "found", "(I)I"⟩, 10)) (List.mem_of_getElem? (i := 0) rfl)⟩
theorem mv_X6_67 : MKv RX6 67 yX3_make cX3_make 4 none 2 := ⟨⟨gk_2_14, gk_1_7, gk_2_17, by decide +kernel, by decide +kernel, by decide +kernel⟩, gk_2_15, gk_2_16⟩
theorem mv_X6_71 : MKv RX6 71 yX6_unfound cX6_unfound 2 (some .int) 1 := ⟨⟨gk_2_18, gk_1_1, gk_2_21, by decide +kernel, by decide +kernel, by decide +kernel⟩, gk_2_20, gw_p (q := (⟨"WakeLet", "unfound", "(I)I"⟩, 10)) (List.mem_of_getElem? (i := 1) rfl)⟩
theorem mv_X6_74 : MKv RX6 74 yX3_isMissing cX3_isMissing 1 (some .boolean) 0 := ⟨⟨gk_2_26, gk_1_7, gk_2_29, by decide +kernel, by decide +kernel, by decide +kernel⟩, gk_2_27, gk_2_28⟩
theorem mv_X6_78 : MKv RX6 78 yX3_holds cX3_holds 3 (some .boolean) 2 := ⟨⟨gk_2_30, gk_1_7, gk_2_33, by decide +kernel, by decide +kernel, by decide +kernel⟩, gk_2_31, gk_2_32⟩
theorem mv_X6_82 : MKv RX6 82 yX3_put cX3_put 3 (some .int) 2 := ⟨⟨gk_2_34, gk_1_7, gk_2_37, by decide +kernel, by decide +kernel, by decide +kernel⟩, gk_2_35, gk_2_36⟩
theorem fk_X6_86 : FK RX6 86 3 1 := ⟨RX3, TX3, 3, rfl, uin_X3, by decide, gk_1_201⟩
theorem fi_X6_86 : FI RX6 86 3 1 := ⟨RX3, TX3, 3, tyX3, rfl, uin_X3, by decide, gk_1_201, tyX3_ok, nmX3, rfl, by decide +kernel⟩
theorem fk_X6_90 : FK RX6 90 3 0 := ⟨RX3, TX3, 3, rfl, uin_X3, by decide, gk_1_199⟩
theorem ka_X6_94 : KA RX6 94 := ⟨gk_2_42, gk_2_44, gk_2_43, gk_1_9⟩
theorem mv_X6_100 : MKv RX6 100 yX3_lose cX3_lose 2 (some .int) 0 := ⟨⟨gk_2_49, gk_1_7, gk_2_52, by decide +kernel, by decide +kernel, by decide +kernel⟩, gk_2_50, gk_2_51⟩
theorem mv_X6_104 : MKv RX6 104 yX5_append cX5_append 2 (some .boolean) 1 := ⟨⟨gk_2_57, gk_1_3, gk_2_60, by decide +kernel, by decide +kernel, by decide +kernel⟩, gk_2_58, gk_2_59⟩
theorem fk_X6_108 : FK RX6 108 5 1 := ⟨RX5, TX5, 5, rfl, uin_X5, by decide, gk_1_109⟩
theorem fi_X6_108 : FI RX6 108 5 1 := ⟨RX5, TX5, 5, tyX5, rfl, uin_X5, by decide, gk_1_109, tyX5_ok, nmX5, rfl, by decide +kernel⟩
theorem kc_X6_111 : Cond.constant RX6 111 (-1000003) ∈ gw := gk_2_61
theorem mv_X6_112 : MKv RX6 112 yX5_readInto cX5_readInto 2 none 1 := ⟨⟨gk_2_66, gk_1_3, gk_2_69, by decide +kernel, by decide +kernel, by decide +kernel⟩, gk_2_67, gk_2_68⟩
theorem fk_X6_116 : FK RX6 116 5 3 := ⟨RX5, TX5, 5, rfl, uin_X5, by decide, gk_1_112⟩
theorem fi_X6_116 : FI RX6 116 5 3 := ⟨RX5, TX5, 5, tyX5, rfl, uin_X5, by decide, gk_1_112, tyX5_ok, nmX5, rfl, by decide +kernel⟩
theorem fk_X6_119 : FK RX6 119 6 8 := ⟨RX6, TX6, 10, rfl, uin_X6, by decide, gk_1_218⟩
theorem fi_X6_119 : FI RX6 119 6 8 := ⟨RX6, TX6, 10, tyX6, rfl, uin_X6, by decide, gk_1_218, tyX6_ok, nmX6, rfl, by decide +kernel⟩
theorem kc_X6_122 : Cond.constant RX6 122 (-1000100) ∈ gw := gk_2_127
theorem fk_X6_123 : FK RX6 123 5 4 := ⟨RX5, TX5, 5, rfl, uin_X5, by decide, gk_1_113⟩
theorem fi_X6_123 : FI RX6 123 5 4 := ⟨RX5, TX5, 5, tyX5, rfl, uin_X5, by decide, gk_1_113, tyX5_ok, nmX5, rfl, by decide +kernel⟩
theorem mv_X6_126 : MKv RX6 126 yX1_copyFrom cX1_copyFrom 2 none 1 := ⟨⟨gk_2_128, gk_1_2, gk_2_131, by decide +kernel, by decide +kernel, by decide +kernel⟩, gk_2_129, gk_2_130⟩
theorem mv_X6_129 : MKv RX6 129 yX0_forgetAll cX0_forgetAll 1 none 0 := ⟨⟨gk_2_133, gk_1_4, gk_2_136, by decide +kernel, by decide +kernel, by decide +kernel⟩, gk_2_134, gk_2_135⟩
theorem fk_X6_132 : FK RX6 132 1 7 := ⟨RX1, TX1, 12, rfl, uin_X1, by decide, gk_1_61⟩
theorem fi_X6_132 : FI RX6 132 1 7 := ⟨RX1, TX1, 12, tyX1, rfl, uin_X1, by decide, gk_1_61, tyX1_ok, nmX1, rfl, by decide +kernel⟩
theorem mv_X6_135 : MKv RX6 135 yX1_isOpen cX1_isOpen 1 (some .boolean) 0 := ⟨⟨gk_2_145, gk_1_2, gk_2_148, by decide +kernel, by decide +kernel, by decide +kernel⟩, gk_2_146, gk_2_147⟩
theorem kc_X6_138 : Cond.constant RX6 138 (-1000002) ∈ gw := gk_2_149
theorem fk_X6_139 : FK RX6 139 1 11 := ⟨RX1, TX1, 12, rfl, uin_X1, by decide, gk_1_74⟩
theorem fi_X6_139 : FI RX6 139 1 11 := ⟨RX1, TX1, 12, tyX1, rfl, uin_X1, by decide, gk_1_74, tyX1_ok, nmX1, rfl, by decide +kernel⟩
theorem mv_X6_142 : MKv RX6 142 yX0_keep cX0_keep 3 none 1 := ⟨⟨gk_2_150, gk_1_4, gk_2_153, by decide +kernel, by decide +kernel, by decide +kernel⟩, gk_2_151, gk_2_152⟩
theorem mv_X6_145 : MKv RX6 145 yX1_passNight cX1_passNight 3 none 1 := ⟨⟨gk_2_159, gk_1_2, gk_2_162, by decide +kernel, by decide +kernel, by decide +kernel⟩, gk_2_160, gk_2_161⟩
theorem mv_X6_149 : MKv RX6 149 yX1_resting cX1_resting 3 (some .int) 0 := ⟨⟨gk_2_194, gk_1_2, gk_2_197, by decide +kernel, by decide +kernel, by decide +kernel⟩, gk_2_195, gk_2_196⟩
theorem mv_X6_152 : MKv RX6 152 yX1_hasWaker cX1_hasWaker 2 (some .boolean) 1 := ⟨⟨gk_2_202, gk_1_2, gk_2_178, by decide +kernel, by decide +kernel, by decide +kernel⟩, gk_2_176, gk_2_177⟩
theorem mv_X6_155 : MKv RX6 155 yX1_hasClient cX1_hasClient 2 (some .boolean) 1 := ⟨⟨gk_2_203, gk_1_2, gk_2_126, by decide +kernel, by decide +kernel, by decide +kernel⟩, gk_2_124, gk_2_125⟩
theorem fk_X6_158 : FK RX6 158 1 5 := ⟨RX1, TX1, 12, rfl, uin_X1, by decide, gk_1_52⟩
theorem mv_X6_161 : MKv RX6 161 yX1_makeHeavier cX1_makeHeavier 3 none 2 := ⟨⟨gk_2_208, gk_1_2, gk_2_211, by decide +kernel, by decide +kernel, by decide +kernel⟩, gk_2_209, gk_2_210⟩
theorem fk_X6_164 : FK RX6 164 1 0 := ⟨RX1, TX1, 12, rfl, uin_X1, by decide, gk_1_33⟩
theorem fk_X6_167 : FK RX6 167 1 4 := ⟨RX1, TX1, 12, rfl, uin_X1, by decide, gk_1_48⟩
theorem mv_X6_170 : MKv RX6 170 yX0_takeBack cX0_takeBack 3 (some .boolean) 1 := ⟨⟨gk_2_220, gk_1_4, gk_2_223, by decide +kernel, by decide +kernel, by decide +kernel⟩, gk_2_221, gk_2_222⟩
theorem fk_X6_174 : FK RX6 174 0 2 := ⟨RX0, TX0, 3, rfl, uin_X0, by decide, gk_1_135⟩
theorem fi_X6_174 : FI RX6 174 0 2 := ⟨RX0, TX0, 3, tyX0, rfl, uin_X0, by decide, gk_1_135, tyX0_ok, nmX0, rfl, by decide +kernel⟩
theorem fk_X6_177 : FK RX6 177 1 1 := ⟨RX1, TX1, 12, rfl, uin_X1, by decide, gk_1_36⟩
theorem mv_X6_180 : MKv RX6 180 yX1_hiredBy cX1_hiredBy 4 (some .int) 1 := ⟨⟨gk_2_228, gk_1_2, gk_2_170, by decide +kernel, by decide +kernel, by decide +kernel⟩, gk_2_168, gk_2_169⟩
theorem mv_X6_183 : MKv RX6 183 yX1_lighterBy cX1_lighterBy 6 (some .int) 2 := ⟨⟨gk_2_229, gk_1_2, gk_2_166, by decide +kernel, by decide +kernel, by decide +kernel⟩, gk_2_164, gk_2_165⟩
theorem fk_X6_186 : FK RX6 186 1 3 := ⟨RX1, TX1, 12, rfl, uin_X1, by decide, gk_1_44⟩
theorem mv_X6_189 : MKv RX6 189 yX1_lying cX1_lying 5 (some .int) 3 := ⟨⟨gk_2_234, gk_1_2, gk_2_183, by decide +kernel, by decide +kernel, by decide +kernel⟩, gk_2_181, gk_2_182⟩
theorem fk_X6_193 : FK RX6 193 1 6 := ⟨RX1, TX1, 12, rfl, uin_X1, by decide, gk_1_57⟩
theorem mv_X6_196 : MKv RX6 196 yX6_foretell cX6_foretell 3 none 1 := ⟨⟨gk_2_239, gk_1_1, gk_3_2, by decide +kernel, by decide +kernel, by decide +kernel⟩, gk_3_1, gw_p (q := (⟨"WakeLet", "foretell", "(I)V"⟩, 10)) (List.mem_of_getElem? (i := 13) rfl)⟩
theorem mv_X6_199 : MKv RX6 199 yX6_firstRest cX6_firstRest 3 (some .int) 1 := ⟨⟨gk_3_15, gk_1_1, gk_3_18, by decide +kernel, by decide +kernel, by decide +kernel⟩, gk_3_17, gw_p (q := (⟨"WakeLet", "firstRest", "(I)I"⟩, 10)) (List.mem_of_getElem? (i := 14) rfl)⟩
theorem mv_X6_202 : MKv RX6 202 yX1_hasAll cX1_hasAll 2 (some .boolean) 1 := ⟨⟨gk_3_24, gk_1_2, gk_3_27, by decide +kernel, by decide +kernel, by decide +kernel⟩, gk_3_25, gk_3_26⟩
theorem mv_X6_205 : MKv RX6 205 yX4_findBest cX4_findBest 9 none 2 := ⟨⟨gk_3_36, gk_1_5, gk_3_39, by decide +kernel, by decide +kernel, by decide +kernel⟩, gk_3_37, gk_3_38⟩
theorem fk_X6_209 : FK RX6 209 4 6 := ⟨RX4, TX4, 8, rfl, uin_X4, by decide, gk_1_158⟩
theorem fi_X6_209 : FI RX6 209 4 6 := ⟨RX4, TX4, 8, tyX4, rfl, uin_X4, by decide, gk_1_158, tyX4_ok, nmX4, rfl, by decide +kernel⟩
theorem fk_X6_212 : FK RX6 212 4 5 := ⟨RX4, TX4, 8, rfl, uin_X4, by decide, gk_1_156⟩
theorem fi_X6_212 : FI RX6 212 4 5 := ⟨RX4, TX4, 8, tyX4, rfl, uin_X4, by decide, gk_1_156, tyX4_ok, nmX4, rfl, by decide +kernel⟩
theorem mv_X6_214 : MKv RX6 214 yX6_hirerFound cX6_hirerFound 2 (some .int) 1 := ⟨⟨gk_3_72, gk_1_1, gk_3_75, by decide +kernel, by decide +kernel, by decide +kernel⟩, gk_3_74, gw_p (q := (⟨"WakeLet", "hirerFound", "(I)I"⟩, 10)) (List.mem_of_getElem? (i := 20) rfl)⟩
theorem mv_X6_217 : MKv RX6 217 yX4_findFewest cX4_findFewest 7 none 3 := ⟨⟨gk_3_80, gk_1_5, gk_3_83, by decide +kernel, by decide +kernel, by decide +kernel⟩, gk_3_81, gk_3_82⟩
theorem fk_X6_221 : FK RX6 221 4 7 := ⟨RX4, TX4, 8, rfl, uin_X4, by decide, gk_1_160⟩
theorem fi_X6_221 : FI RX6 221 4 7 := ⟨RX4, TX4, 8, tyX4, rfl, uin_X4, by decide, gk_1_160, tyX4_ok, nmX4, rfl, by decide +kernel⟩
theorem kc_X6_224 : Cond.constant RX6 224 (-1000000) ∈ gw := gk_3_19
theorem mv_X6_225 : MKv RX6 225 yX6_isGuess cX6_isGuess 3 (some .boolean) 2 := ⟨⟨gk_3_93, gk_1_1, gk_3_96, by decide +kernel, by decide +kernel, by decide +kernel⟩, gk_3_95, gw_p (q := (⟨"WakeLet", "isGuess", "(II)Z"⟩, 10)) (List.mem_of_getElem? (i := 22) rfl)⟩
theorem mv_X6_228 : MKv RX6 228 yX6_wouldShow cX6_wouldShow 8 (some .boolean) 6 := ⟨⟨gk_3_97, gk_1_1, gk_3_100, by decide +kernel, by decide +kernel, by decide +kernel⟩, gk_3_99, gw_p (q := (⟨"WakeLet", "wouldShow", "(IIILWakeLet$Row;II)Z"⟩, 10)) (List.mem_of_getElem? (i := 23) rfl)⟩
theorem fk_X6_232 : FK RX6 232 1 8 := ⟨RX1, TX1, 12, rfl, uin_X1, by decide, gk_1_65⟩
theorem fi_X6_232 : FI RX6 232 1 8 := ⟨RX1, TX1, 12, tyX1, rfl, uin_X1, by decide, gk_1_65, tyX1_ok, nmX1, rfl, by decide +kernel⟩
theorem ms_X6_235 : MKs RX6 235 yJ6_bitCount_0f7a4 cJ6_bitCount_0f7a4 1 (some .int) 1 := ⟨⟨gk_3_105, gk_1_11, gk_3_107, by decide +kernel, by decide +kernel, by decide +kernel⟩, gk_3_106⟩
theorem mv_X6_240 : MKv RX6 240 yX6_waysToBe cX6_waysToBe 5 (some .int) 2 := ⟨⟨gk_3_111, gk_1_1, gk_3_114, by decide +kernel, by decide +kernel, by decide +kernel⟩, gk_3_113, gw_p (q := (⟨"WakeLet", "waysToBe", "(II)I"⟩, 10)) (List.mem_of_getElem? (i := 24) rfl)⟩
theorem ms_X6_243 : MKs RX6 243 yX6_commonDivisor cX6_commonDivisor 6 (some .int) 2 := ⟨⟨gk_3_115, gk_1_1, gk_3_117, by decide +kernel, by decide +kernel, by decide +kernel⟩, gk_3_116⟩
theorem km_X6_246 : KMx RX6 246 := ⟨gk_3_118, gk_2_189, gk_1_10, gk_2_190⟩
theorem kc_X6_251 : Cond.constant RX6 251 (999999) ∈ gw := gk_3_123
theorem kc_X6_252 : Cond.constantLong RX6 252 (16807) ∈ gw := gk_3_124
theorem kc_X6_254 : Cond.constantLong RX6 254 (2147483647) ∈ gw := gk_3_125
theorem kc_X6_256 : Cond.constantLong RX6 256 (5) ∈ gw := gk_3_126
theorem mv_X6_258 : MKv RX6 258 yX1_weightsTogether cX1_weightsTogether 3 (some .int) 0 := ⟨⟨gk_3_127, gk_1_2, gk_3_130, by decide +kernel, by decide +kernel, by decide +kernel⟩, gk_3_128, gk_3_129⟩
theorem fk_X6_261 : FK RX6 261 1 2 := ⟨RX1, TX1, 12, rfl, uin_X1, by decide, gk_1_40⟩
theorem ms_X6_264 : MKs RX6 264 yX2_isOfKind cX2_isOfKind 4 (some .boolean) 2 := ⟨⟨gk_3_147, gk_1_6, gk_3_149, by decide +kernel, by decide +kernel, by decide +kernel⟩, gk_3_148⟩
theorem mv_X6_267 : MKv RX6 267 yX2_begin cX2_begin 4 (some .int) 3 := ⟨⟨gk_3_159, gk_1_6, gk_3_162, by decide +kernel, by decide +kernel, by decide +kernel⟩, gk_3_160, gk_3_161⟩
theorem fk_X6_271 : FK RX6 271 2 1 := ⟨RX2, TX2, 2, rfl, uin_X2, by decide, gk_1_187⟩
theorem fi_X6_271 : FI RX6 271 2 1 := ⟨RX2, TX2, 2, tyX2, rfl, uin_X2, by decide, gk_1_187, tyX2_ok, nmX2, rfl, by decide +kernel⟩
theorem fk_X6_274 : FK RX6 274 2 0 := ⟨RX2, TX2, 2, rfl, uin_X2, by decide, gk_1_185⟩
theorem mv_X6_277 : MKv RX6 277 yX6_rowsThere cX6_rowsThere 3 (some .int) 0 := ⟨⟨gk_3_194, gk_1_1, gk_3_197, by decide +kernel, by decide +kernel, by decide +kernel⟩, gk_3_196, gw_p (q := (⟨"WakeLet", "rowsThere", "()I"⟩, 10)) (List.mem_of_getElem? (i := 28) rfl)⟩
theorem mv_X6_280 : MKv RX6 280 yX1_wagesTogether cX1_wagesTogether 3 (some .int) 0 := ⟨⟨gk_3_198, gk_1_2, gk_3_201, by decide +kernel, by decide +kernel, by decide +kernel⟩, gk_3_199, gk_3_200⟩
theorem fk_X6_283 : FK RX6 283 6 9 := ⟨RX6, TX6, 10, rfl, uin_X6, by decide, gk_1_219⟩
theorem fi_X6_283 : FI RX6 283 6 9 := ⟨RX6, TX6, 10, tyX6, rfl, uin_X6, by decide, gk_1_219, tyX6_ok, nmX6, rfl, by decide +kernel⟩
theorem kc_X6_286 : Cond.constant RX6 286 (-1000010) ∈ gw := gk_2_13
theorem fk_X6_287 : FK RX6 287 4 4 := ⟨RX4, TX4, 8, rfl, uin_X4, by decide, gk_1_154⟩
theorem fk_X0_11 : FK RX0 11 0 0 := ⟨RX0, TX0, 3, rfl, uin_X0, by decide, gk_1_132⟩
theorem fk_X0_15 : FK RX0 15 0 2 := ⟨RX0, TX0, 3, rfl, uin_X0, by decide, gk_1_134⟩
theorem fi_X0_15 : FI RX0 15 0 2 := ⟨RX0, TX0, 3, tyX0, rfl, uin_X0, by decide, gk_1_134, tyX0_ok, nmX0, rfl, by decide +kernel⟩
theorem fk_X0_19 : FK RX0 19 0 1 := ⟨RX0, TX0, 3, rfl, uin_X0, by decide, gk_1_133⟩
theorem fi_X0_19 : FI RX0 19 0 1 := ⟨RX0, TX0, 3, tyX0, rfl, uin_X0, by decide, gk_1_133, tyX0_ok, nmX0, rfl, by decide +kernel⟩
theorem mv_X0_22 : MKv RX0 22 yX0_startOf cX0_startOf 2 (some .int) 1 := ⟨⟨gk_2_154, gk_1_4, gk_2_157, by decide +kernel, by decide +kernel, by decide +kernel⟩, gk_2_156, gw_p (q := (⟨"WakeLet$Acts", "startOf", "(I)I"⟩, 3)) (List.mem_of_getElem? (i := 12) rfl)⟩
theorem fk_X0_26 : FK RX0 26 1 11 := ⟨RX1, TX1, 12, rfl, uin_X1, by decide, gk_1_72⟩
theorem fi_X0_26 : FI RX0 26 1 11 := ⟨RX1, TX1, 12, tyX1, rfl, uin_X1, by decide, gk_1_72, tyX1_ok, nmX1, rfl, by decide +kernel⟩
theorem fk_X0_31 : FK RX0 31 1 0 := ⟨RX1, TX1, 12, rfl, uin_X1, by decide, gk_1_30⟩
theorem ka_X0_34 : KA RX0 34 := ⟨gk_2_158, gk_2_44, gk_2_43, gk_1_9⟩
theorem fk_X0_40 : FK RX0 40 1 4 := ⟨RX1, TX1, 12, rfl, uin_X1, by decide, gk_1_46⟩
theorem fk_X0_43 : FK RX0 43 1 5 := ⟨RX1, TX1, 12, rfl, uin_X1, by decide, gk_1_50⟩
theorem fk_X0_46 : FK RX0 46 1 6 := ⟨RX1, TX1, 12, rfl, uin_X1, by decide, gk_1_54⟩
theorem fk_X1_9 : FK RX1 9 1 0 := ⟨RX1, TX1, 12, rfl, uin_X1, by decide, gk_1_29⟩
theorem fk_X1_15 : FK RX1 15 1 1 := ⟨RX1, TX1, 12, rfl, uin_X1, by decide, gk_1_34⟩
theorem fk_X1_18 : FK RX1 18 1 2 := ⟨RX1, TX1, 12, rfl, uin_X1, by decide, gk_1_37⟩
theorem fk_X1_21 : FK RX1 21 1 3 := ⟨RX1, TX1, 12, rfl, uin_X1, by decide, gk_1_41⟩
theorem fk_X1_24 : FK RX1 24 1 4 := ⟨RX1, TX1, 12, rfl, uin_X1, by decide, gk_1_45⟩
theorem fk_X1_27 : FK RX1 27 1 5 := ⟨RX1, TX1, 12, rfl, uin_X1, by decide, gk_1_49⟩
theorem fk_X1_30 : FK RX1 30 1 6 := ⟨RX1, TX1, 12, rfl, uin_X1, by decide, gk_1_53⟩
theorem fk_X1_33 : FK RX1 33 1 7 := ⟨RX1, TX1, 12, rfl, uin_X1, by decide, gk_1_58⟩
theorem fi_X1_33 : FI RX1 33 1 7 := ⟨RX1, TX1, 12, tyX1, rfl, uin_X1, by decide, gk_1_58, tyX1_ok, nmX1, rfl, by decide +kernel⟩
theorem fk_X1_37 : FK RX1 37 1 8 := ⟨RX1, TX1, 12, rfl, uin_X1, by decide, gk_1_62⟩
theorem fi_X1_37 : FI RX1 37 1 8 := ⟨RX1, TX1, 12, tyX1, rfl, uin_X1, by decide, gk_1_62, tyX1_ok, nmX1, rfl, by decide +kernel⟩
theorem fk_X1_40 : FK RX1 40 1 11 := ⟨RX1, TX1, 12, rfl, uin_X1, by decide, gk_1_71⟩
theorem fi_X1_40 : FI RX1 40 1 11 := ⟨RX1, TX1, 12, tyX1, rfl, uin_X1, by decide, gk_1_71, tyX1_ok, nmX1, rfl, by decide +kernel⟩
theorem ka_X1_43 : KA RX1 43 := ⟨gk_2_132, gk_2_44, gk_2_43, gk_1_9⟩
theorem fk_X1_49 : FK RX1 49 1 9 := ⟨RX1, TX1, 12, rfl, uin_X1, by decide, gk_1_67⟩
theorem fi_X1_49 : FI RX1 49 1 9 := ⟨RX1, TX1, 12, tyX1, rfl, uin_X1, by decide, gk_1_67, tyX1_ok, nmX1, rfl, by decide +kernel⟩
theorem fk_X1_52 : FK RX1 52 1 10 := ⟨RX1, TX1, 12, rfl, uin_X1, by decide, gk_1_69⟩
theorem fi_X1_52 : FI RX1 52 1 10 := ⟨RX1, TX1, 12, tyX1, rfl, uin_X1, by decide, gk_1_69, tyX1_ok, nmX1, rfl, by decide +kernel⟩
theorem mv_X1_55 : MKv RX1 55 yX1_hasWaker cX1_hasWaker 2 (some .boolean) 1 := ⟨⟨gk_2_175, gk_1_2, gk_2_178, by decide +kernel, by decide +kernel, by decide +kernel⟩, gk_2_176, gk_2_177⟩
theorem mv_X1_59 : MKv RX1 59 yX1_hasClient cX1_hasClient 2 (some .boolean) 1 := ⟨⟨gk_2_179, gk_1_2, gk_2_126, by decide +kernel, by decide +kernel, by decide +kernel⟩, gk_2_124, gk_2_125⟩
theorem ms_X1_62 : MKs RX1 62 yX1_guarding cX1_guarding 2 (some .int) 2 := ⟨⟨gk_2_184, gk_1_2, gk_2_186, by decide +kernel, by decide +kernel, by decide +kernel⟩, gk_2_185⟩
theorem km_X1_66 : KMn RX1 66 := ⟨gk_2_187, gk_2_98, gk_1_10, gk_2_99⟩
theorem mv_X1_71 : MKv RX1 71 yX1_lying cX1_lying 5 (some .int) 3 := ⟨⟨gk_2_180, gk_1_2, gk_2_183, by decide +kernel, by decide +kernel, by decide +kernel⟩, gk_2_181, gk_2_182⟩
theorem mv_X1_75 : MKv RX1 75 yX1_hiredBy cX1_hiredBy 4 (some .int) 1 := ⟨⟨gk_2_167, gk_1_2, gk_2_170, by decide +kernel, by decide +kernel, by decide +kernel⟩, gk_2_168, gk_2_169⟩
theorem mv_X1_79 : MKv RX1 79 yX1_takenBy cX1_takenBy 5 (some .int) 3 := ⟨⟨gk_2_171, gk_1_2, gk_2_174, by decide +kernel, by decide +kernel, by decide +kernel⟩, gk_2_172, gk_2_173⟩
theorem km_X1_82 : KMx RX1 82 := ⟨gk_2_188, gk_2_189, gk_1_10, gk_2_190⟩
theorem mv_X1_85 : MKv RX1 85 yX1_lighterBy cX1_lighterBy 6 (some .int) 2 := ⟨⟨gk_2_163, gk_1_2, gk_2_166, by decide +kernel, by decide +kernel, by decide +kernel⟩, gk_2_164, gk_2_165⟩
theorem ms_X1_88 : MKs RX1 88 yX1_nextWeight cX1_nextWeight 2 (some .int) 2 := ⟨⟨gk_2_191, gk_1_2, gk_2_193, by decide +kernel, by decide +kernel, by decide +kernel⟩, gk_2_192⟩
theorem fk_X2_11 : FK RX2 11 2 0 := ⟨RX2, TX2, 2, rfl, uin_X2, by decide, gk_1_184⟩
theorem fk_X2_15 : FK RX2 15 2 1 := ⟨RX2, TX2, 2, rfl, uin_X2, by decide, gk_1_186⟩
theorem fi_X2_15 : FI RX2 15 2 1 := ⟨RX2, TX2, 2, tyX2, rfl, uin_X2, by decide, gk_1_186, tyX2_ok, nmX2, rfl, by decide +kernel⟩
theorem mv_X2_19 : MKv RX2 19 yX2_askAnew cX2_askAnew 5 (some .int) 4 := ⟨⟨gk_3_163, gk_1_6, gk_3_166, by decide +kernel, by decide +kernel, by decide +kernel⟩, gk_3_165, gw_p (q := (⟨"WakeLet$Asks", "askAnew", "(LWakeLet$Agency;III)I"⟩, 2)) (List.mem_of_getElem? (i := 25) rfl)⟩
theorem ms_X2_23 : MKs RX2 23 yX2_parentOf cX2_parentOf 1 (some .int) 1 := ⟨⟨gk_3_150, gk_1_6, gk_3_152, by decide +kernel, by decide +kernel, by decide +kernel⟩, gk_3_151⟩
theorem ks_X2_27 : Cond.fieldLink RX2 27 "WakeLet$Asks" "PARENTS" "[I" ∈ gw := gk_3_153
theorem mv_X2_30 : MKv RX2 30 yX1_hasWaker cX1_hasWaker 2 (some .boolean) 1 := ⟨⟨gk_3_167, gk_1_2, gk_2_178, by decide +kernel, by decide +kernel, by decide +kernel⟩, gk_2_176, gk_2_177⟩
theorem fk_X2_36 : FK RX2 36 1 2 := ⟨RX1, TX1, 12, rfl, uin_X1, by decide, gk_1_38⟩
theorem ms_X2_39 : MKs RX2 39 yX2_bodyFor cX2_bodyFor 4 (some .int) 2 := ⟨⟨gk_3_168, gk_1_6, gk_3_170, by decide +kernel, by decide +kernel, by decide +kernel⟩, gk_3_169⟩
theorem mv_X2_43 : MKv RX2 43 yX2_runBody cX2_runBody 6 (some .int) 4 := ⟨⟨gk_3_178, gk_1_6, gk_3_181, by decide +kernel, by decide +kernel, by decide +kernel⟩, gk_3_180, gw_p (q := (⟨"WakeLet$Asks", "runBody", "(LWakeLet$Agency;III)I"⟩, 2)) (List.mem_of_getElem? (i := 26) rfl)⟩
theorem ms_X2_46 : MKs RX2 46 yX2_ownBody cX2_ownBody 3 (some .int) 2 := ⟨⟨gk_3_171, gk_1_6, gk_3_173, by decide +kernel, by decide +kernel, by decide +kernel⟩, gk_3_172⟩
theorem ks_X2_49 : Cond.fieldLink RX2 49 "WakeLet$Asks" "SIZE_BODIES" "[I" ∈ gw := gk_3_174
theorem ks_X2_52 : Cond.fieldLink RX2 52 "WakeLet$Asks" "MARK_BODIES" "[I" ∈ gw := gk_3_176
theorem mv_X2_55 : MKv RX2 55 yX2_leave cX2_leave 2 none 1 := ⟨⟨gk_3_182, gk_1_6, gk_3_185, by decide +kernel, by decide +kernel, by decide +kernel⟩, gk_3_184, gw_p (q := (⟨"WakeLet$Asks", "leave", "(I)V"⟩, 2)) (List.mem_of_getElem? (i := 27) rfl)⟩
theorem fk_X2_59 : FK RX2 59 1 3 := ⟨RX1, TX1, 12, rfl, uin_X1, by decide, gk_1_43⟩
theorem fk_X2_62 : FK RX2 62 1 6 := ⟨RX1, TX1, 12, rfl, uin_X1, by decide, gk_1_56⟩
theorem fk_X3_9 : FK RX3 9 3 0 := ⟨RX3, TX3, 3, rfl, uin_X3, by decide, gk_1_198⟩
theorem fk_X3_15 : FK RX3 15 3 2 := ⟨RX3, TX3, 3, rfl, uin_X3, by decide, gk_1_202⟩
theorem fi_X3_15 : FI RX3 15 3 2 := ⟨RX3, TX3, 3, tyX3, rfl, uin_X3, by decide, gk_1_202, tyX3_ok, nmX3, rfl, by decide +kernel⟩
theorem fk_X3_19 : FK RX3 19 3 1 := ⟨RX3, TX3, 3, rfl, uin_X3, by decide, gk_1_200⟩
theorem fi_X3_19 : FI RX3 19 3 1 := ⟨RX3, TX3, 3, tyX3, rfl, uin_X3, by decide, gk_1_200, tyX3_ok, nmX3, rfl, by decide +kernel⟩
theorem fk_X4_9 : FK RX4 9 4 0 := ⟨RX4, TX4, 8, rfl, uin_X4, by decide, gk_1_149⟩
theorem fk_X4_15 : FK RX4 15 4 1 := ⟨RX4, TX4, 8, rfl, uin_X4, by decide, gk_1_150⟩
theorem fk_X4_18 : FK RX4 18 4 2 := ⟨RX4, TX4, 8, rfl, uin_X4, by decide, gk_1_151⟩
theorem fk_X4_21 : FK RX4 21 4 3 := ⟨RX4, TX4, 8, rfl, uin_X4, by decide, gk_1_152⟩
theorem fk_X4_24 : FK RX4 24 4 4 := ⟨RX4, TX4, 8, rfl, uin_X4, by decide, gk_1_153⟩
theorem mv_X4_27 : MKv RX4 27 yX4_foretellSets cX4_foretellSets 7 none 2 := ⟨⟨gk_3_40, gk_1_5, gk_3_43, by decide +kernel, by decide +kernel, by decide +kernel⟩, gk_3_42, gw_p (q := (⟨"WakeLet$Search", "foretellSets", "(LWakeLet$Agency;I)V"⟩, 8)) (List.mem_of_getElem? (i := 15) rfl)⟩
theorem fk_X4_31 : FK RX4 31 4 5 := ⟨RX4, TX4, 8, rfl, uin_X4, by decide, gk_1_155⟩
theorem fi_X4_31 : FI RX4 31 4 5 := ⟨RX4, TX4, 8, tyX4, rfl, uin_X4, by decide, gk_1_155, tyX4_ok, nmX4, rfl, by decide +kernel⟩
theorem ms_X4_35 : MKs RX4 35 yX4_waysToLet cX4_waysToLet 3 (some .int) 1 := ⟨⟨gk_3_55, gk_1_5, gk_3_57, by decide +kernel, by decide +kernel, by decide +kernel⟩, gk_3_56⟩
theorem mv_X4_39 : MKv RX4 39 yX4_tryWay cX4_tryWay 8 (some .int) 2 := ⟨⟨gk_3_58, gk_1_5, gk_3_61, by decide +kernel, by decide +kernel, by decide +kernel⟩, gk_3_60, gw_p (q := (⟨"WakeLet$Search", "tryWay", "(LWakeLet$Agency;I)I"⟩, 8)) (List.mem_of_getElem? (i := 17) rfl)⟩
theorem fk_X4_43 : FK RX4 43 1 7 := ⟨RX1, TX1, 12, rfl, uin_X1, by decide, gk_1_59⟩
theorem fi_X4_43 : FI RX4 43 1 7 := ⟨RX1, TX1, 12, tyX1, rfl, uin_X1, by decide, gk_1_59, tyX1_ok, nmX1, rfl, by decide +kernel⟩
theorem mv_X4_48 : MKv RX4 48 yX4_weightBehind cX4_weightBehind 2 (some .int) 1 := ⟨⟨gk_3_63, gk_1_5, gk_3_66, by decide +kernel, by decide +kernel, by decide +kernel⟩, gk_3_65, gw_p (q := (⟨"WakeLet$Search", "weightBehind", "(I)I"⟩, 8)) (List.mem_of_getElem? (i := 18) rfl)⟩
theorem fk_X4_52 : FK RX4 52 1 9 := ⟨RX1, TX1, 12, rfl, uin_X1, by decide, gk_1_66⟩
theorem fi_X4_52 : FI RX4 52 1 9 := ⟨RX1, TX1, 12, tyX1, rfl, uin_X1, by decide, gk_1_66, tyX1_ok, nmX1, rfl, by decide +kernel⟩
theorem fk_X4_55 : FK RX4 55 4 6 := ⟨RX4, TX4, 8, rfl, uin_X4, by decide, gk_1_157⟩
theorem fi_X4_55 : FI RX4 55 4 6 := ⟨RX4, TX4, 8, tyX4, rfl, uin_X4, by decide, gk_1_157, tyX4_ok, nmX4, rfl, by decide +kernel⟩
theorem mv_X4_58 : MKv RX4 58 yX4_choose cX4_choose 1 none 0 := ⟨⟨gk_3_67, gk_1_5, gk_3_70, by decide +kernel, by decide +kernel, by decide +kernel⟩, gk_3_69, gw_p (q := (⟨"WakeLet$Search", "choose", "()V"⟩, 8)) (List.mem_of_getElem? (i := 19) rfl)⟩
theorem kc_X4_61 : Cond.constant RX4 61 (-1000000) ∈ gw := gk_3_84
theorem fk_X4_62 : FK RX4 62 4 7 := ⟨RX4, TX4, 8, rfl, uin_X4, by decide, gk_1_159⟩
theorem fi_X4_62 : FI RX4 62 4 7 := ⟨RX4, TX4, 8, tyX4, rfl, uin_X4, by decide, gk_1_159, tyX4_ok, nmX4, rfl, by decide +kernel⟩
theorem mv_X4_65 : MKv RX4 65 yX4_restAll cX4_restAll 4 (some .boolean) 2 := ⟨⟨gk_3_85, gk_1_5, gk_3_88, by decide +kernel, by decide +kernel, by decide +kernel⟩, gk_3_87, gw_p (q := (⟨"WakeLet$Search", "restAll", "(LWakeLet$Agency;I)Z"⟩, 8)) (List.mem_of_getElem? (i := 21) rfl)⟩
theorem ka_X4_69 : KA RX4 69 := ⟨gk_3_71, gk_2_44, gk_2_43, gk_1_9⟩
theorem fk_X4_75 : FK RX4 75 1 0 := ⟨RX1, TX1, 12, rfl, uin_X1, by decide, gk_1_32⟩
theorem fk_X4_78 : FK RX4 78 1 11 := ⟨RX1, TX1, 12, rfl, uin_X1, by decide, gk_1_73⟩
theorem fi_X4_78 : FI RX4 78 1 11 := ⟨RX1, TX1, 12, tyX1, rfl, uin_X1, by decide, gk_1_73, tyX1_ok, nmX1, rfl, by decide +kernel⟩
theorem mv_X4_81 : MKv RX4 81 yX4_findTaken cX4_findTaken 6 none 3 := ⟨⟨gk_3_44, gk_1_5, gk_3_47, by decide +kernel, by decide +kernel, by decide +kernel⟩, gk_3_46, gw_p (q := (⟨"WakeLet$Search", "findTaken", "(LWakeLet$Agency;II)V"⟩, 8)) (List.mem_of_getElem? (i := 16) rfl)⟩
theorem ms_X4_85 : MKs RX4 85 yX1_nextWeight cX1_nextWeight 2 (some .int) 2 := ⟨⟨gk_3_54, gk_1_2, gk_2_193, by decide +kernel, by decide +kernel, by decide +kernel⟩, gk_2_192⟩
theorem ms_X4_89 : MKs RX4 89 yJ6_numberOfTrailingZeros_0f7a4 cJ6_numberOfTrailingZeros_0f7a4 2 (some .int) 1 := ⟨⟨gk_3_48, gk_1_11, gk_3_50, by decide +kernel, by decide +kernel, by decide +kernel⟩, gk_3_49⟩
theorem mv_X4_94 : MKv RX4 94 yX1_takenBy cX1_takenBy 5 (some .int) 3 := ⟨⟨gk_3_52, gk_1_2, gk_2_174, by decide +kernel, by decide +kernel, by decide +kernel⟩, gk_2_172, gk_2_173⟩
theorem km_X4_98 : KMx RX4 98 := ⟨gk_3_53, gk_2_189, gk_1_10, gk_2_190⟩
theorem fk_X4_103 : FK RX4 103 1 8 := ⟨RX1, TX1, 12, rfl, uin_X1, by decide, gk_1_64⟩
theorem fi_X4_103 : FI RX4 103 1 8 := ⟨RX1, TX1, 12, tyX1, rfl, uin_X1, by decide, gk_1_64, tyX1_ok, nmX1, rfl, by decide +kernel⟩
theorem mv_X4_106 : MKv RX4 106 yX1_hasClient cX1_hasClient 2 (some .boolean) 1 := ⟨⟨gk_3_62, gk_1_2, gk_2_126, by decide +kernel, by decide +kernel, by decide +kernel⟩, gk_2_124, gk_2_125⟩
theorem fk_X5_9 : FK RX5 9 5 0 := ⟨RX5, TX5, 5, rfl, uin_X5, by decide, gk_1_107⟩
theorem fk_X5_15 : FK RX5 15 5 1 := ⟨RX5, TX5, 5, rfl, uin_X5, by decide, gk_1_108⟩
theorem fi_X5_15 : FI RX5 15 5 1 := ⟨RX5, TX5, 5, tyX5, rfl, uin_X5, by decide, gk_1_108, tyX5_ok, nmX5, rfl, by decide +kernel⟩
theorem fk_X5_19 : FK RX5 19 5 2 := ⟨RX5, TX5, 5, rfl, uin_X5, by decide, gk_1_110⟩
theorem fi_X5_19 : FI RX5 19 5 2 := ⟨RX5, TX5, 5, tyX5, rfl, uin_X5, by decide, gk_1_110, tyX5_ok, nmX5, rfl, by decide +kernel⟩
theorem fk_X5_22 : FK RX5 22 5 3 := ⟨RX5, TX5, 5, rfl, uin_X5, by decide, gk_1_111⟩
theorem fi_X5_22 : FI RX5 22 5 3 := ⟨RX5, TX5, 5, tyX5, rfl, uin_X5, by decide, gk_1_111, tyX5_ok, nmX5, rfl, by decide +kernel⟩
theorem mv_X5_25 : MKv RX5 25 yX1_close cX1_close 1 none 0 := ⟨⟨gk_2_70, gk_1_2, gk_2_73, by decide +kernel, by decide +kernel, by decide +kernel⟩, gk_2_71, gk_2_72⟩
theorem mv_X5_30 : MKv RX5 30 yX5_readLaw cX5_readLaw 2 none 1 := ⟨⟨gk_2_74, gk_1_3, gk_2_77, by decide +kernel, by decide +kernel, by decide +kernel⟩, gk_2_76, gw_p (q := (⟨"WakeLet$Tape", "readLaw", "(LWakeLet$Agency;)V"⟩, 5)) (List.mem_of_getElem? (i := 2) rfl)⟩
theorem mv_X5_34 : MKv RX5 34 yX5_readClients cX5_readClients 3 none 1 := ⟨⟨gk_2_100, gk_1_3, gk_2_103, by decide +kernel, by decide +kernel, by decide +kernel⟩, gk_2_102, gw_p (q := (⟨"WakeLet$Tape", "readClients", "(LWakeLet$Agency;)V"⟩, 5)) (List.mem_of_getElem? (i := 7) rfl)⟩
theorem mv_X5_37 : MKv RX5 37 yX5_readWakers cX5_readWakers 3 none 1 := ⟨⟨gk_2_108, gk_1_3, gk_2_111, by decide +kernel, by decide +kernel, by decide +kernel⟩, gk_2_110, gw_p (q := (⟨"WakeLet$Tape", "readWakers", "(LWakeLet$Agency;)V"⟩, 5)) (List.mem_of_getElem? (i := 9) rfl)⟩
theorem mv_X5_40 : MKv RX5 40 yX5_fail cX5_fail 3 none 2 := ⟨⟨gk_2_86, gk_1_3, gk_2_89, by decide +kernel, by decide +kernel, by decide +kernel⟩, gk_2_88, gw_p (q := (⟨"WakeLet$Tape", "fail", "(II)V"⟩, 5)) (List.mem_of_getElem? (i := 5) rfl)⟩
theorem mv_X5_44 : MKv RX5 44 yX5_expect cX5_expect 2 none 1 := ⟨⟨gk_2_78, gk_1_3, gk_2_81, by decide +kernel, by decide +kernel, by decide +kernel⟩, gk_2_80, gw_p (q := (⟨"WakeLet$Tape", "expect", "(I)V"⟩, 5)) (List.mem_of_getElem? (i := 3) rfl)⟩
theorem mv_X5_48 : MKv RX5 48 yX5_number cX5_number 5 (some .int) 1 := ⟨⟨gk_2_90, gk_1_3, gk_2_93, by decide +kernel, by decide +kernel, by decide +kernel⟩, gk_2_92, gw_p (q := (⟨"WakeLet$Tape", "number", "(I)I"⟩, 5)) (List.mem_of_getElem? (i := 6) rfl)⟩
theorem fk_X5_52 : FK RX5 52 1 9 := ⟨RX1, TX1, 12, rfl, uin_X1, by decide, gk_1_68⟩
theorem fi_X5_52 : FI RX5 52 1 9 := ⟨RX1, TX1, 12, tyX1, rfl, uin_X1, by decide, gk_1_68, tyX1_ok, nmX1, rfl, by decide +kernel⟩
theorem fk_X5_55 : FK RX5 55 1 10 := ⟨RX1, TX1, 12, rfl, uin_X1, by decide, gk_1_70⟩
theorem fi_X5_55 : FI RX5 55 1 10 := ⟨RX1, TX1, 12, tyX1, rfl, uin_X1, by decide, gk_1_70, tyX1_ok, nmX1, rfl, by decide +kernel⟩
theorem mv_X5_58 : MKv RX5 58 yX5_readClient cX5_readClient 3 none 1 := ⟨⟨gk_2_104, gk_1_3, gk_2_107, by decide +kernel, by decide +kernel, by decide +kernel⟩, gk_2_106, gw_p (q := (⟨"WakeLet$Tape", "readClient", "(LWakeLet$Agency;)V"⟩, 5)) (List.mem_of_getElem? (i := 8) rfl)⟩
theorem mv_X5_61 : MKv RX5 61 yX5_next cX5_next 1 (some .int) 0 := ⟨⟨gk_2_82, gk_1_3, gk_2_85, by decide +kernel, by decide +kernel, by decide +kernel⟩, gk_2_84, gw_p (q := (⟨"WakeLet$Tape", "next", "()I"⟩, 5)) (List.mem_of_getElem? (i := 4) rfl)⟩
theorem fk_X5_65 : FK RX5 65 1 7 := ⟨RX1, TX1, 12, rfl, uin_X1, by decide, gk_1_60⟩
theorem fi_X5_65 : FI RX5 65 1 7 := ⟨RX1, TX1, 12, tyX1, rfl, uin_X1, by decide, gk_1_60, tyX1_ok, nmX1, rfl, by decide +kernel⟩
theorem fk_X5_68 : FK RX5 68 1 0 := ⟨RX1, TX1, 12, rfl, uin_X1, by decide, gk_1_31⟩
theorem fk_X5_71 : FK RX5 71 1 1 := ⟨RX1, TX1, 12, rfl, uin_X1, by decide, gk_1_35⟩
theorem ms_X5_74 : MKs RX5 74 yX5_kindTold cX5_kindTold 1 (some .int) 1 := ⟨⟨gk_2_112, gk_1_3, gk_2_114, by decide +kernel, by decide +kernel, by decide +kernel⟩, gk_2_113⟩
theorem mv_X5_77 : MKv RX5 77 yX5_readWaker cX5_readWaker 3 none 1 := ⟨⟨gk_2_115, gk_1_3, gk_2_118, by decide +kernel, by decide +kernel, by decide +kernel⟩, gk_2_117, gw_p (q := (⟨"WakeLet$Tape", "readWaker", "(LWakeLet$Agency;)V"⟩, 5)) (List.mem_of_getElem? (i := 10) rfl)⟩
theorem fk_X5_80 : FK RX5 80 1 8 := ⟨RX1, TX1, 12, rfl, uin_X1, by decide, gk_1_63⟩
theorem fi_X5_80 : FI RX5 80 1 8 := ⟨RX1, TX1, 12, tyX1, rfl, uin_X1, by decide, gk_1_63, tyX1_ok, nmX1, rfl, by decide +kernel⟩
theorem fk_X5_83 : FK RX5 83 1 2 := ⟨RX1, TX1, 12, rfl, uin_X1, by decide, gk_1_39⟩
theorem fk_X5_86 : FK RX5 86 1 3 := ⟨RX1, TX1, 12, rfl, uin_X1, by decide, gk_1_42⟩
theorem fk_X5_89 : FK RX5 89 1 4 := ⟨RX1, TX1, 12, rfl, uin_X1, by decide, gk_1_47⟩
theorem fk_X5_92 : FK RX5 92 1 5 := ⟨RX1, TX1, 12, rfl, uin_X1, by decide, gk_1_51⟩
theorem mv_X5_95 : MKv RX5 95 yX5_hirer cX5_hirer 4 (some .int) 1 := ⟨⟨gk_2_119, gk_1_3, gk_2_122, by decide +kernel, by decide +kernel, by decide +kernel⟩, gk_2_121, gw_p (q := (⟨"WakeLet$Tape", "hirer", "(LWakeLet$Agency;)I"⟩, 5)) (List.mem_of_getElem? (i := 11) rfl)⟩
theorem fk_X5_99 : FK RX5 99 1 6 := ⟨RX1, TX1, 12, rfl, uin_X1, by decide, gk_1_55⟩
theorem mv_X5_102 : MKv RX5 102 yX1_hasClient cX1_hasClient 2 (some .boolean) 1 := ⟨⟨gk_2_123, gk_1_2, gk_2_126, by decide +kernel, by decide +kernel, by decide +kernel⟩, gk_2_124, gk_2_125⟩
theorem ms_X5_106 : MKs RX5 106 yX5_isFigure cX5_isFigure 1 (some .boolean) 1 := ⟨⟨gk_2_94, gk_1_3, gk_2_96, by decide +kernel, by decide +kernel, by decide +kernel⟩, gk_2_95⟩
theorem km_X5_109 : KMn RX5 109 := ⟨gk_2_97, gk_2_98, gk_1_10, gk_2_99⟩
theorem fk_X5_115 : FK RX5 115 5 4 := ⟨RX5, TX5, 5, rfl, uin_X5, by decide, gk_1_114⟩
theorem fi_X5_115 : FI RX5 115 5 4 := ⟨RX5, TX5, 5, tyX5, rfl, uin_X5, by decide, gk_1_114, tyX5_ok, nmX5, rfl, by decide +kernel⟩
theorem mi_L_9 : MKb RL 9 yX6_init cX6_init 2 none 0 ∧ Cond.instanceMethod yX6_init ∈ gw := ⟨⟨gk_1_14, gk_1_1, gk_1_16, by decide +kernel, by decide +kernel, by decide +kernel⟩, gk_1_15⟩
theorem mi_L_12 : MKb RL 12 yX7_init cX7_init 2 none 0 ∧ Cond.instanceMethod yX7_init ∈ gw := ⟨⟨gk_3_208, gk_1_8, gk_3_210, by decide +kernel, by decide +kernel, by decide +kernel⟩, gk_3_209⟩
theorem mv_L_13 : MKv RL 13 yX6_row cX6_row 4 (some .int) 3 := ⟨⟨gk_2_1, gk_1_1, gk_2_4, by decide +kernel, by decide +kernel, by decide +kernel⟩, gk_2_2, gk_2_3⟩
theorem mv_L_17 : MKv RL 17 yX7_row cX7_row 5 (some .int) 3 := ⟨⟨gk_4_25, gk_1_8, gk_4_28, by decide +kernel, by decide +kernel, by decide +kernel⟩, gk_4_26, gk_4_27⟩
theorem mv_L_18 : MKv RL 18 yX6_set cX6_set 5 (some .int) 3 := ⟨⟨gk_2_22, gk_1_1, gk_2_25, by decide +kernel, by decide +kernel, by decide +kernel⟩, gk_2_23, gk_2_24⟩
theorem mv_L_21 : MKv RL 21 yX7_set cX7_set 4 (some .int) 3 := ⟨⟨gk_4_47, gk_1_8, gk_4_50, by decide +kernel, by decide +kernel, by decide +kernel⟩, gk_4_48, gk_4_49⟩
theorem mv_L_22 : MKv RL 22 yX6_copy cX6_copy 8 (some .int) 5 := ⟨⟨gk_2_38, gk_1_1, gk_2_41, by decide +kernel, by decide +kernel, by decide +kernel⟩, gk_2_39, gk_2_40⟩
theorem mv_L_26 : MKv RL 26 yX7_copy cX7_copy 7 (some .int) 5 := ⟨⟨gk_4_51, gk_1_8, gk_4_54, by decide +kernel, by decide +kernel, by decide +kernel⟩, gk_4_52, gk_4_53⟩
theorem mv_L_27 : MKv RL 27 yX6_drop cX6_drop 3 (some .int) 1 := ⟨⟨gk_2_45, gk_1_1, gk_2_48, by decide +kernel, by decide +kernel, by decide +kernel⟩, gk_2_46, gk_2_47⟩
theorem mv_L_31 : MKv RL 31 yX7_drop cX7_drop 3 (some .int) 1 := ⟨⟨gk_4_58, gk_1_8, gk_4_61, by decide +kernel, by decide +kernel, by decide +kernel⟩, gk_4_59, gk_4_60⟩
theorem mv_L_32 : MKv RL 32 yX6_feed cX6_feed 2 (some .int) 1 := ⟨⟨gk_2_53, gk_1_1, gk_2_56, by decide +kernel, by decide +kernel, by decide +kernel⟩, gk_2_54, gk_2_55⟩
theorem mv_L_35 : MKv RL 35 yX7_feed cX7_feed 2 (some .int) 1 := ⟨⟨gk_4_62, gk_1_8, gk_4_65, by decide +kernel, by decide +kernel, by decide +kernel⟩, gk_4_63, gk_4_64⟩
theorem mv_L_36 : MKv RL 36 yX6_agency cX6_agency 1 (some .int) 0 := ⟨⟨gk_2_62, gk_1_1, gk_2_65, by decide +kernel, by decide +kernel, by decide +kernel⟩, gk_2_63, gk_2_64⟩
theorem mv_L_40 : MKv RL 40 yX7_agency cX7_agency 2 (some .int) 0 := ⟨⟨gk_4_68, gk_1_8, gk_4_71, by decide +kernel, by decide +kernel, by decide +kernel⟩, gk_4_69, gk_4_70⟩
theorem mv_L_41 : MKv RL 41 yX6_fault cX6_fault 1 (some .int) 0 := ⟨⟨gk_2_137, gk_1_1, gk_2_140, by decide +kernel, by decide +kernel, by decide +kernel⟩, gk_2_138, gk_2_139⟩
theorem mv_L_44 : MKv RL 44 yX7_fault cX7_fault 1 (some .int) 0 := ⟨⟨gk_4_114, gk_1_8, gk_4_117, by decide +kernel, by decide +kernel, by decide +kernel⟩, gk_4_115, gk_4_116⟩
theorem mv_L_45 : MKv RL 45 yX6_nights cX6_nights 3 (some .int) 1 := ⟨⟨gk_2_141, gk_1_1, gk_2_144, by decide +kernel, by decide +kernel, by decide +kernel⟩, gk_2_142, gk_2_143⟩
theorem mv_L_48 : MKv RL 48 yX7_nights cX7_nights 3 (some .int) 1 := ⟨⟨gk_4_118, gk_1_8, gk_4_121, by decide +kernel, by decide +kernel, by decide +kernel⟩, gk_4_119, gk_4_120⟩
theorem mv_L_49 : MKv RL 49 yX6_let cX6_let 4 (some .int) 2 := ⟨⟨gk_2_198, gk_1_1, gk_2_201, by decide +kernel, by decide +kernel, by decide +kernel⟩, gk_2_199, gk_2_200⟩
theorem mv_L_53 : MKv RL 53 yX7_let cX7_let 4 (some .int) 2 := ⟨⟨gk_4_158, gk_1_8, gk_4_161, by decide +kernel, by decide +kernel, by decide +kernel⟩, gk_4_159, gk_4_160⟩
theorem mv_L_54 : MKv RL 54 yX6_grow cX6_grow 3 (some .int) 2 := ⟨⟨gk_2_204, gk_1_1, gk_2_207, by decide +kernel, by decide +kernel, by decide +kernel⟩, gk_2_205, gk_2_206⟩
theorem mv_L_57 : MKv RL 57 yX7_grow cX7_grow 3 (some .int) 2 := ⟨⟨gk_4_170, gk_1_8, gk_4_173, by decide +kernel, by decide +kernel, by decide +kernel⟩, gk_4_171, gk_4_172⟩
theorem mv_L_58 : MKv RL 58 yX6_learn cX6_learn 4 (some .int) 2 := ⟨⟨gk_2_212, gk_1_1, gk_2_215, by decide +kernel, by decide +kernel, by decide +kernel⟩, gk_2_213, gk_2_214⟩
theorem mv_L_61 : MKv RL 61 yX7_learn cX7_learn 4 (some .int) 2 := ⟨⟨gk_4_175, gk_1_8, gk_4_178, by decide +kernel, by decide +kernel, by decide +kernel⟩, gk_4_176, gk_4_177⟩
theorem mv_L_62 : MKv RL 62 yX6_undo cX6_undo 1 (some .int) 0 := ⟨⟨gk_2_216, gk_1_1, gk_2_219, by decide +kernel, by decide +kernel, by decide +kernel⟩, gk_2_217, gk_2_218⟩
theorem mv_L_65 : MKv RL 65 yX7_undo cX7_undo 2 (some .int) 0 := ⟨⟨gk_4_180, gk_1_8, gk_4_183, by decide +kernel, by decide +kernel, by decide +kernel⟩, gk_4_181, gk_4_182⟩
theorem mv_L_66 : MKv RL 66 yX6_client cX6_client 3 (some .int) 2 := ⟨⟨gk_2_224, gk_1_1, gk_2_227, by decide +kernel, by decide +kernel, by decide +kernel⟩, gk_2_225, gk_2_226⟩
theorem mv_L_69 : MKv RL 69 yX7_client cX7_client 5 (some .int) 2 := ⟨⟨gk_4_184, gk_1_8, gk_4_187, by decide +kernel, by decide +kernel, by decide +kernel⟩, gk_4_185, gk_4_186⟩
theorem mv_L_70 : MKv RL 70 yX6_waker cX6_waker 3 (some .int) 2 := ⟨⟨gk_2_230, gk_1_1, gk_2_233, by decide +kernel, by decide +kernel, by decide +kernel⟩, gk_2_231, gk_2_232⟩
theorem mv_L_73 : MKv RL 73 yX7_waker cX7_waker 3 (some .int) 2 := ⟨⟨gk_4_188, gk_1_8, gk_4_191, by decide +kernel, by decide +kernel, by decide +kernel⟩, gk_4_189, gk_4_190⟩
theorem mv_L_74 : MKv RL 74 yX6_weight cX6_weight 3 (some .int) 2 := ⟨⟨gk_2_235, gk_1_1, gk_2_238, by decide +kernel, by decide +kernel, by decide +kernel⟩, gk_2_236, gk_2_237⟩
theorem mv_L_77 : MKv RL 77 yX7_weight cX7_weight 3 (some .int) 2 := ⟨⟨gk_4_192, gk_1_8, gk_4_195, by decide +kernel, by decide +kernel, by decide +kernel⟩, gk_4_193, gk_4_194⟩
theorem mv_L_78 : MKv RL 78 yX6_earned cX6_earned 3 (some .int) 2 := ⟨⟨gk_3_3, gk_1_1, gk_3_6, by decide +kernel, by decide +kernel, by decide +kernel⟩, gk_3_4, gk_3_5⟩
theorem mv_L_81 : MKv RL 81 yX7_earned cX7_earned 3 (some .int) 2 := ⟨⟨gk_4_208, gk_1_8, gk_4_211, by decide +kernel, by decide +kernel, by decide +kernel⟩, gk_4_209, gk_4_210⟩
theorem mv_L_82 : MKv RL 82 yX6_rests cX6_rests 2 (some .int) 1 := ⟨⟨gk_3_7, gk_1_1, gk_3_10, by decide +kernel, by decide +kernel, by decide +kernel⟩, gk_3_8, gk_3_9⟩
theorem mv_L_85 : MKv RL 85 yX7_rests cX7_rests 2 (some .int) 1 := ⟨⟨gk_4_212, gk_1_8, gk_4_215, by decide +kernel, by decide +kernel, by decide +kernel⟩, gk_4_213, gk_4_214⟩
theorem mv_L_86 : MKv RL 86 yX6_when cX6_when 2 (some .int) 1 := ⟨⟨gk_3_11, gk_1_1, gk_3_14, by decide +kernel, by decide +kernel, by decide +kernel⟩, gk_3_12, gk_3_13⟩
theorem mv_L_89 : MKv RL 89 yX7_when cX7_when 2 (some .int) 1 := ⟨⟨gk_4_216, gk_1_8, gk_4_219, by decide +kernel, by decide +kernel, by decide +kernel⟩, gk_4_217, gk_4_218⟩
theorem mv_L_90 : MKv RL 90 yX6_all cX6_all 2 (some .int) 1 := ⟨⟨gk_3_20, gk_1_1, gk_3_23, by decide +kernel, by decide +kernel, by decide +kernel⟩, gk_3_21, gk_3_22⟩
theorem mv_L_93 : MKv RL 93 yX7_all cX7_all 2 (some .int) 1 := ⟨⟨gk_4_225, gk_1_8, gk_4_228, by decide +kernel, by decide +kernel, by decide +kernel⟩, gk_4_226, gk_4_227⟩
theorem mv_L_94 : MKv RL 94 yX6_never cX6_never 3 (some .int) 0 := ⟨⟨gk_3_28, gk_1_1, gk_3_31, by decide +kernel, by decide +kernel, by decide +kernel⟩, gk_3_29, gk_3_30⟩
theorem mv_L_97 : MKv RL 97 yX7_never cX7_never 3 (some .int) 0 := ⟨⟨gk_4_233, gk_1_8, gk_4_236, by decide +kernel, by decide +kernel, by decide +kernel⟩, gk_4_234, gk_4_235⟩
theorem mv_L_98 : MKv RL 98 yX6_best cX6_best 3 (some .int) 2 := ⟨⟨gk_3_32, gk_1_1, gk_3_35, by decide +kernel, by decide +kernel, by decide +kernel⟩, gk_3_33, gk_3_34⟩
theorem mv_L_101 : MKv RL 101 yX7_best cX7_best 9 (some .int) 2 := ⟨⟨gk_4_237, gk_1_8, gk_5_0, by decide +kernel, by decide +kernel, by decide +kernel⟩, gk_4_238, gk_4_239⟩
theorem mv_L_102 : MKv RL 102 yX6_fewest cX6_fewest 4 (some .int) 3 := ⟨⟨gk_3_76, gk_1_1, gk_3_79, by decide +kernel, by decide +kernel, by decide +kernel⟩, gk_3_77, gk_3_78⟩
theorem mv_L_105 : MKv RL 105 yX7_fewest cX7_fewest 9 (some .int) 3 := ⟨⟨gk_5_22, gk_1_8, gk_5_25, by decide +kernel, by decide +kernel, by decide +kernel⟩, gk_5_23, gk_5_24⟩
theorem mv_L_106 : MKv RL 106 yX6_fits cX6_fits 9 (some .int) 5 := ⟨⟨gk_3_89, gk_1_1, gk_3_92, by decide +kernel, by decide +kernel, by decide +kernel⟩, gk_3_90, gk_3_91⟩
theorem mv_L_109 : MKv RL 109 yX7_fits cX7_fits 12 (some .int) 5 := ⟨⟨gk_5_27, gk_1_8, gk_5_30, by decide +kernel, by decide +kernel, by decide +kernel⟩, gk_5_28, gk_5_29⟩
theorem mv_L_110 : MKv RL 110 yX6_nods cX6_nods 7 (some .int) 3 := ⟨⟨gk_3_101, gk_1_1, gk_3_104, by decide +kernel, by decide +kernel, by decide +kernel⟩, gk_3_102, gk_3_103⟩
theorem mv_L_113 : MKv RL 113 yX7_nods cX7_nods 9 (some .int) 3 := ⟨⟨gk_5_40, gk_1_8, gk_5_43, by decide +kernel, by decide +kernel, by decide +kernel⟩, gk_5_41, gk_5_42⟩
theorem mv_L_114 : MKv RL 114 yX6_drawn cX6_drawn 8 (some .int) 3 := ⟨⟨gk_3_119, gk_1_1, gk_3_122, by decide +kernel, by decide +kernel, by decide +kernel⟩, gk_3_120, gk_3_121⟩
theorem mv_L_117 : MKv RL 117 yX7_drawn cX7_drawn 10 (some .int) 3 := ⟨⟨gk_5_45, gk_1_8, gk_5_48, by decide +kernel, by decide +kernel, by decide +kernel⟩, gk_5_46, gk_5_47⟩
theorem mv_L_118 : MKv RL 118 yX6_image cX6_image 2 (some .int) 1 := ⟨⟨gk_3_131, gk_1_1, gk_3_134, by decide +kernel, by decide +kernel, by decide +kernel⟩, gk_3_132, gk_3_133⟩
theorem mv_L_121 : MKv RL 121 yX7_image cX7_image 2 (some .int) 1 := ⟨⟨gk_5_52, gk_1_8, gk_5_55, by decide +kernel, by decide +kernel, by decide +kernel⟩, gk_5_53, gk_5_54⟩
theorem mv_L_122 : MKv RL 122 yX6_restore cX6_restore 2 (some .int) 1 := ⟨⟨gk_3_135, gk_1_1, gk_3_138, by decide +kernel, by decide +kernel, by decide +kernel⟩, gk_3_136, gk_3_137⟩
theorem mv_L_125 : MKv RL 125 yX7_restore cX7_restore 2 (some .int) 1 := ⟨⟨gk_5_56, gk_1_8, gk_5_59, by decide +kernel, by decide +kernel, by decide +kernel⟩, gk_5_57, gk_5_58⟩
theorem mv_L_126 : MKv RL 126 yX6_kind cX6_kind 2 (some .int) 1 := ⟨⟨gk_3_139, gk_1_1, gk_3_142, by decide +kernel, by decide +kernel, by decide +kernel⟩, gk_3_140, gk_3_141⟩
theorem mv_L_129 : MKv RL 129 yX7_kind cX7_kind 2 (some .int) 1 := ⟨⟨gk_5_60, gk_1_8, gk_5_63, by decide +kernel, by decide +kernel, by decide +kernel⟩, gk_5_61, gk_5_62⟩
theorem mv_L_130 : MKv RL 130 yX6_as cX6_as 3 (some .int) 2 := ⟨⟨gk_3_143, gk_1_1, gk_3_146, by decide +kernel, by decide +kernel, by decide +kernel⟩, gk_3_144, gk_3_145⟩
theorem mv_L_133 : MKv RL 133 yX7_as cX7_as 5 (some .int) 2 := ⟨⟨gk_5_64, gk_1_8, gk_5_67, by decide +kernel, by decide +kernel, by decide +kernel⟩, gk_5_65, gk_5_66⟩
theorem mv_L_134 : MKv RL 134 yX6_ask cX6_ask 3 (some .int) 2 := ⟨⟨gk_3_155, gk_1_1, gk_3_158, by decide +kernel, by decide +kernel, by decide +kernel⟩, gk_3_156, gk_3_157⟩
theorem mv_L_137 : MKv RL 137 yX7_ask cX7_ask 3 (some .int) 2 := ⟨⟨gk_5_68, gk_1_8, gk_5_71, by decide +kernel, by decide +kernel, by decide +kernel⟩, gk_5_69, gk_5_70⟩
theorem mv_L_138 : MKv RL 138 yX6_trace cX6_trace 2 (some .int) 1 := ⟨⟨gk_3_186, gk_1_1, gk_3_189, by decide +kernel, by decide +kernel, by decide +kernel⟩, gk_3_187, gk_3_188⟩
theorem mv_L_141 : MKv RL 141 yX7_trace cX7_trace 2 (some .int) 1 := ⟨⟨gk_5_100, gk_1_8, gk_5_103, by decide +kernel, by decide +kernel, by decide +kernel⟩, gk_5_101, gk_5_102⟩
theorem mv_L_142 : MKv RL 142 yX6_count cX6_count 2 (some .int) 1 := ⟨⟨gk_3_190, gk_1_1, gk_3_193, by decide +kernel, by decide +kernel, by decide +kernel⟩, gk_3_191, gk_3_192⟩
theorem mv_L_145 : MKv RL 145 yX7_count cX7_count 4 (some .int) 1 := ⟨⟨gk_5_104, gk_1_8, gk_5_107, by decide +kernel, by decide +kernel, by decide +kernel⟩, gk_5_105, gk_5_106⟩
theorem mv_L_146 : MKv RL 146 yX6_status cX6_status 1 (some .int) 0 := ⟨⟨gk_3_202, gk_1_1, gk_3_205, by decide +kernel, by decide +kernel, by decide +kernel⟩, gk_3_203, gk_3_204⟩
theorem mv_L_149 : MKv RL 149 yX7_status cX7_status 1 (some .int) 0 := ⟨⟨gk_5_112, gk_1_8, gk_5_115, by decide +kernel, by decide +kernel, by decide +kernel⟩, gk_5_113, gk_5_114⟩
theorem fk_X7_7 : FK RX7 7 7 0 := ⟨RX7, TX7, 17, rfl, uin_X7, by decide, gk_3_212⟩
theorem fk_X7_13 : FK RX7 13 7 1 := ⟨RX7, TX7, 17, rfl, uin_X7, by decide, gk_3_213⟩
theorem fk_X7_17 : FK RX7 17 7 2 := ⟨RX7, TX7, 17, rfl, uin_X7, by decide, gk_3_214⟩
theorem fk_X7_20 : FK RX7 20 7 4 := ⟨RX7, TX7, 17, rfl, uin_X7, by decide, gk_3_216⟩
theorem fk_X7_23 : FK RX7 23 7 5 := ⟨RX7, TX7, 17, rfl, uin_X7, by decide, gk_3_217⟩
theorem fk_X7_26 : FK RX7 26 7 6 := ⟨RX7, TX7, 17, rfl, uin_X7, by decide, gk_3_218⟩
theorem fk_X7_29 : FK RX7 29 7 8 := ⟨RX7, TX7, 17, rfl, uin_X7, by decide, gk_3_220⟩
theorem fk_X7_32 : FK RX7 32 7 11 := ⟨RX7, TX7, 17, rfl, uin_X7, by decide, gk_3_223⟩
theorem fk_X7_35 : FK RX7 35 7 13 := ⟨RX7, TX7, 17, rfl, uin_X7, by decide, gk_3_225⟩
theorem fk_X7_38 : FK RX7 38 7 7 := ⟨RX7, TX7, 17, rfl, uin_X7, by decide, gk_3_219⟩
theorem fi_X7_38 : FI RX7 38 7 7 := ⟨RX7, TX7, 17, tyX7, rfl, uin_X7, by decide, gk_3_219, tyX7_ok, nmX7, rfl, by decide +kernel⟩
theorem kc_X7_42 : Cond.constant RX7 42 (-1000010) ∈ gw := gk_4_42
theorem kc_X7_43 : Cond.constantLong RX7 43 (7) ∈ gw := gk_4_32
theorem ms_X7_45 : MKs RX7 45 yX7_in cX7_in 6 (some .boolean) 3 := ⟨⟨gk_4_33, gk_1_8, gk_4_35, by decide +kernel, by decide +kernel, by decide +kernel⟩, gk_4_34⟩
theorem ms_X7_49 : MKs RX7 49 yX7_isRow cX7_isRow 1 (some .boolean) 1 := ⟨⟨gk_4_29, gk_1_8, gk_4_31, by decide +kernel, by decide +kernel, by decide +kernel⟩, gk_4_30⟩
theorem kc_X7_53 : Cond.constantLong RX7 53 (2) ∈ gw := gk_4_36
theorem kc_X7_55 : Cond.constant RX7 55 (-1000001) ∈ gw := gk_4_37
theorem mv_X7_56 : MKv RX7 56 yX7_found cX7_found 2 (some .int) 1 := ⟨⟨gk_4_38, gk_1_8, gk_4_41, by decide +kernel, by decide +kernel, by decide +kernel⟩, gk_4_40, gw_p (q := (⟨"WakeLetModel", "found", "(I)I"⟩, 17)) (List.mem_of_getElem? (i := 29) rfl)⟩
theorem mv_X7_60 : MKv RX7 60 yX7_good cX7_good 2 (some .int) 1 := ⟨⟨gk_4_43, gk_1_8, gk_4_46, by decide +kernel, by decide +kernel, by decide +kernel⟩, gk_4_45, gw_p (q := (⟨"WakeLetModel", "good", "(I)I"⟩, 17)) (List.mem_of_getElem? (i := 30) rfl)⟩
theorem ms_X7_63 : MKs RX7 63 yX7_isWithin cX7_isWithin 3 (some .boolean) 3 := ⟨⟨gk_4_55, gk_1_8, gk_4_57, by decide +kernel, by decide +kernel, by decide +kernel⟩, gk_4_56⟩
theorem kc_X7_67 : Cond.constantLong RX7 67 (255) ∈ gw := gk_4_66
theorem fk_X7_69 : FK RX7 69 7 9 := ⟨RX7, TX7, 17, rfl, uin_X7, by decide, gk_3_221⟩
theorem fi_X7_69 : FI RX7 69 7 9 := ⟨RX7, TX7, 17, tyX7, rfl, uin_X7, by decide, gk_3_221, tyX7_ok, nmX7, rfl, by decide +kernel⟩
theorem kc_X7_72 : Cond.constant RX7 72 (-1000003) ∈ gw := gk_4_67
theorem fk_X7_73 : FK RX7 73 7 10 := ⟨RX7, TX7, 17, rfl, uin_X7, by decide, gk_3_222⟩
theorem fi_X7_73 : FI RX7 73 7 10 := ⟨RX7, TX7, 17, tyX7, rfl, uin_X7, by decide, gk_3_222, tyX7_ok, nmX7, rfl, by decide +kernel⟩
theorem fk_X7_76 : FK RX7 76 7 16 := ⟨RX7, TX7, 17, rfl, uin_X7, by decide, gk_3_228⟩
theorem fi_X7_76 : FI RX7 76 7 16 := ⟨RX7, TX7, 17, tyX7, rfl, uin_X7, by decide, gk_3_228, tyX7_ok, nmX7, rfl, by decide +kernel⟩
theorem fk_X7_79 : FK RX7 79 7 14 := ⟨RX7, TX7, 17, rfl, uin_X7, by decide, gk_3_226⟩
theorem fi_X7_79 : FI RX7 79 7 14 := ⟨RX7, TX7, 17, tyX7, rfl, uin_X7, by decide, gk_3_226, tyX7_ok, nmX7, rfl, by decide +kernel⟩
theorem mv_X7_82 : MKv RX7 82 yX7_byteAt cX7_byteAt 2 (some .int) 1 := ⟨⟨gk_4_80, gk_1_8, gk_4_83, by decide +kernel, by decide +kernel, by decide +kernel⟩, gk_4_82, gw_p (q := (⟨"WakeLetModel", "byteAt", "(I)I"⟩, 17)) (List.mem_of_getElem? (i := 33) rfl)⟩
theorem mv_X7_85 : MKv RX7 85 yX7_fails cX7_fails 3 (some .boolean) 2 := ⟨⟨gk_4_84, gk_1_8, gk_4_87, by decide +kernel, by decide +kernel, by decide +kernel⟩, gk_4_86, gw_p (q := (⟨"WakeLetModel", "fails", "(II)Z"⟩, 17)) (List.mem_of_getElem? (i := 34) rfl)⟩
theorem fk_X7_89 : FK RX7 89 7 15 := ⟨RX7, TX7, 17, rfl, uin_X7, by decide, gk_3_227⟩
theorem fi_X7_89 : FI RX7 89 7 15 := ⟨RX7, TX7, 17, tyX7, rfl, uin_X7, by decide, gk_3_227, tyX7_ok, nmX7, rfl, by decide +kernel⟩
theorem kc_X7_92 : Cond.constantLong RX7 92 (48) ∈ gw := gk_4_92
theorem kc_X7_94 : Cond.constantLong RX7 94 (57) ∈ gw := gk_4_93
theorem mv_X7_96 : MKv RX7 96 yX7_takes cX7_takes 2 (some .boolean) 1 := ⟨⟨gk_4_76, gk_1_8, gk_4_79, by decide +kernel, by decide +kernel, by decide +kernel⟩, gk_4_78, gw_p (q := (⟨"WakeLetModel", "takes", "(I)Z"⟩, 17)) (List.mem_of_getElem? (i := 32) rfl)⟩
theorem mv_X7_99 : MKv RX7 99 yX7_takesNumber cX7_takesNumber 5 (some .boolean) 3 := ⟨⟨gk_4_88, gk_1_8, gk_4_91, by decide +kernel, by decide +kernel, by decide +kernel⟩, gk_4_90, gw_p (q := (⟨"WakeLetModel", "takesNumber", "(III)Z"⟩, 17)) (List.mem_of_getElem? (i := 35) rfl)⟩
theorem ms_X7_102 : MKs RX7 102 yX7_kindOf cX7_kindOf 1 (some .int) 1 := ⟨⟨gk_4_98, gk_1_8, gk_4_100, by decide +kernel, by decide +kernel, by decide +kernel⟩, gk_4_99⟩
theorem mv_X7_105 : MKv RX7 105 yX7_takesClient cX7_takesClient 2 (some .boolean) 0 := ⟨⟨gk_4_101, gk_1_8, gk_4_104, by decide +kernel, by decide +kernel, by decide +kernel⟩, gk_4_103, gw_p (q := (⟨"WakeLetModel", "takesClient", "()Z"⟩, 17)) (List.mem_of_getElem? (i := 37) rfl)⟩
theorem mv_X7_109 : MKv RX7 109 yX7_takesWaker cX7_takesWaker 6 (some .boolean) 1 := ⟨⟨gk_4_105, gk_1_8, gk_4_108, by decide +kernel, by decide +kernel, by decide +kernel⟩, gk_4_107, gw_p (q := (⟨"WakeLetModel", "takesWaker", "(I)Z"⟩, 17)) (List.mem_of_getElem? (i := 38) rfl)⟩
theorem mv_X7_112 : MKv RX7 112 yX7_takesLaw cX7_takesLaw 2 (some .boolean) 0 := ⟨⟨gk_4_72, gk_1_8, gk_4_75, by decide +kernel, by decide +kernel, by decide +kernel⟩, gk_4_74, gw_p (q := (⟨"WakeLetModel", "takesLaw", "()Z"⟩, 17)) (List.mem_of_getElem? (i := 31) rfl)⟩
theorem mv_X7_115 : MKv RX7 115 yX7_takesMore cX7_takesMore 3 (some .boolean) 0 := ⟨⟨gk_4_94, gk_1_8, gk_4_97, by decide +kernel, by decide +kernel, by decide +kernel⟩, gk_4_96, gw_p (q := (⟨"WakeLetModel", "takesMore", "()Z"⟩, 17)) (List.mem_of_getElem? (i := 36) rfl)⟩
theorem kc_X7_118 : Cond.constant RX7 118 (-1000100) ∈ gw := gk_4_109
theorem mv_X7_119 : MKv RX7 119 yX7_copyAll cX7_copyAll 4 none 2 := ⟨⟨gk_4_110, gk_1_8, gk_4_113, by decide +kernel, by decide +kernel, by decide +kernel⟩, gk_4_112, gw_p (q := (⟨"WakeLetModel", "copyAll", "(II)V"⟩, 17)) (List.mem_of_getElem? (i := 39) rfl)⟩
theorem fk_X7_123 : FK RX7 123 7 3 := ⟨RX7, TX7, 17, rfl, uin_X7, by decide, gk_3_215⟩
theorem fi_X7_123 : FI RX7 123 7 3 := ⟨RX7, TX7, 17, tyX7, rfl, uin_X7, by decide, gk_3_215, tyX7_ok, nmX7, rfl, by decide +kernel⟩
theorem mv_X7_126 : MKv RX7 126 yX7_isFit cX7_isFit 3 (some .boolean) 2 := ⟨⟨gk_4_143, gk_1_8, gk_4_146, by decide +kernel, by decide +kernel, by decide +kernel⟩, gk_4_145, gw_p (q := (⟨"WakeLetModel", "isFit", "(II)Z"⟩, 17)) (List.mem_of_getElem? (i := 44) rfl)⟩
theorem ms_X7_129 : MKs RX7 129 yX7_guards cX7_guards 2 (some .int) 2 := ⟨⟨gk_4_151, gk_1_8, gk_4_153, by decide +kernel, by decide +kernel, by decide +kernel⟩, gk_4_152⟩
theorem ms_X7_133 : MKs RX7 133 yX7_has cX7_has 2 (some .boolean) 2 := ⟨⟨gk_4_140, gk_1_8, gk_4_142, by decide +kernel, by decide +kernel, by decide +kernel⟩, gk_4_141⟩
theorem mv_X7_136 : MKv RX7 136 yX7_lies cX7_lies 6 (some .int) 2 := ⟨⟨gk_4_147, gk_1_8, gk_4_150, by decide +kernel, by decide +kernel, by decide +kernel⟩, gk_4_149, gw_p (q := (⟨"WakeLetModel", "lies", "(II)I"⟩, 17)) (List.mem_of_getElem? (i := 45) rfl)⟩
theorem mv_X7_139 : MKv RX7 139 yX7_lighter cX7_lighter 7 (some .int) 3 := ⟨⟨gk_4_136, gk_1_8, gk_4_139, by decide +kernel, by decide +kernel, by decide +kernel⟩, gk_4_138, gw_p (q := (⟨"WakeLetModel", "lighter", "(III)I"⟩, 17)) (List.mem_of_getElem? (i := 43) rfl)⟩
theorem mv_X7_143 : MKv RX7 143 yX7_isAgency cX7_isAgency 1 (some .boolean) 0 := ⟨⟨gk_4_122, gk_1_8, gk_4_125, by decide +kernel, by decide +kernel, by decide +kernel⟩, gk_4_124, gw_p (q := (⟨"WakeLetModel", "isAgency", "()Z"⟩, 17)) (List.mem_of_getElem? (i := 40) rfl)⟩
theorem kc_X7_146 : Cond.constant RX7 146 (-1000002) ∈ gw := gk_4_126
theorem kc_X7_147 : Cond.constantLong RX7 147 (24) ∈ gw := gk_4_127
theorem mv_X7_149 : MKv RX7 149 yX7_minds cX7_minds 2 none 0 := ⟨⟨gk_4_128, gk_1_8, gk_4_131, by decide +kernel, by decide +kernel, by decide +kernel⟩, gk_4_130, gw_p (q := (⟨"WakeLetModel", "minds", "()V"⟩, 17)) (List.mem_of_getElem? (i := 41) rfl)⟩
theorem mv_X7_152 : MKv RX7 152 yX7_passes cX7_passes 7 none 2 := ⟨⟨gk_4_132, gk_1_8, gk_4_135, by decide +kernel, by decide +kernel, by decide +kernel⟩, gk_4_134, gw_p (q := (⟨"WakeLetModel", "passes", "(II)V"⟩, 17)) (List.mem_of_getElem? (i := 42) rfl)⟩
theorem mv_X7_155 : MKv RX7 155 yX7_restsIn cX7_restsIn 4 (some .int) 1 := ⟨⟨gk_4_154, gk_1_8, gk_4_157, by decide +kernel, by decide +kernel, by decide +kernel⟩, gk_4_156, gw_p (q := (⟨"WakeLetModel", "restsIn", "(I)I"⟩, 17)) (List.mem_of_getElem? (i := 46) rfl)⟩
theorem mv_X7_158 : MKv RX7 158 yX7_isWaker cX7_isWaker 2 (some .boolean) 1 := ⟨⟨gk_4_162, gk_1_8, gk_4_165, by decide +kernel, by decide +kernel, by decide +kernel⟩, gk_4_164, gw_p (q := (⟨"WakeLetModel", "isWaker", "(I)Z"⟩, 17)) (List.mem_of_getElem? (i := 47) rfl)⟩
theorem mv_X7_161 : MKv RX7 161 yX7_isClient cX7_isClient 2 (some .boolean) 1 := ⟨⟨gk_4_166, gk_1_8, gk_4_169, by decide +kernel, by decide +kernel, by decide +kernel⟩, gk_4_168, gw_p (q := (⟨"WakeLetModel", "isClient", "(I)Z"⟩, 17)) (List.mem_of_getElem? (i := 48) rfl)⟩
theorem kc_X7_164 : Cond.constantLong RX7 164 (20) ∈ gw := gk_4_174
theorem kc_X7_166 : Cond.constantLong RX7 166 (5) ∈ gw := gk_4_179
theorem kc_X7_168 : Cond.constantLong RX7 168 (60) ∈ gw := gk_4_199
theorem mv_X7_170 : MKv RX7 170 yX7_tries cX7_tries 3 none 1 := ⟨⟨gk_4_204, gk_1_8, gk_4_207, by decide +kernel, by decide +kernel, by decide +kernel⟩, gk_4_206, gw_p (q := (⟨"WakeLetModel", "tries", "(I)V"⟩, 17)) (List.mem_of_getElem? (i := 50) rfl)⟩
theorem ms_X7_174 : MKs RX7 174 yX7_isSpan cX7_isSpan 1 (some .boolean) 1 := ⟨⟨gk_4_196, gk_1_8, gk_4_198, by decide +kernel, by decide +kernel, by decide +kernel⟩, gk_4_197⟩
theorem mv_X7_177 : MKv RX7 177 yX7_triesFrom cX7_triesFrom 2 none 1 := ⟨⟨gk_4_200, gk_1_8, gk_4_203, by decide +kernel, by decide +kernel, by decide +kernel⟩, gk_4_202, gw_p (q := (⟨"WakeLetModel", "triesFrom", "(I)V"⟩, 17)) (List.mem_of_getElem? (i := 49) rfl)⟩
theorem kc_X7_180 : Cond.constant RX7 180 (-1000000) ∈ gw := gk_4_224
theorem mv_X7_181 : MKv RX7 181 yX7_firstOf cX7_firstOf 3 (some .int) 1 := ⟨⟨gk_4_220, gk_1_8, gk_4_223, by decide +kernel, by decide +kernel, by decide +kernel⟩, gk_4_222, gw_p (q := (⟨"WakeLetModel", "firstOf", "(I)I"⟩, 17)) (List.mem_of_getElem? (i := 51) rfl)⟩
theorem mv_X7_184 : MKv RX7 184 yX7_isSet cX7_isSet 2 (some .boolean) 1 := ⟨⟨gk_4_229, gk_1_8, gk_4_232, by decide +kernel, by decide +kernel, by decide +kernel⟩, gk_4_231, gw_p (q := (⟨"WakeLetModel", "isSet", "(I)Z"⟩, 17)) (List.mem_of_getElem? (i := 52) rfl)⟩
theorem mv_X7_187 : MKv RX7 187 yX7_letBy cX7_letBy 5 (some .int) 2 := ⟨⟨gk_5_11, gk_1_8, gk_5_14, by decide +kernel, by decide +kernel, by decide +kernel⟩, gk_5_13, gw_p (q := (⟨"WakeLetModel", "letBy", "(II)I"⟩, 17)) (List.mem_of_getElem? (i := 55) rfl)⟩
theorem kc_X7_190 : Cond.constantLong RX7 190 (-2) ∈ gw := gk_5_1
theorem kc_X7_192 : Cond.constantLong RX7 192 (3) ∈ gw := gk_5_2
theorem mv_X7_194 : MKv RX7 194 yX7_allLets cX7_allLets 3 (some .int) 0 := ⟨⟨gk_5_3, gk_1_8, gk_5_6, by decide +kernel, by decide +kernel, by decide +kernel⟩, gk_5_5, gw_p (q := (⟨"WakeLetModel", "allLets", "()I"⟩, 17)) (List.mem_of_getElem? (i := 53) rfl)⟩
theorem mv_X7_198 : MKv RX7 198 yX7_triesLets cX7_triesLets 5 (some .int) 2 := ⟨⟨gk_5_7, gk_1_8, gk_5_10, by decide +kernel, by decide +kernel, by decide +kernel⟩, gk_5_9, gw_p (q := (⟨"WakeLetModel", "triesLets", "(II)I"⟩, 17)) (List.mem_of_getElem? (i := 54) rfl)⟩
theorem ms_X7_201 : MKs RX7 201 yX7_ones cX7_ones 3 (some .int) 1 := ⟨⟨gk_5_15, gk_1_8, gk_5_17, by decide +kernel, by decide +kernel, by decide +kernel⟩, gk_5_16⟩
theorem mv_X7_204 : MKv RX7 204 yX7_weightsIn cX7_weightsIn 4 (some .int) 1 := ⟨⟨gk_5_18, gk_1_8, gk_5_21, by decide +kernel, by decide +kernel, by decide +kernel⟩, gk_5_20, gw_p (q := (⟨"WakeLetModel", "weightsIn", "(I)I"⟩, 17)) (List.mem_of_getElem? (i := 56) rfl)⟩
theorem kc_X7_207 : Cond.constantLong RX7 207 (-1) ∈ gw := gk_5_26
theorem kc_X7_209 : Cond.constantLong RX7 209 (16) ∈ gw := gk_5_31
theorem mv_X7_211 : MKv RX7 211 yX7_against cX7_against 4 (some .int) 3 := ⟨⟨gk_5_32, gk_1_8, gk_5_35, by decide +kernel, by decide +kernel, by decide +kernel⟩, gk_5_34, gw_p (q := (⟨"WakeLetModel", "against", "(III)I"⟩, 17)) (List.mem_of_getElem? (i := 57) rfl)⟩
theorem mv_X7_214 : MKv RX7 214 yX7_isSo cX7_isSo 5 (some .boolean) 2 := ⟨⟨gk_5_36, gk_1_8, gk_5_39, by decide +kernel, by decide +kernel, by decide +kernel⟩, gk_5_38, gw_p (q := (⟨"WakeLetModel", "isSo", "(II)Z"⟩, 17)) (List.mem_of_getElem? (i := 58) rfl)⟩
theorem kc_X7_217 : Cond.constantLong RX7 217 (10) ∈ gw := gk_5_44
theorem kc_X7_219 : Cond.constantLong RX7 219 (999999) ∈ gw := gk_5_49
theorem kc_X7_221 : Cond.constantLong RX7 221 (16807) ∈ gw := gk_5_50
theorem kc_X7_223 : Cond.constantLong RX7 223 (2147483647) ∈ gw := gk_5_51
theorem fk_X7_225 : FK RX7 225 7 12 := ⟨RX7, TX7, 17, rfl, uin_X7, by decide, gk_3_224⟩
theorem fi_X7_225 : FI RX7 225 7 12 := ⟨RX7, TX7, 17, tyX7, rfl, uin_X7, by decide, gk_3_224, tyX7_ok, nmX7, rfl, by decide +kernel⟩
theorem mv_X7_228 : MKv RX7 228 yX7_leaves cX7_leaves 2 none 1 := ⟨⟨gk_5_76, gk_1_8, gk_5_79, by decide +kernel, by decide +kernel, by decide +kernel⟩, gk_5_78, gw_p (q := (⟨"WakeLetModel", "leaves", "(I)V"⟩, 17)) (List.mem_of_getElem? (i := 60) rfl)⟩
theorem mv_X7_231 : MKv RX7 231 yX7_markLent cX7_markLent 2 (some .int) 1 := ⟨⟨gk_5_92, gk_1_8, gk_5_95, by decide +kernel, by decide +kernel, by decide +kernel⟩, gk_5_94, gw_p (q := (⟨"WakeLetModel", "markLent", "(I)I"⟩, 17)) (List.mem_of_getElem? (i := 64) rfl)⟩
theorem mv_X7_234 : MKv RX7 234 yX7_markOwl cX7_markOwl 2 (some .int) 1 := ⟨⟨gk_5_88, gk_1_8, gk_5_91, by decide +kernel, by decide +kernel, by decide +kernel⟩, gk_5_90, gw_p (q := (⟨"WakeLetModel", "markOwl", "(I)I"⟩, 17)) (List.mem_of_getElem? (i := 63) rfl)⟩
theorem mv_X7_237 : MKv RX7 237 yX7_sizeGuard cX7_sizeGuard 4 (some .int) 2 := ⟨⟨gk_5_96, gk_1_8, gk_5_99, by decide +kernel, by decide +kernel, by decide +kernel⟩, gk_5_98, gw_p (q := (⟨"WakeLetModel", "sizeGuard", "(IZ)I"⟩, 17)) (List.mem_of_getElem? (i := 65) rfl)⟩
theorem mv_X7_241 : MKv RX7 241 yX7_mark cX7_mark 3 (some .int) 1 := ⟨⟨gk_5_84, gk_1_8, gk_5_87, by decide +kernel, by decide +kernel, by decide +kernel⟩, gk_5_86, gw_p (q := (⟨"WakeLetModel", "mark", "(I)I"⟩, 17)) (List.mem_of_getElem? (i := 62) rfl)⟩
theorem mv_X7_244 : MKv RX7 244 yX7_sizeOwl cX7_sizeOwl 2 (some .int) 1 := ⟨⟨gk_5_80, gk_1_8, gk_5_83, by decide +kernel, by decide +kernel, by decide +kernel⟩, gk_5_82, gw_p (q := (⟨"WakeLetModel", "sizeOwl", "(I)I"⟩, 17)) (List.mem_of_getElem? (i := 61) rfl)⟩
theorem mv_X7_247 : MKv RX7 247 yX7_size cX7_size 3 (some .int) 1 := ⟨⟨gk_5_72, gk_1_8, gk_5_75, by decide +kernel, by decide +kernel, by decide +kernel⟩, gk_5_74, gw_p (q := (⟨"WakeLetModel", "size", "(I)I"⟩, 17)) (List.mem_of_getElem? (i := 59) rfl)⟩
theorem mv_X7_250 : MKv RX7 250 yX7_earnedOfAll cX7_earnedOfAll 3 (some .int) 0 := ⟨⟨gk_5_108, gk_1_8, gk_5_111, by decide +kernel, by decide +kernel, by decide +kernel⟩, gk_5_110, gw_p (q := (⟨"WakeLetModel", "earnedOfAll", "()I"⟩, 17)) (List.mem_of_getElem? (i := 66) rfl)⟩
theorem kc_J6_264 : Cond.constant RJ6 264 (65536) ∈ gw := gk_3_51
theorem kc_J6_265 : Cond.constant RJ6 265 (1431655765) ∈ gw := gk_3_108
theorem kc_J6_266 : Cond.constant RJ6 266 (858993459) ∈ gw := gk_3_109
theorem kc_J6_267 : Cond.constant RJ6 267 (252645135) ∈ gw := gk_3_110
