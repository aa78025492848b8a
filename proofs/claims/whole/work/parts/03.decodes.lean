/-! what the kernel checks of the data: each instruction is what the bytes decode to -/
/-- an instruction's length -/
def zx_len : Instr → Nat → Bool
  | .tableswitch _ _ _ _, _ => true
  | .lookupswitch _ _, _ => true
  | .aload _, n => Nat.beq n 2
  | .iload _, n => Nat.beq n 2
  | .lload _, n => Nat.beq n 2
  | .istore _, n => Nat.beq n 2
  | .lstore _, n => Nat.beq n 2
  | .bipush _, n => Nat.beq n 2
  | .ldc _, n => Nat.beq n 2
  | .newarray _, n => Nat.beq n 2
  | .iinc _ _, n => Nat.beq n 3
  | .sipush _, n => Nat.beq n 3
  | .ldc2_w _, n => Nat.beq n 3
  | .ldc_w _, n => Nat.beq n 3
  | .ifCond _ _, n => Nat.beq n 3
  | .if_icmp _ _, n => Nat.beq n 3
  | .ifnonnull _, n => Nat.beq n 3
  | .goto _, n => Nat.beq n 3
  | .getfield _, n => Nat.beq n 3
  | .putfield _, n => Nat.beq n 3
  | .getstatic _, n => Nat.beq n 3
  | .new _, n => Nat.beq n 3
  | .invokestatic _, n => Nat.beq n 3
  | .invokevirtual _, n => Nat.beq n 3
  | .invokespecial _, n => Nat.beq n 3
  | .invokedynamic _, _ => true
  | _, n => Nat.beq n 1
def zx_ckc (b : ByteArray) (C : zx_C) : Bool := C.all (fun e => decide (decode b e.1 = .ok (e.2.1, e.2.2)) && zx_len e.2.1 e.2.2)
theorem zc_0 : zx_ckc cX0_init zp_0 = true := by decide +kernel
theorem zc_1 : zx_ckc cX0_bodiesKept zp_1 = true := by decide +kernel
theorem zc_2 : zx_ckc cX0_bodiesRun zp_2 = true := by decide +kernel
theorem zc_3 : zx_ckc cX0_isKind zp_3 = true := by decide +kernel
theorem zc_4 : zx_ckc cX0_isBody zp_4 = true := by decide +kernel
theorem zc_5 : zx_ckc cX0_newBody zp_5 = true := by decide +kernel
theorem zc_6 : zx_ckc cX0_kindOf zp_6 = true := by decide +kernel
theorem zc_7 : zx_ckc cX0_isUnder zp_7 = true := by decide +kernel
theorem zc_8 : zx_ckc cX0_tracedAt zp_8 = true := by decide +kernel
theorem zc_9 : zx_ckc cX0_play zp_9 = true := by decide +kernel
theorem zc_10 : zx_ckc cX0_note zp_10 = true := by decide +kernel
theorem zc_11 : zx_ckc cX0_ownBody zp_11 = true := by decide +kernel
theorem zc_12 : zx_ckc cX0_own zp_12 = true := by decide +kernel
theorem zc_13 : zx_ckc cX0_from zp_13 = true := by decide +kernel
theorem zc_14 : zx_ckc cX0_ofDrop zp_14 = true := by decide +kernel
theorem zc_15 : zx_ckc cX0_plain zp_15 = true := by decide +kernel
theorem zc_16 : zx_ckc cX0_more zp_16 = true := by decide +kernel
theorem zc_17 : zx_ckc cX1_init zp_17 = true := by decide +kernel
theorem zc_18 : zx_ckc cX1_undoable zp_18 = true := by decide +kernel
theorem zc_19 : zx_ckc cX1_note zp_19 = true := by decide +kernel
theorem zc_20 : zx_ckc cX1_forgetFirst zp_20 = true := by decide +kernel
theorem zc_21 : zx_ckc cX1_takeBack zp_21 = true := by decide +kernel
theorem zc_22 : zx_ckc cX1_makeAgain zp_22 = true := by decide +kernel
theorem zc_23 : zx_ckc cX2_init zp_23 = true := by decide +kernel
theorem zc_24 : zx_ckc cX2_become zp_24 = true := by decide +kernel
theorem zc_25 : zx_ckc cX2_drops zp_25 = true := by decide +kernel
theorem zc_26 : zx_ckc cX2_start zp_26 = true := by decide +kernel
theorem zc_27 : zx_ckc cX2_mayGo zp_27 = true := by decide +kernel
theorem zc_28 : zx_ckc cX2_sendOut zp_28 = true := by decide +kernel
theorem zc_29 : zx_ckc cX2_end zp_29 = true := by decide +kernel
theorem zc_30 : zx_ckc cX2_tally zp_30 = true := by decide +kernel
theorem zc_31 : zx_ckc cX3_init zp_31 = true := by decide +kernel
theorem zc_32 : zx_ckc cX3_size zp_32 = true := by decide +kernel
theorem zc_33 : zx_ckc cX3_clear zp_33 = true := by decide +kernel
theorem zc_34 : zx_ckc cX3_become zp_34 = true := by decide +kernel
theorem zc_35 : zx_ckc cX3_join zp_35 = true := by decide +kernel
theorem zc_36 : zx_ckc cX3_downOf zp_36 = true := by decide +kernel
theorem zc_37 : zx_ckc cX3_meeting zp_37 = true := by decide +kernel
theorem zc_38 : zx_ckc cX3_well zp_38 = true := by decide +kernel
theorem zc_39 : zx_ckc cX3_good zp_39 = true := by decide +kernel
theorem zc_40 : zx_ckc cX3_wellFrom zp_40 = true := by decide +kernel
theorem zc_41 : zx_ckc cX4_init zp_41 = true := by decide +kernel
theorem zc_42 : zx_ckc cX4_jumpersThere zp_42 = true := by decide +kernel
theorem zc_43 : zx_ckc cX4_isJumper zp_43 = true := by decide +kernel
theorem zc_44 : zx_ckc cX4_isThere zp_44 = true := by decide +kernel
theorem zc_45 : zx_ckc cX4_fits zp_45 = true := by decide +kernel
theorem zc_46 : zx_ckc cX4_told zp_46 = true := by decide +kernel
theorem zc_47 : zx_ckc cX4_tell zp_47 = true := by decide +kernel
theorem zc_48 : zx_ckc cX4_welcome zp_48 = true := by decide +kernel
theorem zc_49 : zx_ckc cX4_fromMiddle zp_49 = true := by decide +kernel
theorem zc_50 : zx_ckc cX5_init zp_50 = true := by decide +kernel
theorem zc_51 : zx_ckc cX5_size zp_51 = true := by decide +kernel
theorem zc_52 : zx_ckc cX5_clear zp_52 = true := by decide +kernel
theorem zc_53 : zx_ckc cX5_at zp_53 = true := by decide +kernel
theorem zc_54 : zx_ckc cX5_has zp_54 = true := by decide +kernel
theorem zc_55 : zx_ckc cX5_append zp_55 = true := by decide +kernel
theorem zc_56 : zx_ckc cX5_spell zp_56 = true := by decide +kernel
theorem zc_57 : zx_ckc cX5_power zp_57 = true := by decide +kernel
theorem zc_58 : zx_ckc cX5_asDigits zp_58 = true := by decide +kernel
theorem zc_59 : zx_ckc cX6_init zp_59 = true := by decide +kernel
theorem zc_60 : zx_ckc cX6_isThere zp_60 = true := by decide +kernel
theorem zc_61 : zx_ckc cX6_holds zp_61 = true := by decide +kernel
theorem zc_62 : zx_ckc cX6_size zp_62 = true := by decide +kernel
theorem zc_63 : zx_ckc cX6_refusal zp_63 = true := by decide +kernel
theorem zc_64 : zx_ckc cX6_refusalOfPlace zp_64 = true := by decide +kernel
theorem zc_65 : zx_ckc cX6_lay zp_65 = true := by decide +kernel
theorem zc_66 : zx_ckc cX6_cell zp_66 = true := by decide +kernel
theorem zc_67 : zx_ckc cX6_set zp_67 = true := by decide +kernel
theorem zc_68 : zx_ckc cX6_lowestBits zp_68 = true := by decide +kernel
theorem zc_69 : zx_ckc cX6_copy zp_69 = true := by decide +kernel
theorem zc_70 : zx_ckc cX6_isStretch zp_70 = true := by decide +kernel
theorem zc_71 : zx_ckc cX7_init zp_71 = true := by decide +kernel
theorem zc_72 : zx_ckc cX7_size zp_72 = true := by decide +kernel
theorem zc_73 : zx_ckc cX7_clear zp_73 = true := by decide +kernel
theorem zc_74 : zx_ckc cX7_append zp_74 = true := by decide +kernel
theorem zc_75 : zx_ckc cX7_become zp_75 = true := by decide +kernel
theorem zc_76 : zx_ckc cX7_fault zp_76 = true := by decide +kernel
theorem zc_77 : zx_ckc cX7_worth zp_77 = true := by decide +kernel
theorem zc_78 : zx_ckc cX7_read zp_78 = true := by decide +kernel
theorem zc_79 : zx_ckc cX7_next zp_79 = true := by decide +kernel
theorem zc_80 : zx_ckc cX7_joined zp_80 = true := by decide +kernel
theorem zc_81 : zx_ckc cX7_rankOf zp_81 = true := by decide +kernel
theorem zc_82 : zx_ckc cX7_reckoned zp_82 = true := by decide +kernel
theorem zc_83 : zx_ckc cX7_single zp_83 = true := by decide +kernel
theorem zc_84 : zx_ckc cX7_bracketed zp_84 = true := by decide +kernel
theorem zc_85 : zx_ckc cX7_number zp_85 = true := by decide +kernel
theorem zc_86 : zx_ckc cX8_init zp_86 = true := by decide +kernel
theorem zc_87 : zx_ckc cX8_jumper zp_87 = true := by decide +kernel
theorem zc_88 : zx_ckc cX8_jumpers zp_88 = true := by decide +kernel
theorem zc_89 : zx_ckc cX8_comesFromRow zp_89 = true := by decide +kernel
theorem zc_90 : zx_ckc cX8_mend zp_90 = true := by decide +kernel
theorem zc_91 : zx_ckc cX8_of zp_91 = true := by decide +kernel
theorem zc_92 : zx_ckc cX8_feed zp_92 = true := by decide +kernel
theorem zc_93 : zx_ckc cX8_law zp_93 = true := by decide +kernel
theorem zc_94 : zx_ckc cX8_carried zp_94 = true := by decide +kernel
theorem zc_95 : zx_ckc cX8_yardsCarried zp_95 = true := by decide +kernel
theorem zc_96 : zx_ckc cX8_steered zp_96 = true := by decide +kernel
theorem zc_97 : zx_ckc cX8_isYard zp_97 = true := by decide +kernel
theorem zc_98 : zx_ckc cX8_isCount zp_98 = true := by decide +kernel
theorem zc_99 : zx_ckc cX8_isSpotAndCount zp_99 = true := by decide +kernel
theorem zc_100 : zx_ckc cX8_spotOf zp_100 = true := by decide +kernel
theorem zc_101 : zx_ckc cX8_countOf zp_101 = true := by decide +kernel
theorem zc_102 : zx_ckc cX8_isPart zp_102 = true := by decide +kernel
theorem zc_103 : zx_ckc cX8_readOrder zp_103 = true := by decide +kernel
theorem zc_104 : zx_ckc cX8_weighAll zp_104 = true := by decide +kernel
theorem zc_105 : zx_ckc cX8_carriedOf zp_105 = true := by decide +kernel
theorem zc_106 : zx_ckc cX8_way zp_106 = true := by decide +kernel
theorem zc_107 : zx_ckc cX8_ahead zp_107 = true := by decide +kernel
theorem zc_108 : zx_ckc cX8_sendOut zp_108 = true := by decide +kernel
theorem zc_109 : zx_ckc cX8_lineUp zp_109 = true := by decide +kernel
theorem zc_110 : zx_ckc cX8_goodIfStopped zp_110 = true := by decide +kernel
theorem zc_111 : zx_ckc cX8_bestSpot zp_111 = true := by decide +kernel
theorem zc_112 : zx_ckc cX8_goodByBestSpot zp_112 = true := by decide +kernel
theorem zc_113 : zx_ckc cX8_down zp_113 = true := by decide +kernel
theorem zc_114 : zx_ckc cX8_drop zp_114 = true := by decide +kernel
theorem zc_115 : zx_ckc cX8_spotFor zp_115 = true := by decide +kernel
theorem zc_116 : zx_ckc cX8_countFor zp_116 = true := by decide +kernel
theorem zc_117 : zx_ckc cX8_orderFor zp_117 = true := by decide +kernel
theorem zc_118 : zx_ckc cX8_pass zp_118 = true := by decide +kernel
theorem zc_119 : zx_ckc cX8_inOnePass zp_119 = true := by decide +kernel
theorem zc_120 : zx_ckc cX8_passes zp_120 = true := by decide +kernel
theorem zc_121 : zx_ckc cX8_runIn zp_121 = true := by decide +kernel
theorem zc_122 : zx_ckc cX8_room zp_122 = true := by decide +kernel
theorem zc_123 : zx_ckc cX8_last zp_123 = true := by decide +kernel
theorem zc_124 : zx_ckc cX8_sticks zp_124 = true := by decide +kernel
theorem zc_125 : zx_ckc cX8_goodWithout zp_125 = true := by decide +kernel
theorem zc_126 : zx_ckc cX8_sticksOf zp_126 = true := by decide +kernel
theorem zc_127 : zx_ckc cX8_lowest zp_127 = true := by decide +kernel
theorem zc_128 : zx_ckc cX8_sure zp_128 = true := by decide +kernel
theorem zc_129 : zx_ckc cX8_mean zp_129 = true := by decide +kernel
theorem zc_130 : zx_ckc cX8_twelfths zp_130 = true := by decide +kernel
theorem zc_131 : zx_ckc cX8_paper zp_131 = true := by decide +kernel
theorem zc_132 : zx_ckc cX8_windBy zp_132 = true := by decide +kernel
theorem zc_133 : zx_ckc cX8_refusalOfPair zp_133 = true := by decide +kernel
theorem zc_134 : zx_ckc cX8_firstUnlike zp_134 = true := by decide +kernel
theorem zc_135 : zx_ckc cX8_judge zp_135 = true := by decide +kernel
theorem zc_136 : zx_ckc cX8_fromWhere zp_136 = true := by decide +kernel
theorem zc_137 : zx_ckc cX8_which zp_137 = true := by decide +kernel
theorem zc_138 : zx_ckc cX8_drawn zp_138 = true := by decide +kernel
theorem zc_139 : zx_ckc cX8_begin zp_139 = true := by decide +kernel
theorem zc_140 : zx_ckc cX8_go zp_140 = true := by decide +kernel
theorem zc_141 : zx_ckc cX8_over zp_141 = true := by decide +kernel
theorem zc_142 : zx_ckc cX8_led zp_142 = true := by decide +kernel
theorem zc_143 : zx_ckc cX8_image zp_143 = true := by decide +kernel
theorem zc_144 : zx_ckc cX8_back zp_144 = true := by decide +kernel
theorem zc_145 : zx_ckc cX8_undo zp_145 = true := by decide +kernel
theorem zc_146 : zx_ckc cX8_redo zp_146 = true := by decide +kernel
theorem zc_147 : zx_ckc cX8_body zp_147 = true := by decide +kernel
theorem zc_148 : zx_ckc cX8_act zp_148 = true := by decide +kernel
theorem zc_149 : zx_ckc cX8_trace zp_149 = true := by decide +kernel
theorem zc_150 : zx_ckc cX8_keep zp_150 = true := by decide +kernel
theorem zc_151 : zx_ckc cX8_row zp_151 = true := by decide +kernel
theorem zc_152 : zx_ckc cX8_put zp_152 = true := by decide +kernel
theorem zc_153 : zx_ckc cX8_element zp_153 = true := by decide +kernel
theorem zc_154 : zx_ckc cX8_shift zp_154 = true := by decide +kernel
theorem zc_155 : zx_ckc cX8_taken zp_155 = true := by decide +kernel
theorem zc_156 : zx_ckc cX8_count zp_156 = true := by decide +kernel
theorem zc_157 : zx_ckc cX9_within zp_157 = true := by decide +kernel
theorem zc_158 : zx_ckc cX9_sizeOf zp_158 = true := by decide +kernel
theorem zc_159 : zx_ckc cX9_isIn zp_159 = true := by decide +kernel
theorem zc_160 : zx_ckc cX9_init zp_160 = true := by decide +kernel
theorem zc_161 : zx_ckc cX9_becomes zp_161 = true := by decide +kernel
theorem zc_162 : zx_ckc cX9_undo zp_162 = true := by decide +kernel
theorem zc_163 : zx_ckc cX9_redo zp_163 = true := by decide +kernel
theorem zc_164 : zx_ckc cX9_isJumper zp_164 = true := by decide +kernel
theorem zc_165 : zx_ckc cX9_ofJumper zp_165 = true := by decide +kernel
theorem zc_166 : zx_ckc cX9_isYard zp_166 = true := by decide +kernel
theorem zc_167 : zx_ckc cX9_isOne zp_167 = true := by decide +kernel
theorem zc_168 : zx_ckc cX9_adds zp_168 = true := by decide +kernel
theorem zc_169 : zx_ckc cX9_jumper zp_169 = true := by decide +kernel
theorem zc_170 : zx_ckc cX9_jumpers zp_170 = true := by decide +kernel
theorem zc_171 : zx_ckc cX9_placeOf zp_171 = true := by decide +kernel
theorem zc_172 : zx_ckc cX9_mayBecome zp_172 = true := by decide +kernel
theorem zc_173 : zx_ckc cX9_mend zp_173 = true := by decide +kernel
theorem zc_174 : zx_ckc cX9_of zp_174 = true := by decide +kernel
theorem zc_175 : zx_ckc cX9_feed zp_175 = true := by decide +kernel
theorem zc_176 : zx_ckc cX9_byteAt zp_176 = true := by decide +kernel
theorem zc_177 : zx_ckc cX9_wrong zp_177 = true := by decide +kernel
theorem zc_178 : zx_ckc cX9_takes zp_178 = true := by decide +kernel
theorem zc_179 : zx_ckc cX9_either zp_179 = true := by decide +kernel
theorem zc_180 : zx_ckc cX9_both zp_180 = true := by decide +kernel
theorem zc_181 : zx_ckc cX9_compared zp_181 = true := by decide +kernel
theorem zc_182 : zx_ckc cX9_sums zp_182 = true := by decide +kernel
theorem zc_183 : zx_ckc cX9_product zp_183 = true := by decide +kernel
theorem zc_184 : zx_ckc cX9_nameOf zp_184 = true := by decide +kernel
theorem zc_185 : zx_ckc cX9_one zp_185 = true := by decide +kernel
theorem zc_186 : zx_ckc cX9_workOut zp_186 = true := by decide +kernel
theorem zc_187 : zx_ckc cX9_law zp_187 = true := by decide +kernel
theorem zc_188 : zx_ckc cX9_carriedBy zp_188 = true := by decide +kernel
theorem zc_189 : zx_ckc cX9_carried zp_189 = true := by decide +kernel
theorem zc_190 : zx_ckc cX9_asksCarried zp_190 = true := by decide +kernel
theorem zc_191 : zx_ckc cX9_fills zp_191 = true := by decide +kernel
theorem zc_192 : zx_ckc cX9_isWell zp_192 = true := by decide +kernel
theorem zc_193 : zx_ckc cX9_meets zp_193 = true := by decide +kernel
theorem zc_194 : zx_ckc cX9_wellMany zp_194 = true := by decide +kernel
theorem zc_195 : zx_ckc cX9_meetMany zp_195 = true := by decide +kernel
theorem zc_196 : zx_ckc cX9_goodMany zp_196 = true := by decide +kernel
theorem zc_197 : zx_ckc cX9_goodFrom zp_197 = true := by decide +kernel
theorem zc_198 : zx_ckc cX9_rowIs zp_198 = true := by decide +kernel
theorem zc_199 : zx_ckc cX9_itemAt zp_199 = true := by decide +kernel
theorem zc_200 : zx_ckc cX9_takesOrder zp_200 = true := by decide +kernel
theorem zc_201 : zx_ckc cX9_counts zp_201 = true := by decide +kernel
theorem zc_202 : zx_ckc cX9_isCount zp_202 = true := by decide +kernel
theorem zc_203 : zx_ckc cX9_isYc zp_203 = true := by decide +kernel
theorem zc_204 : zx_ckc cX9_spotOf zp_204 = true := by decide +kernel
theorem zc_205 : zx_ckc cX9_down zp_205 = true := by decide +kernel
theorem zc_206 : zx_ckc cX9_drop zp_206 = true := by decide +kernel
theorem zc_207 : zx_ckc cX9_findsSpot zp_207 = true := by decide +kernel
theorem zc_208 : zx_ckc cX9_spotFor zp_208 = true := by decide +kernel
theorem zc_209 : zx_ckc cX9_countFor zp_209 = true := by decide +kernel
theorem zc_210 : zx_ckc cX9_ordersOn zp_210 = true := by decide +kernel
theorem zc_211 : zx_ckc cX9_orderFor zp_211 = true := by decide +kernel
theorem zc_212 : zx_ckc cX9_passFrom zp_212 = true := by decide +kernel
theorem zc_213 : zx_ckc cX9_pass zp_213 = true := by decide +kernel
theorem zc_214 : zx_ckc cX9_runIn zp_214 = true := by decide +kernel
theorem zc_215 : zx_ckc cX9_room zp_215 = true := by decide +kernel
theorem zc_216 : zx_ckc cX9_last zp_216 = true := by decide +kernel
theorem zc_217 : zx_ckc cX9_leavesOut zp_217 = true := by decide +kernel
theorem zc_218 : zx_ckc cX9_sticks zp_218 = true := by decide +kernel
theorem zc_219 : zx_ckc cX9_commonOf zp_219 = true := by decide +kernel
theorem zc_220 : zx_ckc cX9_partOf zp_220 = true := by decide +kernel
theorem zc_221 : zx_ckc cX9_sure zp_221 = true := by decide +kernel
theorem zc_222 : zx_ckc cX9_mean zp_222 = true := by decide +kernel
theorem zc_223 : zx_ckc cX9_paper zp_223 = true := by decide +kernel
theorem zc_224 : zx_ckc cX9_windBy zp_224 = true := by decide +kernel
theorem zc_225 : zx_ckc cX9_firstFalse zp_225 = true := by decide +kernel
theorem zc_226 : zx_ckc cX9_soIs zp_226 = true := by decide +kernel
theorem zc_227 : zx_ckc cX9_judge zp_227 = true := by decide +kernel
theorem zc_228 : zx_ckc cX9_fromWhere zp_228 = true := by decide +kernel
theorem zc_229 : zx_ckc cX9_waysOn zp_229 = true := by decide +kernel
theorem zc_230 : zx_ckc cX9_which zp_230 = true := by decide +kernel
theorem zc_231 : zx_ckc cX9_drawn zp_231 = true := by decide +kernel
theorem zc_232 : zx_ckc cX9_begin zp_232 = true := by decide +kernel
theorem zc_233 : zx_ckc cX9_hasGone zp_233 = true := by decide +kernel
theorem zc_234 : zx_ckc cX9_go zp_234 = true := by decide +kernel
theorem zc_235 : zx_ckc cX9_over zp_235 = true := by decide +kernel
theorem zc_236 : zx_ckc cX9_led zp_236 = true := by decide +kernel
theorem zc_237 : zx_ckc cX9_image zp_237 = true := by decide +kernel
theorem zc_238 : zx_ckc cX9_back zp_238 = true := by decide +kernel
theorem zc_239 : zx_ckc cX9_isBody zp_239 = true := by decide +kernel
theorem zc_240 : zx_ckc cX9_kindOf zp_240 = true := by decide +kernel
theorem zc_241 : zx_ckc cX9_body zp_241 = true := by decide +kernel
theorem zc_242 : zx_ckc cX9_above zp_242 = true := by decide +kernel
theorem zc_243 : zx_ckc cX9_begins zp_243 = true := by decide +kernel
theorem zc_244 : zx_ckc cX9_goesAs zp_244 = true := by decide +kernel
theorem zc_245 : zx_ckc cX9_fallsAs zp_245 = true := by decide +kernel
theorem zc_246 : zx_ckc cX9_steersAs zp_246 = true := by decide +kernel
theorem zc_247 : zx_ckc cX9_tellsAs zp_247 = true := by decide +kernel
theorem zc_248 : zx_ckc cX9_act zp_248 = true := by decide +kernel
theorem zc_249 : zx_ckc cX9_trace zp_249 = true := by decide +kernel
theorem zc_250 : zx_ckc cX9_isShelf zp_250 = true := by decide +kernel
theorem zc_251 : zx_ckc cX9_keep zp_251 = true := by decide +kernel
theorem zc_252 : zx_ckc cX9_row zp_252 = true := by decide +kernel
theorem zc_253 : zx_ckc cX9_refusal zp_253 = true := by decide +kernel
theorem zc_254 : zx_ckc cX9_asSort zp_254 = true := by decide +kernel
theorem zc_255 : zx_ckc cX9_put zp_255 = true := by decide +kernel
theorem zc_256 : zx_ckc cX9_element zp_256 = true := by decide +kernel
theorem zc_257 : zx_ckc cX9_shift zp_257 = true := by decide +kernel
theorem zc_258 : zx_ckc cX9_taken zp_258 = true := by decide +kernel
theorem zc_259 : zx_ckc cX9_count zp_259 = true := by decide +kernel
theorem zc_260 : zx_ckc cJ7_rangeCheck_23922 zp_260 = true := by decide +kernel
theorem zc_261 : zx_ckc cJ7_fill_bad5a zp_261 = true := by decide +kernel
