/-! the methods' own words -/
theorem mk_0 : tbw 2183 = some (Cond.code yX0_init cX0_init 3 none) := by rfl
theorem mk_1 : tbw 6089 = some (Cond.code yX0_pass cX0_pass 5 none) := by rfl
theorem mk_2 : tbw 6111 = some (Cond.code yX0_yearsOf cX0_yearsOf 2 (some .int)) := by rfl
theorem mk_3 : tbw 6094 = some (Cond.code yX0_paintOne cX0_paintOne 8 none) := by rfl
theorem mk_4 : tbw 6098 = some (Cond.code yX0_draw cX0_draw 2 (some .int)) := by rfl
theorem mk_5 : tbw 2140 = some (Cond.code yX1_init cX1_init 5 none) := by rfl
theorem mk_6 : tbw 4043 = some (Cond.code yX1_runAll cX1_runAll 6 (some .int)) := by rfl
theorem mk_7 : tbw 4052 = some (Cond.code yX1_learnWords cX1_learnWords 3 none) := by rfl
theorem mk_8 : tbw 4116 = some (Cond.code yX1_isWanted cX1_isWanted 4 (some .boolean)) := by rfl
theorem mk_9 : tbw 4121 = some (Cond.code yX1_sumsWork cX1_sumsWork 5 (some .boolean)) := by rfl
theorem mk_10 : tbw 4125 = some (Cond.code yX1_paints cX1_paints 4 (some .int)) := by rfl
theorem mk_11 : tbw 4190 = some (Cond.code yX1_changes cX1_changes 2 (some .int)) := by rfl
theorem mk_12 : tbw 2112 = some (Cond.code yX2_init cX2_init 3 none) := by rfl
theorem mk_13 : tbw 6044 = some (Cond.code yX2_crownTill cX2_crownTill 4 none) := by rfl
theorem mk_14 : tbw 6059 = some (Cond.code yX2_reigns cX2_reigns 3 (some .int)) := by rfl
theorem mk_15 : tbw 6067 = some (Cond.code yX2_reignOf cX2_reignOf 5 (some .int)) := by rfl
theorem mk_16 : tbw 6049 = some (Cond.code yX2_standInLine cX2_standInLine 5 none) := by rfl
theorem mk_17 : tbw 6063 = some (Cond.code yX2_begins cX2_begins 2 (some .boolean)) := by rfl
theorem mk_18 : tbw 6071 = some (Cond.code yX2_lasts cX2_lasts 3 (some .int)) := by rfl
theorem mk_19 : tbw 1172 = some (Cond.code yX3_init cX3_init 1 none) := by rfl
theorem mk_20 : tbw 4086 = some (Cond.code yX3_works cX3_works 8 (some .boolean)) := by rfl
theorem mk_21 : tbw 4091 = some (Cond.code yX3_joins cX3_joins 8 (some .boolean)) := by rfl
theorem mk_22 : tbw 1166 = some (Cond.code yX4_init cX4_init 2 none) := by rfl
theorem mk_23 : tbw 4068 = some (Cond.code yX4_looksOf cX4_looksOf 4 (some .int)) := by rfl
theorem mk_24 : tbw 4136 = some (Cond.code yX4_letsOf cX4_letsOf 3 (some .int)) := by rfl
theorem mk_25 : tbw 4108 = some (Cond.code yX4_asksOf cX4_asksOf 3 (some .int)) := by rfl
theorem mk_26 : tbw 4140 = some (Cond.code yX4_barsPainter cX4_barsPainter 3 (some .boolean)) := by rfl
theorem mk_27 : tbw 6021 = some (Cond.code yX4_ranksOf cX4_ranksOf 3 (some .int)) := by rfl
theorem mk_28 : tbw 6035 = some (Cond.code yX4_barsClaimant cX4_barsClaimant 3 (some .boolean)) := by rfl
theorem mk_29 : tbw 4072 = some (Cond.code yX4_scarOn cX4_scarOn 7 (some .int)) := by rfl
theorem mk_30 : tbw 4076 = some (Cond.code yX4_ask cX4_ask 3 none) := by rfl
theorem mk_31 : tbw 4112 = some (Cond.code yX4_askPainter cX4_askPainter 3 none) := by rfl
theorem mk_32 : tbw 6025 = some (Cond.code yX4_askClaimant cX4_askClaimant 5 none) := by rfl
theorem mk_33 : tbw 4081 = some (Cond.code yX4_tells cX4_tells 7 (some .boolean)) := by rfl
theorem mk_34 : tbw 1222 = some (Cond.code yX5_init cX5_init 3 none) := by rfl
theorem mk_35 : tbw 4129 = some (Cond.code yX5_seek cX5_seek 6 none) := by rfl
theorem mk_36 : tbw 4144 = some (Cond.code yX5_walk cX5_walk 6 none) := by rfl
theorem mk_37 : tbw 4157 = some (Cond.code yX5_mayPaint cX5_mayPaint 5 (some .boolean)) := by rfl
theorem mk_38 : tbw 4168 = some (Cond.code yX5_paintOver cX5_paintOver 5 none) := by rfl
theorem mk_39 : tbw 4177 = some (Cond.code yX5_isGood cX5_isGood 5 (some .boolean)) := by rfl
theorem mk_40 : tbw 4148 = some (Cond.code yX5_weigh cX5_weigh 5 none) := by rfl
theorem mk_41 : tbw 4153 = some (Cond.code yX5_isBetter cX5_isBetter 3 (some .boolean)) := by rfl
theorem mk_42 : tbw 2042 = some (Cond.code yX6_init cX6_init 3 none) := by rfl
theorem mk_43 : tbw 3111 = some (Cond.code yX6_faultIn cX6_faultIn 5 (some .int)) := by rfl
theorem mk_44 : tbw 3129 = some (Cond.code yX6_clearRow cX6_clearRow 3 none) := by rfl
theorem mk_45 : tbw 4000 = some (Cond.code yX6_readClause cX6_readClause 3 (some .boolean)) := by rfl
theorem mk_46 : tbw 3133 = some (Cond.code yX6_readOrder cX6_readOrder 3 (some .boolean)) := by rfl
theorem mk_47 : tbw 3235 = some (Cond.code yX6_readTimes cX6_readTimes 2 (some .boolean)) := by rfl
theorem mk_48 : tbw 4005 = some (Cond.code yX6_readIf cX6_readIf 3 (some .boolean)) := by rfl
theorem mk_49 : tbw 3195 = some (Cond.code yX6_readSumOf cX6_readSumOf 4 (some .boolean)) := by rfl
theorem mk_50 : tbw 4010 = some (Cond.code yX6_readTest cX6_readTest 5 (some .boolean)) := by rfl
theorem mk_51 : tbw 4014 = some (Cond.code yX6_readBoth cX6_readBoth 5 (some .boolean)) := by rfl
theorem mk_52 : tbw 4018 = some (Cond.code yX6_readPlain cX6_readPlain 5 (some .boolean)) := by rfl
theorem mk_53 : tbw 3199 = some (Cond.code yX6_readSum cX6_readSum 5 (some .boolean)) := by rfl
theorem mk_54 : tbw 3203 = some (Cond.code yX6_readTerm cX6_readTerm 5 (some .boolean)) := by rfl
theorem mk_55 : tbw 3207 = some (Cond.code yX6_readPart cX6_readPart 3 (some .boolean)) := by rfl
theorem mk_56 : tbw 3215 = some (Cond.code yX6_opens cX6_opens 2 (some .boolean)) := by rfl
theorem mk_57 : tbw 3211 = some (Cond.code yX6_isSign cX6_isSign 2 (some .boolean)) := by rfl
theorem mk_58 : tbw 3219 = some (Cond.code yX6_takes cX6_takes 3 (some .boolean)) := by rfl
theorem mk_59 : tbw 3230 = some (Cond.code yX6_takesWord cX6_takesWord 3 (some .boolean)) := by rfl
theorem mk_60 : tbw 3138 = some (Cond.code yX6_placeIn cX6_placeIn 5 (some .int)) := by rfl
theorem mk_61 : tbw 3190 = some (Cond.code yX6_isSame cX6_isSame 5 (some .boolean)) := by rfl
theorem mk_62 : tbw 3122 = some (Cond.code yX6_next cX6_next 1 none) := by rfl
theorem mk_63 : tbw 3125 = some (Cond.code yX6_kindOf cX6_kindOf 1 (some .int)) := by rfl
theorem mk_64 : tbw 1033 = some (Cond.code yX7_init cX7_init 1 none) := by rfl
theorem mk_65 : tbw 4047 = some (Cond.code yX7_takeFrom cX7_takeFrom 3 none) := by rfl
theorem mk_66 : tbw 3063 = some (Cond.code yX7_hasPainter cX7_hasPainter 2 (some .boolean)) := by rfl
theorem mk_67 : tbw 5004 = some (Cond.code yX7_hasLayer cX7_hasLayer 2 (some .boolean)) := by rfl
theorem mk_68 : tbw 6005 = some (Cond.code yX7_hasClaimant cX7_hasClaimant 2 (some .boolean)) := by rfl
theorem mk_69 : tbw 4056 = some (Cond.code yX7_ageIn cX7_ageIn 3 (some .int)) := by rfl
theorem mk_70 : tbw 4161 = some (Cond.code yX7_rests cX7_rests 5 (some .boolean)) := by rfl
theorem mk_71 : tbw 4060 = some (Cond.code yX7_seenAt cX7_seenAt 2 (some .int)) := by rfl
theorem mk_72 : tbw 4194 = some (Cond.code yX7_addCopy cX7_addCopy 1 none) := by rfl
theorem mk_73 : tbw 5092 = some (Cond.code yX7_nearOf cX7_nearOf 4 (some .int)) := by rfl
theorem mk_74 : tbw 6017 = some (Cond.code yX7_isAlive cX7_isAlive 4 (some .boolean)) := by rfl
theorem mk_75 : tbw 6030 = some (Cond.code yX7_childrenOf cX7_childrenOf 5 (some .int)) := by rfl
theorem mk_76 : tbw 4172 = some (Cond.code yX7_brushed cX7_brushed 8 (some .int)) := by rfl
theorem mk_77 : tbw 2076 = some (Cond.code yX8_init cX8_init 2 none) := by rfl
theorem mk_78 : tbw 5104 = some (Cond.code yX8_between cX8_between 5 (some .int)) := by rfl
theorem mk_79 : tbw 5116 = some (Cond.code yX8_weigh cX8_weigh 3 none) := by rfl
theorem mk_80 : tbw 5131 = some (Cond.code yX8_changed cX8_changed 1 (some .int)) := by rfl
theorem mk_81 : tbw 5156 = some (Cond.code yX8_waysInAll cX8_waysInAll 1 (some .int)) := by rfl
theorem mk_82 : tbw 5135 = some (Cond.code yX8_parentOf cX8_parentOf 3 (some .int)) := by rfl
theorem mk_83 : tbw 5164 = some (Cond.code yX8_datedBy cX8_datedBy 9 (some .int)) := by rfl
theorem mk_84 : tbw 5176 = some (Cond.code yX8_learn cX8_learn 7 none) := by rfl
theorem mk_85 : tbw 5180 = some (Cond.code yX8_needBehind cX8_needBehind 7 (some .int)) := by rfl
theorem mk_86 : tbw 5184 = some (Cond.code yX8_sameIn cX8_sameIn 6 (some .int)) := by rfl
theorem mk_87 : tbw 5108 = some (Cond.code yX8_toneIn cX8_toneIn 3 (some .int)) := by rfl
theorem mk_88 : tbw 5168 = some (Cond.code yX8_fromLayer cX8_fromLayer 5 (some .int)) := by rfl
theorem mk_89 : tbw 5121 = some (Cond.code yX8_weighSet cX8_weighSet 6 none) := by rfl
theorem mk_90 : tbw 5125 = some (Cond.code yX8_joinBranch cX8_joinBranch 8 none) := by rfl
theorem mk_91 : tbw 5138 = some (Cond.code yX8_fits cX8_fits 4 (some .boolean)) := by rfl
theorem mk_92 : tbw 5143 = some (Cond.code yX8_leastFrom cX8_leastFrom 6 (some .int)) := by rfl
theorem mk_93 : tbw 5148 = some (Cond.code yX8_comesFrom cX8_comesFrom 5 (some .boolean)) := by rfl
theorem mk_94 : tbw 1203 = some (Cond.code yX9_init cX9_init 3 none) := by rfl
theorem mk_95 : tbw 4184 = some (Cond.code yX9_paintNext cX9_paintNext 5 none) := by rfl
theorem mk_96 : tbw 4064 = some (Cond.code yX9_unlikeOf cX9_unlikeOf 4 (some .int)) := by rfl
theorem mk_97 : tbw 5012 = some (Cond.code yX9_farCell cX9_farCell 4 (some .int)) := by rfl
theorem mk_98 : tbw 4104 = some (Cond.code yX9_moneyBehind cX9_moneyBehind 4 (some .int)) := by rfl
theorem mk_99 : tbw 5192 = some (Cond.code yX9_whoCan cX9_whoCan 4 (some .int)) := by rfl
theorem mk_100 : tbw 5212 = some (Cond.code yX9_rowsInto cX9_rowsInto 6 (some .int)) := by rfl
theorem mk_101 : tbw 5040 = some (Cond.code yX9_driftOf cX9_driftOf 8 (some .int)) := by rfl
theorem mk_102 : tbw 5059 = some (Cond.code yX9_undoingPair cX9_undoingPair 5 (some .int)) := by rfl
theorem mk_103 : tbw 5220 = some (Cond.code yX9_firstTones cX9_firstTones 8 (some .int)) := by rfl
theorem mk_104 : tbw 5063 = some (Cond.code yX9_aimAt cX9_aimAt 4 none) := by rfl
theorem mk_105 : tbw 5196 = some (Cond.code yX9_comesOut cX9_comesOut 8 (some .boolean)) := by rfl
theorem mk_106 : tbw 5045 = some (Cond.code yX9_carried cX9_carried 7 (some .int)) := by rfl
theorem mk_107 : tbw 5067 = some (Cond.code yX9_undo cX9_undo 6 (some .boolean)) := by rfl
theorem mk_108 : tbw 1133 = some (Cond.code yX10_init cX10_init 3 none) := by rfl
theorem mk_109 : tbw 3118 = some (Cond.code yX10_clear cX10_clear 1 none) := by rfl
theorem mk_110 : tbw 3223 = some (Cond.code yX10_add cX10_add 3 none) := by rfl
theorem mk_111 : tbw 4024 = some (Cond.code yX10_jumpHere cX10_jumpHere 2 none) := by rfl
theorem mk_112 : tbw 4029 = some (Cond.code yX10_trimmed cX10_trimmed 2 (some (.object "AgingPortrait$Text"))) := by rfl
theorem mk_113 : tbw 1025 = some (Cond.code yX11_init cX11_init 7 none) := by rfl
theorem mk_114 : tbw 3034 = some (Cond.code yX11_first cX11_first 4 (some .int)) := by rfl
theorem mk_115 : tbw 3055 = some (Cond.code yX11_painter cX11_painter 5 (some .int)) := by rfl
theorem mk_116 : tbw 3059 = some (Cond.code yX11_err cX11_err 6 (some .int)) := by rfl
theorem mk_117 : tbw 3068 = some (Cond.code yX11_of cX11_of 3 (some .int)) := by rfl
theorem mk_118 : tbw 3072 = some (Cond.code yX11_terms cX11_terms 4 (some .int)) := by rfl
theorem mk_119 : tbw 3079 = some (Cond.code yX11_scar cX11_scar 5 (some .int)) := by rfl
theorem mk_120 : tbw 3083 = some (Cond.code yX11_heal cX11_heal 3 (some .int)) := by rfl
theorem mk_121 : tbw 3087 = some (Cond.code yX11_feed cX11_feed 6 (some .int)) := by rfl
theorem mk_122 : tbw 3095 = some (Cond.code yX11_end cX11_end 2 (some .int)) := by rfl
theorem mk_123 : tbw 3099 = some (Cond.code yX11_row cX11_row 3 (some .int)) := by rfl
theorem mk_124 : tbw 3103 = some (Cond.code yX11_flakes cX11_flakes 1 (some .int)) := by rfl
theorem mk_125 : tbw 3107 = some (Cond.code yX11_law cX11_law 2 (some .int)) := by rfl
theorem mk_126 : tbw 4039 = some (Cond.code yX11_orders cX11_orders 3 (some .int)) := by rfl
theorem mk_127 : tbw 4201 = some (Cond.code yX11_fault cX11_fault 1 (some .int)) := by rfl
theorem mk_128 : tbw 4205 = some (Cond.code yX11_stopped cX11_stopped 1 (some .int)) := by rfl
theorem mk_129 : tbw 4209 = some (Cond.code yX11_force cX11_force 3 (some .int)) := by rfl
theorem mk_130 : tbw 4213 = some (Cond.code yX11_looks cX11_looks 4 (some .int)) := by rfl
theorem mk_131 : tbw 4220 = some (Cond.code yX11_asks cX11_asks 4 (some .int)) := by rfl
theorem mk_132 : tbw 4229 = some (Cond.code yX11_paint cX11_paint 3 (some .int)) := by rfl
theorem mk_133 : tbw 4236 = some (Cond.code yX11_scrape cX11_scrape 1 (some .int)) := by rfl
theorem mk_134 : tbw 5000 = some (Cond.code yX11_tone cX11_tone 3 (some .int)) := by rfl
theorem mk_135 : tbw 5008 = some (Cond.code yX11_layer cX11_layer 3 (some .int)) := by rfl
theorem mk_136 : tbw 5017 = some (Cond.code yX11_unlawful cX11_unlawful 2 (some .int)) := by rfl
theorem mk_137 : tbw 5021 = some (Cond.code yX11_money cX11_money 2 (some .int)) := by rfl
theorem mk_138 : tbw 5027 = some (Cond.code yX11_broke cX11_broke 2 (some .int)) := by rfl
theorem mk_139 : tbw 5031 = some (Cond.code yX11_plan cX11_plan 4 (some .int)) := by rfl
theorem mk_140 : tbw 5036 = some (Cond.code yX11_drift cX11_drift 5 (some .int)) := by rfl
theorem mk_141 : tbw 5055 = some (Cond.code yX11_undoing cX11_undoing 2 (some .int)) := by rfl
theorem mk_142 : tbw 5071 = some (Cond.code yX11_copy cX11_copy 1 (some .int)) := by rfl
theorem mk_143 : tbw 5076 = some (Cond.code yX11_touch cX11_touch 5 (some .int)) := by rfl
theorem mk_144 : tbw 5080 = some (Cond.code yX11_burn cX11_burn 2 (some .int)) := by rfl
theorem mk_145 : tbw 5084 = some (Cond.code yX11_near cX11_near 2 (some .int)) := by rfl
theorem mk_146 : tbw 5096 = some (Cond.code yX11_like cX11_like 3 (some .int)) := by rfl
theorem mk_147 : tbw 5112 = some (Cond.code yX11_tree cX11_tree 3 (some .int)) := by rfl
theorem mk_148 : tbw 5152 = some (Cond.code yX11_trees cX11_trees 1 (some .int)) := by rfl
theorem mk_149 : tbw 5160 = some (Cond.code yX11_dated cX11_dated 3 (some .int)) := by rfl
theorem mk_150 : tbw 5172 = some (Cond.code yX11_know cX11_know 2 (some .int)) := by rfl
theorem mk_151 : tbw 5188 = some (Cond.code yX11_who cX11_who 2 (some .int)) := by rfl
theorem mk_152 : tbw 5200 = some (Cond.code yX11_forge cX11_forge 5 (some .int)) := by rfl
theorem mk_153 : tbw 5204 = some (Cond.code yX11_skipped cX11_skipped 2 (some .int)) := by rfl
theorem mk_154 : tbw 5208 = some (Cond.code yX11_missing cX11_missing 3 (some .int)) := by rfl
theorem mk_155 : tbw 5216 = some (Cond.code yX11_was cX11_was 2 (some .int)) := by rfl
theorem mk_156 : tbw 5224 = some (Cond.code yX11_ways cX11_ways 4 (some .long)) := by rfl
theorem mk_157 : tbw 5234 = some (Cond.code yX11_claimant cX11_claimant 6 (some .int)) := by rfl
theorem mk_158 : tbw 6001 = some (Cond.code yX11_claim cX11_claim 6 (some .int)) := by rfl
theorem mk_159 : tbw 6009 = some (Cond.code yX11_born cX11_born 3 (some .int)) := by rfl
theorem mk_160 : tbw 6013 = some (Cond.code yX11_stands cX11_stands 4 (some .int)) := by rfl
theorem mk_161 : tbw 6040 = some (Cond.code yX11_ruler cX11_ruler 2 (some .int)) := by rfl
theorem mk_162 : tbw 6055 = some (Cond.code yX11_reign cX11_reign 3 (some .int)) := by rfl
theorem mk_163 : tbw 6075 = some (Cond.code yX11_vacant cX11_vacant 3 (some .int)) := by rfl
theorem mk_164 : tbw 6079 = some (Cond.code yX11_line cX11_line 3 (some .int)) := by rfl
theorem mk_165 : tbw 6084 = some (Cond.code yX11_century cX11_century 3 (some .int)) := by rfl
theorem mk_166 : tbw 6107 = some (Cond.code yX11_drawn cX11_drawn 2 (some .int)) := by rfl
theorem mk_167 : tbw 6116 = some (Cond.code yX11_image cX11_image 2 (some .int)) := by rfl
theorem mk_168 : tbw 6121 = some (Cond.code yX11_back cX11_back 2 (some .int)) := by rfl
theorem mk_169 : tbw 6125 = some (Cond.code yX11_count cX11_count 2 (some .int)) := by rfl
theorem mk_170 : tbw 6129 = some (Cond.code yX11_status cX11_status 1 (some .int)) := by rfl
theorem mk_171 : tbw 3051 = some (Cond.code yX11_answer cX11_answer 2 (some .int)) := by rfl
theorem mk_172 : tbw 3044 = some (Cond.code yX11_refuse cX11_refuse 3 (some .int)) := by rfl
theorem mk_173 : tbw 3091 = some (Cond.code yX11_putBytes cX11_putBytes 3 none) := by rfl
theorem mk_174 : tbw 5088 = some (Cond.code yX11_heirs cX11_heirs 5 (some .int)) := by rfl
theorem mk_175 : tbw 5100 = some (Cond.code yX11_isRootOrCopy cX11_isRootOrCopy 2 (some .boolean)) := by rfl
theorem mk_176 : tbw 3075 = some (Cond.code yX11_highestTerm cX11_highestTerm 1 (some .int)) := by rfl
theorem mk_177 : tbw 3047 = some (Cond.code yX11_inside cX11_inside 2 (some .boolean)) := by rfl
theorem mk_178 : tbw 3037 = some (Cond.code yX11_isCell cX11_isCell 1 (some .boolean)) := by rfl
theorem mk_179 : tbw 3040 = some (Cond.code yX11_isTone cX11_isTone 1 (some .boolean)) := by rfl
theorem mk_180 : tbw 5237 = some (Cond.code yX11_canBeCopy cX11_canBeCopy 1 (some .boolean)) := by rfl
theorem mk_181 : tbw 4225 = some (Cond.code yX11_bit cX11_bit 1 (some .int)) := by rfl
theorem mk_182 : tbw 5048 = some (Cond.code yX11_lowestIn cX11_lowestIn 2 (some .int)) := by rfl
theorem mk_183 : tbw 5051 = some (Cond.code yX11_highestIn cX11_highestIn 2 (some .int)) := by rfl
theorem mk_184 : tbw 4096 = some (Cond.code yX11_nearest cX11_nearest 3 (some .int)) := by rfl
theorem mk_185 : tbw 6134 = some (Cond.code yX12_init cX12_init 1 none) := by rfl
theorem mk_186 : tbw 7108 = some (Cond.code yX12_in cX12_in 6 (some .boolean)) := by rfl
theorem mk_187 : tbw 9017 = some (Cond.code yX12_is cX12_is 2 (some .boolean)) := by rfl
theorem mk_188 : tbw 8185 = some (Cond.code yX12_size cX12_size 1 (some .int)) := by rfl
theorem mk_189 : tbw 8092 = some (Cond.code yX12_within cX12_within 4 (some .int)) := by rfl
theorem mk_190 : tbw 7112 = some (Cond.code yX12_tell cX12_tell 2 (some .int)) := by rfl
theorem mk_191 : tbw 7132 = some (Cond.code yX12_change cX12_change 4 (some .int)) := by rfl
theorem mk_192 : tbw 7105 = some (Cond.code yX12_image cX12_image 3 (some .int)) := by rfl
theorem mk_193 : tbw 7116 = some (Cond.code yX12_back cX12_back 3 (some .int)) := by rfl
theorem mk_194 : tbw 7123 = some (Cond.code yX12_isCell cX12_isCell 1 (some .boolean)) := by rfl
theorem mk_195 : tbw 7127 = some (Cond.code yX12_isTone cX12_isTone 1 (some .boolean)) := by rfl
theorem mk_196 : tbw 7169 = some (Cond.code yX12_isYear cX12_isYear 1 (some .boolean)) := by rfl
theorem mk_197 : tbw 8120 = some (Cond.code yX12_years cX12_years 1 (some .int)) := by rfl
theorem mk_198 : tbw 8197 = some (Cond.code yX12_isLayer cX12_isLayer 2 (some .boolean)) := by rfl
theorem mk_199 : tbw 7147 = some (Cond.code yX12_isPainter cX12_isPainter 2 (some .boolean)) := by rfl
theorem mk_200 : tbw 9041 = some (Cond.code yX12_isCopy cX12_isCopy 2 (some .boolean)) := by rfl
theorem mk_201 : tbw 9142 = some (Cond.code yX12_isClaimant cX12_isClaimant 2 (some .boolean)) := by rfl
theorem mk_202 : tbw 8124 = some (Cond.code yX12_toneAt cX12_toneAt 3 (some .int)) := by rfl
theorem mk_203 : tbw 8116 = some (Cond.code yX12_seen cX12_seen 2 (some .int)) := by rfl
theorem mk_204 : tbw 7120 = some (Cond.code yX12_first cX12_first 3 (some .int)) := by rfl
theorem mk_205 : tbw 7136 = some (Cond.code yX12_painter cX12_painter 6 (some .int)) := by rfl
theorem mk_206 : tbw 7141 = some (Cond.code yX12_err cX12_err 4 (some .int)) := by rfl
theorem mk_207 : tbw 7151 = some (Cond.code yX12_of cX12_of 3 (some .int)) := by rfl
theorem mk_208 : tbw 7159 = some (Cond.code yX12_isTerm cX12_isTerm 2 (some .boolean)) := by rfl
theorem mk_209 : tbw 7156 = some (Cond.code yX12_terms cX12_terms 3 (some .int)) := by rfl
theorem mk_210 : tbw 7166 = some (Cond.code yX12_scar cX12_scar 5 (some .int)) := by rfl
theorem mk_211 : tbw 7173 = some (Cond.code yX12_heal cX12_heal 3 (some .int)) := by rfl
theorem mk_212 : tbw 7177 = some (Cond.code yX12_row cX12_row 4 (some .int)) := by rfl
theorem mk_213 : tbw 7181 = some (Cond.code yX12_flakes cX12_flakes 1 (some .int)) := by rfl
theorem mk_214 : tbw 7189 = some (Cond.code yX12_four cX12_four 3 none) := by rfl
theorem mk_215 : tbw 7185 = some (Cond.code yX12_feed cX12_feed 6 (some .int)) := by rfl
theorem mk_216 : tbw 7193 = some (Cond.code yX12_end cX12_end 2 (some .int)) := by rfl
theorem mk_217 : tbw 7216 = some (Cond.code yX12_isSmall cX12_isSmall 1 (some .boolean)) := by rfl
theorem mk_218 : tbw 7219 = some (Cond.code yX12_isDigit cX12_isDigit 1 (some .boolean)) := by rfl
theorem mk_219 : tbw 7209 = some (Cond.code yX12_begin cX12_begin 1 none) := by rfl
theorem mk_220 : tbw 7213 = some (Cond.code yX12_next cX12_next 1 none) := by rfl
theorem mk_221 : tbw 7233 = some (Cond.code yX12_isWord cX12_isWord 3 (some .boolean)) := by rfl
theorem mk_222 : tbw 8014 = some (Cond.code yX12_isSign cX12_isSign 2 (some .boolean)) := by rfl
theorem mk_223 : tbw 7237 = some (Cond.code yX12_must cX12_must 2 none) := by rfl
theorem mk_224 : tbw 8043 = some (Cond.code yX12_number cX12_number 6 (some .int)) := by rfl
theorem mk_225 : tbw 7197 = some (Cond.code yX12_fault cX12_fault 1 (some .int)) := by rfl
theorem mk_226 : tbw 8039 = some (Cond.code yX12_emit cX12_emit 3 none) := by rfl
theorem mk_227 : tbw 8010 = some (Cond.code yX12_push cX12_push 3 none) := by rfl
theorem mk_228 : tbw 8050 = some (Cond.code yX12_binds cX12_binds 1 (some .int)) := by rfl
theorem mk_229 : tbw 8054 = some (Cond.code yX12_settle cX12_settle 2 none) := by rfl
theorem mk_230 : tbw 8058 = some (Cond.code yX12_inner cX12_inner 3 (some .int)) := by rfl
theorem mk_231 : tbw 8062 = some (Cond.code yX12_isCompared cX12_isCompared 2 (some .boolean)) := by rfl
theorem mk_232 : tbw 8030 = some (Cond.code yX12_partAt cX12_partAt 3 (some .int)) := by rfl
theorem mk_233 : tbw 8026 = some (Cond.code yX12_orderPartAt cX12_orderPartAt 3 (some .int)) := by rfl
theorem mk_234 : tbw 8018 = some (Cond.code yX12_openBracket cX12_openBracket 2 none) := by rfl
theorem mk_235 : tbw 8035 = some (Cond.code yX12_leaf cX12_leaf 4 none) := by rfl
theorem mk_236 : tbw 8022 = some (Cond.code yX12_readPart cX12_readPart 4 (some .int)) := by rfl
theorem mk_237 : tbw 8005 = some (Cond.code yX12_readPlain cX12_readPlain 1 (some .int)) := by rfl
theorem mk_238 : tbw 8047 = some (Cond.code yX12_behindSum cX12_behindSum 4 (some .int)) := by rfl
theorem mk_239 : tbw 8070 = some (Cond.code yX12_behindTest cX12_behindTest 2 (some .int)) := by rfl
theorem mk_240 : tbw 8001 = some (Cond.code yX12_readExpression cX12_readExpression 3 none) := by rfl
theorem mk_241 : tbw 7229 = some (Cond.code yX12_readClause cX12_readClause 4 none) := by rfl
theorem mk_242 : tbw 7205 = some (Cond.code yX12_beginText cX12_beginText 2 none) := by rfl
theorem mk_243 : tbw 8077 = some (Cond.code yX12_endText cX12_endText 1 none) := by rfl
theorem mk_244 : tbw 7201 = some (Cond.code yX12_law cX12_law 3 (some .int)) := by rfl
theorem mk_245 : tbw 8081 = some (Cond.code yX12_force cX12_force 2 (some .int)) := by rfl
theorem mk_246 : tbw 8128 = some (Cond.code yX12_reckon cX12_reckon 6 (some .long)) := by rfl
theorem mk_247 : tbw 8112 = some (Cond.code yX12_reckonAll cX12_reckonAll 7 none) := by rfl
theorem mk_248 : tbw 8108 = some (Cond.code yX12_isSo cX12_isSo 2 (some .boolean)) := by rfl
theorem mk_249 : tbw 8104 = some (Cond.code yX12_tells cX12_tells 8 (some .long)) := by rfl
theorem mk_250 : tbw 8100 = some (Cond.code yX12_setNone cX12_setNone 3 none) := by rfl
theorem mk_251 : tbw 8089 = some (Cond.code yX12_ageIn cX12_ageIn 2 (some .int)) := by rfl
theorem mk_252 : tbw 8096 = some (Cond.code yX12_looksOf cX12_looksOf 7 (some .int)) := by rfl
theorem mk_253 : tbw 8134 = some (Cond.code yX12_letsOf cX12_letsOf 3 (some .int)) := by rfl
theorem mk_254 : tbw 8146 = some (Cond.code yX12_setPainter cX12_setPainter 3 none) := by rfl
theorem mk_255 : tbw 8142 = some (Cond.code yX12_asksOf cX12_asksOf 3 (some .int)) := by rfl
theorem mk_256 : tbw 8150 = some (Cond.code yX12_isBarred cX12_isBarred 3 (some .boolean)) := by rfl
theorem mk_257 : tbw 8085 = some (Cond.code yX12_looks cX12_looks 4 (some .int)) := by rfl
theorem mk_258 : tbw 8138 = some (Cond.code yX12_asks cX12_asks 4 (some .int)) := by rfl
theorem mk_259 : tbw 8166 = some (Cond.code yX12_layLooks cX12_layLooks 3 none) := by rfl
theorem mk_260 : tbw 8178 = some (Cond.code yX12_painted cX12_painted 7 (some .int)) := by rfl
theorem mk_261 : tbw 8174 = some (Cond.code yX12_paintPaper cX12_paintPaper 6 none) := by rfl
theorem mk_262 : tbw 8170 = some (Cond.code yX12_loadPaper cX12_loadPaper 4 none) := by rfl
theorem mk_263 : tbw 8182 = some (Cond.code yX12_unlikePaper cX12_unlikePaper 5 (some .int)) := by rfl
theorem mk_264 : tbw 8205 = some (Cond.code yX12_unlikeOf cX12_unlikeOf 2 (some .int)) := by rfl
theorem mk_265 : tbw 8162 = some (Cond.code yX12_rests cX12_rests 5 (some .boolean)) := by rfl
theorem mk_266 : tbw 8158 = some (Cond.code yX12_paintNow cX12_paintNow 4 (some .int)) := by rfl
theorem mk_267 : tbw 8154 = some (Cond.code yX12_paint cX12_paint 2 (some .int)) := by rfl
theorem mk_268 : tbw 8189 = some (Cond.code yX12_scrape cX12_scrape 1 (some .int)) := by rfl
theorem mk_269 : tbw 8193 = some (Cond.code yX12_tone cX12_tone 3 (some .int)) := by rfl
theorem mk_270 : tbw 8213 = some (Cond.code yX12_tooFar cX12_tooFar 4 (some .int)) := by rfl
theorem mk_271 : tbw 8209 = some (Cond.code yX12_tooFarIn cX12_tooFarIn 2 (some .int)) := by rfl
theorem mk_272 : tbw 8201 = some (Cond.code yX12_layer cX12_layer 3 (some .int)) := by rfl
theorem mk_273 : tbw 8217 = some (Cond.code yX12_unlawful cX12_unlawful 2 (some .int)) := by rfl
theorem mk_274 : tbw 8225 = some (Cond.code yX12_moneyBehind cX12_moneyBehind 4 (some .int)) := by rfl
theorem mk_275 : tbw 8221 = some (Cond.code yX12_money cX12_money 2 (some .int)) := by rfl
theorem mk_276 : tbw 8230 = some (Cond.code yX12_broke cX12_broke 2 (some .int)) := by rfl
theorem mk_277 : tbw 9006 = some (Cond.code yX12_restsInRow cX12_restsInRow 6 (some .boolean)) := by rfl
theorem mk_278 : tbw 8238 = some (Cond.code yX12_goThrough cX12_goThrough 6 none) := by rfl
theorem mk_279 : tbw 9002 = some (Cond.code yX12_weigh cX12_weigh 11 none) := by rfl
theorem mk_280 : tbw 8234 = some (Cond.code yX12_plan cX12_plan 4 (some .int)) := by rfl
theorem mk_281 : tbw 9014 = some (Cond.code yX12_driftOf cX12_driftOf 8 (some .int)) := by rfl
theorem mk_282 : tbw 9010 = some (Cond.code yX12_drift cX12_drift 7 (some .int)) := by rfl
theorem mk_283 : tbw 9021 = some (Cond.code yX12_undoing cX12_undoing 7 (some .int)) := by rfl
theorem mk_284 : tbw 9025 = some (Cond.code yX12_isSame cX12_isSame 5 (some .boolean)) := by rfl
theorem mk_285 : tbw 9033 = some (Cond.code yX12_copyNow cX12_copyNow 3 (some .int)) := by rfl
theorem mk_286 : tbw 9029 = some (Cond.code yX12_copy cX12_copy 1 (some .int)) := by rfl
theorem mk_287 : tbw 9037 = some (Cond.code yX12_touch cX12_touch 4 (some .int)) := by rfl
theorem mk_288 : tbw 9045 = some (Cond.code yX12_burn cX12_burn 2 (some .int)) := by rfl
theorem mk_289 : tbw 9057 = some (Cond.code yX12_apart cX12_apart 5 (some .int)) := by rfl
theorem mk_290 : tbw 9053 = some (Cond.code yX12_nearOf cX12_nearOf 2 (some .int)) := by rfl
theorem mk_291 : tbw 9049 = some (Cond.code yX12_near cX12_near 6 (some .int)) := by rfl
theorem mk_292 : tbw 9066 = some (Cond.code yX12_pictureAt cX12_pictureAt 2 (some .int)) := by rfl
theorem mk_293 : tbw 9062 = some (Cond.code yX12_like cX12_like 4 (some .int)) := by rfl
theorem mk_294 : tbw 9078 = some (Cond.code yX12_isTree cX12_isTree 5 (some .boolean)) := by rfl
theorem mk_295 : tbw 9074 = some (Cond.code yX12_findTree cX12_findTree 7 none) := by rfl
theorem mk_296 : tbw 9070 = some (Cond.code yX12_tree cX12_tree 2 (some .int)) := by rfl
theorem mk_297 : tbw 9082 = some (Cond.code yX12_trees cX12_trees 1 (some .int)) := by rfl
theorem mk_298 : tbw 9086 = some (Cond.code yX12_dated cX12_dated 9 (some .int)) := by rfl
theorem mk_299 : tbw 9098 = some (Cond.code yX12_worst cX12_worst 7 (some .int)) := by rfl
theorem mk_300 : tbw 9094 = some (Cond.code yX12_findDepths cX12_findDepths 5 none) := by rfl
theorem mk_301 : tbw 9090 = some (Cond.code yX12_know cX12_know 4 (some .int)) := by rfl
theorem mk_302 : tbw 9106 = some (Cond.code yX12_whoOf cX12_whoOf 4 (some .int)) := by rfl
theorem mk_303 : tbw 9102 = some (Cond.code yX12_who cX12_who 2 (some .int)) := by rfl
theorem mk_304 : tbw 9110 = some (Cond.code yX12_forge cX12_forge 4 (some .int)) := by rfl
theorem mk_305 : tbw 9114 = some (Cond.code yX12_skipped cX12_skipped 2 (some .int)) := by rfl
theorem mk_306 : tbw 9118 = some (Cond.code yX12_missing cX12_missing 8 (some .int)) := by rfl
theorem mk_307 : tbw 9130 = some (Cond.code yX12_wasOf cX12_wasOf 6 (some .int)) := by rfl
theorem mk_308 : tbw 9126 = some (Cond.code yX12_layAll cX12_layAll 2 none) := by rfl
theorem mk_309 : tbw 9122 = some (Cond.code yX12_was cX12_was 2 (some .int)) := by rfl
theorem mk_310 : tbw 9134 = some (Cond.code yX12_ways cX12_ways 7 (some .long)) := by rfl
theorem mk_311 : tbw 9138 = some (Cond.code yX12_claimant cX12_claimant 7 (some .int)) := by rfl
theorem mk_312 : tbw 9151 = some (Cond.code yX12_ofClaimant cX12_ofClaimant 3 (some .int)) := by rfl
theorem mk_313 : tbw 9146 = some (Cond.code yX12_claim cX12_claim 5 (some .int)) := by rfl
theorem mk_314 : tbw 9155 = some (Cond.code yX12_born cX12_born 3 (some .int)) := by rfl
theorem mk_315 : tbw 9163 = some (Cond.code yX12_isAlive cX12_isAlive 3 (some .boolean)) := by rfl
theorem mk_316 : tbw 9175 = some (Cond.code yX12_childrenOf cX12_childrenOf 5 (some .int)) := by rfl
theorem mk_317 : tbw 9171 = some (Cond.code yX12_setClaimant cX12_setClaimant 4 none) := by rfl
theorem mk_318 : tbw 9167 = some (Cond.code yX12_ranks cX12_ranks 3 (some .int)) := by rfl
theorem mk_319 : tbw 9179 = some (Cond.code yX12_isOut cX12_isOut 3 (some .boolean)) := by rfl
theorem mk_320 : tbw 9159 = some (Cond.code yX12_stands cX12_stands 4 (some .int)) := by rfl
theorem mk_321 : tbw 9187 = some (Cond.code yX12_findRulers cX12_findRulers 7 none) := by rfl
theorem mk_322 : tbw 9183 = some (Cond.code yX12_ruler cX12_ruler 2 (some .int)) := by rfl
theorem mk_323 : tbw 9191 = some (Cond.code yX12_reign cX12_reign 6 (some .int)) := by rfl
theorem mk_324 : tbw 9195 = some (Cond.code yX12_vacant cX12_vacant 3 (some .int)) := by rfl
theorem mk_325 : tbw 9199 = some (Cond.code yX12_line cX12_line 7 (some .int)) := by rfl
theorem mk_326 : tbw 9222 = some (Cond.code yX12_readSum cX12_readSum 2 none) := by rfl
theorem mk_327 : tbw 9211 = some (Cond.code yX12_readHead cX12_readHead 3 (some .int)) := by rfl
theorem mk_328 : tbw 9207 = some (Cond.code yX12_readOrder cX12_readOrder 3 none) := by rfl
theorem mk_329 : tbw 9233 = some (Cond.code yX12_setNow cX12_setNow 1 none) := by rfl
theorem mk_330 : tbw 9237 = some (Cond.code yX12_sumOf cX12_sumOf 2 (some .long)) := by rfl
theorem mk_331 : tbw 9229 = some (Cond.code yX12_run cX12_run 4 (some .int)) := by rfl
theorem mk_332 : tbw 10001 = some (Cond.code yX12_act cX12_act 5 (some .int)) := by rfl
theorem mk_333 : tbw 10005 = some (Cond.code yX12_touchNow cX12_touchNow 9 (some .int)) := by rfl
theorem mk_334 : tbw 9203 = some (Cond.code yX12_orders cX12_orders 5 (some .int)) := by rfl
theorem mk_335 : tbw 10009 = some (Cond.code yX12_stopped cX12_stopped 1 (some .int)) := by rfl
theorem mk_336 : tbw 10018 = some (Cond.code yX12_draw cX12_draw 2 (some .int)) := by rfl
theorem mk_337 : tbw 10013 = some (Cond.code yX12_century cX12_century 8 (some .int)) := by rfl
theorem mk_338 : tbw 10025 = some (Cond.code yX12_drawn cX12_drawn 2 (some .int)) := by rfl
theorem mk_339 : tbw 10030 = some (Cond.code yX12_count cX12_count 2 (some .int)) := by rfl
theorem mk_340 : tbw 10036 = some (Cond.code yX12_status cX12_status 1 (some .int)) := by rfl
theorem mk_341 : tbw 5227 = some (Cond.code yJ6_bitCount_0f7a4 cJ6_bitCount_0f7a4 1 (some .int)) := by rfl
theorem mk_342 : tbw 4100 = some (Cond.code yJ9_abs_0f7a4 cJ9_abs_0f7a4 1 (some .int)) := by rfl
theorem mk_343 : tbw 4164 = some (Cond.code yJ9_max_7cf53 cJ9_max_7cf53 2 (some .int)) := by rfl
theorem mk_344 : tbw 3114 = some (Cond.code yJ9_min_7cf53 cJ9_min_7cf53 2 (some .int)) := by rfl
theorem mk_345 : tbw 3142 = some (Cond.code yJ0_length_8abf5 cJ0_length_8abf5 1 (some .int)) := by rfl
theorem mk_346 : tbw 3152 = some (Cond.code yJ0_charAt_5068e cJ0_charAt_5068e 2 (some .char)) := by rfl
theorem mk_347 : tbw 3146 = some (Cond.code yJ0_coder_7d493 cJ0_coder_7d493 1 (some .byte)) := by rfl
theorem mk_348 : tbw 3156 = some (Cond.code yJ0_isLatin1_aae02 cJ0_isLatin1_aae02 1 (some .boolean)) := by rfl
theorem mk_349 : tbw 3162 = some (Cond.code yJ0_checkIndex_df160 cJ0_checkIndex_df160 2 none) := by rfl
theorem mk_350 : tbw 3159 = some (Cond.code yJ1_charAt_3b067 cJ1_charAt_3b067 2 (some .char)) := by rfl
theorem mk_351 : tbw 3180 = some (Cond.code yJ2_getChar_3b067 cJ2_getChar_3b067 2 (some .char)) := by rfl
theorem mk_352 : tbw 3176 = some (Cond.code yJ2_length_9d52b cJ2_length_9d52b 1 (some .int)) := by rfl
theorem mk_353 : tbw 3170 = some (Cond.code yJ2_charAt_3b067 cJ2_charAt_3b067 2 (some .char)) := by rfl
theorem mk_354 : tbw 3173 = some (Cond.code yJ2_checkIndex_2214a cJ2_checkIndex_2214a 2 none) := by rfl
theorem mk_355 : tbw 3167 = some (Cond.code yJ3_checkIndex_8e157 cJ3_checkIndex_8e157 3 (some .int)) := by rfl
def MCD (m : Nat) : Prop := Cond.code (mtbs m).2.1 (mtbs m).1 (inf m).1 (mtbs m).2.2.1 ∈ TB
theorem mcd_0 : ∀ m, 0 ≤ m → m < 40 → MCD m := by
  intro m h1 h2
  match m, h1, h2 with
  | 0, _, _ => exact tbg mk_0 rfl
  | 1, _, _ => exact tbg mk_1 rfl
  | 2, _, _ => exact tbg mk_2 rfl
  | 3, _, _ => exact tbg mk_3 rfl
  | 4, _, _ => exact tbg mk_4 rfl
  | 5, _, _ => exact tbg mk_5 rfl
  | 6, _, _ => exact tbg mk_6 rfl
  | 7, _, _ => exact tbg mk_7 rfl
  | 8, _, _ => exact tbg mk_8 rfl
  | 9, _, _ => exact tbg mk_9 rfl
  | 10, _, _ => exact tbg mk_10 rfl
  | 11, _, _ => exact tbg mk_11 rfl
  | 12, _, _ => exact tbg mk_12 rfl
  | 13, _, _ => exact tbg mk_13 rfl
  | 14, _, _ => exact tbg mk_14 rfl
  | 15, _, _ => exact tbg mk_15 rfl
  | 16, _, _ => exact tbg mk_16 rfl
  | 17, _, _ => exact tbg mk_17 rfl
  | 18, _, _ => exact tbg mk_18 rfl
  | 19, _, _ => exact tbg mk_19 rfl
  | 20, _, _ => exact tbg mk_20 rfl
  | 21, _, _ => exact tbg mk_21 rfl
  | 22, _, _ => exact tbg mk_22 rfl
  | 23, _, _ => exact tbg mk_23 rfl
  | 24, _, _ => exact tbg mk_24 rfl
  | 25, _, _ => exact tbg mk_25 rfl
  | 26, _, _ => exact tbg mk_26 rfl
  | 27, _, _ => exact tbg mk_27 rfl
  | 28, _, _ => exact tbg mk_28 rfl
  | 29, _, _ => exact tbg mk_29 rfl
  | 30, _, _ => exact tbg mk_30 rfl
  | 31, _, _ => exact tbg mk_31 rfl
  | 32, _, _ => exact tbg mk_32 rfl
  | 33, _, _ => exact tbg mk_33 rfl
  | 34, _, _ => exact tbg mk_34 rfl
  | 35, _, _ => exact tbg mk_35 rfl
  | 36, _, _ => exact tbg mk_36 rfl
  | 37, _, _ => exact tbg mk_37 rfl
  | 38, _, _ => exact tbg mk_38 rfl
  | 39, _, _ => exact tbg mk_39 rfl
  | n + 40, _, h2 => exact absurd h2 (by omega)
theorem mcd_40 : ∀ m, 40 ≤ m → m < 80 → MCD m := by
  intro m h1 h2
  match m, h1, h2 with
  | 40, _, _ => exact tbg mk_40 rfl
  | 41, _, _ => exact tbg mk_41 rfl
  | 42, _, _ => exact tbg mk_42 rfl
  | 43, _, _ => exact tbg mk_43 rfl
  | 44, _, _ => exact tbg mk_44 rfl
  | 45, _, _ => exact tbg mk_45 rfl
  | 46, _, _ => exact tbg mk_46 rfl
  | 47, _, _ => exact tbg mk_47 rfl
  | 48, _, _ => exact tbg mk_48 rfl
  | 49, _, _ => exact tbg mk_49 rfl
  | 50, _, _ => exact tbg mk_50 rfl
  | 51, _, _ => exact tbg mk_51 rfl
  | 52, _, _ => exact tbg mk_52 rfl
  | 53, _, _ => exact tbg mk_53 rfl
  | 54, _, _ => exact tbg mk_54 rfl
  | 55, _, _ => exact tbg mk_55 rfl
  | 56, _, _ => exact tbg mk_56 rfl
  | 57, _, _ => exact tbg mk_57 rfl
  | 58, _, _ => exact tbg mk_58 rfl
  | 59, _, _ => exact tbg mk_59 rfl
  | 60, _, _ => exact tbg mk_60 rfl
  | 61, _, _ => exact tbg mk_61 rfl
  | 62, _, _ => exact tbg mk_62 rfl
  | 63, _, _ => exact tbg mk_63 rfl
  | 64, _, _ => exact tbg mk_64 rfl
  | 65, _, _ => exact tbg mk_65 rfl
  | 66, _, _ => exact tbg mk_66 rfl
  | 67, _, _ => exact tbg mk_67 rfl
  | 68, _, _ => exact tbg mk_68 rfl
  | 69, _, _ => exact tbg mk_69 rfl
  | 70, _, _ => exact tbg mk_70 rfl
  | 71, _, _ => exact tbg mk_71 rfl
  | 72, _, _ => exact tbg mk_72 rfl
  | 73, _, _ => exact tbg mk_73 rfl
  | 74, _, _ => exact tbg mk_74 rfl
  | 75, _, _ => exact tbg mk_75 rfl
  | 76, _, _ => exact tbg mk_76 rfl
  | 77, _, _ => exact tbg mk_77 rfl
  | 78, _, _ => exact tbg mk_78 rfl
  | 79, _, _ => exact tbg mk_79 rfl
  | n + 80, _, h2 => exact absurd h2 (by omega)
theorem mcd_80 : ∀ m, 80 ≤ m → m < 120 → MCD m := by
  intro m h1 h2
  match m, h1, h2 with
  | 80, _, _ => exact tbg mk_80 rfl
  | 81, _, _ => exact tbg mk_81 rfl
  | 82, _, _ => exact tbg mk_82 rfl
  | 83, _, _ => exact tbg mk_83 rfl
  | 84, _, _ => exact tbg mk_84 rfl
  | 85, _, _ => exact tbg mk_85 rfl
  | 86, _, _ => exact tbg mk_86 rfl
  | 87, _, _ => exact tbg mk_87 rfl
  | 88, _, _ => exact tbg mk_88 rfl
  | 89, _, _ => exact tbg mk_89 rfl
  | 90, _, _ => exact tbg mk_90 rfl
  | 91, _, _ => exact tbg mk_91 rfl
  | 92, _, _ => exact tbg mk_92 rfl
  | 93, _, _ => exact tbg mk_93 rfl
  | 94, _, _ => exact tbg mk_94 rfl
  | 95, _, _ => exact tbg mk_95 rfl
  | 96, _, _ => exact tbg mk_96 rfl
  | 97, _, _ => exact tbg mk_97 rfl
  | 98, _, _ => exact tbg mk_98 rfl
  | 99, _, _ => exact tbg mk_99 rfl
  | 100, _, _ => exact tbg mk_100 rfl
  | 101, _, _ => exact tbg mk_101 rfl
  | 102, _, _ => exact tbg mk_102 rfl
  | 103, _, _ => exact tbg mk_103 rfl
  | 104, _, _ => exact tbg mk_104 rfl
  | 105, _, _ => exact tbg mk_105 rfl
  | 106, _, _ => exact tbg mk_106 rfl
  | 107, _, _ => exact tbg mk_107 rfl
  | 108, _, _ => exact tbg mk_108 rfl
  | 109, _, _ => exact tbg mk_109 rfl
  | 110, _, _ => exact tbg mk_110 rfl
  | 111, _, _ => exact tbg mk_111 rfl
  | 112, _, _ => exact tbg mk_112 rfl
  | 113, _, _ => exact tbg mk_113 rfl
  | 114, _, _ => exact tbg mk_114 rfl
  | 115, _, _ => exact tbg mk_115 rfl
  | 116, _, _ => exact tbg mk_116 rfl
  | 117, _, _ => exact tbg mk_117 rfl
  | 118, _, _ => exact tbg mk_118 rfl
  | 119, _, _ => exact tbg mk_119 rfl
  | n + 120, _, h2 => exact absurd h2 (by omega)
theorem mcd_120 : ∀ m, 120 ≤ m → m < 160 → MCD m := by
  intro m h1 h2
  match m, h1, h2 with
  | 120, _, _ => exact tbg mk_120 rfl
  | 121, _, _ => exact tbg mk_121 rfl
  | 122, _, _ => exact tbg mk_122 rfl
  | 123, _, _ => exact tbg mk_123 rfl
  | 124, _, _ => exact tbg mk_124 rfl
  | 125, _, _ => exact tbg mk_125 rfl
  | 126, _, _ => exact tbg mk_126 rfl
  | 127, _, _ => exact tbg mk_127 rfl
  | 128, _, _ => exact tbg mk_128 rfl
  | 129, _, _ => exact tbg mk_129 rfl
  | 130, _, _ => exact tbg mk_130 rfl
  | 131, _, _ => exact tbg mk_131 rfl
  | 132, _, _ => exact tbg mk_132 rfl
  | 133, _, _ => exact tbg mk_133 rfl
  | 134, _, _ => exact tbg mk_134 rfl
  | 135, _, _ => exact tbg mk_135 rfl
  | 136, _, _ => exact tbg mk_136 rfl
  | 137, _, _ => exact tbg mk_137 rfl
  | 138, _, _ => exact tbg mk_138 rfl
  | 139, _, _ => exact tbg mk_139 rfl
  | 140, _, _ => exact tbg mk_140 rfl
  | 141, _, _ => exact tbg mk_141 rfl
  | 142, _, _ => exact tbg mk_142 rfl
  | 143, _, _ => exact tbg mk_143 rfl
  | 144, _, _ => exact tbg mk_144 rfl
  | 145, _, _ => exact tbg mk_145 rfl
  | 146, _, _ => exact tbg mk_146 rfl
  | 147, _, _ => exact tbg mk_147 rfl
  | 148, _, _ => exact tbg mk_148 rfl
  | 149, _, _ => exact tbg mk_149 rfl
  | 150, _, _ => exact tbg mk_150 rfl
  | 151, _, _ => exact tbg mk_151 rfl
  | 152, _, _ => exact tbg mk_152 rfl
  | 153, _, _ => exact tbg mk_153 rfl
  | 154, _, _ => exact tbg mk_154 rfl
  | 155, _, _ => exact tbg mk_155 rfl
  | 156, _, _ => exact tbg mk_156 rfl
  | 157, _, _ => exact tbg mk_157 rfl
  | 158, _, _ => exact tbg mk_158 rfl
  | 159, _, _ => exact tbg mk_159 rfl
  | n + 160, _, h2 => exact absurd h2 (by omega)
theorem mcd_160 : ∀ m, 160 ≤ m → m < 200 → MCD m := by
  intro m h1 h2
  match m, h1, h2 with
  | 160, _, _ => exact tbg mk_160 rfl
  | 161, _, _ => exact tbg mk_161 rfl
  | 162, _, _ => exact tbg mk_162 rfl
  | 163, _, _ => exact tbg mk_163 rfl
  | 164, _, _ => exact tbg mk_164 rfl
  | 165, _, _ => exact tbg mk_165 rfl
  | 166, _, _ => exact tbg mk_166 rfl
  | 167, _, _ => exact tbg mk_167 rfl
  | 168, _, _ => exact tbg mk_168 rfl
  | 169, _, _ => exact tbg mk_169 rfl
  | 170, _, _ => exact tbg mk_170 rfl
  | 171, _, _ => exact tbg mk_171 rfl
  | 172, _, _ => exact tbg mk_172 rfl
  | 173, _, _ => exact tbg mk_173 rfl
  | 174, _, _ => exact tbg mk_174 rfl
  | 175, _, _ => exact tbg mk_175 rfl
  | 176, _, _ => exact tbg mk_176 rfl
  | 177, _, _ => exact tbg mk_177 rfl
  | 178, _, _ => exact tbg mk_178 rfl
  | 179, _, _ => exact tbg mk_179 rfl
  | 180, _, _ => exact tbg mk_180 rfl
  | 181, _, _ => exact tbg mk_181 rfl
  | 182, _, _ => exact tbg mk_182 rfl
  | 183, _, _ => exact tbg mk_183 rfl
  | 184, _, _ => exact tbg mk_184 rfl
  | 185, _, _ => exact tbg mk_185 rfl
  | 186, _, _ => exact tbg mk_186 rfl
  | 187, _, _ => exact tbg mk_187 rfl
  | 188, _, _ => exact tbg mk_188 rfl
  | 189, _, _ => exact tbg mk_189 rfl
  | 190, _, _ => exact tbg mk_190 rfl
  | 191, _, _ => exact tbg mk_191 rfl
  | 192, _, _ => exact tbg mk_192 rfl
  | 193, _, _ => exact tbg mk_193 rfl
  | 194, _, _ => exact tbg mk_194 rfl
  | 195, _, _ => exact tbg mk_195 rfl
  | 196, _, _ => exact tbg mk_196 rfl
  | 197, _, _ => exact tbg mk_197 rfl
  | 198, _, _ => exact tbg mk_198 rfl
  | 199, _, _ => exact tbg mk_199 rfl
  | n + 200, _, h2 => exact absurd h2 (by omega)
theorem mcd_200 : ∀ m, 200 ≤ m → m < 240 → MCD m := by
  intro m h1 h2
  match m, h1, h2 with
  | 200, _, _ => exact tbg mk_200 rfl
  | 201, _, _ => exact tbg mk_201 rfl
  | 202, _, _ => exact tbg mk_202 rfl
  | 203, _, _ => exact tbg mk_203 rfl
  | 204, _, _ => exact tbg mk_204 rfl
  | 205, _, _ => exact tbg mk_205 rfl
  | 206, _, _ => exact tbg mk_206 rfl
  | 207, _, _ => exact tbg mk_207 rfl
  | 208, _, _ => exact tbg mk_208 rfl
  | 209, _, _ => exact tbg mk_209 rfl
  | 210, _, _ => exact tbg mk_210 rfl
  | 211, _, _ => exact tbg mk_211 rfl
  | 212, _, _ => exact tbg mk_212 rfl
  | 213, _, _ => exact tbg mk_213 rfl
  | 214, _, _ => exact tbg mk_214 rfl
  | 215, _, _ => exact tbg mk_215 rfl
  | 216, _, _ => exact tbg mk_216 rfl
  | 217, _, _ => exact tbg mk_217 rfl
  | 218, _, _ => exact tbg mk_218 rfl
  | 219, _, _ => exact tbg mk_219 rfl
  | 220, _, _ => exact tbg mk_220 rfl
  | 221, _, _ => exact tbg mk_221 rfl
  | 222, _, _ => exact tbg mk_222 rfl
  | 223, _, _ => exact tbg mk_223 rfl
  | 224, _, _ => exact tbg mk_224 rfl
  | 225, _, _ => exact tbg mk_225 rfl
  | 226, _, _ => exact tbg mk_226 rfl
  | 227, _, _ => exact tbg mk_227 rfl
  | 228, _, _ => exact tbg mk_228 rfl
  | 229, _, _ => exact tbg mk_229 rfl
  | 230, _, _ => exact tbg mk_230 rfl
  | 231, _, _ => exact tbg mk_231 rfl
  | 232, _, _ => exact tbg mk_232 rfl
  | 233, _, _ => exact tbg mk_233 rfl
  | 234, _, _ => exact tbg mk_234 rfl
  | 235, _, _ => exact tbg mk_235 rfl
  | 236, _, _ => exact tbg mk_236 rfl
  | 237, _, _ => exact tbg mk_237 rfl
  | 238, _, _ => exact tbg mk_238 rfl
  | 239, _, _ => exact tbg mk_239 rfl
  | n + 240, _, h2 => exact absurd h2 (by omega)
theorem mcd_240 : ∀ m, 240 ≤ m → m < 280 → MCD m := by
  intro m h1 h2
  match m, h1, h2 with
  | 240, _, _ => exact tbg mk_240 rfl
  | 241, _, _ => exact tbg mk_241 rfl
  | 242, _, _ => exact tbg mk_242 rfl
  | 243, _, _ => exact tbg mk_243 rfl
  | 244, _, _ => exact tbg mk_244 rfl
  | 245, _, _ => exact tbg mk_245 rfl
  | 246, _, _ => exact tbg mk_246 rfl
  | 247, _, _ => exact tbg mk_247 rfl
  | 248, _, _ => exact tbg mk_248 rfl
  | 249, _, _ => exact tbg mk_249 rfl
  | 250, _, _ => exact tbg mk_250 rfl
  | 251, _, _ => exact tbg mk_251 rfl
  | 252, _, _ => exact tbg mk_252 rfl
  | 253, _, _ => exact tbg mk_253 rfl
  | 254, _, _ => exact tbg mk_254 rfl
  | 255, _, _ => exact tbg mk_255 rfl
  | 256, _, _ => exact tbg mk_256 rfl
  | 257, _, _ => exact tbg mk_257 rfl
  | 258, _, _ => exact tbg mk_258 rfl
  | 259, _, _ => exact tbg mk_259 rfl
  | 260, _, _ => exact tbg mk_260 rfl
  | 261, _, _ => exact tbg mk_261 rfl
  | 262, _, _ => exact tbg mk_262 rfl
  | 263, _, _ => exact tbg mk_263 rfl
  | 264, _, _ => exact tbg mk_264 rfl
  | 265, _, _ => exact tbg mk_265 rfl
  | 266, _, _ => exact tbg mk_266 rfl
  | 267, _, _ => exact tbg mk_267 rfl
  | 268, _, _ => exact tbg mk_268 rfl
  | 269, _, _ => exact tbg mk_269 rfl
  | 270, _, _ => exact tbg mk_270 rfl
  | 271, _, _ => exact tbg mk_271 rfl
  | 272, _, _ => exact tbg mk_272 rfl
  | 273, _, _ => exact tbg mk_273 rfl
  | 274, _, _ => exact tbg mk_274 rfl
  | 275, _, _ => exact tbg mk_275 rfl
  | 276, _, _ => exact tbg mk_276 rfl
  | 277, _, _ => exact tbg mk_277 rfl
  | 278, _, _ => exact tbg mk_278 rfl
  | 279, _, _ => exact tbg mk_279 rfl
  | n + 280, _, h2 => exact absurd h2 (by omega)
theorem mcd_280 : ∀ m, 280 ≤ m → m < 320 → MCD m := by
  intro m h1 h2
  match m, h1, h2 with
  | 280, _, _ => exact tbg mk_280 rfl
  | 281, _, _ => exact tbg mk_281 rfl
  | 282, _, _ => exact tbg mk_282 rfl
  | 283, _, _ => exact tbg mk_283 rfl
  | 284, _, _ => exact tbg mk_284 rfl
  | 285, _, _ => exact tbg mk_285 rfl
  | 286, _, _ => exact tbg mk_286 rfl
  | 287, _, _ => exact tbg mk_287 rfl
  | 288, _, _ => exact tbg mk_288 rfl
  | 289, _, _ => exact tbg mk_289 rfl
  | 290, _, _ => exact tbg mk_290 rfl
  | 291, _, _ => exact tbg mk_291 rfl
  | 292, _, _ => exact tbg mk_292 rfl
  | 293, _, _ => exact tbg mk_293 rfl
  | 294, _, _ => exact tbg mk_294 rfl
  | 295, _, _ => exact tbg mk_295 rfl
  | 296, _, _ => exact tbg mk_296 rfl
  | 297, _, _ => exact tbg mk_297 rfl
  | 298, _, _ => exact tbg mk_298 rfl
  | 299, _, _ => exact tbg mk_299 rfl
  | 300, _, _ => exact tbg mk_300 rfl
  | 301, _, _ => exact tbg mk_301 rfl
  | 302, _, _ => exact tbg mk_302 rfl
  | 303, _, _ => exact tbg mk_303 rfl
  | 304, _, _ => exact tbg mk_304 rfl
  | 305, _, _ => exact tbg mk_305 rfl
  | 306, _, _ => exact tbg mk_306 rfl
  | 307, _, _ => exact tbg mk_307 rfl
  | 308, _, _ => exact tbg mk_308 rfl
  | 309, _, _ => exact tbg mk_309 rfl
  | 310, _, _ => exact tbg mk_310 rfl
  | 311, _, _ => exact tbg mk_311 rfl
  | 312, _, _ => exact tbg mk_312 rfl
  | 313, _, _ => exact tbg mk_313 rfl
  | 314, _, _ => exact tbg mk_314 rfl
  | 315, _, _ => exact tbg mk_315 rfl
  | 316, _, _ => exact tbg mk_316 rfl
  | 317, _, _ => exact tbg mk_317 rfl
  | 318, _, _ => exact tbg mk_318 rfl
  | 319, _, _ => exact tbg mk_319 rfl
  | n + 320, _, h2 => exact absurd h2 (by omega)
theorem mcd_320 : ∀ m, 320 ≤ m → m < 356 → MCD m := by
  intro m h1 h2
  match m, h1, h2 with
  | 320, _, _ => exact tbg mk_320 rfl
  | 321, _, _ => exact tbg mk_321 rfl
  | 322, _, _ => exact tbg mk_322 rfl
  | 323, _, _ => exact tbg mk_323 rfl
  | 324, _, _ => exact tbg mk_324 rfl
  | 325, _, _ => exact tbg mk_325 rfl
  | 326, _, _ => exact tbg mk_326 rfl
  | 327, _, _ => exact tbg mk_327 rfl
  | 328, _, _ => exact tbg mk_328 rfl
  | 329, _, _ => exact tbg mk_329 rfl
  | 330, _, _ => exact tbg mk_330 rfl
  | 331, _, _ => exact tbg mk_331 rfl
  | 332, _, _ => exact tbg mk_332 rfl
  | 333, _, _ => exact tbg mk_333 rfl
  | 334, _, _ => exact tbg mk_334 rfl
  | 335, _, _ => exact tbg mk_335 rfl
  | 336, _, _ => exact tbg mk_336 rfl
  | 337, _, _ => exact tbg mk_337 rfl
  | 338, _, _ => exact tbg mk_338 rfl
  | 339, _, _ => exact tbg mk_339 rfl
  | 340, _, _ => exact tbg mk_340 rfl
  | 341, _, _ => exact tbg mk_341 rfl
  | 342, _, _ => exact tbg mk_342 rfl
  | 343, _, _ => exact tbg mk_343 rfl
  | 344, _, _ => exact tbg mk_344 rfl
  | 345, _, _ => exact tbg mk_345 rfl
  | 346, _, _ => exact tbg mk_346 rfl
  | 347, _, _ => exact tbg mk_347 rfl
  | 348, _, _ => exact tbg mk_348 rfl
  | 349, _, _ => exact tbg mk_349 rfl
  | 350, _, _ => exact tbg mk_350 rfl
  | 351, _, _ => exact tbg mk_351 rfl
  | 352, _, _ => exact tbg mk_352 rfl
  | 353, _, _ => exact tbg mk_353 rfl
  | 354, _, _ => exact tbg mk_354 rfl
  | 355, _, _ => exact tbg mk_355 rfl
  | n + 356, _, h2 => exact absurd h2 (by omega)
theorem mcd : ∀ m, m < 356 → MCD m := by
  intro m h
  by_cases h0 : m < 40
  · exact mcd_0 m (by omega) h0
  by_cases h40 : m < 80
  · exact mcd_40 m (by omega) h40
  by_cases h80 : m < 120
  · exact mcd_80 m (by omega) h80
  by_cases h120 : m < 160
  · exact mcd_120 m (by omega) h120
  by_cases h160 : m < 200
  · exact mcd_160 m (by omega) h160
  by_cases h200 : m < 240
  · exact mcd_200 m (by omega) h200
  by_cases h240 : m < 280
  · exact mcd_240 m (by omega) h240
  by_cases h280 : m < 320
  · exact mcd_280 m (by omega) h280
  by_cases h320 : m < 356
  · exact mcd_320 m (by omega) h320
  · omega
