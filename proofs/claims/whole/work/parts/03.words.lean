/-- the words of the tables that last, for every method alike -/
def gtbl : List Cond := lw_tbl.filter goodWord
theorem gt_l {w : Cond} {i : Nat} (h : (k2_sels lw_privs)[i]? = some w) (g : goodWord w = true) : w ∈ gtbl := List.mem_filter.mpr ⟨List.mem_append_left _ (List.mem_of_getElem? h), g⟩
theorem gt_r {w : Cond} {i : Nat} (h : tables_1[i]? = some w) (g : goodWord w = true) : w ∈ gtbl := List.mem_filter.mpr ⟨List.mem_append_right _ (List.mem_of_getElem? h), g⟩
theorem gt_in {w : Cond} (h : w ∈ gtbl) : w ∈ lw_tbl := (List.mem_filter.mp h).1
theorem law_good {w : Cond} (h : w ∈ gtbl) : w ∈ gtbl ∧ ((w.onTables && w.keeps) = true ∨ ∃ ty, w = .arrayClass ty) := ⟨h, good_of_word (List.mem_filter.mp h).2⟩
theorem tw_0 : Cond.selects "RidePools$Roads" yX5_renew yX5_renew ∈ gtbl := gt_l (i := 0) rfl rfl
theorem tw_1 : Cond.selects "RidePools$Roads" yX5_shortenBy yX5_shortenBy ∈ gtbl := gt_l (i := 1) rfl rfl
theorem tw_2 : Cond.selects "RidePools" yX8_refuse yX8_refuse ∈ gtbl := gt_l (i := 2) rfl rfl
theorem tw_3 : Cond.selects "RidePools" yX8_setBroken yX8_setBroken ∈ gtbl := gt_l (i := 3) rfl rfl
theorem tw_4 : Cond.selects "RidePools" yX8_wrongRide yX8_wrongRide ∈ gtbl := gt_l (i := 4) rfl rfl
theorem tw_5 : Cond.selects "RidePools" yX8_wrongSet yX8_wrongSet ∈ gtbl := gt_l (i := 5) rfl rfl
theorem tw_6 : Cond.selects "RidePools$WayFinder" yX7_load yX7_load ∈ gtbl := gt_l (i := 6) rfl rfl
theorem tw_7 : Cond.selects "RidePools$WayFinder" yX7_loadOne yX7_loadOne ∈ gtbl := gt_l (i := 7) rfl rfl
theorem tw_8 : Cond.selects "RidePools$WayFinder" yX7_allPlaces yX7_allPlaces ∈ gtbl := gt_l (i := 8) rfl rfl
theorem tw_9 : Cond.selects "RidePools$WayFinder" yX7_pickNext yX7_pickNext ∈ gtbl := gt_l (i := 9) rfl rfl
theorem tw_10 : Cond.selects "RidePools$WayFinder" yX7_bringNext yX7_bringNext ∈ gtbl := gt_l (i := 10) rfl rfl
theorem tw_11 : Cond.selects "RidePools$Costs" yX0_takeIfFewer yX0_takeIfFewer ∈ gtbl := gt_l (i := 11) rfl rfl
theorem tw_12 : Cond.selects "RidePools" yX8_whoseTurn yX8_whoseTurn ∈ gtbl := gt_l (i := 12) rfl rfl
theorem tw_13 : Cond.selects "RidePools$Parting" yX1_findAll yX1_findAll ∈ gtbl := gt_l (i := 13) rfl rfl
theorem tw_14 : Cond.selects "RidePools$Parting" yX1_choose yX1_choose ∈ gtbl := gt_l (i := 14) rfl rfl
theorem tw_15 : Cond.selects "RidePools$Parting" yX1_tryPool yX1_tryPool ∈ gtbl := gt_l (i := 15) rfl rfl
theorem tw_16 : Cond.selects "RidePools" yX8_takeIntoPlan yX8_takeIntoPlan ∈ gtbl := gt_l (i := 16) rfl rfl
theorem tw_17 : Cond.selects "RidePools" yX8_putIntoPlan yX8_putIntoPlan ∈ gtbl := gt_l (i := 17) rfl rfl
theorem tw_18 : Cond.selects "RidePools" yX8_evenOut yX8_evenOut ∈ gtbl := gt_l (i := 18) rfl rfl
theorem tw_19 : Cond.selects "RidePools" yX8_findPlace yX8_findPlace ∈ gtbl := gt_l (i := 19) rfl rfl
theorem tw_20 : Cond.selects "RidePools" yX8_isOpen yX8_isOpen ∈ gtbl := gt_l (i := 20) rfl rfl
theorem tw_21 : Cond.selects "RidePoolsModel" yX9_measure yX9_measure ∈ gtbl := gt_l (i := 21) rfl rfl
theorem tw_22 : Cond.selects "RidePoolsModel" yX9_changes yX9_changes ∈ gtbl := gt_l (i := 22) rfl rfl
theorem tw_23 : Cond.selects "RidePoolsModel" yX9_refuse yX9_refuse ∈ gtbl := gt_l (i := 23) rfl rfl
theorem tw_24 : Cond.selects "RidePoolsModel" yX9_leastOf yX9_leastOf ∈ gtbl := gt_l (i := 24) rfl rfl
theorem tw_25 : Cond.selects "RidePoolsModel" yX9_isPerson yX9_isPerson ∈ gtbl := gt_l (i := 25) rfl rfl
theorem tw_26 : Cond.selects "RidePoolsModel" yX9_wrong yX9_wrong ∈ gtbl := gt_l (i := 26) rfl rfl
theorem tw_27 : Cond.selects "RidePoolsModel" yX9_isSet yX9_isSet ∈ gtbl := gt_l (i := 27) rfl rfl
theorem tw_28 : Cond.selects "RidePoolsModel" yX9_hasAway yX9_hasAway ∈ gtbl := gt_l (i := 28) rfl rfl
theorem tw_29 : Cond.selects "RidePoolsModel" yX9_whyNot yX9_whyNot ∈ gtbl := gt_l (i := 29) rfl rfl
theorem tw_30 : Cond.selects "RidePoolsModel" yX9_picks yX9_picks ∈ gtbl := gt_l (i := 30) rfl rfl
theorem tw_31 : Cond.selects "RidePoolsModel" yX9_drops yX9_drops ∈ gtbl := gt_l (i := 31) rfl rfl
theorem tw_32 : Cond.selects "RidePoolsModel" yX9_looks yX9_looks ∈ gtbl := gt_l (i := 32) rfl rfl
theorem tw_33 : Cond.selects "RidePoolsModel" yX9_wrongSet yX9_wrongSet ∈ gtbl := gt_l (i := 33) rfl rfl
theorem tw_34 : Cond.selects "RidePoolsModel" yX9_know yX9_know ∈ gtbl := gt_l (i := 34) rfl rfl
theorem tw_35 : Cond.selects "RidePoolsModel" yX9_turnOf yX9_turnOf ∈ gtbl := gt_l (i := 35) rfl rfl
theorem tw_36 : Cond.selects "RidePoolsModel" yX9_best yX9_best ∈ gtbl := gt_l (i := 36) rfl rfl
theorem tw_37 : Cond.selects "RidePoolsModel" yX9_present yX9_present ∈ gtbl := gt_l (i := 37) rfl rfl
theorem tw_38 : Cond.selects "RidePoolsModel" yX9_bestOf yX9_bestOf ∈ gtbl := gt_l (i := 38) rfl rfl
theorem tw_39 : Cond.selects "RidePoolsModel" yX9_leaves yX9_leaves ∈ gtbl := gt_l (i := 39) rfl rfl
theorem tw_40 : Cond.selects "RidePoolsModel" yX9_lays yX9_lays ∈ gtbl := gt_l (i := 40) rfl rfl
theorem tw_41 : Cond.selects "RidePoolsModel" yX9_planned yX9_planned ∈ gtbl := gt_l (i := 41) rfl rfl
theorem tw_42 : Cond.selects "RidePoolsModel" yX9_isFirst yX9_isFirst ∈ gtbl := gt_l (i := 42) rfl rfl
theorem tw_43 : Cond.selects "RidePoolsModel" yX9_joins yX9_joins ∈ gtbl := gt_l (i := 43) rfl rfl
theorem tw_44 : Cond.initialized "RidePoolsLaw" ∈ gtbl := gt_r (i := 0) rfl rfl
theorem tw_45 : Cond.initialized "RidePools" ∈ gtbl := gt_r (i := 1) rfl rfl
theorem tw_46 : Cond.initialized "RidePools$Roads" ∈ gtbl := gt_r (i := 2) rfl rfl
theorem tw_47 : Cond.initialized "java/util/Arrays" ∈ gtbl := gt_r (i := 3) rfl rfl
theorem tw_48 : Cond.initialized "java/lang/System" ∈ gtbl := gt_r (i := 4) rfl rfl
theorem tw_49 : Cond.initialized "java/lang/Math" ∈ gtbl := gt_r (i := 5) rfl rfl
theorem tw_50 : Cond.initialized "RidePools$People" ∈ gtbl := gt_r (i := 6) rfl rfl
theorem tw_51 : Cond.initialized "RidePools$Person" ∈ gtbl := gt_r (i := 7) rfl rfl
theorem tw_52 : Cond.initialized "RidePools$WayFinder" ∈ gtbl := gt_r (i := 8) rfl rfl
theorem tw_53 : Cond.initialized "RidePools$Way" ∈ gtbl := gt_r (i := 9) rfl rfl
theorem tw_54 : Cond.initialized "RidePools$Costs" ∈ gtbl := gt_r (i := 10) rfl rfl
theorem tw_55 : Cond.initialized "RidePools$Parting" ∈ gtbl := gt_r (i := 11) rfl rfl
theorem tw_56 : Cond.initialized "RidePools$Plan" ∈ gtbl := gt_r (i := 12) rfl rfl
theorem tw_57 : Cond.initialized "RidePoolsModel" ∈ gtbl := gt_r (i := 13) rfl rfl
theorem tw_58 : Cond.initialized "java/lang/Integer" ∈ gtbl := gt_r (i := 14) rfl rfl
theorem tw_59 : Cond.classLink "RidePoolsLaw" 7 "RidePools" ∈ gtbl := gt_r (i := 15) rfl rfl
theorem tw_60 : Cond.instantiable "RidePools" 8 ∈ gtbl := gt_r (i := 16) rfl rfl
theorem tw_61 : Cond.methodLink "RidePoolsLaw" 9 yX8_init ∈ gtbl := gt_r (i := 17) rfl rfl
theorem tw_62 : Cond.instanceMethod yX8_init ∈ gtbl := gt_r (i := 18) rfl rfl
theorem tw_63 : Cond.code yX8_init prog_1_method_1_code 1 (none : Option FieldType) ∈ gtbl := gt_r (i := 19) rfl rfl
theorem tw_64 : Cond.methodLink "RidePools" 3 (⟨"java/lang/Object", "<init>", "()V"⟩ : MethodName) ∈ gtbl := gt_r (i := 20) rfl rfl
theorem tw_65 : Cond.instanceMethod (⟨"java/lang/Object", "<init>", "()V"⟩ : MethodName) ∈ gtbl := gt_r (i := 21) rfl rfl
theorem tw_66 : Cond.code (⟨"java/lang/Object", "<init>", "()V"⟩ : MethodName) object_method_1_code 1 (none : Option FieldType) ∈ gtbl := gt_r (i := 22) rfl rfl
theorem tw_67 : Cond.classLink "RidePools" 9 "RidePools$Roads" ∈ gtbl := gt_r (i := 23) rfl rfl
theorem tw_68 : Cond.instantiable "RidePools$Roads" 2 ∈ gtbl := gt_r (i := 24) rfl rfl
theorem tw_69 : Cond.methodLink "RidePools" 11 yX5_init ∈ gtbl := gt_r (i := 25) rfl rfl
theorem tw_70 : Cond.instanceMethod yX5_init ∈ gtbl := gt_r (i := 26) rfl rfl
theorem tw_71 : Cond.code yX5_init prog_7_method_1_code 2 (none : Option FieldType) ∈ gtbl := gt_r (i := 27) rfl rfl
theorem tw_72 : Cond.methodLink "RidePools$Roads" 3 (⟨"java/lang/Object", "<init>", "()V"⟩ : MethodName) ∈ gtbl := gt_r (i := 28) rfl rfl
theorem tw_73 : Cond.classLink "RidePools$Roads" 9 "[[I" ∈ gtbl := gt_r (i := 29) rfl rfl
theorem tw_75 : Cond.methodLink "RidePools$Roads" 19 yJ7_fill_53178 ∈ gtbl := gt_r (i := 31) rfl rfl
theorem tw_76 : Cond.static yJ7_fill_53178 ∈ gtbl := gt_r (i := 32) rfl rfl
theorem tw_77 : Cond.code yJ7_fill_53178 prog_15_method_103_code 4 (none : Option FieldType) ∈ gtbl := gt_r (i := 33) rfl rfl
theorem tw_78 : Cond.methodLink "RidePools$Roads" 25 yX5_renew ∈ gtbl := gt_r (i := 34) rfl rfl
theorem tw_80 : Cond.instanceMethod yX5_renew ∈ gtbl := gt_r (i := 36) rfl rfl
theorem tw_81 : Cond.code yX5_renew prog_7_method_4_code 3 (none : Option FieldType) ∈ gtbl := gt_r (i := 37) rfl rfl
theorem tw_82 : Cond.methodLink "RidePools$Roads" 28 (⟨"java/lang/System", "arraycopy", "(Ljava/lang/Object;ILjava/lang/Object;II)V"⟩ : MethodName) ∈ gtbl := gt_r (i := 38) rfl rfl
theorem tw_83 : Cond.static (⟨"java/lang/System", "arraycopy", "(Ljava/lang/Object;ILjava/lang/Object;II)V"⟩ : MethodName) ∈ gtbl := gt_r (i := 39) rfl rfl
theorem tw_85 : Cond.methodLink "RidePools$Roads" 34 yX5_shortenBy ∈ gtbl := gt_r (i := 41) rfl rfl
theorem tw_87 : Cond.instanceMethod yX5_shortenBy ∈ gtbl := gt_r (i := 43) rfl rfl
theorem tw_88 : Cond.code yX5_shortenBy prog_7_method_5_code 4 (none : Option FieldType) ∈ gtbl := gt_r (i := 44) rfl rfl
theorem tw_89 : Cond.methodLink "RidePools$Roads" 38 yJ9_min_7cf53 ∈ gtbl := gt_r (i := 45) rfl rfl
theorem tw_90 : Cond.static yJ9_min_7cf53 ∈ gtbl := gt_r (i := 46) rfl rfl
theorem tw_91 : Cond.code yJ9_min_7cf53 prog_13_method_69_code 2 (some FieldType.int) ∈ gtbl := gt_r (i := 47) rfl rfl
theorem tw_92 : Cond.fieldLink "RidePools$Roads" 11 "RidePools$Roads" "direct" "[[I" ∈ gtbl := gt_r (i := 48) rfl rfl
theorem tw_93 : Cond.fieldLink "RidePools$Roads" 16 "RidePools$Roads" "fewest" "[[I" ∈ gtbl := gt_r (i := 49) rfl rfl
theorem tw_94 : Cond.laysFinal "RidePools$Roads" "RidePools$Roads" "direct" "[[I" ∈ gtbl := gt_r (i := 50) rfl rfl
theorem tw_96 : Cond.laysFinal "RidePools$Roads" "RidePools$Roads" "fewest" "[[I" ∈ gtbl := gt_r (i := 52) rfl rfl
theorem tw_99 : Cond.arrayClass FieldType.int ∈ gtbl := gt_r (i := 55) rfl rfl
theorem tw_100 : Cond.classLink "RidePools" 16 "RidePools$People" ∈ gtbl := gt_r (i := 56) rfl rfl
theorem tw_101 : Cond.instantiable "RidePools$People" 2 ∈ gtbl := gt_r (i := 57) rfl rfl
theorem tw_102 : Cond.methodLink "RidePools" 18 yX2_init ∈ gtbl := gt_r (i := 58) rfl rfl
theorem tw_103 : Cond.instanceMethod yX2_init ∈ gtbl := gt_r (i := 59) rfl rfl
theorem tw_104 : Cond.code yX2_init prog_4_method_1_code 2 (none : Option FieldType) ∈ gtbl := gt_r (i := 60) rfl rfl
theorem tw_105 : Cond.methodLink "RidePools$People" 3 (⟨"java/lang/Object", "<init>", "()V"⟩ : MethodName) ∈ gtbl := gt_r (i := 61) rfl rfl
theorem tw_106 : Cond.classLink "RidePools$People" 9 "RidePools$Person" ∈ gtbl := gt_r (i := 62) rfl rfl
theorem tw_108 : Cond.instantiable "RidePools$Person" 11 ∈ gtbl := gt_r (i := 64) rfl rfl
theorem tw_110 : Cond.instanceMethod yX3_init ∈ gtbl := gt_r (i := 66) rfl rfl
theorem tw_111 : Cond.code yX3_init prog_5_method_1_code 1 (none : Option FieldType) ∈ gtbl := gt_r (i := 67) rfl rfl
theorem tw_112 : Cond.methodLink "RidePools$Person" 3 (⟨"java/lang/Object", "<init>", "()V"⟩ : MethodName) ∈ gtbl := gt_r (i := 68) rfl rfl
theorem tw_113 : Cond.fieldLink "RidePools$Person" 19 "RidePools$Person" "kind" "I" ∈ gtbl := gt_r (i := 69) rfl rfl
theorem tw_125 : Cond.fieldLink "RidePools$Person" 9 "RidePools$Person" "seats" "I" ∈ gtbl := gt_r (i := 81) rfl rfl
theorem tw_130 : Cond.fieldLink "RidePools$Person" 15 "RidePools$Person" "isBroken" "Z" ∈ gtbl := gt_r (i := 86) rfl rfl
theorem tw_135 : Cond.lays "RidePools$Person" "RidePools$Person" "kind" "I" ∈ gtbl := gt_r (i := 91) rfl rfl
theorem tw_137 : Cond.lays "RidePools$Person" "RidePools$Person" "house" "I" ∈ gtbl := gt_r (i := 93) rfl rfl
theorem tw_139 : Cond.lays "RidePools$Person" "RidePools$Person" "work" "I" ∈ gtbl := gt_r (i := 95) rfl rfl
theorem tw_141 : Cond.lays "RidePools$Person" "RidePools$Person" "early" "I" ∈ gtbl := gt_r (i := 97) rfl rfl
theorem tw_143 : Cond.lays "RidePools$Person" "RidePools$Person" "late" "I" ∈ gtbl := gt_r (i := 99) rfl rfl
theorem tw_145 : Cond.lays "RidePools$Person" "RidePools$Person" "detour" "I" ∈ gtbl := gt_r (i := 101) rfl rfl
theorem tw_147 : Cond.lays "RidePools$Person" "RidePools$Person" "seats" "I" ∈ gtbl := gt_r (i := 103) rfl rfl
theorem tw_149 : Cond.lays "RidePools$Person" "RidePools$Person" "isAway" "Z" ∈ gtbl := gt_r (i := 105) rfl rfl
theorem tw_151 : Cond.lays "RidePools$Person" "RidePools$Person" "isBroken" "Z" ∈ gtbl := gt_r (i := 107) rfl rfl
theorem tw_153 : Cond.lays "RidePools$Person" "RidePools$Person" "bars" "I" ∈ gtbl := gt_r (i := 109) rfl rfl
theorem tw_155 : Cond.lays "RidePools$Person" "RidePools$Person" "points" "I" ∈ gtbl := gt_r (i := 111) rfl rfl
theorem tw_158 : Cond.fieldLink "RidePools$People" 11 "RidePools$People" "all" "[LRidePools$Person;" ∈ gtbl := gt_r (i := 114) rfl rfl
theorem tw_159 : Cond.fieldLink "RidePools$People" 18 "RidePools$People" "size" "I" ∈ gtbl := gt_r (i := 115) rfl rfl
theorem tw_160 : Cond.laysFinal "RidePools$People" "RidePools$People" "all" "[LRidePools$Person;" ∈ gtbl := gt_r (i := 116) rfl rfl
theorem tw_162 : Cond.lays "RidePools$People" "RidePools$People" "size" "I" ∈ gtbl := gt_r (i := 118) rfl rfl
theorem tw_165 : Cond.classLink "RidePools" 23 "RidePools$WayFinder" ∈ gtbl := gt_r (i := 121) rfl rfl
theorem tw_166 : Cond.instantiable "RidePools$WayFinder" 9 ∈ gtbl := gt_r (i := 122) rfl rfl
theorem tw_167 : Cond.methodLink "RidePools" 25 yX7_init ∈ gtbl := gt_r (i := 123) rfl rfl
theorem tw_168 : Cond.instanceMethod yX7_init ∈ gtbl := gt_r (i := 124) rfl rfl
theorem tw_169 : Cond.code yX7_init prog_9_method_1_code 3 (none : Option FieldType) ∈ gtbl := gt_r (i := 125) rfl rfl
theorem tw_170 : Cond.methodLink "RidePools$WayFinder" 3 (⟨"java/lang/Object", "<init>", "()V"⟩ : MethodName) ∈ gtbl := gt_r (i := 126) rfl rfl
theorem tw_171 : Cond.classLink "RidePools$WayFinder" 9 "RidePools$Way" ∈ gtbl := gt_r (i := 127) rfl rfl
theorem tw_172 : Cond.instantiable "RidePools$Way" 8 ∈ gtbl := gt_r (i := 128) rfl rfl
theorem tw_174 : Cond.instanceMethod yX6_init ∈ gtbl := gt_r (i := 130) rfl rfl
theorem tw_175 : Cond.code yX6_init prog_8_method_1_code 1 (none : Option FieldType) ∈ gtbl := gt_r (i := 131) rfl rfl
theorem tw_176 : Cond.methodLink "RidePools$Way" 3 (⟨"java/lang/Object", "<init>", "()V"⟩ : MethodName) ∈ gtbl := gt_r (i := 132) rfl rfl
theorem tw_177 : Cond.fieldLink "RidePools$Way" 27 "RidePools$Way" "size" "I" ∈ gtbl := gt_r (i := 133) rfl rfl
theorem tw_180 : Cond.fieldLink "RidePools$Way" 9 "RidePools$Way" "members" "[I" ∈ gtbl := gt_r (i := 136) rfl rfl
theorem tw_183 : Cond.fieldLink "RidePools$Way" 15 "RidePools$Way" "picked" "[I" ∈ gtbl := gt_r (i := 139) rfl rfl
theorem tw_185 : Cond.fieldLink "RidePools$Way" 18 "RidePools$Way" "brought" "[I" ∈ gtbl := gt_r (i := 141) rfl rfl
theorem tw_187 : Cond.fieldLink "RidePools$Way" 21 "RidePools$Way" "pickedAfter" "[I" ∈ gtbl := gt_r (i := 143) rfl rfl
theorem tw_190 : Cond.fieldLink "RidePools$Way" 24 "RidePools$Way" "broughtAfter" "[I" ∈ gtbl := gt_r (i := 146) rfl rfl
theorem tw_194 : Cond.fieldLink "RidePools$Way" 31 "RidePools$Way" "taken" "I" ∈ gtbl := gt_r (i := 150) rfl rfl
theorem tw_198 : Cond.fieldLink "RidePools$Way" 34 "RidePools$Way" "begin" "I" ∈ gtbl := gt_r (i := 154) rfl rfl
theorem tw_201 : Cond.lays "RidePools$Way" "RidePools$Way" "size" "I" ∈ gtbl := gt_r (i := 157) rfl rfl
theorem tw_203 : Cond.laysFinal "RidePools$Way" "RidePools$Way" "members" "[I" ∈ gtbl := gt_r (i := 159) rfl rfl
theorem tw_205 : Cond.laysFinal "RidePools$Way" "RidePools$Way" "picked" "[I" ∈ gtbl := gt_r (i := 161) rfl rfl
theorem tw_207 : Cond.laysFinal "RidePools$Way" "RidePools$Way" "brought" "[I" ∈ gtbl := gt_r (i := 163) rfl rfl
theorem tw_209 : Cond.laysFinal "RidePools$Way" "RidePools$Way" "pickedAfter" "[I" ∈ gtbl := gt_r (i := 165) rfl rfl
theorem tw_211 : Cond.laysFinal "RidePools$Way" "RidePools$Way" "broughtAfter" "[I" ∈ gtbl := gt_r (i := 167) rfl rfl
theorem tw_213 : Cond.lays "RidePools$Way" "RidePools$Way" "taken" "I" ∈ gtbl := gt_r (i := 169) rfl rfl
theorem tw_215 : Cond.lays "RidePools$Way" "RidePools$Way" "begin" "I" ∈ gtbl := gt_r (i := 171) rfl rfl
theorem tw_218 : Cond.fieldLink "RidePools$WayFinder" 37 "RidePools$WayFinder" "roads" "LRidePools$Roads;" ∈ gtbl := gt_r (i := 174) rfl rfl
theorem tw_219 : Cond.fieldLink "RidePools$WayFinder" 41 "RidePools$WayFinder" "people" "LRidePools$People;" ∈ gtbl := gt_r (i := 175) rfl rfl
theorem tw_220 : Cond.fieldLink "RidePools$WayFinder" 12 "RidePools$WayFinder" "trial" "LRidePools$Way;" ∈ gtbl := gt_r (i := 176) rfl rfl
theorem tw_221 : Cond.fieldLink "RidePools$WayFinder" 18 "RidePools$WayFinder" "found" "LRidePools$Way;" ∈ gtbl := gt_r (i := 177) rfl rfl
theorem tw_222 : Cond.fieldLink "RidePools$WayFinder" 21 "RidePools$WayFinder" "house" "[I" ∈ gtbl := gt_r (i := 178) rfl rfl
theorem tw_223 : Cond.fieldLink "RidePools$WayFinder" 25 "RidePools$WayFinder" "work" "[I" ∈ gtbl := gt_r (i := 179) rfl rfl
theorem tw_224 : Cond.fieldLink "RidePools$WayFinder" 28 "RidePools$WayFinder" "early" "[I" ∈ gtbl := gt_r (i := 180) rfl rfl
theorem tw_225 : Cond.fieldLink "RidePools$WayFinder" 31 "RidePools$WayFinder" "late" "[I" ∈ gtbl := gt_r (i := 181) rfl rfl
theorem tw_226 : Cond.fieldLink "RidePools$WayFinder" 34 "RidePools$WayFinder" "longest" "[I" ∈ gtbl := gt_r (i := 182) rfl rfl
theorem tw_227 : Cond.laysFinal "RidePools$WayFinder" "RidePools$WayFinder" "roads" "LRidePools$Roads;" ∈ gtbl := gt_r (i := 183) rfl rfl
theorem tw_229 : Cond.laysFinal "RidePools$WayFinder" "RidePools$WayFinder" "people" "LRidePools$People;" ∈ gtbl := gt_r (i := 185) rfl rfl
theorem tw_231 : Cond.laysFinal "RidePools$WayFinder" "RidePools$WayFinder" "trial" "LRidePools$Way;" ∈ gtbl := gt_r (i := 187) rfl rfl
theorem tw_233 : Cond.laysFinal "RidePools$WayFinder" "RidePools$WayFinder" "found" "LRidePools$Way;" ∈ gtbl := gt_r (i := 189) rfl rfl
theorem tw_235 : Cond.laysFinal "RidePools$WayFinder" "RidePools$WayFinder" "house" "[I" ∈ gtbl := gt_r (i := 191) rfl rfl
theorem tw_237 : Cond.laysFinal "RidePools$WayFinder" "RidePools$WayFinder" "work" "[I" ∈ gtbl := gt_r (i := 193) rfl rfl
theorem tw_239 : Cond.laysFinal "RidePools$WayFinder" "RidePools$WayFinder" "early" "[I" ∈ gtbl := gt_r (i := 195) rfl rfl
theorem tw_241 : Cond.laysFinal "RidePools$WayFinder" "RidePools$WayFinder" "late" "[I" ∈ gtbl := gt_r (i := 197) rfl rfl
theorem tw_243 : Cond.laysFinal "RidePools$WayFinder" "RidePools$WayFinder" "longest" "[I" ∈ gtbl := gt_r (i := 199) rfl rfl
theorem tw_246 : Cond.classLink "RidePools" 32 "RidePools$Costs" ∈ gtbl := gt_r (i := 202) rfl rfl
theorem tw_247 : Cond.instantiable "RidePools$Costs" 3 ∈ gtbl := gt_r (i := 203) rfl rfl
theorem tw_248 : Cond.methodLink "RidePools" 34 yX0_init ∈ gtbl := gt_r (i := 204) rfl rfl
theorem tw_249 : Cond.instanceMethod yX0_init ∈ gtbl := gt_r (i := 205) rfl rfl
theorem tw_250 : Cond.code yX0_init prog_2_method_1_code 2 (none : Option FieldType) ∈ gtbl := gt_r (i := 206) rfl rfl
theorem tw_251 : Cond.methodLink "RidePools$Costs" 3 (⟨"java/lang/Object", "<init>", "()V"⟩ : MethodName) ∈ gtbl := gt_r (i := 207) rfl rfl
theorem tw_252 : Cond.methodLink "RidePools$Costs" 22 yJ7_fill_53178 ∈ gtbl := gt_r (i := 208) rfl rfl
theorem tw_253 : Cond.fieldLink "RidePools$Costs" 18 "RidePools$Costs" "finder" "LRidePools$WayFinder;" ∈ gtbl := gt_r (i := 209) rfl rfl
theorem tw_254 : Cond.fieldLink "RidePools$Costs" 9 "RidePools$Costs" "fewest" "[I" ∈ gtbl := gt_r (i := 210) rfl rfl
theorem tw_255 : Cond.fieldLink "RidePools$Costs" 15 "RidePools$Costs" "drivers" "[I" ∈ gtbl := gt_r (i := 211) rfl rfl
theorem tw_256 : Cond.laysFinal "RidePools$Costs" "RidePools$Costs" "finder" "LRidePools$WayFinder;" ∈ gtbl := gt_r (i := 212) rfl rfl
theorem tw_258 : Cond.laysFinal "RidePools$Costs" "RidePools$Costs" "fewest" "[I" ∈ gtbl := gt_r (i := 214) rfl rfl
theorem tw_260 : Cond.laysFinal "RidePools$Costs" "RidePools$Costs" "drivers" "[I" ∈ gtbl := gt_r (i := 216) rfl rfl
theorem tw_263 : Cond.classLink "RidePools" 41 "RidePools$Parting" ∈ gtbl := gt_r (i := 219) rfl rfl
theorem tw_264 : Cond.instantiable "RidePools$Parting" 3 ∈ gtbl := gt_r (i := 220) rfl rfl
theorem tw_265 : Cond.methodLink "RidePools" 43 yX1_init ∈ gtbl := gt_r (i := 221) rfl rfl
theorem tw_266 : Cond.instanceMethod yX1_init ∈ gtbl := gt_r (i := 222) rfl rfl
theorem tw_267 : Cond.code yX1_init prog_3_method_1_code 2 (none : Option FieldType) ∈ gtbl := gt_r (i := 223) rfl rfl
theorem tw_268 : Cond.methodLink "RidePools$Parting" 3 (⟨"java/lang/Object", "<init>", "()V"⟩ : MethodName) ∈ gtbl := gt_r (i := 224) rfl rfl
theorem tw_269 : Cond.fieldLink "RidePools$Parting" 18 "RidePools$Parting" "costs" "LRidePools$Costs;" ∈ gtbl := gt_r (i := 225) rfl rfl
theorem tw_270 : Cond.fieldLink "RidePools$Parting" 9 "RidePools$Parting" "worth" "[I" ∈ gtbl := gt_r (i := 226) rfl rfl
theorem tw_271 : Cond.fieldLink "RidePools$Parting" 15 "RidePools$Parting" "choice" "[I" ∈ gtbl := gt_r (i := 227) rfl rfl
theorem tw_272 : Cond.laysFinal "RidePools$Parting" "RidePools$Parting" "costs" "LRidePools$Costs;" ∈ gtbl := gt_r (i := 228) rfl rfl
theorem tw_274 : Cond.laysFinal "RidePools$Parting" "RidePools$Parting" "worth" "[I" ∈ gtbl := gt_r (i := 230) rfl rfl
theorem tw_276 : Cond.laysFinal "RidePools$Parting" "RidePools$Parting" "choice" "[I" ∈ gtbl := gt_r (i := 232) rfl rfl
theorem tw_279 : Cond.classLink "RidePools" 50 "RidePools$Plan" ∈ gtbl := gt_r (i := 235) rfl rfl
theorem tw_280 : Cond.instantiable "RidePools$Plan" 7 ∈ gtbl := gt_r (i := 236) rfl rfl
theorem tw_281 : Cond.methodLink "RidePools" 52 yX4_init ∈ gtbl := gt_r (i := 237) rfl rfl
theorem tw_282 : Cond.instanceMethod yX4_init ∈ gtbl := gt_r (i := 238) rfl rfl
theorem tw_283 : Cond.code yX4_init prog_6_method_1_code 1 (none : Option FieldType) ∈ gtbl := gt_r (i := 239) rfl rfl
theorem tw_284 : Cond.methodLink "RidePools$Plan" 3 (⟨"java/lang/Object", "<init>", "()V"⟩ : MethodName) ∈ gtbl := gt_r (i := 240) rfl rfl
theorem tw_285 : Cond.fieldLink "RidePools$Plan" 27 "RidePools$Plan" "made" "Z" ∈ gtbl := gt_r (i := 241) rfl rfl
theorem tw_286 : Cond.fieldLink "RidePools$Plan" 31 "RidePools$Plan" "left" "I" ∈ gtbl := gt_r (i := 242) rfl rfl
theorem tw_287 : Cond.fieldLink "RidePools$Plan" 9 "RidePools$Plan" "pool" "[I" ∈ gtbl := gt_r (i := 243) rfl rfl
theorem tw_288 : Cond.fieldLink "RidePools$Plan" 15 "RidePools$Plan" "driverIn" "[I" ∈ gtbl := gt_r (i := 244) rfl rfl
theorem tw_289 : Cond.fieldLink "RidePools$Plan" 18 "RidePools$Plan" "taken" "[I" ∈ gtbl := gt_r (i := 245) rfl rfl
theorem tw_290 : Cond.fieldLink "RidePools$Plan" 21 "RidePools$Plan" "pickedAt" "[I" ∈ gtbl := gt_r (i := 246) rfl rfl
theorem tw_291 : Cond.fieldLink "RidePools$Plan" 24 "RidePools$Plan" "broughtAt" "[I" ∈ gtbl := gt_r (i := 247) rfl rfl
theorem tw_292 : Cond.lays "RidePools$Plan" "RidePools$Plan" "made" "Z" ∈ gtbl := gt_r (i := 248) rfl rfl
theorem tw_294 : Cond.lays "RidePools$Plan" "RidePools$Plan" "left" "I" ∈ gtbl := gt_r (i := 250) rfl rfl
theorem tw_296 : Cond.laysFinal "RidePools$Plan" "RidePools$Plan" "pool" "[I" ∈ gtbl := gt_r (i := 252) rfl rfl
theorem tw_298 : Cond.laysFinal "RidePools$Plan" "RidePools$Plan" "driverIn" "[I" ∈ gtbl := gt_r (i := 254) rfl rfl
theorem tw_300 : Cond.laysFinal "RidePools$Plan" "RidePools$Plan" "taken" "[I" ∈ gtbl := gt_r (i := 256) rfl rfl
theorem tw_302 : Cond.laysFinal "RidePools$Plan" "RidePools$Plan" "pickedAt" "[I" ∈ gtbl := gt_r (i := 258) rfl rfl
theorem tw_304 : Cond.laysFinal "RidePools$Plan" "RidePools$Plan" "broughtAt" "[I" ∈ gtbl := gt_r (i := 260) rfl rfl
theorem tw_307 : Cond.fieldLink "RidePools" 12 "RidePools" "roads" "LRidePools$Roads;" ∈ gtbl := gt_r (i := 263) rfl rfl
theorem tw_308 : Cond.fieldLink "RidePools" 19 "RidePools" "people" "LRidePools$People;" ∈ gtbl := gt_r (i := 264) rfl rfl
theorem tw_309 : Cond.fieldLink "RidePools" 28 "RidePools" "finder" "LRidePools$WayFinder;" ∈ gtbl := gt_r (i := 265) rfl rfl
theorem tw_310 : Cond.fieldLink "RidePools" 37 "RidePools" "costs" "LRidePools$Costs;" ∈ gtbl := gt_r (i := 266) rfl rfl
theorem tw_311 : Cond.fieldLink "RidePools" 46 "RidePools" "parting" "LRidePools$Parting;" ∈ gtbl := gt_r (i := 267) rfl rfl
theorem tw_312 : Cond.fieldLink "RidePools" 53 "RidePools" "current" "LRidePools$Plan;" ∈ gtbl := gt_r (i := 268) rfl rfl
theorem tw_313 : Cond.fieldLink "RidePools" 57 "RidePools" "refusals" "[I" ∈ gtbl := gt_r (i := 269) rfl rfl
theorem tw_314 : Cond.fieldLink "RidePools" 61 "RidePools" "morningsSoFar" "I" ∈ gtbl := gt_r (i := 270) rfl rfl
theorem tw_315 : Cond.laysFinal "RidePools" "RidePools" "roads" "LRidePools$Roads;" ∈ gtbl := gt_r (i := 271) rfl rfl
theorem tw_317 : Cond.laysFinal "RidePools" "RidePools" "people" "LRidePools$People;" ∈ gtbl := gt_r (i := 273) rfl rfl
theorem tw_319 : Cond.laysFinal "RidePools" "RidePools" "finder" "LRidePools$WayFinder;" ∈ gtbl := gt_r (i := 275) rfl rfl
theorem tw_321 : Cond.laysFinal "RidePools" "RidePools" "costs" "LRidePools$Costs;" ∈ gtbl := gt_r (i := 277) rfl rfl
theorem tw_323 : Cond.laysFinal "RidePools" "RidePools" "parting" "LRidePools$Parting;" ∈ gtbl := gt_r (i := 279) rfl rfl
theorem tw_325 : Cond.laysFinal "RidePools" "RidePools" "current" "LRidePools$Plan;" ∈ gtbl := gt_r (i := 281) rfl rfl
theorem tw_327 : Cond.laysFinal "RidePools" "RidePools" "refusals" "[I" ∈ gtbl := gt_r (i := 283) rfl rfl
theorem tw_329 : Cond.lays "RidePools" "RidePools" "morningsSoFar" "I" ∈ gtbl := gt_r (i := 285) rfl rfl
theorem tw_332 : Cond.methodLink "RidePoolsLaw" 13 yX8_minutes ∈ gtbl := gt_r (i := 288) rfl rfl
theorem tw_333 : Cond.instanceMethod yX8_minutes ∈ gtbl := gt_r (i := 289) rfl rfl
theorem tw_334 : Cond.selects "RidePools" yX8_minutes yX8_minutes ∈ gtbl := gt_r (i := 290) rfl rfl
theorem tw_335 : Cond.code yX8_minutes prog_1_method_2_code 5 (some FieldType.int) ∈ gtbl := gt_r (i := 291) rfl rfl
theorem tw_336 : Cond.methodLink "RidePools" 65 yX8_isStop ∈ gtbl := gt_r (i := 292) rfl rfl
theorem tw_337 : Cond.static yX8_isStop ∈ gtbl := gt_r (i := 293) rfl rfl
theorem tw_338 : Cond.code yX8_isStop prog_1_method_26_code 1 (some FieldType.boolean) ∈ gtbl := gt_r (i := 294) rfl rfl
theorem tw_339 : Cond.methodLink "RidePools" 69 yX8_refuse ∈ gtbl := gt_r (i := 295) rfl rfl
theorem tw_341 : Cond.instanceMethod yX8_refuse ∈ gtbl := gt_r (i := 297) rfl rfl
theorem tw_342 : Cond.code yX8_refuse prog_1_method_25_code 2 (some FieldType.int) ∈ gtbl := gt_r (i := 298) rfl rfl
theorem tw_343 : Cond.methodLink "RidePools" 73 yX5_change ∈ gtbl := gt_r (i := 299) rfl rfl
theorem tw_344 : Cond.instanceMethod yX5_change ∈ gtbl := gt_r (i := 300) rfl rfl
theorem tw_345 : Cond.selects "RidePools$Roads" yX5_change yX5_change ∈ gtbl := gt_r (i := 301) rfl rfl
theorem tw_346 : Cond.code yX5_change prog_7_method_3_code 5 (some FieldType.int) ∈ gtbl := gt_r (i := 302) rfl rfl
theorem tw_347 : Cond.methodLink "RidePools" 77 yX0_forgetWith ∈ gtbl := gt_r (i := 303) rfl rfl
theorem tw_348 : Cond.instanceMethod yX0_forgetWith ∈ gtbl := gt_r (i := 304) rfl rfl
theorem tw_349 : Cond.selects "RidePools$Costs" yX0_forgetWith yX0_forgetWith ∈ gtbl := gt_r (i := 305) rfl rfl
theorem tw_350 : Cond.code yX0_forgetWith prog_2_method_4_code 3 (none : Option FieldType) ∈ gtbl := gt_r (i := 306) rfl rfl
theorem tw_351 : Cond.methodLink "RidePoolsLaw" 18 yX8_least ∈ gtbl := gt_r (i := 307) rfl rfl
theorem tw_352 : Cond.instanceMethod yX8_least ∈ gtbl := gt_r (i := 308) rfl rfl
theorem tw_353 : Cond.selects "RidePools" yX8_least yX8_least ∈ gtbl := gt_r (i := 309) rfl rfl
theorem tw_354 : Cond.code yX8_least prog_1_method_3_code 3 (some FieldType.int) ∈ gtbl := gt_r (i := 310) rfl rfl
theorem tw_355 : Cond.methodLink "RidePools" 81 yX5_shortest ∈ gtbl := gt_r (i := 311) rfl rfl
theorem tw_356 : Cond.instanceMethod yX5_shortest ∈ gtbl := gt_r (i := 312) rfl rfl
theorem tw_357 : Cond.selects "RidePools$Roads" yX5_shortest yX5_shortest ∈ gtbl := gt_r (i := 313) rfl rfl
theorem tw_358 : Cond.code yX5_shortest prog_7_method_2_code 3 (some FieldType.int) ∈ gtbl := gt_r (i := 314) rfl rfl
theorem tw_359 : Cond.methodLink "RidePoolsLaw" 23 yX8_person ∈ gtbl := gt_r (i := 315) rfl rfl
theorem tw_360 : Cond.instanceMethod yX8_person ∈ gtbl := gt_r (i := 316) rfl rfl
theorem tw_361 : Cond.selects "RidePools" yX8_person yX8_person ∈ gtbl := gt_r (i := 317) rfl rfl
theorem tw_362 : Cond.code yX8_person prog_1_method_4_code 10 (some FieldType.int) ∈ gtbl := gt_r (i := 318) rfl rfl
theorem tw_363 : Cond.methodLink "RidePools" 85 yX2_isFull ∈ gtbl := gt_r (i := 319) rfl rfl
theorem tw_364 : Cond.instanceMethod yX2_isFull ∈ gtbl := gt_r (i := 320) rfl rfl
theorem tw_365 : Cond.selects "RidePools$People" yX2_isFull yX2_isFull ∈ gtbl := gt_r (i := 321) rfl rfl
theorem tw_366 : Cond.code yX2_isFull prog_4_method_3_code 1 (some FieldType.boolean) ∈ gtbl := gt_r (i := 322) rfl rfl
theorem tw_367 : Cond.methodLink "RidePools" 89 yX2_addOne ∈ gtbl := gt_r (i := 323) rfl rfl
theorem tw_368 : Cond.instanceMethod yX2_addOne ∈ gtbl := gt_r (i := 324) rfl rfl
theorem tw_369 : Cond.selects "RidePools$People" yX2_addOne yX2_addOne ∈ gtbl := gt_r (i := 325) rfl rfl
theorem tw_370 : Cond.code yX2_addOne prog_4_method_7_code 1 (some FieldType.int) ∈ gtbl := gt_r (i := 326) rfl rfl
theorem tw_371 : Cond.methodLink "RidePools" 93 yX2_at ∈ gtbl := gt_r (i := 327) rfl rfl
theorem tw_372 : Cond.instanceMethod yX2_at ∈ gtbl := gt_r (i := 328) rfl rfl
theorem tw_373 : Cond.selects "RidePools$People" yX2_at yX2_at ∈ gtbl := gt_r (i := 329) rfl rfl
theorem tw_374 : Cond.code yX2_at prog_4_method_6_code 2 (some (FieldType.object "RidePools$Person")) ∈ gtbl := gt_r (i := 330) rfl rfl
theorem tw_375 : Cond.methodLink "RidePoolsLaw" 28 yX8_times ∈ gtbl := gt_r (i := 331) rfl rfl
theorem tw_376 : Cond.instanceMethod yX8_times ∈ gtbl := gt_r (i := 332) rfl rfl
theorem tw_377 : Cond.selects "RidePools" yX8_times yX8_times ∈ gtbl := gt_r (i := 333) rfl rfl
theorem tw_378 : Cond.code yX8_times prog_1_method_5_code 4 (some FieldType.int) ∈ gtbl := gt_r (i := 334) rfl rfl
theorem tw_379 : Cond.methodLink "RidePools" 120 yX2_has ∈ gtbl := gt_r (i := 335) rfl rfl
theorem tw_380 : Cond.instanceMethod yX2_has ∈ gtbl := gt_r (i := 336) rfl rfl
theorem tw_381 : Cond.selects "RidePools$People" yX2_has yX2_has ∈ gtbl := gt_r (i := 337) rfl rfl
theorem tw_382 : Cond.code yX2_has prog_4_method_4_code 2 (some FieldType.boolean) ∈ gtbl := gt_r (i := 338) rfl rfl
theorem tw_383 : Cond.methodLink "RidePoolsLaw" 32 yX8_bar ∈ gtbl := gt_r (i := 339) rfl rfl
theorem tw_384 : Cond.instanceMethod yX8_bar ∈ gtbl := gt_r (i := 340) rfl rfl
theorem tw_385 : Cond.selects "RidePools" yX8_bar yX8_bar ∈ gtbl := gt_r (i := 341) rfl rfl
theorem tw_386 : Cond.code yX8_bar prog_1_method_6_code 4 (some FieldType.int) ∈ gtbl := gt_r (i := 342) rfl rfl
theorem tw_387 : Cond.methodLink "RidePools" 126 yX8_contains ∈ gtbl := gt_r (i := 343) rfl rfl
theorem tw_388 : Cond.static yX8_contains ∈ gtbl := gt_r (i := 344) rfl rfl
theorem tw_389 : Cond.code yX8_contains prog_1_method_27_code 2 (some FieldType.boolean) ∈ gtbl := gt_r (i := 345) rfl rfl
theorem tw_390 : Cond.methodLink "RidePoolsLaw" 37 yX8_away ∈ gtbl := gt_r (i := 346) rfl rfl
theorem tw_391 : Cond.instanceMethod yX8_away ∈ gtbl := gt_r (i := 347) rfl rfl
theorem tw_392 : Cond.selects "RidePools" yX8_away yX8_away ∈ gtbl := gt_r (i := 348) rfl rfl
theorem tw_393 : Cond.code yX8_away prog_1_method_7_code 3 (some FieldType.int) ∈ gtbl := gt_r (i := 349) rfl rfl
theorem tw_394 : Cond.methodLink "RidePoolsLaw" 42 yX8_broken ∈ gtbl := gt_r (i := 350) rfl rfl
theorem tw_395 : Cond.instanceMethod yX8_broken ∈ gtbl := gt_r (i := 351) rfl rfl
theorem tw_396 : Cond.selects "RidePools" yX8_broken yX8_broken ∈ gtbl := gt_r (i := 352) rfl rfl
theorem tw_397 : Cond.code yX8_broken prog_1_method_8_code 3 (some FieldType.int) ∈ gtbl := gt_r (i := 353) rfl rfl
theorem tw_398 : Cond.methodLink "RidePools" 134 yX8_setBroken ∈ gtbl := gt_r (i := 354) rfl rfl
theorem tw_400 : Cond.instanceMethod yX8_setBroken ∈ gtbl := gt_r (i := 356) rfl rfl
set_option maxRecDepth 20000 in
theorem tw_401 : Cond.code yX8_setBroken prog_1_method_30_code 3 (some FieldType.boolean) ∈ gtbl := gt_r (i := 357) rfl rfl
set_option maxRecDepth 20000 in
theorem tw_402 : Cond.methodLink "RidePoolsLaw" 46 yX8_fits ∈ gtbl := gt_r (i := 358) rfl rfl
set_option maxRecDepth 20000 in
theorem tw_403 : Cond.instanceMethod yX8_fits ∈ gtbl := gt_r (i := 359) rfl rfl
set_option maxRecDepth 20000 in
theorem tw_404 : Cond.selects "RidePools" yX8_fits yX8_fits ∈ gtbl := gt_r (i := 360) rfl rfl
set_option maxRecDepth 20000 in
theorem tw_405 : Cond.code yX8_fits prog_1_method_9_code 4 (some FieldType.int) ∈ gtbl := gt_r (i := 361) rfl rfl
set_option maxRecDepth 20000 in
theorem tw_406 : Cond.methodLink "RidePools" 138 yX8_wrongRide ∈ gtbl := gt_r (i := 362) rfl rfl
set_option maxRecDepth 20000 in
theorem tw_408 : Cond.instanceMethod yX8_wrongRide ∈ gtbl := gt_r (i := 364) rfl rfl
set_option maxRecDepth 20000 in
theorem tw_409 : Cond.code yX8_wrongRide prog_1_method_29_code 3 (some FieldType.int) ∈ gtbl := gt_r (i := 365) rfl rfl
set_option maxRecDepth 20000 in
theorem tw_410 : Cond.methodLink "RidePools" 156 yX8_wrongSet ∈ gtbl := gt_r (i := 366) rfl rfl
set_option maxRecDepth 20000 in
theorem tw_412 : Cond.instanceMethod yX8_wrongSet ∈ gtbl := gt_r (i := 368) rfl rfl
set_option maxRecDepth 20000 in
theorem tw_413 : Cond.code yX8_wrongSet prog_1_method_28_code 2 (some FieldType.int) ∈ gtbl := gt_r (i := 369) rfl rfl
set_option maxRecDepth 20000 in
theorem tw_414 : Cond.methodLink "RidePools" 258 yX2_hasAll ∈ gtbl := gt_r (i := 370) rfl rfl
set_option maxRecDepth 20000 in
theorem tw_415 : Cond.instanceMethod yX2_hasAll ∈ gtbl := gt_r (i := 371) rfl rfl
set_option maxRecDepth 20000 in
theorem tw_416 : Cond.selects "RidePools$People" yX2_hasAll yX2_hasAll ∈ gtbl := gt_r (i := 372) rfl rfl
set_option maxRecDepth 20000 in
theorem tw_417 : Cond.code yX2_hasAll prog_4_method_5_code 2 (some FieldType.boolean) ∈ gtbl := gt_r (i := 373) rfl rfl
set_option maxRecDepth 20000 in
theorem tw_418 : Cond.methodLink "RidePools" 250 yJ6_bitCount_0f7a4 ∈ gtbl := gt_r (i := 374) rfl rfl
set_option maxRecDepth 20000 in
theorem tw_419 : Cond.static yJ6_bitCount_0f7a4 ∈ gtbl := gt_r (i := 375) rfl rfl
set_option maxRecDepth 20000 in
theorem tw_420 : Cond.code yJ6_bitCount_0f7a4 prog_12_method_49_code 1 (some FieldType.int) ∈ gtbl := gt_r (i := 376) rfl rfl
set_option maxRecDepth 20000 in
theorem tw_421 : Cond.constant "java/lang/Integer" 265 1431655765 ∈ gtbl := gt_r (i := 377) rfl rfl
set_option maxRecDepth 20000 in
theorem tw_422 : Cond.constant "java/lang/Integer" 266 858993459 ∈ gtbl := gt_r (i := 378) rfl rfl
set_option maxRecDepth 20000 in
theorem tw_423 : Cond.constant "java/lang/Integer" 267 252645135 ∈ gtbl := gt_r (i := 379) rfl rfl
set_option maxRecDepth 20000 in
theorem tw_424 : Cond.methodLink "RidePools" 261 yX2_someAway ∈ gtbl := gt_r (i := 380) rfl rfl
set_option maxRecDepth 20000 in
theorem tw_425 : Cond.instanceMethod yX2_someAway ∈ gtbl := gt_r (i := 381) rfl rfl
set_option maxRecDepth 20000 in
theorem tw_426 : Cond.selects "RidePools$People" yX2_someAway yX2_someAway ∈ gtbl := gt_r (i := 382) rfl rfl
set_option maxRecDepth 20000 in
theorem tw_427 : Cond.code yX2_someAway prog_4_method_9_code 2 (some FieldType.boolean) ∈ gtbl := gt_r (i := 383) rfl rfl
set_option maxRecDepth 20000 in
theorem tw_428 : Cond.methodLink "RidePools$People" 26 yX2_notAway ∈ gtbl := gt_r (i := 384) rfl rfl
set_option maxRecDepth 20000 in
theorem tw_429 : Cond.instanceMethod yX2_notAway ∈ gtbl := gt_r (i := 385) rfl rfl
set_option maxRecDepth 20000 in
theorem tw_430 : Cond.selects "RidePools$People" yX2_notAway yX2_notAway ∈ gtbl := gt_r (i := 386) rfl rfl
set_option maxRecDepth 20000 in
theorem tw_431 : Cond.code yX2_notAway prog_4_method_8_code 3 (some FieldType.int) ∈ gtbl := gt_r (i := 387) rfl rfl
set_option maxRecDepth 20000 in
theorem tw_432 : Cond.methodLink "RidePools" 141 yX7_reasonAgainst ∈ gtbl := gt_r (i := 388) rfl rfl
set_option maxRecDepth 20000 in
theorem tw_433 : Cond.instanceMethod yX7_reasonAgainst ∈ gtbl := gt_r (i := 389) rfl rfl
set_option maxRecDepth 20000 in
theorem tw_434 : Cond.selects "RidePools$WayFinder" yX7_reasonAgainst yX7_reasonAgainst ∈ gtbl := gt_r (i := 390) rfl rfl
set_option maxRecDepth 20000 in
theorem tw_435 : Cond.code yX7_reasonAgainst prog_9_method_2_code 4 (some FieldType.int) ∈ gtbl := gt_r (i := 391) rfl rfl
set_option maxRecDepth 20000 in
theorem tw_436 : Cond.methodLink "RidePools$WayFinder" 49 yX2_has ∈ gtbl := gt_r (i := 392) rfl rfl
set_option maxRecDepth 20000 in
theorem tw_437 : Cond.methodLink "RidePools$WayFinder" 55 yX2_at ∈ gtbl := gt_r (i := 393) rfl rfl
set_option maxRecDepth 20000 in
theorem tw_438 : Cond.methodLink "RidePools$WayFinder" 59 yX3_hasCar ∈ gtbl := gt_r (i := 394) rfl rfl
set_option maxRecDepth 20000 in
theorem tw_439 : Cond.instanceMethod yX3_hasCar ∈ gtbl := gt_r (i := 395) rfl rfl
set_option maxRecDepth 20000 in
theorem tw_440 : Cond.selects "RidePools$Person" yX3_hasCar yX3_hasCar ∈ gtbl := gt_r (i := 396) rfl rfl
set_option maxRecDepth 20000 in
theorem tw_441 : Cond.code yX3_hasCar prog_5_method_2_code 1 (some FieldType.boolean) ∈ gtbl := gt_r (i := 397) rfl rfl
set_option maxRecDepth 20000 in
theorem tw_442 : Cond.methodLink "RidePools$WayFinder" 65 yX2_seatsSuffice ∈ gtbl := gt_r (i := 398) rfl rfl
set_option maxRecDepth 20000 in
theorem tw_443 : Cond.instanceMethod yX2_seatsSuffice ∈ gtbl := gt_r (i := 399) rfl rfl
set_option maxRecDepth 20000 in
theorem tw_444 : Cond.selects "RidePools$People" yX2_seatsSuffice yX2_seatsSuffice ∈ gtbl := gt_r (i := 400) rfl rfl
set_option maxRecDepth 20000 in
theorem tw_445 : Cond.code yX2_seatsSuffice prog_4_method_11_code 5 (some FieldType.boolean) ∈ gtbl := gt_r (i := 401) rfl rfl
set_option maxRecDepth 20000 in
theorem tw_447 : Cond.methodLink "RidePools$People" 38 yX3_seatsTaken ∈ gtbl := gt_r (i := 403) rfl rfl
set_option maxRecDepth 20000 in
theorem tw_448 : Cond.instanceMethod yX3_seatsTaken ∈ gtbl := gt_r (i := 404) rfl rfl
set_option maxRecDepth 20000 in
theorem tw_449 : Cond.selects "RidePools$Person" yX3_seatsTaken yX3_seatsTaken ∈ gtbl := gt_r (i := 405) rfl rfl
set_option maxRecDepth 20000 in
theorem tw_450 : Cond.code yX3_seatsTaken prog_5_method_3_code 1 (some FieldType.int) ∈ gtbl := gt_r (i := 406) rfl rfl
set_option maxRecDepth 20000 in
theorem tw_451 : Cond.methodLink "RidePools$WayFinder" 69 yX2_hasBar ∈ gtbl := gt_r (i := 407) rfl rfl
set_option maxRecDepth 20000 in
theorem tw_452 : Cond.instanceMethod yX2_hasBar ∈ gtbl := gt_r (i := 408) rfl rfl
set_option maxRecDepth 20000 in
theorem tw_453 : Cond.selects "RidePools$People" yX2_hasBar yX2_hasBar ∈ gtbl := gt_r (i := 409) rfl rfl
set_option maxRecDepth 20000 in
theorem tw_454 : Cond.code yX2_hasBar prog_4_method_12_code 3 (some FieldType.boolean) ∈ gtbl := gt_r (i := 410) rfl rfl
set_option maxRecDepth 20000 in
theorem tw_455 : Cond.methodLink "RidePools$WayFinder" 72 yX7_load ∈ gtbl := gt_r (i := 411) rfl rfl
set_option maxRecDepth 20000 in
theorem tw_457 : Cond.instanceMethod yX7_load ∈ gtbl := gt_r (i := 413) rfl rfl
set_option maxRecDepth 20000 in
theorem tw_458 : Cond.code yX7_load prog_9_method_4_code 3 (none : Option FieldType) ∈ gtbl := gt_r (i := 414) rfl rfl
set_option maxRecDepth 20000 in
theorem tw_460 : Cond.methodLink "RidePools$WayFinder" 102 yX7_loadOne ∈ gtbl := gt_r (i := 416) rfl rfl
set_option maxRecDepth 20000 in
theorem tw_462 : Cond.instanceMethod yX7_loadOne ∈ gtbl := gt_r (i := 418) rfl rfl
set_option maxRecDepth 20000 in
theorem tw_463 : Cond.code yX7_loadOne prog_9_method_5_code 4 (none : Option FieldType) ∈ gtbl := gt_r (i := 419) rfl rfl
set_option maxRecDepth 20000 in
theorem tw_464 : Cond.methodLink "RidePools$WayFinder" 117 yX5_shortest ∈ gtbl := gt_r (i := 420) rfl rfl
set_option maxRecDepth 20000 in
theorem tw_465 : Cond.methodLink "RidePools$WayFinder" 76 yJ6_bitCount_0f7a4 ∈ gtbl := gt_r (i := 421) rfl rfl
set_option maxRecDepth 20000 in
theorem tw_466 : Cond.methodLink "RidePools$WayFinder" 88 yX7_allPlaces ∈ gtbl := gt_r (i := 422) rfl rfl
set_option maxRecDepth 20000 in
theorem tw_468 : Cond.instanceMethod yX7_allPlaces ∈ gtbl := gt_r (i := 424) rfl rfl
set_option maxRecDepth 20000 in
theorem tw_469 : Cond.code yX7_allPlaces prog_9_method_6_code 1 (some FieldType.int) ∈ gtbl := gt_r (i := 425) rfl rfl
set_option maxRecDepth 20000 in
theorem tw_470 : Cond.methodLink "RidePools$WayFinder" 92 yX7_pickNext ∈ gtbl := gt_r (i := 426) rfl rfl
set_option maxRecDepth 20000 in
theorem tw_472 : Cond.instanceMethod yX7_pickNext ∈ gtbl := gt_r (i := 428) rfl rfl
set_option maxRecDepth 20000 in
theorem tw_473 : Cond.code yX7_pickNext prog_9_method_7_code 8 (none : Option FieldType) ∈ gtbl := gt_r (i := 429) rfl rfl
set_option maxRecDepth 20000 in
theorem tw_474 : Cond.methodLink "RidePools$WayFinder" 126 yX7_bringNext ∈ gtbl := gt_r (i := 430) rfl rfl
set_option maxRecDepth 20000 in
theorem tw_476 : Cond.instanceMethod yX7_bringNext ∈ gtbl := gt_r (i := 432) rfl rfl
set_option maxRecDepth 20000 in
theorem tw_477 : Cond.code yX7_bringNext prog_9_method_8_code 11 (none : Option FieldType) ∈ gtbl := gt_r (i := 433) rfl rfl
set_option maxRecDepth 20000 in
theorem tw_478 : Cond.methodLink "RidePools$WayFinder" 138 yX6_copyOf ∈ gtbl := gt_r (i := 434) rfl rfl
set_option maxRecDepth 20000 in
theorem tw_479 : Cond.instanceMethod yX6_copyOf ∈ gtbl := gt_r (i := 435) rfl rfl
set_option maxRecDepth 20000 in
theorem tw_480 : Cond.selects "RidePools$Way" yX6_copyOf yX6_copyOf ∈ gtbl := gt_r (i := 436) rfl rfl
set_option maxRecDepth 20000 in
theorem tw_481 : Cond.code yX6_copyOf prog_8_method_2_code 3 (none : Option FieldType) ∈ gtbl := gt_r (i := 437) rfl rfl
set_option maxRecDepth 20000 in
theorem tw_482 : Cond.methodLink "RidePools$WayFinder" 142 yJ9_min_7cf53 ∈ gtbl := gt_r (i := 438) rfl rfl
set_option maxRecDepth 20000 in
theorem tw_483 : Cond.methodLink "RidePools$WayFinder" 130 yJ9_max_7cf53 ∈ gtbl := gt_r (i := 439) rfl rfl
set_option maxRecDepth 20000 in
theorem tw_484 : Cond.static yJ9_max_7cf53 ∈ gtbl := gt_r (i := 440) rfl rfl
set_option maxRecDepth 20000 in
theorem tw_485 : Cond.code yJ9_max_7cf53 prog_13_method_65_code 2 (some FieldType.int) ∈ gtbl := gt_r (i := 441) rfl rfl
set_option maxRecDepth 20000 in
theorem tw_486 : Cond.methodLink "RidePools" 144 yX7_found ∈ gtbl := gt_r (i := 442) rfl rfl
set_option maxRecDepth 20000 in
theorem tw_487 : Cond.instanceMethod yX7_found ∈ gtbl := gt_r (i := 443) rfl rfl
set_option maxRecDepth 20000 in
theorem tw_488 : Cond.selects "RidePools$WayFinder" yX7_found yX7_found ∈ gtbl := gt_r (i := 444) rfl rfl
set_option maxRecDepth 20000 in
theorem tw_489 : Cond.code yX7_found prog_9_method_3_code 1 (some (FieldType.object "RidePools$Way")) ∈ gtbl := gt_r (i := 445) rfl rfl
set_option maxRecDepth 20000 in
theorem tw_490 : Cond.methodLink "RidePoolsLaw" 50 yX8_why ∈ gtbl := gt_r (i := 446) rfl rfl
set_option maxRecDepth 20000 in
theorem tw_491 : Cond.instanceMethod yX8_why ∈ gtbl := gt_r (i := 447) rfl rfl
set_option maxRecDepth 20000 in
theorem tw_492 : Cond.selects "RidePools" yX8_why yX8_why ∈ gtbl := gt_r (i := 448) rfl rfl
set_option maxRecDepth 20000 in
theorem tw_493 : Cond.code yX8_why prog_1_method_10_code 4 (some FieldType.int) ∈ gtbl := gt_r (i := 449) rfl rfl
set_option maxRecDepth 20000 in
theorem tw_494 : Cond.methodLink "RidePoolsLaw" 54 yX8_way ∈ gtbl := gt_r (i := 450) rfl rfl
set_option maxRecDepth 20000 in
theorem tw_495 : Cond.instanceMethod yX8_way ∈ gtbl := gt_r (i := 451) rfl rfl
set_option maxRecDepth 20000 in
theorem tw_496 : Cond.selects "RidePools" yX8_way yX8_way ∈ gtbl := gt_r (i := 452) rfl rfl
set_option maxRecDepth 20000 in
theorem tw_497 : Cond.code yX8_way prog_1_method_11_code 5 (some FieldType.int) ∈ gtbl := gt_r (i := 453) rfl rfl
set_option maxRecDepth 20000 in
theorem tw_498 : Cond.methodLink "RidePools" 153 yX6_tell ∈ gtbl := gt_r (i := 454) rfl rfl
set_option maxRecDepth 20000 in
theorem tw_499 : Cond.instanceMethod yX6_tell ∈ gtbl := gt_r (i := 455) rfl rfl
set_option maxRecDepth 20000 in
theorem tw_500 : Cond.selects "RidePools$Way" yX6_tell yX6_tell ∈ gtbl := gt_r (i := 456) rfl rfl
set_option maxRecDepth 20000 in
theorem tw_501 : Cond.code yX6_tell prog_8_method_3_code 2 (some FieldType.int) ∈ gtbl := gt_r (i := 457) rfl rfl
set_option maxRecDepth 20000 in
theorem tw_502 : Cond.methodLink "RidePoolsLaw" 58 yX8_cost ∈ gtbl := gt_r (i := 458) rfl rfl
set_option maxRecDepth 20000 in
theorem tw_503 : Cond.instanceMethod yX8_cost ∈ gtbl := gt_r (i := 459) rfl rfl
set_option maxRecDepth 20000 in
theorem tw_504 : Cond.selects "RidePools" yX8_cost yX8_cost ∈ gtbl := gt_r (i := 460) rfl rfl
set_option maxRecDepth 20000 in
theorem tw_505 : Cond.code yX8_cost prog_1_method_12_code 3 (some FieldType.int) ∈ gtbl := gt_r (i := 461) rfl rfl
set_option maxRecDepth 20000 in
theorem tw_506 : Cond.methodLink "RidePools" 159 yX0_learn ∈ gtbl := gt_r (i := 462) rfl rfl
set_option maxRecDepth 20000 in
theorem tw_507 : Cond.instanceMethod yX0_learn ∈ gtbl := gt_r (i := 463) rfl rfl
set_option maxRecDepth 20000 in
theorem tw_508 : Cond.selects "RidePools$Costs" yX0_learn yX0_learn ∈ gtbl := gt_r (i := 464) rfl rfl
set_option maxRecDepth 20000 in
theorem tw_509 : Cond.code yX0_learn prog_2_method_6_code 3 (none : Option FieldType) ∈ gtbl := gt_r (i := 465) rfl rfl
set_option maxRecDepth 20000 in
theorem tw_511 : Cond.methodLink "RidePools$Costs" 42 yX7_reasonAgainst ∈ gtbl := gt_r (i := 467) rfl rfl
set_option maxRecDepth 20000 in
theorem tw_512 : Cond.methodLink "RidePools$Costs" 48 yX7_found ∈ gtbl := gt_r (i := 468) rfl rfl
set_option maxRecDepth 20000 in
theorem tw_513 : Cond.methodLink "RidePools$Costs" 58 yX0_takeIfFewer ∈ gtbl := gt_r (i := 469) rfl rfl
set_option maxRecDepth 20000 in
theorem tw_515 : Cond.instanceMethod yX0_takeIfFewer ∈ gtbl := gt_r (i := 471) rfl rfl
set_option maxRecDepth 20000 in
theorem tw_516 : Cond.code yX0_takeIfFewer prog_2_method_7_code 4 (none : Option FieldType) ∈ gtbl := gt_r (i := 472) rfl rfl
set_option maxRecDepth 20000 in
theorem tw_517 : Cond.methodLink "RidePools" 162 yX0_minutesFor ∈ gtbl := gt_r (i := 473) rfl rfl
set_option maxRecDepth 20000 in
theorem tw_518 : Cond.instanceMethod yX0_minutesFor ∈ gtbl := gt_r (i := 474) rfl rfl
set_option maxRecDepth 20000 in
theorem tw_519 : Cond.selects "RidePools$Costs" yX0_minutesFor yX0_minutesFor ∈ gtbl := gt_r (i := 475) rfl rfl
set_option maxRecDepth 20000 in
theorem tw_520 : Cond.code yX0_minutesFor prog_2_method_2_code 2 (some FieldType.int) ∈ gtbl := gt_r (i := 476) rfl rfl
set_option maxRecDepth 20000 in
theorem tw_521 : Cond.methodLink "RidePoolsLaw" 63 yX8_driver ∈ gtbl := gt_r (i := 477) rfl rfl
set_option maxRecDepth 20000 in
theorem tw_522 : Cond.instanceMethod yX8_driver ∈ gtbl := gt_r (i := 478) rfl rfl
set_option maxRecDepth 20000 in
theorem tw_523 : Cond.selects "RidePools" yX8_driver yX8_driver ∈ gtbl := gt_r (i := 479) rfl rfl
set_option maxRecDepth 20000 in
theorem tw_524 : Cond.code yX8_driver prog_1_method_13_code 3 (some FieldType.int) ∈ gtbl := gt_r (i := 480) rfl rfl
set_option maxRecDepth 20000 in
theorem tw_525 : Cond.methodLink "RidePools" 165 yX0_driverFor ∈ gtbl := gt_r (i := 481) rfl rfl
set_option maxRecDepth 20000 in
theorem tw_526 : Cond.instanceMethod yX0_driverFor ∈ gtbl := gt_r (i := 482) rfl rfl
set_option maxRecDepth 20000 in
theorem tw_527 : Cond.selects "RidePools$Costs" yX0_driverFor yX0_driverFor ∈ gtbl := gt_r (i := 483) rfl rfl
set_option maxRecDepth 20000 in
theorem tw_528 : Cond.code yX0_driverFor prog_2_method_3_code 2 (some FieldType.int) ∈ gtbl := gt_r (i := 484) rfl rfl
set_option maxRecDepth 20000 in
theorem tw_529 : Cond.methodLink "RidePoolsLaw" 67 yX8_turn ∈ gtbl := gt_r (i := 485) rfl rfl
set_option maxRecDepth 20000 in
theorem tw_530 : Cond.instanceMethod yX8_turn ∈ gtbl := gt_r (i := 486) rfl rfl
set_option maxRecDepth 20000 in
theorem tw_531 : Cond.selects "RidePools" yX8_turn yX8_turn ∈ gtbl := gt_r (i := 487) rfl rfl
set_option maxRecDepth 20000 in
theorem tw_532 : Cond.code yX8_turn prog_1_method_14_code 3 (some FieldType.int) ∈ gtbl := gt_r (i := 488) rfl rfl
set_option maxRecDepth 20000 in
theorem tw_533 : Cond.methodLink "RidePools" 168 yX8_whoseTurn ∈ gtbl := gt_r (i := 489) rfl rfl
set_option maxRecDepth 20000 in
theorem tw_535 : Cond.instanceMethod yX8_whoseTurn ∈ gtbl := gt_r (i := 491) rfl rfl
set_option maxRecDepth 20000 in
theorem tw_536 : Cond.code yX8_whoseTurn prog_1_method_31_code 5 (some FieldType.int) ∈ gtbl := gt_r (i := 492) rfl rfl
set_option maxRecDepth 20000 in
theorem tw_537 : Cond.methodLink "RidePoolsLaw" 71 yX8_plan ∈ gtbl := gt_r (i := 493) rfl rfl
set_option maxRecDepth 20000 in
theorem tw_538 : Cond.instanceMethod yX8_plan ∈ gtbl := gt_r (i := 494) rfl rfl
set_option maxRecDepth 20000 in
theorem tw_539 : Cond.selects "RidePools" yX8_plan yX8_plan ∈ gtbl := gt_r (i := 495) rfl rfl
set_option maxRecDepth 20000 in
theorem tw_540 : Cond.code yX8_plan prog_1_method_15_code 5 (some FieldType.int) ∈ gtbl := gt_r (i := 496) rfl rfl
set_option maxRecDepth 20000 in
theorem tw_541 : Cond.methodLink "RidePools" 171 yX2_notAway ∈ gtbl := gt_r (i := 497) rfl rfl
set_option maxRecDepth 20000 in
theorem tw_542 : Cond.methodLink "RidePools" 174 yX0_learnAll ∈ gtbl := gt_r (i := 498) rfl rfl
set_option maxRecDepth 20000 in
theorem tw_543 : Cond.instanceMethod yX0_learnAll ∈ gtbl := gt_r (i := 499) rfl rfl
set_option maxRecDepth 20000 in
theorem tw_544 : Cond.selects "RidePools$Costs" yX0_learnAll yX0_learnAll ∈ gtbl := gt_r (i := 500) rfl rfl
set_option maxRecDepth 20000 in
theorem tw_545 : Cond.code yX0_learnAll prog_2_method_5_code 3 (none : Option FieldType) ∈ gtbl := gt_r (i := 501) rfl rfl
set_option maxRecDepth 20000 in
theorem tw_546 : Cond.methodLink "RidePools$Costs" 28 yJ6_bitCount_0f7a4 ∈ gtbl := gt_r (i := 502) rfl rfl
set_option maxRecDepth 20000 in
theorem tw_547 : Cond.methodLink "RidePools$Costs" 34 yX0_learn ∈ gtbl := gt_r (i := 503) rfl rfl
set_option maxRecDepth 20000 in
theorem tw_548 : Cond.methodLink "RidePools" 177 yX1_findBest ∈ gtbl := gt_r (i := 504) rfl rfl
set_option maxRecDepth 20000 in
theorem tw_549 : Cond.instanceMethod yX1_findBest ∈ gtbl := gt_r (i := 505) rfl rfl
set_option maxRecDepth 20000 in
theorem tw_550 : Cond.selects "RidePools$Parting" yX1_findBest yX1_findBest ∈ gtbl := gt_r (i := 506) rfl rfl
set_option maxRecDepth 20000 in
theorem tw_551 : Cond.code yX1_findBest prog_3_method_3_code 2 (some FieldType.int) ∈ gtbl := gt_r (i := 507) rfl rfl
set_option maxRecDepth 20000 in
theorem tw_552 : Cond.methodLink "RidePools$Parting" 23 yX1_findAll ∈ gtbl := gt_r (i := 508) rfl rfl
set_option maxRecDepth 20000 in
theorem tw_554 : Cond.instanceMethod yX1_findAll ∈ gtbl := gt_r (i := 510) rfl rfl
set_option maxRecDepth 20000 in
theorem tw_555 : Cond.code yX1_findAll prog_3_method_6_code 4 (some FieldType.int) ∈ gtbl := gt_r (i := 511) rfl rfl
set_option maxRecDepth 20000 in
theorem tw_556 : Cond.methodLink "RidePools$Parting" 27 yX1_choose ∈ gtbl := gt_r (i := 512) rfl rfl
set_option maxRecDepth 20000 in
theorem tw_558 : Cond.instanceMethod yX1_choose ∈ gtbl := gt_r (i := 514) rfl rfl
set_option maxRecDepth 20000 in
theorem tw_559 : Cond.code yX1_choose prog_3_method_7_code 8 (none : Option FieldType) ∈ gtbl := gt_r (i := 515) rfl rfl
set_option maxRecDepth 20000 in
theorem tw_560 : Cond.constant "RidePools$Parting" 22 1000000 ∈ gtbl := gt_r (i := 516) rfl rfl
set_option maxRecDepth 20000 in
theorem tw_561 : Cond.methodLink "RidePools$Parting" 31 yJ6_bitCount_0f7a4 ∈ gtbl := gt_r (i := 517) rfl rfl
set_option maxRecDepth 20000 in
theorem tw_562 : Cond.methodLink "RidePools$Parting" 37 yX1_tryPool ∈ gtbl := gt_r (i := 518) rfl rfl
set_option maxRecDepth 20000 in
theorem tw_564 : Cond.instanceMethod yX1_tryPool ∈ gtbl := gt_r (i := 520) rfl rfl
set_option maxRecDepth 20000 in
theorem tw_565 : Cond.code yX1_tryPool prog_3_method_8_code 6 (none : Option FieldType) ∈ gtbl := gt_r (i := 521) rfl rfl
set_option maxRecDepth 20000 in
theorem tw_566 : Cond.methodLink "RidePools$Parting" 41 yX0_minutesFor ∈ gtbl := gt_r (i := 522) rfl rfl
set_option maxRecDepth 20000 in
theorem tw_567 : Cond.methodLink "RidePools" 180 yX4_begin ∈ gtbl := gt_r (i := 523) rfl rfl
set_option maxRecDepth 20000 in
theorem tw_568 : Cond.instanceMethod yX4_begin ∈ gtbl := gt_r (i := 524) rfl rfl
set_option maxRecDepth 20000 in
theorem tw_569 : Cond.selects "RidePools$Plan" yX4_begin yX4_begin ∈ gtbl := gt_r (i := 525) rfl rfl
set_option maxRecDepth 20000 in
theorem tw_570 : Cond.code yX4_begin prog_6_method_3_code 1 (none : Option FieldType) ∈ gtbl := gt_r (i := 526) rfl rfl
set_option maxRecDepth 20000 in
theorem tw_571 : Cond.methodLink "RidePools$Plan" 35 yJ7_fill_53178 ∈ gtbl := gt_r (i := 527) rfl rfl
set_option maxRecDepth 20000 in
theorem tw_572 : Cond.methodLink "RidePools" 183 yX1_choiceFor ∈ gtbl := gt_r (i := 528) rfl rfl
set_option maxRecDepth 20000 in
theorem tw_573 : Cond.instanceMethod yX1_choiceFor ∈ gtbl := gt_r (i := 529) rfl rfl
set_option maxRecDepth 20000 in
theorem tw_574 : Cond.selects "RidePools$Parting" yX1_choiceFor yX1_choiceFor ∈ gtbl := gt_r (i := 530) rfl rfl
set_option maxRecDepth 20000 in
theorem tw_575 : Cond.code yX1_choiceFor prog_3_method_5_code 2 (some FieldType.int) ∈ gtbl := gt_r (i := 531) rfl rfl
set_option maxRecDepth 20000 in
theorem tw_576 : Cond.methodLink "RidePools" 186 yX8_takeIntoPlan ∈ gtbl := gt_r (i := 532) rfl rfl
set_option maxRecDepth 20000 in
theorem tw_578 : Cond.instanceMethod yX8_takeIntoPlan ∈ gtbl := gt_r (i := 534) rfl rfl
set_option maxRecDepth 20000 in
theorem tw_579 : Cond.code yX8_takeIntoPlan prog_1_method_32_code 3 (none : Option FieldType) ∈ gtbl := gt_r (i := 535) rfl rfl
set_option maxRecDepth 20000 in
theorem tw_580 : Cond.methodLink "RidePools" 237 yX4_leave ∈ gtbl := gt_r (i := 536) rfl rfl
set_option maxRecDepth 20000 in
theorem tw_581 : Cond.instanceMethod yX4_leave ∈ gtbl := gt_r (i := 537) rfl rfl
set_option maxRecDepth 20000 in
theorem tw_582 : Cond.selects "RidePools$Plan" yX4_leave yX4_leave ∈ gtbl := gt_r (i := 538) rfl rfl
set_option maxRecDepth 20000 in
theorem tw_583 : Cond.code yX4_leave prog_6_method_5_code 2 (none : Option FieldType) ∈ gtbl := gt_r (i := 539) rfl rfl
set_option maxRecDepth 20000 in
theorem tw_584 : Cond.methodLink "RidePools" 264 yX8_putIntoPlan ∈ gtbl := gt_r (i := 540) rfl rfl
set_option maxRecDepth 20000 in
theorem tw_586 : Cond.instanceMethod yX8_putIntoPlan ∈ gtbl := gt_r (i := 542) rfl rfl
set_option maxRecDepth 20000 in
theorem tw_587 : Cond.code yX8_putIntoPlan prog_1_method_33_code 3 (some FieldType.boolean) ∈ gtbl := gt_r (i := 543) rfl rfl
set_option maxRecDepth 20000 in
theorem tw_588 : Cond.methodLink "RidePools" 267 yX4_put ∈ gtbl := gt_r (i := 544) rfl rfl
set_option maxRecDepth 20000 in
theorem tw_589 : Cond.instanceMethod yX4_put ∈ gtbl := gt_r (i := 545) rfl rfl
set_option maxRecDepth 20000 in
theorem tw_590 : Cond.selects "RidePools$Plan" yX4_put yX4_put ∈ gtbl := gt_r (i := 546) rfl rfl
set_option maxRecDepth 20000 in
theorem tw_591 : Cond.code yX4_put prog_6_method_4_code 6 (none : Option FieldType) ∈ gtbl := gt_r (i := 547) rfl rfl
set_option maxRecDepth 20000 in
theorem tw_592 : Cond.methodLink "RidePools" 190 yX4_pools ∈ gtbl := gt_r (i := 548) rfl rfl
set_option maxRecDepth 20000 in
theorem tw_593 : Cond.instanceMethod yX4_pools ∈ gtbl := gt_r (i := 549) rfl rfl
set_option maxRecDepth 20000 in
theorem tw_594 : Cond.selects "RidePools$Plan" yX4_pools yX4_pools ∈ gtbl := gt_r (i := 550) rfl rfl
set_option maxRecDepth 20000 in
theorem tw_595 : Cond.code yX4_pools prog_6_method_11_code 3 (some FieldType.int) ∈ gtbl := gt_r (i := 551) rfl rfl
set_option maxRecDepth 20000 in
theorem tw_596 : Cond.methodLink "RidePools$Plan" 64 yX4_leads ∈ gtbl := gt_r (i := 552) rfl rfl
set_option maxRecDepth 20000 in
theorem tw_597 : Cond.instanceMethod yX4_leads ∈ gtbl := gt_r (i := 553) rfl rfl
set_option maxRecDepth 20000 in
theorem tw_598 : Cond.selects "RidePools$Plan" yX4_leads yX4_leads ∈ gtbl := gt_r (i := 554) rfl rfl
set_option maxRecDepth 20000 in
theorem tw_599 : Cond.code yX4_leads prog_6_method_7_code 2 (some FieldType.boolean) ∈ gtbl := gt_r (i := 555) rfl rfl
set_option maxRecDepth 20000 in
theorem tw_600 : Cond.methodLink "RidePoolsLaw" 76 yX8_planOf ∈ gtbl := gt_r (i := 556) rfl rfl
set_option maxRecDepth 20000 in
theorem tw_601 : Cond.instanceMethod yX8_planOf ∈ gtbl := gt_r (i := 557) rfl rfl
set_option maxRecDepth 20000 in
theorem tw_602 : Cond.selects "RidePools" yX8_planOf yX8_planOf ∈ gtbl := gt_r (i := 558) rfl rfl
set_option maxRecDepth 20000 in
theorem tw_603 : Cond.code yX8_planOf prog_1_method_16_code 2 (some FieldType.int) ∈ gtbl := gt_r (i := 559) rfl rfl
set_option maxRecDepth 20000 in
theorem tw_604 : Cond.methodLink "RidePools" 193 yX4_isMade ∈ gtbl := gt_r (i := 560) rfl rfl
set_option maxRecDepth 20000 in
theorem tw_605 : Cond.instanceMethod yX4_isMade ∈ gtbl := gt_r (i := 561) rfl rfl
set_option maxRecDepth 20000 in
theorem tw_606 : Cond.selects "RidePools$Plan" yX4_isMade yX4_isMade ∈ gtbl := gt_r (i := 562) rfl rfl
set_option maxRecDepth 20000 in
theorem tw_607 : Cond.code yX4_isMade prog_6_method_2_code 1 (some FieldType.boolean) ∈ gtbl := gt_r (i := 563) rfl rfl
set_option maxRecDepth 20000 in
theorem tw_608 : Cond.methodLink "RidePools" 196 yX4_leftCount ∈ gtbl := gt_r (i := 564) rfl rfl
set_option maxRecDepth 20000 in
theorem tw_609 : Cond.instanceMethod yX4_leftCount ∈ gtbl := gt_r (i := 565) rfl rfl
set_option maxRecDepth 20000 in
theorem tw_610 : Cond.selects "RidePools$Plan" yX4_leftCount yX4_leftCount ∈ gtbl := gt_r (i := 566) rfl rfl
set_option maxRecDepth 20000 in
theorem tw_611 : Cond.code yX4_leftCount prog_6_method_12_code 1 (some FieldType.int) ∈ gtbl := gt_r (i := 567) rfl rfl
set_option maxRecDepth 20000 in
theorem tw_612 : Cond.methodLink "RidePools$Plan" 68 yJ6_bitCount_0f7a4 ∈ gtbl := gt_r (i := 568) rfl rfl
set_option maxRecDepth 20000 in
theorem tw_613 : Cond.methodLink "RidePools" 199 yX4_minutesTogether ∈ gtbl := gt_r (i := 569) rfl rfl
set_option maxRecDepth 20000 in
theorem tw_614 : Cond.instanceMethod yX4_minutesTogether ∈ gtbl := gt_r (i := 570) rfl rfl
set_option maxRecDepth 20000 in
theorem tw_615 : Cond.selects "RidePools$Plan" yX4_minutesTogether yX4_minutesTogether ∈ gtbl := gt_r (i := 571) rfl rfl
set_option maxRecDepth 20000 in
theorem tw_616 : Cond.code yX4_minutesTogether prog_6_method_13_code 3 (some FieldType.int) ∈ gtbl := gt_r (i := 572) rfl rfl
set_option maxRecDepth 20000 in
theorem tw_617 : Cond.methodLink "RidePools" 202 yX4_personsInPools ∈ gtbl := gt_r (i := 573) rfl rfl
set_option maxRecDepth 20000 in
theorem tw_618 : Cond.instanceMethod yX4_personsInPools ∈ gtbl := gt_r (i := 574) rfl rfl
set_option maxRecDepth 20000 in
theorem tw_619 : Cond.selects "RidePools$Plan" yX4_personsInPools yX4_personsInPools ∈ gtbl := gt_r (i := 575) rfl rfl
set_option maxRecDepth 20000 in
theorem tw_620 : Cond.code yX4_personsInPools prog_6_method_14_code 3 (some FieldType.int) ∈ gtbl := gt_r (i := 576) rfl rfl
set_option maxRecDepth 20000 in
theorem tw_621 : Cond.methodLink "RidePoolsLaw" 80 yX8_poolOf ∈ gtbl := gt_r (i := 577) rfl rfl
set_option maxRecDepth 20000 in
theorem tw_622 : Cond.instanceMethod yX8_poolOf ∈ gtbl := gt_r (i := 578) rfl rfl
set_option maxRecDepth 20000 in
theorem tw_623 : Cond.selects "RidePools" yX8_poolOf yX8_poolOf ∈ gtbl := gt_r (i := 579) rfl rfl
set_option maxRecDepth 20000 in
theorem tw_624 : Cond.code yX8_poolOf prog_1_method_17_code 3 (some FieldType.int) ∈ gtbl := gt_r (i := 580) rfl rfl
set_option maxRecDepth 20000 in
theorem tw_625 : Cond.methodLink "RidePools" 205 yX4_tell ∈ gtbl := gt_r (i := 581) rfl rfl
set_option maxRecDepth 20000 in
theorem tw_626 : Cond.instanceMethod yX4_tell ∈ gtbl := gt_r (i := 582) rfl rfl
set_option maxRecDepth 20000 in
theorem tw_627 : Cond.selects "RidePools$Plan" yX4_tell yX4_tell ∈ gtbl := gt_r (i := 583) rfl rfl
set_option maxRecDepth 20000 in
theorem tw_628 : Cond.code yX4_tell prog_6_method_16_code 3 (some FieldType.int) ∈ gtbl := gt_r (i := 584) rfl rfl
set_option maxRecDepth 20000 in
theorem tw_629 : Cond.methodLink "RidePoolsLaw" 84 yX8_same ∈ gtbl := gt_r (i := 585) rfl rfl
set_option maxRecDepth 20000 in
theorem tw_630 : Cond.instanceMethod yX8_same ∈ gtbl := gt_r (i := 586) rfl rfl
set_option maxRecDepth 20000 in
theorem tw_631 : Cond.selects "RidePools" yX8_same yX8_same ∈ gtbl := gt_r (i := 587) rfl rfl
set_option maxRecDepth 20000 in
theorem tw_632 : Cond.code yX8_same prog_1_method_18_code 4 (some FieldType.int) ∈ gtbl := gt_r (i := 588) rfl rfl
set_option maxRecDepth 20000 in
theorem tw_633 : Cond.methodLink "RidePools" 207 yX1_worthOf ∈ gtbl := gt_r (i := 589) rfl rfl
set_option maxRecDepth 20000 in
theorem tw_634 : Cond.static yX1_worthOf ∈ gtbl := gt_r (i := 590) rfl rfl
set_option maxRecDepth 20000 in
theorem tw_635 : Cond.code yX1_worthOf prog_3_method_2_code 3 (some FieldType.int) ∈ gtbl := gt_r (i := 591) rfl rfl
set_option maxRecDepth 20000 in
theorem tw_636 : Cond.methodLink "RidePoolsLaw" 88 yX8_even ∈ gtbl := gt_r (i := 592) rfl rfl
set_option maxRecDepth 20000 in
theorem tw_637 : Cond.instanceMethod yX8_even ∈ gtbl := gt_r (i := 593) rfl rfl
set_option maxRecDepth 20000 in
theorem tw_638 : Cond.selects "RidePools" yX8_even yX8_even ∈ gtbl := gt_r (i := 594) rfl rfl
set_option maxRecDepth 20000 in
theorem tw_639 : Cond.code yX8_even prog_1_method_19_code 3 (some FieldType.int) ∈ gtbl := gt_r (i := 595) rfl rfl
set_option maxRecDepth 20000 in
theorem tw_640 : Cond.methodLink "RidePools" 210 yX4_leads ∈ gtbl := gt_r (i := 596) rfl rfl
set_option maxRecDepth 20000 in
theorem tw_641 : Cond.methodLink "RidePools" 213 yX4_poolAt ∈ gtbl := gt_r (i := 597) rfl rfl
set_option maxRecDepth 20000 in
theorem tw_642 : Cond.instanceMethod yX4_poolAt ∈ gtbl := gt_r (i := 598) rfl rfl
set_option maxRecDepth 20000 in
theorem tw_643 : Cond.selects "RidePools$Plan" yX4_poolAt yX4_poolAt ∈ gtbl := gt_r (i := 599) rfl rfl
set_option maxRecDepth 20000 in
theorem tw_644 : Cond.code yX4_poolAt prog_6_method_9_code 2 (some FieldType.int) ∈ gtbl := gt_r (i := 600) rfl rfl
set_option maxRecDepth 20000 in
theorem tw_645 : Cond.methodLink "RidePools" 216 yX4_driverAt ∈ gtbl := gt_r (i := 601) rfl rfl
set_option maxRecDepth 20000 in
theorem tw_646 : Cond.instanceMethod yX4_driverAt ∈ gtbl := gt_r (i := 602) rfl rfl
set_option maxRecDepth 20000 in
theorem tw_647 : Cond.selects "RidePools$Plan" yX4_driverAt yX4_driverAt ∈ gtbl := gt_r (i := 603) rfl rfl
set_option maxRecDepth 20000 in
theorem tw_648 : Cond.code yX4_driverAt prog_6_method_10_code 2 (some FieldType.int) ∈ gtbl := gt_r (i := 604) rfl rfl
set_option maxRecDepth 20000 in
theorem tw_649 : Cond.methodLink "RidePools" 219 yX8_evenOut ∈ gtbl := gt_r (i := 605) rfl rfl
set_option maxRecDepth 20000 in
theorem tw_651 : Cond.instanceMethod yX8_evenOut ∈ gtbl := gt_r (i := 607) rfl rfl
set_option maxRecDepth 20000 in
theorem tw_652 : Cond.code yX8_evenOut prog_1_method_34_code 4 (some FieldType.boolean) ∈ gtbl := gt_r (i := 608) rfl rfl
set_option maxRecDepth 20000 in
theorem tw_653 : Cond.methodLink "RidePoolsLaw" 92 yX8_mornings ∈ gtbl := gt_r (i := 609) rfl rfl
set_option maxRecDepth 20000 in
theorem tw_654 : Cond.instanceMethod yX8_mornings ∈ gtbl := gt_r (i := 610) rfl rfl
set_option maxRecDepth 20000 in
theorem tw_655 : Cond.selects "RidePools" yX8_mornings yX8_mornings ∈ gtbl := gt_r (i := 611) rfl rfl
set_option maxRecDepth 20000 in
theorem tw_656 : Cond.code yX8_mornings prog_1_method_20_code 3 (some FieldType.int) ∈ gtbl := gt_r (i := 612) rfl rfl
set_option maxRecDepth 20000 in
theorem tw_657 : Cond.methodLink "RidePools" 225 yX4_pointsEachMorning ∈ gtbl := gt_r (i := 613) rfl rfl
set_option maxRecDepth 20000 in
theorem tw_658 : Cond.instanceMethod yX4_pointsEachMorning ∈ gtbl := gt_r (i := 614) rfl rfl
set_option maxRecDepth 20000 in
theorem tw_659 : Cond.selects "RidePools$Plan" yX4_pointsEachMorning yX4_pointsEachMorning ∈ gtbl := gt_r (i := 615) rfl rfl
set_option maxRecDepth 20000 in
theorem tw_660 : Cond.code yX4_pointsEachMorning prog_6_method_15_code 3 (some FieldType.int) ∈ gtbl := gt_r (i := 616) rfl rfl
set_option maxRecDepth 20000 in
theorem tw_661 : Cond.methodLink "RidePoolsLaw" 96 yX8_fail ∈ gtbl := gt_r (i := 617) rfl rfl
set_option maxRecDepth 20000 in
theorem tw_662 : Cond.instanceMethod yX8_fail ∈ gtbl := gt_r (i := 618) rfl rfl
set_option maxRecDepth 20000 in
theorem tw_663 : Cond.selects "RidePools" yX8_fail yX8_fail ∈ gtbl := gt_r (i := 619) rfl rfl
set_option maxRecDepth 20000 in
theorem tw_664 : Cond.code yX8_fail prog_1_method_21_code 5 (some FieldType.int) ∈ gtbl := gt_r (i := 620) rfl rfl
set_option maxRecDepth 20000 in
theorem tw_665 : Cond.methodLink "RidePools" 228 yX4_drives ∈ gtbl := gt_r (i := 621) rfl rfl
set_option maxRecDepth 20000 in
theorem tw_666 : Cond.instanceMethod yX4_drives ∈ gtbl := gt_r (i := 622) rfl rfl
set_option maxRecDepth 20000 in
theorem tw_667 : Cond.selects "RidePools$Plan" yX4_drives yX4_drives ∈ gtbl := gt_r (i := 623) rfl rfl
set_option maxRecDepth 20000 in
theorem tw_668 : Cond.code yX4_drives prog_6_method_8_code 2 (some FieldType.boolean) ∈ gtbl := gt_r (i := 624) rfl rfl
set_option maxRecDepth 20000 in
theorem tw_669 : Cond.methodLink "RidePools" 231 yX4_dissolve ∈ gtbl := gt_r (i := 625) rfl rfl
set_option maxRecDepth 20000 in
theorem tw_670 : Cond.instanceMethod yX4_dissolve ∈ gtbl := gt_r (i := 626) rfl rfl
set_option maxRecDepth 20000 in
theorem tw_671 : Cond.selects "RidePools$Plan" yX4_dissolve yX4_dissolve ∈ gtbl := gt_r (i := 627) rfl rfl
set_option maxRecDepth 20000 in
theorem tw_672 : Cond.code yX4_dissolve prog_6_method_6_code 3 (none : Option FieldType) ∈ gtbl := gt_r (i := 628) rfl rfl
set_option maxRecDepth 20000 in
theorem tw_674 : Cond.methodLink "RidePools" 234 yX8_findPlace ∈ gtbl := gt_r (i := 630) rfl rfl
set_option maxRecDepth 20000 in
theorem tw_676 : Cond.instanceMethod yX8_findPlace ∈ gtbl := gt_r (i := 632) rfl rfl
set_option maxRecDepth 20000 in
theorem tw_677 : Cond.code yX8_findPlace prog_1_method_35_code 3 (some FieldType.boolean) ∈ gtbl := gt_r (i := 633) rfl rfl
set_option maxRecDepth 20000 in
theorem tw_678 : Cond.methodLink "RidePools" 271 yX8_isOpen ∈ gtbl := gt_r (i := 634) rfl rfl
set_option maxRecDepth 20000 in
theorem tw_680 : Cond.instanceMethod yX8_isOpen ∈ gtbl := gt_r (i := 636) rfl rfl
set_option maxRecDepth 20000 in
theorem tw_681 : Cond.code yX8_isOpen prog_1_method_36_code 3 (some FieldType.boolean) ∈ gtbl := gt_r (i := 637) rfl rfl
set_option maxRecDepth 20000 in
theorem tw_682 : Cond.methodLink "RidePoolsLaw" 100 yX8_few ∈ gtbl := gt_r (i := 638) rfl rfl
set_option maxRecDepth 20000 in
theorem tw_683 : Cond.instanceMethod yX8_few ∈ gtbl := gt_r (i := 639) rfl rfl
set_option maxRecDepth 20000 in
theorem tw_684 : Cond.selects "RidePools" yX8_few yX8_few ∈ gtbl := gt_r (i := 640) rfl rfl
set_option maxRecDepth 20000 in
theorem tw_685 : Cond.code yX8_few prog_1_method_22_code 2 (some FieldType.int) ∈ gtbl := gt_r (i := 641) rfl rfl
set_option maxRecDepth 20000 in
theorem tw_686 : Cond.methodLink "RidePools" 240 yX1_fewestPools ∈ gtbl := gt_r (i := 642) rfl rfl
set_option maxRecDepth 20000 in
theorem tw_687 : Cond.instanceMethod yX1_fewestPools ∈ gtbl := gt_r (i := 643) rfl rfl
set_option maxRecDepth 20000 in
theorem tw_688 : Cond.selects "RidePools$Parting" yX1_fewestPools yX1_fewestPools ∈ gtbl := gt_r (i := 644) rfl rfl
set_option maxRecDepth 20000 in
theorem tw_689 : Cond.code yX1_fewestPools prog_3_method_4_code 3 (some FieldType.int) ∈ gtbl := gt_r (i := 645) rfl rfl
set_option maxRecDepth 20000 in
theorem tw_690 : Cond.methodLink "RidePoolsLaw" 104 yX8_personOf ∈ gtbl := gt_r (i := 646) rfl rfl
set_option maxRecDepth 20000 in
theorem tw_691 : Cond.instanceMethod yX8_personOf ∈ gtbl := gt_r (i := 647) rfl rfl
set_option maxRecDepth 20000 in
theorem tw_692 : Cond.selects "RidePools" yX8_personOf yX8_personOf ∈ gtbl := gt_r (i := 648) rfl rfl
set_option maxRecDepth 20000 in
theorem tw_693 : Cond.code yX8_personOf prog_1_method_23_code 4 (some FieldType.int) ∈ gtbl := gt_r (i := 649) rfl rfl
set_option maxRecDepth 20000 in
theorem tw_694 : Cond.constant "RidePools" 246 1000000000 ∈ gtbl := gt_r (i := 650) rfl rfl
set_option maxRecDepth 20000 in
theorem tw_695 : Cond.methodLink "RidePoolsLaw" 108 yX8_count ∈ gtbl := gt_r (i := 651) rfl rfl
set_option maxRecDepth 20000 in
theorem tw_696 : Cond.instanceMethod yX8_count ∈ gtbl := gt_r (i := 652) rfl rfl
set_option maxRecDepth 20000 in
theorem tw_697 : Cond.selects "RidePools" yX8_count yX8_count ∈ gtbl := gt_r (i := 653) rfl rfl
set_option maxRecDepth 20000 in
theorem tw_698 : Cond.code yX8_count prog_1_method_24_code 2 (some FieldType.int) ∈ gtbl := gt_r (i := 654) rfl rfl
set_option maxRecDepth 20000 in
theorem tw_699 : Cond.methodLink "RidePools" 247 yX2_size ∈ gtbl := gt_r (i := 655) rfl rfl
set_option maxRecDepth 20000 in
theorem tw_700 : Cond.instanceMethod yX2_size ∈ gtbl := gt_r (i := 656) rfl rfl
set_option maxRecDepth 20000 in
theorem tw_701 : Cond.selects "RidePools$People" yX2_size yX2_size ∈ gtbl := gt_r (i := 657) rfl rfl
set_option maxRecDepth 20000 in
theorem tw_702 : Cond.code yX2_size prog_4_method_2_code 1 (some FieldType.int) ∈ gtbl := gt_r (i := 658) rfl rfl
set_option maxRecDepth 20000 in
theorem tw_703 : Cond.methodLink "RidePools" 255 yX2_withCar ∈ gtbl := gt_r (i := 659) rfl rfl
set_option maxRecDepth 20000 in
theorem tw_704 : Cond.instanceMethod yX2_withCar ∈ gtbl := gt_r (i := 660) rfl rfl
set_option maxRecDepth 20000 in
theorem tw_705 : Cond.selects "RidePools$People" yX2_withCar yX2_withCar ∈ gtbl := gt_r (i := 661) rfl rfl
set_option maxRecDepth 20000 in
theorem tw_706 : Cond.code yX2_withCar prog_4_method_10_code 3 (some FieldType.int) ∈ gtbl := gt_r (i := 662) rfl rfl
set_option maxRecDepth 20000 in
theorem tw_707 : Cond.methodLink "RidePools$People" 30 yX3_hasCar ∈ gtbl := gt_r (i := 663) rfl rfl
set_option maxRecDepth 20000 in
theorem tw_708 : Cond.classLink "RidePoolsLaw" 10 "RidePoolsModel" ∈ gtbl := gt_r (i := 664) rfl rfl
set_option maxRecDepth 20000 in
theorem tw_709 : Cond.instantiable "RidePoolsModel" 43 ∈ gtbl := gt_r (i := 665) rfl rfl
set_option maxRecDepth 20000 in
theorem tw_710 : Cond.methodLink "RidePoolsLaw" 12 yX9_init ∈ gtbl := gt_r (i := 666) rfl rfl
set_option maxRecDepth 20000 in
theorem tw_711 : Cond.instanceMethod yX9_init ∈ gtbl := gt_r (i := 667) rfl rfl
set_option maxRecDepth 20000 in
theorem tw_712 : Cond.code yX9_init prog_11_method_1_code 3 (none : Option FieldType) ∈ gtbl := gt_r (i := 668) rfl rfl
set_option maxRecDepth 20000 in
theorem tw_713 : Cond.methodLink "RidePoolsModel" 1 (⟨"java/lang/Object", "<init>", "()V"⟩ : MethodName) ∈ gtbl := gt_r (i := 669) rfl rfl
set_option maxRecDepth 20000 in
theorem tw_714 : Cond.methodLink "RidePoolsModel" 116 yX9_measure ∈ gtbl := gt_r (i := 670) rfl rfl
set_option maxRecDepth 20000 in
theorem tw_716 : Cond.instanceMethod yX9_measure ∈ gtbl := gt_r (i := 672) rfl rfl
set_option maxRecDepth 20000 in
theorem tw_717 : Cond.code yX9_measure prog_11_method_5_code 4 (none : Option FieldType) ∈ gtbl := gt_r (i := 673) rfl rfl
set_option maxRecDepth 20000 in
theorem tw_718 : Cond.methodLink "RidePoolsModel" 123 yJ9_min_7cf53 ∈ gtbl := gt_r (i := 674) rfl rfl
set_option maxRecDepth 20000 in
theorem tw_719 : Cond.methodLink "RidePoolsModel" 129 yX9_changes ∈ gtbl := gt_r (i := 675) rfl rfl
set_option maxRecDepth 20000 in
theorem tw_721 : Cond.instanceMethod yX9_changes ∈ gtbl := gt_r (i := 677) rfl rfl
set_option maxRecDepth 20000 in
theorem tw_722 : Cond.code yX9_changes prog_11_method_4_code 1 (none : Option FieldType) ∈ gtbl := gt_r (i := 678) rfl rfl
set_option maxRecDepth 20000 in
theorem tw_723 : Cond.fieldLink "RidePoolsModel" 7 "RidePoolsModel" "refusals" "[I" ∈ gtbl := gt_r (i := 679) rfl rfl
set_option maxRecDepth 20000 in
theorem tw_724 : Cond.fieldLink "RidePoolsModel" 13 "RidePoolsModel" "minutes" "[I" ∈ gtbl := gt_r (i := 680) rfl rfl
set_option maxRecDepth 20000 in
theorem tw_725 : Cond.fieldLink "RidePoolsModel" 16 "RidePoolsModel" "least" "[I" ∈ gtbl := gt_r (i := 681) rfl rfl
set_option maxRecDepth 20000 in
theorem tw_726 : Cond.fieldLink "RidePoolsModel" 143 "RidePoolsModel" "persons" "I" ∈ gtbl := gt_r (i := 682) rfl rfl
set_option maxRecDepth 20000 in
theorem tw_727 : Cond.fieldLink "RidePoolsModel" 228 "RidePoolsModel" "mornings" "I" ∈ gtbl := gt_r (i := 683) rfl rfl
set_option maxRecDepth 20000 in
theorem tw_728 : Cond.fieldLink "RidePoolsModel" 19 "RidePoolsModel" "kind" "[I" ∈ gtbl := gt_r (i := 684) rfl rfl
set_option maxRecDepth 20000 in
theorem tw_729 : Cond.fieldLink "RidePoolsModel" 22 "RidePoolsModel" "house" "[I" ∈ gtbl := gt_r (i := 685) rfl rfl
set_option maxRecDepth 20000 in
theorem tw_730 : Cond.fieldLink "RidePoolsModel" 25 "RidePoolsModel" "work" "[I" ∈ gtbl := gt_r (i := 686) rfl rfl
set_option maxRecDepth 20000 in
theorem tw_731 : Cond.fieldLink "RidePoolsModel" 28 "RidePoolsModel" "early" "[I" ∈ gtbl := gt_r (i := 687) rfl rfl
set_option maxRecDepth 20000 in
theorem tw_732 : Cond.fieldLink "RidePoolsModel" 31 "RidePoolsModel" "late" "[I" ∈ gtbl := gt_r (i := 688) rfl rfl
set_option maxRecDepth 20000 in
theorem tw_733 : Cond.fieldLink "RidePoolsModel" 34 "RidePoolsModel" "detour" "[I" ∈ gtbl := gt_r (i := 689) rfl rfl
set_option maxRecDepth 20000 in
theorem tw_734 : Cond.fieldLink "RidePoolsModel" 37 "RidePoolsModel" "seats" "[I" ∈ gtbl := gt_r (i := 690) rfl rfl
set_option maxRecDepth 20000 in
theorem tw_735 : Cond.fieldLink "RidePoolsModel" 40 "RidePoolsModel" "bars" "[I" ∈ gtbl := gt_r (i := 691) rfl rfl
set_option maxRecDepth 20000 in
theorem tw_736 : Cond.fieldLink "RidePoolsModel" 43 "RidePoolsModel" "points" "[I" ∈ gtbl := gt_r (i := 692) rfl rfl
set_option maxRecDepth 20000 in
theorem tw_737 : Cond.fieldLink "RidePoolsModel" 46 "RidePoolsModel" "isAway" "[Z" ∈ gtbl := gt_r (i := 693) rfl rfl
set_option maxRecDepth 20000 in
theorem tw_738 : Cond.fieldLink "RidePoolsModel" 50 "RidePoolsModel" "isBroken" "[Z" ∈ gtbl := gt_r (i := 694) rfl rfl
set_option maxRecDepth 20000 in
theorem tw_739 : Cond.fieldLink "RidePoolsModel" 53 "RidePoolsModel" "up" "[I" ∈ gtbl := gt_r (i := 695) rfl rfl
set_option maxRecDepth 20000 in
theorem tw_740 : Cond.fieldLink "RidePoolsModel" 56 "RidePoolsModel" "down" "[I" ∈ gtbl := gt_r (i := 696) rfl rfl
set_option maxRecDepth 20000 in
theorem tw_741 : Cond.fieldLink "RidePoolsModel" 59 "RidePoolsModel" "upAt" "[I" ∈ gtbl := gt_r (i := 697) rfl rfl
set_option maxRecDepth 20000 in
theorem tw_742 : Cond.fieldLink "RidePoolsModel" 62 "RidePoolsModel" "downAt" "[I" ∈ gtbl := gt_r (i := 698) rfl rfl
set_option maxRecDepth 20000 in
theorem tw_743 : Cond.fieldLink "RidePoolsModel" 65 "RidePoolsModel" "bestUp" "[I" ∈ gtbl := gt_r (i := 699) rfl rfl
set_option maxRecDepth 20000 in
theorem tw_744 : Cond.fieldLink "RidePoolsModel" 68 "RidePoolsModel" "bestDown" "[I" ∈ gtbl := gt_r (i := 700) rfl rfl
set_option maxRecDepth 20000 in
theorem tw_745 : Cond.fieldLink "RidePoolsModel" 71 "RidePoolsModel" "bestUpAt" "[I" ∈ gtbl := gt_r (i := 701) rfl rfl
set_option maxRecDepth 20000 in
theorem tw_746 : Cond.fieldLink "RidePoolsModel" 74 "RidePoolsModel" "bestDownAt" "[I" ∈ gtbl := gt_r (i := 702) rfl rfl
set_option maxRecDepth 20000 in
theorem tw_747 : Cond.fieldLink "RidePoolsModel" 158 "RidePoolsModel" "size" "I" ∈ gtbl := gt_r (i := 703) rfl rfl
set_option maxRecDepth 20000 in
theorem tw_748 : Cond.fieldLink "RidePoolsModel" 152 "RidePoolsModel" "bestMinutes" "I" ∈ gtbl := gt_r (i := 704) rfl rfl
set_option maxRecDepth 20000 in
theorem tw_749 : Cond.fieldLink "RidePoolsModel" 175 "RidePoolsModel" "bestBegin" "I" ∈ gtbl := gt_r (i := 705) rfl rfl
set_option maxRecDepth 20000 in
theorem tw_750 : Cond.fieldLink "RidePoolsModel" 119 "RidePoolsModel" "isKnown" "Z" ∈ gtbl := gt_r (i := 706) rfl rfl
set_option maxRecDepth 20000 in
theorem tw_751 : Cond.fieldLink "RidePoolsModel" 77 "RidePoolsModel" "cost" "[I" ∈ gtbl := gt_r (i := 707) rfl rfl
set_option maxRecDepth 20000 in
theorem tw_752 : Cond.fieldLink "RidePoolsModel" 80 "RidePoolsModel" "by" "[I" ∈ gtbl := gt_r (i := 708) rfl rfl
set_option maxRecDepth 20000 in
theorem tw_753 : Cond.fieldLink "RidePoolsModel" 83 "RidePoolsModel" "fit" "[I" ∈ gtbl := gt_r (i := 709) rfl rfl
set_option maxRecDepth 20000 in
theorem tw_754 : Cond.fieldLink "RidePoolsModel" 86 "RidePoolsModel" "left" "[I" ∈ gtbl := gt_r (i := 710) rfl rfl
set_option maxRecDepth 20000 in
theorem tw_755 : Cond.fieldLink "RidePoolsModel" 89 "RidePoolsModel" "sum" "[I" ∈ gtbl := gt_r (i := 711) rfl rfl
set_option maxRecDepth 20000 in
theorem tw_756 : Cond.fieldLink "RidePoolsModel" 92 "RidePoolsModel" "pools" "[I" ∈ gtbl := gt_r (i := 712) rfl rfl
set_option maxRecDepth 20000 in
theorem tw_757 : Cond.fieldLink "RidePoolsModel" 95 "RidePoolsModel" "choice" "[I" ∈ gtbl := gt_r (i := 713) rfl rfl
set_option maxRecDepth 20000 in
theorem tw_758 : Cond.fieldLink "RidePoolsModel" 98 "RidePoolsModel" "fewest" "[I" ∈ gtbl := gt_r (i := 714) rfl rfl
set_option maxRecDepth 20000 in
theorem tw_759 : Cond.fieldLink "RidePoolsModel" 219 "RidePoolsModel" "isPlanned" "Z" ∈ gtbl := gt_r (i := 715) rfl rfl
set_option maxRecDepth 20000 in
theorem tw_760 : Cond.fieldLink "RidePoolsModel" 212 "RidePoolsModel" "planLeft" "I" ∈ gtbl := gt_r (i := 716) rfl rfl
set_option maxRecDepth 20000 in
theorem tw_761 : Cond.fieldLink "RidePoolsModel" 101 "RidePoolsModel" "poolOf" "[I" ∈ gtbl := gt_r (i := 717) rfl rfl
set_option maxRecDepth 20000 in
theorem tw_762 : Cond.fieldLink "RidePoolsModel" 104 "RidePoolsModel" "driverOf" "[I" ∈ gtbl := gt_r (i := 718) rfl rfl
set_option maxRecDepth 20000 in
theorem tw_763 : Cond.fieldLink "RidePoolsModel" 107 "RidePoolsModel" "pickedAt" "[I" ∈ gtbl := gt_r (i := 719) rfl rfl
set_option maxRecDepth 20000 in
theorem tw_764 : Cond.fieldLink "RidePoolsModel" 110 "RidePoolsModel" "workAt" "[I" ∈ gtbl := gt_r (i := 720) rfl rfl
set_option maxRecDepth 20000 in
theorem tw_765 : Cond.fieldLink "RidePoolsModel" 113 "RidePoolsModel" "takes" "[I" ∈ gtbl := gt_r (i := 721) rfl rfl
set_option maxRecDepth 20000 in
theorem tw_766 : Cond.laysFinal "RidePoolsModel" "RidePoolsModel" "refusals" "[I" ∈ gtbl := gt_r (i := 722) rfl rfl
set_option maxRecDepth 20000 in
theorem tw_768 : Cond.laysFinal "RidePoolsModel" "RidePoolsModel" "minutes" "[I" ∈ gtbl := gt_r (i := 724) rfl rfl
set_option maxRecDepth 20000 in
theorem tw_770 : Cond.laysFinal "RidePoolsModel" "RidePoolsModel" "least" "[I" ∈ gtbl := gt_r (i := 726) rfl rfl
set_option maxRecDepth 20000 in
theorem tw_772 : Cond.lays "RidePoolsModel" "RidePoolsModel" "persons" "I" ∈ gtbl := gt_r (i := 728) rfl rfl
set_option maxRecDepth 20000 in
theorem tw_774 : Cond.lays "RidePoolsModel" "RidePoolsModel" "mornings" "I" ∈ gtbl := gt_r (i := 730) rfl rfl
set_option maxRecDepth 20000 in
theorem tw_776 : Cond.laysFinal "RidePoolsModel" "RidePoolsModel" "kind" "[I" ∈ gtbl := gt_r (i := 732) rfl rfl
set_option maxRecDepth 20000 in
theorem tw_778 : Cond.laysFinal "RidePoolsModel" "RidePoolsModel" "house" "[I" ∈ gtbl := gt_r (i := 734) rfl rfl
set_option maxRecDepth 20000 in
theorem tw_780 : Cond.laysFinal "RidePoolsModel" "RidePoolsModel" "work" "[I" ∈ gtbl := gt_r (i := 736) rfl rfl
set_option maxRecDepth 20000 in
theorem tw_782 : Cond.laysFinal "RidePoolsModel" "RidePoolsModel" "early" "[I" ∈ gtbl := gt_r (i := 738) rfl rfl
set_option maxRecDepth 20000 in
theorem tw_784 : Cond.laysFinal "RidePoolsModel" "RidePoolsModel" "late" "[I" ∈ gtbl := gt_r (i := 740) rfl rfl
set_option maxRecDepth 20000 in
theorem tw_786 : Cond.laysFinal "RidePoolsModel" "RidePoolsModel" "detour" "[I" ∈ gtbl := gt_r (i := 742) rfl rfl
set_option maxRecDepth 20000 in
theorem tw_788 : Cond.laysFinal "RidePoolsModel" "RidePoolsModel" "seats" "[I" ∈ gtbl := gt_r (i := 744) rfl rfl
set_option maxRecDepth 20000 in
theorem tw_790 : Cond.laysFinal "RidePoolsModel" "RidePoolsModel" "bars" "[I" ∈ gtbl := gt_r (i := 746) rfl rfl
set_option maxRecDepth 20000 in
theorem tw_792 : Cond.laysFinal "RidePoolsModel" "RidePoolsModel" "points" "[I" ∈ gtbl := gt_r (i := 748) rfl rfl
set_option maxRecDepth 20000 in
theorem tw_794 : Cond.laysFinal "RidePoolsModel" "RidePoolsModel" "isAway" "[Z" ∈ gtbl := gt_r (i := 750) rfl rfl
set_option maxRecDepth 20000 in
theorem tw_796 : Cond.laysFinal "RidePoolsModel" "RidePoolsModel" "isBroken" "[Z" ∈ gtbl := gt_r (i := 752) rfl rfl
set_option maxRecDepth 20000 in
theorem tw_798 : Cond.laysFinal "RidePoolsModel" "RidePoolsModel" "up" "[I" ∈ gtbl := gt_r (i := 754) rfl rfl
set_option maxRecDepth 20000 in
theorem tw_800 : Cond.laysFinal "RidePoolsModel" "RidePoolsModel" "down" "[I" ∈ gtbl := gt_r (i := 756) rfl rfl
set_option maxRecDepth 20000 in
theorem tw_802 : Cond.laysFinal "RidePoolsModel" "RidePoolsModel" "upAt" "[I" ∈ gtbl := gt_r (i := 758) rfl rfl
set_option maxRecDepth 20000 in
theorem tw_804 : Cond.laysFinal "RidePoolsModel" "RidePoolsModel" "downAt" "[I" ∈ gtbl := gt_r (i := 760) rfl rfl
set_option maxRecDepth 20000 in
theorem tw_806 : Cond.laysFinal "RidePoolsModel" "RidePoolsModel" "bestUp" "[I" ∈ gtbl := gt_r (i := 762) rfl rfl
set_option maxRecDepth 20000 in
theorem tw_808 : Cond.laysFinal "RidePoolsModel" "RidePoolsModel" "bestDown" "[I" ∈ gtbl := gt_r (i := 764) rfl rfl
set_option maxRecDepth 20000 in
theorem tw_810 : Cond.laysFinal "RidePoolsModel" "RidePoolsModel" "bestUpAt" "[I" ∈ gtbl := gt_r (i := 766) rfl rfl
set_option maxRecDepth 20000 in
theorem tw_812 : Cond.laysFinal "RidePoolsModel" "RidePoolsModel" "bestDownAt" "[I" ∈ gtbl := gt_r (i := 768) rfl rfl
set_option maxRecDepth 20000 in
theorem tw_814 : Cond.lays "RidePoolsModel" "RidePoolsModel" "size" "I" ∈ gtbl := gt_r (i := 770) rfl rfl
set_option maxRecDepth 20000 in
theorem tw_816 : Cond.lays "RidePoolsModel" "RidePoolsModel" "bestMinutes" "I" ∈ gtbl := gt_r (i := 772) rfl rfl
set_option maxRecDepth 20000 in
theorem tw_818 : Cond.lays "RidePoolsModel" "RidePoolsModel" "bestBegin" "I" ∈ gtbl := gt_r (i := 774) rfl rfl
set_option maxRecDepth 20000 in
theorem tw_820 : Cond.lays "RidePoolsModel" "RidePoolsModel" "isKnown" "Z" ∈ gtbl := gt_r (i := 776) rfl rfl
set_option maxRecDepth 20000 in
theorem tw_822 : Cond.laysFinal "RidePoolsModel" "RidePoolsModel" "cost" "[I" ∈ gtbl := gt_r (i := 778) rfl rfl
set_option maxRecDepth 20000 in
theorem tw_824 : Cond.laysFinal "RidePoolsModel" "RidePoolsModel" "by" "[I" ∈ gtbl := gt_r (i := 780) rfl rfl
set_option maxRecDepth 20000 in
theorem tw_826 : Cond.laysFinal "RidePoolsModel" "RidePoolsModel" "fit" "[I" ∈ gtbl := gt_r (i := 782) rfl rfl
set_option maxRecDepth 20000 in
theorem tw_828 : Cond.laysFinal "RidePoolsModel" "RidePoolsModel" "left" "[I" ∈ gtbl := gt_r (i := 784) rfl rfl
set_option maxRecDepth 20000 in
theorem tw_830 : Cond.laysFinal "RidePoolsModel" "RidePoolsModel" "sum" "[I" ∈ gtbl := gt_r (i := 786) rfl rfl
set_option maxRecDepth 20000 in
theorem tw_832 : Cond.laysFinal "RidePoolsModel" "RidePoolsModel" "pools" "[I" ∈ gtbl := gt_r (i := 788) rfl rfl
set_option maxRecDepth 20000 in
theorem tw_834 : Cond.laysFinal "RidePoolsModel" "RidePoolsModel" "choice" "[I" ∈ gtbl := gt_r (i := 790) rfl rfl
set_option maxRecDepth 20000 in
theorem tw_836 : Cond.laysFinal "RidePoolsModel" "RidePoolsModel" "fewest" "[I" ∈ gtbl := gt_r (i := 792) rfl rfl
set_option maxRecDepth 20000 in
theorem tw_838 : Cond.lays "RidePoolsModel" "RidePoolsModel" "isPlanned" "Z" ∈ gtbl := gt_r (i := 794) rfl rfl
set_option maxRecDepth 20000 in
theorem tw_840 : Cond.lays "RidePoolsModel" "RidePoolsModel" "planLeft" "I" ∈ gtbl := gt_r (i := 796) rfl rfl
set_option maxRecDepth 20000 in
theorem tw_842 : Cond.laysFinal "RidePoolsModel" "RidePoolsModel" "poolOf" "[I" ∈ gtbl := gt_r (i := 798) rfl rfl
set_option maxRecDepth 20000 in
theorem tw_844 : Cond.laysFinal "RidePoolsModel" "RidePoolsModel" "driverOf" "[I" ∈ gtbl := gt_r (i := 800) rfl rfl
set_option maxRecDepth 20000 in
theorem tw_846 : Cond.laysFinal "RidePoolsModel" "RidePoolsModel" "pickedAt" "[I" ∈ gtbl := gt_r (i := 802) rfl rfl
set_option maxRecDepth 20000 in
theorem tw_848 : Cond.laysFinal "RidePoolsModel" "RidePoolsModel" "workAt" "[I" ∈ gtbl := gt_r (i := 804) rfl rfl
set_option maxRecDepth 20000 in
theorem tw_850 : Cond.laysFinal "RidePoolsModel" "RidePoolsModel" "takes" "[I" ∈ gtbl := gt_r (i := 806) rfl rfl
set_option maxRecDepth 20000 in
theorem tw_853 : Cond.arrayClass FieldType.boolean ∈ gtbl := gt_r (i := 809) rfl rfl
set_option maxRecDepth 20000 in
theorem tw_854 : Cond.methodLink "RidePoolsLaw" 17 yX9_minutes ∈ gtbl := gt_r (i := 810) rfl rfl
set_option maxRecDepth 20000 in
theorem tw_855 : Cond.instanceMethod yX9_minutes ∈ gtbl := gt_r (i := 811) rfl rfl
set_option maxRecDepth 20000 in
theorem tw_856 : Cond.selects "RidePoolsModel" yX9_minutes yX9_minutes ∈ gtbl := gt_r (i := 812) rfl rfl
set_option maxRecDepth 20000 in
theorem tw_857 : Cond.code yX9_minutes prog_11_method_7_code 5 (some FieldType.int) ∈ gtbl := gt_r (i := 813) rfl rfl
set_option maxRecDepth 20000 in
theorem tw_858 : Cond.methodLink "RidePoolsModel" 132 yX9_isIn ∈ gtbl := gt_r (i := 814) rfl rfl
set_option maxRecDepth 20000 in
theorem tw_859 : Cond.static yX9_isIn ∈ gtbl := gt_r (i := 815) rfl rfl
set_option maxRecDepth 20000 in
theorem tw_860 : Cond.code yX9_isIn prog_11_method_3_code 2 (some FieldType.boolean) ∈ gtbl := gt_r (i := 816) rfl rfl
set_option maxRecDepth 20000 in
theorem tw_861 : Cond.methodLink "RidePoolsModel" 136 yX9_refuse ∈ gtbl := gt_r (i := 817) rfl rfl
set_option maxRecDepth 20000 in
theorem tw_863 : Cond.instanceMethod yX9_refuse ∈ gtbl := gt_r (i := 819) rfl rfl
set_option maxRecDepth 20000 in
theorem tw_864 : Cond.code yX9_refuse prog_11_method_2_code 2 (some FieldType.int) ∈ gtbl := gt_r (i := 820) rfl rfl
set_option maxRecDepth 20000 in
theorem tw_865 : Cond.methodLink "RidePoolsLaw" 22 yX9_least ∈ gtbl := gt_r (i := 821) rfl rfl
set_option maxRecDepth 20000 in
theorem tw_866 : Cond.instanceMethod yX9_least ∈ gtbl := gt_r (i := 822) rfl rfl
set_option maxRecDepth 20000 in
theorem tw_867 : Cond.selects "RidePoolsModel" yX9_least yX9_least ∈ gtbl := gt_r (i := 823) rfl rfl
set_option maxRecDepth 20000 in
theorem tw_868 : Cond.code yX9_least prog_11_method_8_code 3 (some FieldType.int) ∈ gtbl := gt_r (i := 824) rfl rfl
set_option maxRecDepth 20000 in
theorem tw_869 : Cond.methodLink "RidePoolsModel" 140 yX9_leastOf ∈ gtbl := gt_r (i := 825) rfl rfl
set_option maxRecDepth 20000 in
theorem tw_871 : Cond.instanceMethod yX9_leastOf ∈ gtbl := gt_r (i := 827) rfl rfl
set_option maxRecDepth 20000 in
theorem tw_872 : Cond.code yX9_leastOf prog_11_method_6_code 3 (some FieldType.int) ∈ gtbl := gt_r (i := 828) rfl rfl
set_option maxRecDepth 20000 in
theorem tw_873 : Cond.methodLink "RidePoolsLaw" 27 yX9_person ∈ gtbl := gt_r (i := 829) rfl rfl
set_option maxRecDepth 20000 in
theorem tw_874 : Cond.instanceMethod yX9_person ∈ gtbl := gt_r (i := 830) rfl rfl
set_option maxRecDepth 20000 in
theorem tw_875 : Cond.selects "RidePoolsModel" yX9_person yX9_person ∈ gtbl := gt_r (i := 831) rfl rfl
set_option maxRecDepth 20000 in
theorem tw_876 : Cond.code yX9_person prog_11_method_9_code 9 (some FieldType.int) ∈ gtbl := gt_r (i := 832) rfl rfl
set_option maxRecDepth 20000 in
theorem tw_877 : Cond.methodLink "RidePoolsLaw" 31 yX9_times ∈ gtbl := gt_r (i := 833) rfl rfl
set_option maxRecDepth 20000 in
theorem tw_878 : Cond.instanceMethod yX9_times ∈ gtbl := gt_r (i := 834) rfl rfl
set_option maxRecDepth 20000 in
theorem tw_879 : Cond.selects "RidePoolsModel" yX9_times yX9_times ∈ gtbl := gt_r (i := 835) rfl rfl
set_option maxRecDepth 20000 in
theorem tw_880 : Cond.code yX9_times prog_11_method_11_code 4 (some FieldType.int) ∈ gtbl := gt_r (i := 836) rfl rfl
set_option maxRecDepth 20000 in
theorem tw_881 : Cond.methodLink "RidePoolsModel" 147 yX9_isPerson ∈ gtbl := gt_r (i := 837) rfl rfl
set_option maxRecDepth 20000 in
theorem tw_883 : Cond.instanceMethod yX9_isPerson ∈ gtbl := gt_r (i := 839) rfl rfl
set_option maxRecDepth 20000 in
theorem tw_884 : Cond.code yX9_isPerson prog_11_method_10_code 2 (some FieldType.boolean) ∈ gtbl := gt_r (i := 840) rfl rfl
set_option maxRecDepth 20000 in
theorem tw_885 : Cond.methodLink "RidePoolsLaw" 36 yX9_bar ∈ gtbl := gt_r (i := 841) rfl rfl
set_option maxRecDepth 20000 in
theorem tw_886 : Cond.instanceMethod yX9_bar ∈ gtbl := gt_r (i := 842) rfl rfl
set_option maxRecDepth 20000 in
theorem tw_887 : Cond.selects "RidePoolsModel" yX9_bar yX9_bar ∈ gtbl := gt_r (i := 843) rfl rfl
set_option maxRecDepth 20000 in
theorem tw_888 : Cond.code yX9_bar prog_11_method_12_code 4 (some FieldType.int) ∈ gtbl := gt_r (i := 844) rfl rfl
set_option maxRecDepth 20000 in
theorem tw_889 : Cond.methodLink "RidePoolsLaw" 41 yX9_away ∈ gtbl := gt_r (i := 845) rfl rfl
set_option maxRecDepth 20000 in
theorem tw_890 : Cond.instanceMethod yX9_away ∈ gtbl := gt_r (i := 846) rfl rfl
set_option maxRecDepth 20000 in
theorem tw_891 : Cond.selects "RidePoolsModel" yX9_away yX9_away ∈ gtbl := gt_r (i := 847) rfl rfl
set_option maxRecDepth 20000 in
theorem tw_892 : Cond.code yX9_away prog_11_method_13_code 3 (some FieldType.int) ∈ gtbl := gt_r (i := 848) rfl rfl
set_option maxRecDepth 20000 in
theorem tw_893 : Cond.methodLink "RidePoolsLaw" 45 yX9_broken ∈ gtbl := gt_r (i := 849) rfl rfl
set_option maxRecDepth 20000 in
theorem tw_894 : Cond.instanceMethod yX9_broken ∈ gtbl := gt_r (i := 850) rfl rfl
set_option maxRecDepth 20000 in
theorem tw_895 : Cond.selects "RidePoolsModel" yX9_broken yX9_broken ∈ gtbl := gt_r (i := 851) rfl rfl
set_option maxRecDepth 20000 in
theorem tw_896 : Cond.code yX9_broken prog_11_method_14_code 3 (some FieldType.int) ∈ gtbl := gt_r (i := 852) rfl rfl
set_option maxRecDepth 20000 in
theorem tw_897 : Cond.methodLink "RidePoolsLaw" 49 yX9_fits ∈ gtbl := gt_r (i := 853) rfl rfl
set_option maxRecDepth 20000 in
theorem tw_898 : Cond.instanceMethod yX9_fits ∈ gtbl := gt_r (i := 854) rfl rfl
set_option maxRecDepth 20000 in
theorem tw_899 : Cond.selects "RidePoolsModel" yX9_fits yX9_fits ∈ gtbl := gt_r (i := 855) rfl rfl
set_option maxRecDepth 20000 in
theorem tw_900 : Cond.code yX9_fits prog_11_method_23_code 4 (some FieldType.int) ∈ gtbl := gt_r (i := 856) rfl rfl
set_option maxRecDepth 20000 in
theorem tw_901 : Cond.methodLink "RidePoolsModel" 184 yX9_wrong ∈ gtbl := gt_r (i := 857) rfl rfl
set_option maxRecDepth 20000 in
theorem tw_903 : Cond.instanceMethod yX9_wrong ∈ gtbl := gt_r (i := 859) rfl rfl
set_option maxRecDepth 20000 in
theorem tw_904 : Cond.code yX9_wrong prog_11_method_22_code 3 (some FieldType.int) ∈ gtbl := gt_r (i := 860) rfl rfl
set_option maxRecDepth 20000 in
theorem tw_905 : Cond.methodLink "RidePoolsModel" 178 yX9_isSet ∈ gtbl := gt_r (i := 861) rfl rfl
set_option maxRecDepth 20000 in
theorem tw_907 : Cond.instanceMethod yX9_isSet ∈ gtbl := gt_r (i := 863) rfl rfl
set_option maxRecDepth 20000 in
theorem tw_908 : Cond.code yX9_isSet prog_11_method_20_code 2 (some FieldType.boolean) ∈ gtbl := gt_r (i := 864) rfl rfl
set_option maxRecDepth 20000 in
theorem tw_909 : Cond.methodLink "RidePoolsModel" 155 yX9_many ∈ gtbl := gt_r (i := 865) rfl rfl
set_option maxRecDepth 20000 in
theorem tw_910 : Cond.static yX9_many ∈ gtbl := gt_r (i := 866) rfl rfl
set_option maxRecDepth 20000 in
theorem tw_911 : Cond.code yX9_many prog_11_method_15_code 3 (some FieldType.int) ∈ gtbl := gt_r (i := 867) rfl rfl
set_option maxRecDepth 20000 in
theorem tw_912 : Cond.methodLink "RidePoolsModel" 181 yX9_hasAway ∈ gtbl := gt_r (i := 868) rfl rfl
set_option maxRecDepth 20000 in
theorem tw_914 : Cond.instanceMethod yX9_hasAway ∈ gtbl := gt_r (i := 870) rfl rfl
set_option maxRecDepth 20000 in
theorem tw_915 : Cond.code yX9_hasAway prog_11_method_21_code 4 (some FieldType.boolean) ∈ gtbl := gt_r (i := 871) rfl rfl
set_option maxRecDepth 20000 in
theorem tw_916 : Cond.methodLink "RidePoolsModel" 187 yX9_whyNot ∈ gtbl := gt_r (i := 872) rfl rfl
set_option maxRecDepth 20000 in
theorem tw_918 : Cond.instanceMethod yX9_whyNot ∈ gtbl := gt_r (i := 874) rfl rfl
set_option maxRecDepth 20000 in
theorem tw_919 : Cond.code yX9_whyNot prog_11_method_16_code 6 (some FieldType.int) ∈ gtbl := gt_r (i := 875) rfl rfl
set_option maxRecDepth 20000 in
theorem tw_920 : Cond.constant "RidePoolsModel" 151 1000000 ∈ gtbl := gt_r (i := 876) rfl rfl
set_option maxRecDepth 20000 in
theorem tw_921 : Cond.methodLink "RidePoolsModel" 161 yX9_picks ∈ gtbl := gt_r (i := 877) rfl rfl
set_option maxRecDepth 20000 in
theorem tw_923 : Cond.instanceMethod yX9_picks ∈ gtbl := gt_r (i := 879) rfl rfl
set_option maxRecDepth 20000 in
theorem tw_924 : Cond.code yX9_picks prog_11_method_17_code 6 (none : Option FieldType) ∈ gtbl := gt_r (i := 880) rfl rfl
set_option maxRecDepth 20000 in
theorem tw_925 : Cond.methodLink "RidePoolsModel" 165 yX9_drops ∈ gtbl := gt_r (i := 881) rfl rfl
set_option maxRecDepth 20000 in
theorem tw_927 : Cond.instanceMethod yX9_drops ∈ gtbl := gt_r (i := 883) rfl rfl
set_option maxRecDepth 20000 in
theorem tw_928 : Cond.code yX9_drops prog_11_method_18_code 6 (none : Option FieldType) ∈ gtbl := gt_r (i := 884) rfl rfl
set_option maxRecDepth 20000 in
theorem tw_929 : Cond.methodLink "RidePoolsModel" 168 yX9_looks ∈ gtbl := gt_r (i := 885) rfl rfl
set_option maxRecDepth 20000 in
theorem tw_931 : Cond.instanceMethod yX9_looks ∈ gtbl := gt_r (i := 887) rfl rfl
set_option maxRecDepth 20000 in
theorem tw_932 : Cond.code yX9_looks prog_11_method_19_code 6 (none : Option FieldType) ∈ gtbl := gt_r (i := 888) rfl rfl
set_option maxRecDepth 20000 in
theorem tw_933 : Cond.methodLink "RidePoolsModel" 172 yJ9_max_7cf53 ∈ gtbl := gt_r (i := 889) rfl rfl
set_option maxRecDepth 20000 in
theorem tw_934 : Cond.methodLink "RidePoolsLaw" 53 yX9_why ∈ gtbl := gt_r (i := 890) rfl rfl
set_option maxRecDepth 20000 in
theorem tw_935 : Cond.instanceMethod yX9_why ∈ gtbl := gt_r (i := 891) rfl rfl
set_option maxRecDepth 20000 in
theorem tw_936 : Cond.selects "RidePoolsModel" yX9_why yX9_why ∈ gtbl := gt_r (i := 892) rfl rfl
set_option maxRecDepth 20000 in
theorem tw_937 : Cond.code yX9_why prog_11_method_24_code 4 (some FieldType.int) ∈ gtbl := gt_r (i := 893) rfl rfl
set_option maxRecDepth 20000 in
theorem tw_938 : Cond.methodLink "RidePoolsLaw" 57 yX9_way ∈ gtbl := gt_r (i := 894) rfl rfl
set_option maxRecDepth 20000 in
theorem tw_939 : Cond.instanceMethod yX9_way ∈ gtbl := gt_r (i := 895) rfl rfl
set_option maxRecDepth 20000 in
theorem tw_940 : Cond.selects "RidePoolsModel" yX9_way yX9_way ∈ gtbl := gt_r (i := 896) rfl rfl
set_option maxRecDepth 20000 in
theorem tw_941 : Cond.code yX9_way prog_11_method_25_code 5 (some FieldType.int) ∈ gtbl := gt_r (i := 897) rfl rfl
set_option maxRecDepth 20000 in
theorem tw_942 : Cond.methodLink "RidePoolsLaw" 62 yX9_cost ∈ gtbl := gt_r (i := 898) rfl rfl
set_option maxRecDepth 20000 in
theorem tw_943 : Cond.instanceMethod yX9_cost ∈ gtbl := gt_r (i := 899) rfl rfl
set_option maxRecDepth 20000 in
theorem tw_944 : Cond.selects "RidePoolsModel" yX9_cost yX9_cost ∈ gtbl := gt_r (i := 900) rfl rfl
set_option maxRecDepth 20000 in
theorem tw_945 : Cond.code yX9_cost prog_11_method_28_code 3 (some FieldType.int) ∈ gtbl := gt_r (i := 901) rfl rfl
set_option maxRecDepth 20000 in
theorem tw_946 : Cond.methodLink "RidePoolsModel" 190 yX9_wrongSet ∈ gtbl := gt_r (i := 902) rfl rfl
set_option maxRecDepth 20000 in
theorem tw_948 : Cond.instanceMethod yX9_wrongSet ∈ gtbl := gt_r (i := 904) rfl rfl
set_option maxRecDepth 20000 in
theorem tw_949 : Cond.code yX9_wrongSet prog_11_method_27_code 2 (some FieldType.int) ∈ gtbl := gt_r (i := 905) rfl rfl
set_option maxRecDepth 20000 in
theorem tw_950 : Cond.methodLink "RidePoolsModel" 193 yX9_know ∈ gtbl := gt_r (i := 906) rfl rfl
set_option maxRecDepth 20000 in
theorem tw_952 : Cond.instanceMethod yX9_know ∈ gtbl := gt_r (i := 908) rfl rfl
set_option maxRecDepth 20000 in
theorem tw_953 : Cond.code yX9_know prog_11_method_26_code 3 (none : Option FieldType) ∈ gtbl := gt_r (i := 909) rfl rfl
set_option maxRecDepth 20000 in
theorem tw_954 : Cond.methodLink "RidePoolsLaw" 66 yX9_driver ∈ gtbl := gt_r (i := 910) rfl rfl
set_option maxRecDepth 20000 in
theorem tw_955 : Cond.instanceMethod yX9_driver ∈ gtbl := gt_r (i := 911) rfl rfl
set_option maxRecDepth 20000 in
theorem tw_956 : Cond.selects "RidePoolsModel" yX9_driver yX9_driver ∈ gtbl := gt_r (i := 912) rfl rfl
set_option maxRecDepth 20000 in
theorem tw_957 : Cond.code yX9_driver prog_11_method_29_code 3 (some FieldType.int) ∈ gtbl := gt_r (i := 913) rfl rfl
set_option maxRecDepth 20000 in
theorem tw_958 : Cond.methodLink "RidePoolsLaw" 70 yX9_turn ∈ gtbl := gt_r (i := 914) rfl rfl
set_option maxRecDepth 20000 in
theorem tw_959 : Cond.instanceMethod yX9_turn ∈ gtbl := gt_r (i := 915) rfl rfl
set_option maxRecDepth 20000 in
theorem tw_960 : Cond.selects "RidePoolsModel" yX9_turn yX9_turn ∈ gtbl := gt_r (i := 916) rfl rfl
set_option maxRecDepth 20000 in
theorem tw_961 : Cond.code yX9_turn prog_11_method_31_code 3 (some FieldType.int) ∈ gtbl := gt_r (i := 917) rfl rfl
set_option maxRecDepth 20000 in
theorem tw_962 : Cond.methodLink "RidePoolsModel" 196 yX9_turnOf ∈ gtbl := gt_r (i := 918) rfl rfl
set_option maxRecDepth 20000 in
theorem tw_964 : Cond.instanceMethod yX9_turnOf ∈ gtbl := gt_r (i := 920) rfl rfl
set_option maxRecDepth 20000 in
theorem tw_965 : Cond.code yX9_turnOf prog_11_method_30_code 4 (some FieldType.int) ∈ gtbl := gt_r (i := 921) rfl rfl
set_option maxRecDepth 20000 in
theorem tw_966 : Cond.methodLink "RidePoolsLaw" 75 yX9_plan ∈ gtbl := gt_r (i := 922) rfl rfl
set_option maxRecDepth 20000 in
theorem tw_967 : Cond.instanceMethod yX9_plan ∈ gtbl := gt_r (i := 923) rfl rfl
set_option maxRecDepth 20000 in
theorem tw_968 : Cond.selects "RidePoolsModel" yX9_plan yX9_plan ∈ gtbl := gt_r (i := 924) rfl rfl
set_option maxRecDepth 20000 in
theorem tw_969 : Cond.code yX9_plan prog_11_method_37_code 4 (some FieldType.int) ∈ gtbl := gt_r (i := 925) rfl rfl
set_option maxRecDepth 20000 in
theorem tw_970 : Cond.methodLink "RidePoolsModel" 206 yX9_best ∈ gtbl := gt_r (i := 926) rfl rfl
set_option maxRecDepth 20000 in
theorem tw_972 : Cond.instanceMethod yX9_best ∈ gtbl := gt_r (i := 928) rfl rfl
set_option maxRecDepth 20000 in
theorem tw_973 : Cond.code yX9_best prog_11_method_33_code 3 (none : Option FieldType) ∈ gtbl := gt_r (i := 929) rfl rfl
set_option maxRecDepth 20000 in
theorem tw_974 : Cond.methodLink "RidePoolsModel" 199 yX9_present ∈ gtbl := gt_r (i := 930) rfl rfl
set_option maxRecDepth 20000 in
theorem tw_976 : Cond.instanceMethod yX9_present ∈ gtbl := gt_r (i := 932) rfl rfl
set_option maxRecDepth 20000 in
theorem tw_977 : Cond.code yX9_present prog_11_method_32_code 3 (some FieldType.int) ∈ gtbl := gt_r (i := 933) rfl rfl
set_option maxRecDepth 20000 in
theorem tw_978 : Cond.methodLink "RidePoolsModel" 203 yX9_bestOf ∈ gtbl := gt_r (i := 934) rfl rfl
set_option maxRecDepth 20000 in
theorem tw_980 : Cond.instanceMethod yX9_bestOf ∈ gtbl := gt_r (i := 936) rfl rfl
set_option maxRecDepth 20000 in
theorem tw_981 : Cond.code yX9_bestOf prog_11_method_34_code 9 (none : Option FieldType) ∈ gtbl := gt_r (i := 937) rfl rfl
set_option maxRecDepth 20000 in
theorem tw_982 : Cond.methodLink "RidePoolsModel" 209 yX9_leaves ∈ gtbl := gt_r (i := 938) rfl rfl
set_option maxRecDepth 20000 in
theorem tw_984 : Cond.instanceMethod yX9_leaves ∈ gtbl := gt_r (i := 940) rfl rfl
set_option maxRecDepth 20000 in
theorem tw_985 : Cond.code yX9_leaves prog_11_method_35_code 2 (none : Option FieldType) ∈ gtbl := gt_r (i := 941) rfl rfl
set_option maxRecDepth 20000 in
theorem tw_986 : Cond.methodLink "RidePoolsModel" 215 yX9_lays ∈ gtbl := gt_r (i := 942) rfl rfl
set_option maxRecDepth 20000 in
theorem tw_988 : Cond.instanceMethod yX9_lays ∈ gtbl := gt_r (i := 944) rfl rfl
set_option maxRecDepth 20000 in
theorem tw_989 : Cond.code yX9_lays prog_11_method_36_code 5 (none : Option FieldType) ∈ gtbl := gt_r (i := 945) rfl rfl
set_option maxRecDepth 20000 in
theorem tw_990 : Cond.methodLink "RidePoolsLaw" 79 yX9_planOf ∈ gtbl := gt_r (i := 946) rfl rfl
set_option maxRecDepth 20000 in
theorem tw_991 : Cond.instanceMethod yX9_planOf ∈ gtbl := gt_r (i := 947) rfl rfl
set_option maxRecDepth 20000 in
theorem tw_992 : Cond.selects "RidePoolsModel" yX9_planOf yX9_planOf ∈ gtbl := gt_r (i := 948) rfl rfl
set_option maxRecDepth 20000 in
theorem tw_993 : Cond.code yX9_planOf prog_11_method_40_code 2 (some FieldType.int) ∈ gtbl := gt_r (i := 949) rfl rfl
set_option maxRecDepth 20000 in
theorem tw_994 : Cond.methodLink "RidePoolsModel" 225 yX9_planned ∈ gtbl := gt_r (i := 950) rfl rfl
set_option maxRecDepth 20000 in
theorem tw_996 : Cond.instanceMethod yX9_planned ∈ gtbl := gt_r (i := 952) rfl rfl
set_option maxRecDepth 20000 in
theorem tw_997 : Cond.code yX9_planned prog_11_method_39_code 4 (some FieldType.int) ∈ gtbl := gt_r (i := 953) rfl rfl
set_option maxRecDepth 20000 in
theorem tw_998 : Cond.methodLink "RidePoolsModel" 222 yX9_isFirst ∈ gtbl := gt_r (i := 954) rfl rfl
set_option maxRecDepth 20000 in
theorem tw_1000 : Cond.instanceMethod yX9_isFirst ∈ gtbl := gt_r (i := 956) rfl rfl
set_option maxRecDepth 20000 in
theorem tw_1001 : Cond.code yX9_isFirst prog_11_method_38_code 2 (some FieldType.boolean) ∈ gtbl := gt_r (i := 957) rfl rfl
set_option maxRecDepth 20000 in
theorem tw_1002 : Cond.methodLink "RidePoolsLaw" 83 yX9_poolOf ∈ gtbl := gt_r (i := 958) rfl rfl
set_option maxRecDepth 20000 in
theorem tw_1003 : Cond.instanceMethod yX9_poolOf ∈ gtbl := gt_r (i := 959) rfl rfl
set_option maxRecDepth 20000 in
theorem tw_1004 : Cond.selects "RidePoolsModel" yX9_poolOf yX9_poolOf ∈ gtbl := gt_r (i := 960) rfl rfl
set_option maxRecDepth 20000 in
theorem tw_1005 : Cond.code yX9_poolOf prog_11_method_41_code 3 (some FieldType.int) ∈ gtbl := gt_r (i := 961) rfl rfl
set_option maxRecDepth 20000 in
theorem tw_1006 : Cond.methodLink "RidePoolsLaw" 87 yX9_same ∈ gtbl := gt_r (i := 962) rfl rfl
set_option maxRecDepth 20000 in
theorem tw_1007 : Cond.instanceMethod yX9_same ∈ gtbl := gt_r (i := 963) rfl rfl
set_option maxRecDepth 20000 in
theorem tw_1008 : Cond.selects "RidePoolsModel" yX9_same yX9_same ∈ gtbl := gt_r (i := 964) rfl rfl
set_option maxRecDepth 20000 in
theorem tw_1009 : Cond.code yX9_same prog_11_method_42_code 2 (some FieldType.int) ∈ gtbl := gt_r (i := 965) rfl rfl
set_option maxRecDepth 20000 in
theorem tw_1010 : Cond.methodLink "RidePoolsLaw" 91 yX9_even ∈ gtbl := gt_r (i := 966) rfl rfl
set_option maxRecDepth 20000 in
theorem tw_1011 : Cond.instanceMethod yX9_even ∈ gtbl := gt_r (i := 967) rfl rfl
set_option maxRecDepth 20000 in
theorem tw_1012 : Cond.selects "RidePoolsModel" yX9_even yX9_even ∈ gtbl := gt_r (i := 968) rfl rfl
set_option maxRecDepth 20000 in
theorem tw_1013 : Cond.code yX9_even prog_11_method_43_code 4 (some FieldType.int) ∈ gtbl := gt_r (i := 969) rfl rfl
set_option maxRecDepth 20000 in
theorem tw_1014 : Cond.methodLink "RidePoolsLaw" 95 yX9_mornings ∈ gtbl := gt_r (i := 970) rfl rfl
set_option maxRecDepth 20000 in
theorem tw_1015 : Cond.instanceMethod yX9_mornings ∈ gtbl := gt_r (i := 971) rfl rfl
set_option maxRecDepth 20000 in
theorem tw_1016 : Cond.selects "RidePoolsModel" yX9_mornings yX9_mornings ∈ gtbl := gt_r (i := 972) rfl rfl
set_option maxRecDepth 20000 in
theorem tw_1017 : Cond.code yX9_mornings prog_11_method_44_code 4 (some FieldType.int) ∈ gtbl := gt_r (i := 973) rfl rfl
set_option maxRecDepth 20000 in
theorem tw_1018 : Cond.methodLink "RidePoolsLaw" 99 yX9_fail ∈ gtbl := gt_r (i := 974) rfl rfl
set_option maxRecDepth 20000 in
theorem tw_1019 : Cond.instanceMethod yX9_fail ∈ gtbl := gt_r (i := 975) rfl rfl
set_option maxRecDepth 20000 in
theorem tw_1020 : Cond.selects "RidePoolsModel" yX9_fail yX9_fail ∈ gtbl := gt_r (i := 976) rfl rfl
set_option maxRecDepth 20000 in
theorem tw_1021 : Cond.code yX9_fail prog_11_method_46_code 5 (some FieldType.int) ∈ gtbl := gt_r (i := 977) rfl rfl
set_option maxRecDepth 20000 in
theorem tw_1022 : Cond.methodLink "RidePoolsModel" 231 yX9_joins ∈ gtbl := gt_r (i := 978) rfl rfl
set_option maxRecDepth 20000 in
theorem tw_1024 : Cond.instanceMethod yX9_joins ∈ gtbl := gt_r (i := 980) rfl rfl
set_option maxRecDepth 20000 in
theorem tw_1025 : Cond.code yX9_joins prog_11_method_45_code 4 (some FieldType.boolean) ∈ gtbl := gt_r (i := 981) rfl rfl
set_option maxRecDepth 20000 in
theorem tw_1026 : Cond.methodLink "RidePoolsLaw" 103 yX9_few ∈ gtbl := gt_r (i := 982) rfl rfl
set_option maxRecDepth 20000 in
theorem tw_1027 : Cond.instanceMethod yX9_few ∈ gtbl := gt_r (i := 983) rfl rfl
set_option maxRecDepth 20000 in
theorem tw_1028 : Cond.selects "RidePoolsModel" yX9_few yX9_few ∈ gtbl := gt_r (i := 984) rfl rfl
set_option maxRecDepth 20000 in
theorem tw_1029 : Cond.code yX9_few prog_11_method_47_code 2 (some FieldType.int) ∈ gtbl := gt_r (i := 985) rfl rfl
set_option maxRecDepth 20000 in
theorem tw_1030 : Cond.methodLink "RidePoolsLaw" 107 yX9_personOf ∈ gtbl := gt_r (i := 986) rfl rfl
set_option maxRecDepth 20000 in
theorem tw_1031 : Cond.instanceMethod yX9_personOf ∈ gtbl := gt_r (i := 987) rfl rfl
set_option maxRecDepth 20000 in
theorem tw_1032 : Cond.selects "RidePoolsModel" yX9_personOf yX9_personOf ∈ gtbl := gt_r (i := 988) rfl rfl
set_option maxRecDepth 20000 in
theorem tw_1033 : Cond.code yX9_personOf prog_11_method_48_code 3 (some FieldType.int) ∈ gtbl := gt_r (i := 989) rfl rfl
set_option maxRecDepth 20000 in
theorem tw_1034 : Cond.constant "RidePoolsModel" 234 1000000000 ∈ gtbl := gt_r (i := 990) rfl rfl
set_option maxRecDepth 20000 in
theorem tw_1035 : Cond.methodLink "RidePoolsLaw" 111 yX9_count ∈ gtbl := gt_r (i := 991) rfl rfl
set_option maxRecDepth 20000 in
theorem tw_1036 : Cond.instanceMethod yX9_count ∈ gtbl := gt_r (i := 992) rfl rfl
set_option maxRecDepth 20000 in
theorem tw_1037 : Cond.selects "RidePoolsModel" yX9_count yX9_count ∈ gtbl := gt_r (i := 993) rfl rfl
set_option maxRecDepth 20000 in
theorem tw_1038 : Cond.code yX9_count prog_11_method_49_code 4 (some FieldType.int) ∈ gtbl := gt_r (i := 994) rfl rfl
theorem inG0 : ∀ w ∈ u_ws RX0 TX0 3, w ∈ gtbl := by
  intro w h
  obtain ⟨k, hk, rfl⟩ := List.mem_map.mp h
  exact match k, List.mem_range.mp hk with
  | 0, _ => tw_256
  | 1, _ => tw_258
  | 2, _ => tw_260
  | n + 3, h => absurd h (by omega)
theorem inG1 : ∀ w ∈ u_ws RX1 TX1 3, w ∈ gtbl := by
  intro w h
  obtain ⟨k, hk, rfl⟩ := List.mem_map.mp h
  exact match k, List.mem_range.mp hk with
  | 0, _ => tw_272
  | 1, _ => tw_274
  | 2, _ => tw_276
  | n + 3, h => absurd h (by omega)
theorem inG2 : ∀ w ∈ u_ws RX2 TX2 2, w ∈ gtbl := by
  intro w h
  obtain ⟨k, hk, rfl⟩ := List.mem_map.mp h
  exact match k, List.mem_range.mp hk with
  | 0, _ => tw_160
  | 1, _ => tw_162
  | n + 2, h => absurd h (by omega)
theorem inG3 : ∀ w ∈ u_ws RX3 TX3 11, w ∈ gtbl := by
  intro w h
  obtain ⟨k, hk, rfl⟩ := List.mem_map.mp h
  exact match k, List.mem_range.mp hk with
  | 0, _ => tw_135
  | 1, _ => tw_137
  | 2, _ => tw_139
  | 3, _ => tw_141
  | 4, _ => tw_143
  | 5, _ => tw_145
  | 6, _ => tw_147
  | 7, _ => tw_149
  | 8, _ => tw_151
  | 9, _ => tw_153
  | 10, _ => tw_155
  | n + 11, h => absurd h (by omega)
theorem inG4 : ∀ w ∈ u_ws RX4 TX4 7, w ∈ gtbl := by
  intro w h
  obtain ⟨k, hk, rfl⟩ := List.mem_map.mp h
  exact match k, List.mem_range.mp hk with
  | 0, _ => tw_292
  | 1, _ => tw_294
  | 2, _ => tw_296
  | 3, _ => tw_298
  | 4, _ => tw_300
  | 5, _ => tw_302
  | 6, _ => tw_304
  | n + 7, h => absurd h (by omega)
theorem inG5 : ∀ w ∈ u_ws RX5 TX5 2, w ∈ gtbl := by
  intro w h
  obtain ⟨k, hk, rfl⟩ := List.mem_map.mp h
  exact match k, List.mem_range.mp hk with
  | 0, _ => tw_94
  | 1, _ => tw_96
  | n + 2, h => absurd h (by omega)
theorem inG6 : ∀ w ∈ u_ws RX6 TX6 8, w ∈ gtbl := by
  intro w h
  obtain ⟨k, hk, rfl⟩ := List.mem_map.mp h
  exact match k, List.mem_range.mp hk with
  | 0, _ => tw_201
  | 1, _ => tw_203
  | 2, _ => tw_205
  | 3, _ => tw_207
  | 4, _ => tw_209
  | 5, _ => tw_211
  | 6, _ => tw_213
  | 7, _ => tw_215
  | n + 8, h => absurd h (by omega)
theorem inG7 : ∀ w ∈ u_ws RX7 TX7 9, w ∈ gtbl := by
  intro w h
  obtain ⟨k, hk, rfl⟩ := List.mem_map.mp h
  exact match k, List.mem_range.mp hk with
  | 0, _ => tw_227
  | 1, _ => tw_229
  | 2, _ => tw_231
  | 3, _ => tw_233
  | 4, _ => tw_235
  | 5, _ => tw_237
  | 6, _ => tw_239
  | 7, _ => tw_241
  | 8, _ => tw_243
  | n + 9, h => absurd h (by omega)
theorem inG8 : ∀ w ∈ u_ws RX8 TX8 8, w ∈ gtbl := by
  intro w h
  obtain ⟨k, hk, rfl⟩ := List.mem_map.mp h
  exact match k, List.mem_range.mp hk with
  | 0, _ => tw_315
  | 1, _ => tw_317
  | 2, _ => tw_319
  | 3, _ => tw_321
  | 4, _ => tw_323
  | 5, _ => tw_325
  | 6, _ => tw_327
  | 7, _ => tw_329
  | n + 8, h => absurd h (by omega)
theorem inG9 : ∀ w ∈ u_ws RX9 TX9 43, w ∈ gtbl := by
  intro w h
  obtain ⟨k, hk, rfl⟩ := List.mem_map.mp h
  exact match k, List.mem_range.mp hk with
  | 0, _ => tw_766
  | 1, _ => tw_768
  | 2, _ => tw_770
  | 3, _ => tw_772
  | 4, _ => tw_774
  | 5, _ => tw_776
  | 6, _ => tw_778
  | 7, _ => tw_780
  | 8, _ => tw_782
  | 9, _ => tw_784
  | 10, _ => tw_786
  | 11, _ => tw_788
  | 12, _ => tw_790
  | 13, _ => tw_792
  | 14, _ => tw_794
  | 15, _ => tw_796
  | 16, _ => tw_798
  | 17, _ => tw_800
  | 18, _ => tw_802
  | 19, _ => tw_804
  | 20, _ => tw_806
  | 21, _ => tw_808
  | 22, _ => tw_810
  | 23, _ => tw_812
  | 24, _ => tw_814
  | 25, _ => tw_816
  | 26, _ => tw_818
  | 27, _ => tw_820
  | 28, _ => tw_822
  | 29, _ => tw_824
  | 30, _ => tw_826
  | 31, _ => tw_828
  | 32, _ => tw_830
  | 33, _ => tw_832
  | 34, _ => tw_834
  | 35, _ => tw_836
  | 36, _ => tw_838
  | 37, _ => tw_840
  | 38, _ => tw_842
  | 39, _ => tw_844
  | 40, _ => tw_846
  | 41, _ => tw_848
  | 42, _ => tw_850
  | n + 43, h => absurd h (by omega)
