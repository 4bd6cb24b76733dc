/-- the words of the tables, one list for all methods -/
def gw : List Cond := lw_tbl.filter goodWord
theorem gw_p {q : MethodName × Nat} (h : q ∈ lw_privs) : Cond.selects q.1.cls q.1 q.1 ∈ gw := List.mem_filter.mpr ⟨List.mem_append_left _ (List.mem_map.mpr ⟨q, h, rfl⟩), rfl⟩
theorem gw_t {w : Cond} (h : w ∈ tables_1) (g : goodWord w = true) : w ∈ gw := List.mem_filter.mpr ⟨List.mem_append_right _ h, g⟩
theorem gw_1 {w : Cond} (h : w ∈ tables_1_1) (g : goodWord w = true) : w ∈ gw := gw_t (List.mem_append_left _ h) g
theorem gw_2 {w : Cond} (h : w ∈ tables_1_2) (g : goodWord w = true) : w ∈ gw := gw_t (List.mem_append_right _ (List.mem_append_left _ h)) g
theorem gw_3 {w : Cond} (h : w ∈ tables_1_3) (g : goodWord w = true) : w ∈ gw := gw_t (List.mem_append_right _ (List.mem_append_right _ (List.mem_append_left _ h))) g
theorem gw_4 {w : Cond} (h : w ∈ tables_1_4) (g : goodWord w = true) : w ∈ gw := gw_t (List.mem_append_right _ (List.mem_append_right _ (List.mem_append_right _ (List.mem_append_left _ h)))) g
theorem gw_5 {w : Cond} (h : w ∈ tables_1_5) (g : goodWord w = true) : w ∈ gw := gw_t (List.mem_append_right _ (List.mem_append_right _ (List.mem_append_right _ (List.mem_append_right _ (h))))) g
theorem gw_good : ∀ w ∈ gw, goodWord w = true := fun w h => (List.mem_filter.mp h).2
theorem gk_1_0 : Cond.initialized "WakeLetLaw" ∈ gw := gw_1 (List.mem_of_getElem? (i := 0) rfl) rfl
theorem gk_1_1 : Cond.initialized "WakeLet" ∈ gw := gw_1 (List.mem_of_getElem? (i := 1) rfl) rfl
theorem gk_1_2 : Cond.initialized "WakeLet$Agency" ∈ gw := gw_1 (List.mem_of_getElem? (i := 2) rfl) rfl
theorem gk_1_3 : Cond.initialized "WakeLet$Tape" ∈ gw := gw_1 (List.mem_of_getElem? (i := 3) rfl) rfl
theorem gk_1_4 : Cond.initialized "WakeLet$Acts" ∈ gw := gw_1 (List.mem_of_getElem? (i := 4) rfl) rfl
theorem gk_1_5 : Cond.initialized "WakeLet$Search" ∈ gw := gw_1 (List.mem_of_getElem? (i := 5) rfl) rfl
theorem gk_1_6 : Cond.initialized "WakeLet$Asks" ∈ gw := gw_1 (List.mem_of_getElem? (i := 6) rfl) rfl
theorem gk_1_7 : Cond.initialized "WakeLet$Row" ∈ gw := gw_1 (List.mem_of_getElem? (i := 7) rfl) rfl
theorem gk_1_8 : Cond.initialized "WakeLetModel" ∈ gw := gw_1 (List.mem_of_getElem? (i := 8) rfl) rfl
theorem gk_1_9 : Cond.initialized "java/lang/System" ∈ gw := gw_1 (List.mem_of_getElem? (i := 9) rfl) rfl
theorem gk_1_10 : Cond.initialized "java/lang/Math" ∈ gw := gw_1 (List.mem_of_getElem? (i := 10) rfl) rfl
theorem gk_1_11 : Cond.initialized "java/lang/Integer" ∈ gw := gw_1 (List.mem_of_getElem? (i := 11) rfl) rfl
theorem gk_1_12 : Cond.classLink "WakeLetLaw" 7 "WakeLet" ∈ gw := gw_1 (List.mem_of_getElem? (i := 12) rfl) rfl
theorem gk_1_13 : Cond.instantiable "WakeLet" 10 ∈ gw := gw_1 (List.mem_of_getElem? (i := 13) rfl) rfl
theorem gk_1_14 : Cond.methodLink "WakeLetLaw" 9 ⟨"WakeLet", "<init>", "()V"⟩ ∈ gw := gw_1 (List.mem_of_getElem? (i := 14) rfl) rfl
theorem gk_1_15 : Cond.instanceMethod ⟨"WakeLet", "<init>", "()V"⟩ ∈ gw := gw_1 (List.mem_of_getElem? (i := 15) rfl) rfl
theorem gk_1_16 : Cond.code ⟨"WakeLet", "<init>", "()V"⟩ prog_1_method_1_code 2 none ∈ gw := gw_1 (List.mem_of_getElem? (i := 16) rfl) rfl
theorem gk_1_17 : Cond.methodLink "WakeLet" 3 ⟨"java/lang/Object", "<init>", "()V"⟩ ∈ gw := gw_1 (List.mem_of_getElem? (i := 17) rfl) rfl
theorem gk_1_18 : Cond.instanceMethod ⟨"java/lang/Object", "<init>", "()V"⟩ ∈ gw := gw_1 (List.mem_of_getElem? (i := 18) rfl) rfl
theorem gk_1_19 : Cond.code ⟨"java/lang/Object", "<init>", "()V"⟩ object_method_1_code 1 none ∈ gw := gw_1 (List.mem_of_getElem? (i := 19) rfl) rfl
theorem gk_1_20 : Cond.classLink "WakeLet" 9 "WakeLet$Row" ∈ gw := gw_1 (List.mem_of_getElem? (i := 20) rfl) rfl
theorem gk_1_22 : Cond.classLink "WakeLet" 15 "WakeLet$Agency" ∈ gw := gw_1 (List.mem_of_getElem? (i := 22) rfl) rfl
theorem gk_1_24 : Cond.instantiable "WakeLet$Agency" 12 ∈ gw := gw_1 (List.mem_of_getElem? (i := 24) rfl) rfl
theorem gk_1_26 : Cond.instanceMethod ⟨"WakeLet$Agency", "<init>", "()V"⟩ ∈ gw := gw_1 (List.mem_of_getElem? (i := 26) rfl) rfl
theorem gk_1_27 : Cond.code ⟨"WakeLet$Agency", "<init>", "()V"⟩ prog_3_method_1_code 1 none ∈ gw := gw_1 (List.mem_of_getElem? (i := 27) rfl) rfl
theorem gk_1_28 : Cond.methodLink "WakeLet$Agency" 3 ⟨"java/lang/Object", "<init>", "()V"⟩ ∈ gw := gw_1 (List.mem_of_getElem? (i := 28) rfl) rfl
theorem gk_1_29 : Cond.fieldLink "WakeLet$Agency" 9 "WakeLet$Agency" "weights" "[I" ∈ gw := gw_1 (List.mem_of_getElem? (i := 29) rfl) rfl
theorem gk_1_30 : Cond.fieldLink "WakeLet$Acts" 31 "WakeLet$Agency" "weights" "[I" ∈ gw := gw_1 (List.mem_of_getElem? (i := 30) rfl) rfl
theorem gk_1_31 : Cond.fieldLink "WakeLet$Tape" 68 "WakeLet$Agency" "weights" "[I" ∈ gw := gw_1 (List.mem_of_getElem? (i := 31) rfl) rfl
theorem gk_1_32 : Cond.fieldLink "WakeLet$Search" 75 "WakeLet$Agency" "weights" "[I" ∈ gw := gw_1 (List.mem_of_getElem? (i := 32) rfl) rfl
theorem gk_1_33 : Cond.fieldLink "WakeLet" 164 "WakeLet$Agency" "weights" "[I" ∈ gw := gw_1 (List.mem_of_getElem? (i := 33) rfl) rfl
theorem gk_1_34 : Cond.fieldLink "WakeLet$Agency" 15 "WakeLet$Agency" "worries" "[I" ∈ gw := gw_1 (List.mem_of_getElem? (i := 34) rfl) rfl
theorem gk_1_35 : Cond.fieldLink "WakeLet$Tape" 71 "WakeLet$Agency" "worries" "[I" ∈ gw := gw_1 (List.mem_of_getElem? (i := 35) rfl) rfl
theorem gk_1_36 : Cond.fieldLink "WakeLet" 177 "WakeLet$Agency" "worries" "[I" ∈ gw := gw_1 (List.mem_of_getElem? (i := 36) rfl) rfl
theorem gk_1_37 : Cond.fieldLink "WakeLet$Agency" 18 "WakeLet$Agency" "kinds" "[I" ∈ gw := gw_1 (List.mem_of_getElem? (i := 37) rfl) rfl
theorem gk_1_38 : Cond.fieldLink "WakeLet$Asks" 36 "WakeLet$Agency" "kinds" "[I" ∈ gw := gw_1 (List.mem_of_getElem? (i := 38) rfl) rfl
theorem gk_1_39 : Cond.fieldLink "WakeLet$Tape" 83 "WakeLet$Agency" "kinds" "[I" ∈ gw := gw_1 (List.mem_of_getElem? (i := 39) rfl) rfl
theorem gk_1_40 : Cond.fieldLink "WakeLet" 261 "WakeLet$Agency" "kinds" "[I" ∈ gw := gw_1 (List.mem_of_getElem? (i := 40) rfl) rfl
theorem gk_1_41 : Cond.fieldLink "WakeLet$Agency" 21 "WakeLet$Agency" "hours" "[I" ∈ gw := gw_1 (List.mem_of_getElem? (i := 41) rfl) rfl
theorem gk_1_42 : Cond.fieldLink "WakeLet$Tape" 86 "WakeLet$Agency" "hours" "[I" ∈ gw := gw_1 (List.mem_of_getElem? (i := 42) rfl) rfl
theorem gk_1_43 : Cond.fieldLink "WakeLet$Asks" 59 "WakeLet$Agency" "hours" "[I" ∈ gw := gw_1 (List.mem_of_getElem? (i := 43) rfl) rfl
theorem gk_1_44 : Cond.fieldLink "WakeLet" 186 "WakeLet$Agency" "hours" "[I" ∈ gw := gw_1 (List.mem_of_getElem? (i := 44) rfl) rfl
theorem gk_1_45 : Cond.fieldLink "WakeLet$Agency" 24 "WakeLet$Agency" "fitting" "[I" ∈ gw := gw_1 (List.mem_of_getElem? (i := 45) rfl) rfl
theorem gk_1_46 : Cond.fieldLink "WakeLet$Acts" 40 "WakeLet$Agency" "fitting" "[I" ∈ gw := gw_1 (List.mem_of_getElem? (i := 46) rfl) rfl
theorem gk_1_47 : Cond.fieldLink "WakeLet$Tape" 89 "WakeLet$Agency" "fitting" "[I" ∈ gw := gw_1 (List.mem_of_getElem? (i := 47) rfl) rfl
theorem gk_1_48 : Cond.fieldLink "WakeLet" 167 "WakeLet$Agency" "fitting" "[I" ∈ gw := gw_1 (List.mem_of_getElem? (i := 48) rfl) rfl
theorem gk_1_49 : Cond.fieldLink "WakeLet$Agency" 27 "WakeLet$Agency" "hirers" "[I" ∈ gw := gw_1 (List.mem_of_getElem? (i := 49) rfl) rfl
theorem gk_1_50 : Cond.fieldLink "WakeLet$Acts" 43 "WakeLet$Agency" "hirers" "[I" ∈ gw := gw_1 (List.mem_of_getElem? (i := 50) rfl) rfl
theorem gk_1_51 : Cond.fieldLink "WakeLet$Tape" 92 "WakeLet$Agency" "hirers" "[I" ∈ gw := gw_1 (List.mem_of_getElem? (i := 51) rfl) rfl
theorem gk_1_52 : Cond.fieldLink "WakeLet" 158 "WakeLet$Agency" "hirers" "[I" ∈ gw := gw_1 (List.mem_of_getElem? (i := 52) rfl) rfl
theorem gk_1_53 : Cond.fieldLink "WakeLet$Agency" 30 "WakeLet$Agency" "wages" "[I" ∈ gw := gw_1 (List.mem_of_getElem? (i := 53) rfl) rfl
theorem gk_1_54 : Cond.fieldLink "WakeLet$Acts" 46 "WakeLet$Agency" "wages" "[I" ∈ gw := gw_1 (List.mem_of_getElem? (i := 54) rfl) rfl
theorem gk_1_55 : Cond.fieldLink "WakeLet$Tape" 99 "WakeLet$Agency" "wages" "[I" ∈ gw := gw_1 (List.mem_of_getElem? (i := 55) rfl) rfl
theorem gk_1_56 : Cond.fieldLink "WakeLet$Asks" 62 "WakeLet$Agency" "wages" "[I" ∈ gw := gw_1 (List.mem_of_getElem? (i := 56) rfl) rfl
theorem gk_1_57 : Cond.fieldLink "WakeLet" 193 "WakeLet$Agency" "wages" "[I" ∈ gw := gw_1 (List.mem_of_getElem? (i := 57) rfl) rfl
theorem gk_1_58 : Cond.fieldLink "WakeLet$Agency" 33 "WakeLet$Agency" "clients" "I" ∈ gw := gw_1 (List.mem_of_getElem? (i := 58) rfl) rfl
theorem gk_1_59 : Cond.fieldLink "WakeLet$Search" 43 "WakeLet$Agency" "clients" "I" ∈ gw := gw_1 (List.mem_of_getElem? (i := 59) rfl) rfl
theorem gk_1_60 : Cond.fieldLink "WakeLet$Tape" 65 "WakeLet$Agency" "clients" "I" ∈ gw := gw_1 (List.mem_of_getElem? (i := 60) rfl) rfl
theorem gk_1_61 : Cond.fieldLink "WakeLet" 132 "WakeLet$Agency" "clients" "I" ∈ gw := gw_1 (List.mem_of_getElem? (i := 61) rfl) rfl
theorem gk_1_62 : Cond.fieldLink "WakeLet$Agency" 37 "WakeLet$Agency" "wakers" "I" ∈ gw := gw_1 (List.mem_of_getElem? (i := 62) rfl) rfl
theorem gk_1_63 : Cond.fieldLink "WakeLet$Tape" 80 "WakeLet$Agency" "wakers" "I" ∈ gw := gw_1 (List.mem_of_getElem? (i := 63) rfl) rfl
theorem gk_1_64 : Cond.fieldLink "WakeLet$Search" 103 "WakeLet$Agency" "wakers" "I" ∈ gw := gw_1 (List.mem_of_getElem? (i := 64) rfl) rfl
theorem gk_1_65 : Cond.fieldLink "WakeLet" 232 "WakeLet$Agency" "wakers" "I" ∈ gw := gw_1 (List.mem_of_getElem? (i := 65) rfl) rfl
theorem gk_1_66 : Cond.fieldLink "WakeLet$Search" 52 "WakeLet$Agency" "bears" "I" ∈ gw := gw_1 (List.mem_of_getElem? (i := 66) rfl) rfl
theorem gk_1_67 : Cond.fieldLink "WakeLet$Agency" 49 "WakeLet$Agency" "bears" "I" ∈ gw := gw_1 (List.mem_of_getElem? (i := 67) rfl) rfl
theorem gk_1_68 : Cond.fieldLink "WakeLet$Tape" 52 "WakeLet$Agency" "bears" "I" ∈ gw := gw_1 (List.mem_of_getElem? (i := 68) rfl) rfl
theorem gk_1_69 : Cond.fieldLink "WakeLet$Agency" 52 "WakeLet$Agency" "moon" "I" ∈ gw := gw_1 (List.mem_of_getElem? (i := 69) rfl) rfl
theorem gk_1_70 : Cond.fieldLink "WakeLet$Tape" 55 "WakeLet$Agency" "moon" "I" ∈ gw := gw_1 (List.mem_of_getElem? (i := 70) rfl) rfl
theorem gk_1_71 : Cond.fieldLink "WakeLet$Agency" 40 "WakeLet$Agency" "night" "I" ∈ gw := gw_1 (List.mem_of_getElem? (i := 71) rfl) rfl
theorem gk_1_72 : Cond.fieldLink "WakeLet$Acts" 26 "WakeLet$Agency" "night" "I" ∈ gw := gw_1 (List.mem_of_getElem? (i := 72) rfl) rfl
theorem gk_1_73 : Cond.fieldLink "WakeLet$Search" 78 "WakeLet$Agency" "night" "I" ∈ gw := gw_1 (List.mem_of_getElem? (i := 73) rfl) rfl
theorem gk_1_74 : Cond.fieldLink "WakeLet" 139 "WakeLet$Agency" "night" "I" ∈ gw := gw_1 (List.mem_of_getElem? (i := 74) rfl) rfl
theorem gk_1_75 : Cond.laysFinal "WakeLet$Agency" "WakeLet$Agency" "weights" "[I" ∈ gw := gw_1 (List.mem_of_getElem? (i := 75) rfl) rfl
theorem gk_1_77 : Cond.laysFinal "WakeLet$Agency" "WakeLet$Agency" "worries" "[I" ∈ gw := gw_1 (List.mem_of_getElem? (i := 77) rfl) rfl
theorem gk_1_79 : Cond.laysFinal "WakeLet$Agency" "WakeLet$Agency" "kinds" "[I" ∈ gw := gw_1 (List.mem_of_getElem? (i := 79) rfl) rfl
theorem gk_1_81 : Cond.laysFinal "WakeLet$Agency" "WakeLet$Agency" "hours" "[I" ∈ gw := gw_1 (List.mem_of_getElem? (i := 81) rfl) rfl
theorem gk_1_83 : Cond.laysFinal "WakeLet$Agency" "WakeLet$Agency" "fitting" "[I" ∈ gw := gw_1 (List.mem_of_getElem? (i := 83) rfl) rfl
theorem gk_1_85 : Cond.laysFinal "WakeLet$Agency" "WakeLet$Agency" "hirers" "[I" ∈ gw := gw_1 (List.mem_of_getElem? (i := 85) rfl) rfl
theorem gk_1_87 : Cond.laysFinal "WakeLet$Agency" "WakeLet$Agency" "wages" "[I" ∈ gw := gw_1 (List.mem_of_getElem? (i := 87) rfl) rfl
theorem gk_1_89 : Cond.lays "WakeLet$Agency" "WakeLet$Agency" "clients" "I" ∈ gw := gw_1 (List.mem_of_getElem? (i := 89) rfl) rfl
theorem gk_1_91 : Cond.lays "WakeLet$Agency" "WakeLet$Agency" "wakers" "I" ∈ gw := gw_1 (List.mem_of_getElem? (i := 91) rfl) rfl
theorem gk_1_93 : Cond.lays "WakeLet$Agency" "WakeLet$Agency" "bears" "I" ∈ gw := gw_1 (List.mem_of_getElem? (i := 93) rfl) rfl
theorem gk_1_95 : Cond.lays "WakeLet$Agency" "WakeLet$Agency" "moon" "I" ∈ gw := gw_1 (List.mem_of_getElem? (i := 95) rfl) rfl
theorem gk_1_97 : Cond.lays "WakeLet$Agency" "WakeLet$Agency" "night" "I" ∈ gw := gw_1 (List.mem_of_getElem? (i := 97) rfl) rfl
theorem gk_1_100 : Cond.arrayClass .int ∈ gw := gw_1 (List.mem_of_getElem? (i := 100) rfl) rfl
theorem gk_1_101 : Cond.classLink "WakeLet" 29 "WakeLet$Tape" ∈ gw := gw_1 (List.mem_of_getElem? (i := 101) rfl) rfl
theorem gk_1_102 : Cond.instantiable "WakeLet$Tape" 5 ∈ gw := gw_1 (List.mem_of_getElem? (i := 102) rfl) rfl
theorem gk_1_104 : Cond.instanceMethod ⟨"WakeLet$Tape", "<init>", "()V"⟩ ∈ gw := gw_1 (List.mem_of_getElem? (i := 104) rfl) rfl
theorem gk_1_105 : Cond.code ⟨"WakeLet$Tape", "<init>", "()V"⟩ prog_7_method_1_code 1 none ∈ gw := gw_1 (List.mem_of_getElem? (i := 105) rfl) rfl
theorem gk_1_106 : Cond.methodLink "WakeLet$Tape" 3 ⟨"java/lang/Object", "<init>", "()V"⟩ ∈ gw := gw_1 (List.mem_of_getElem? (i := 106) rfl) rfl
theorem gk_1_107 : Cond.fieldLink "WakeLet$Tape" 9 "WakeLet$Tape" "bytes" "[I" ∈ gw := gw_1 (List.mem_of_getElem? (i := 107) rfl) rfl
theorem gk_1_108 : Cond.fieldLink "WakeLet$Tape" 15 "WakeLet$Tape" "length" "I" ∈ gw := gw_1 (List.mem_of_getElem? (i := 108) rfl) rfl
theorem gk_1_109 : Cond.fieldLink "WakeLet" 108 "WakeLet$Tape" "length" "I" ∈ gw := gw_1 (List.mem_of_getElem? (i := 109) rfl) rfl
theorem gk_1_110 : Cond.fieldLink "WakeLet$Tape" 19 "WakeLet$Tape" "place" "I" ∈ gw := gw_1 (List.mem_of_getElem? (i := 110) rfl) rfl
theorem gk_1_111 : Cond.fieldLink "WakeLet$Tape" 22 "WakeLet$Tape" "fault" "I" ∈ gw := gw_1 (List.mem_of_getElem? (i := 111) rfl) rfl
theorem gk_1_112 : Cond.fieldLink "WakeLet" 116 "WakeLet$Tape" "fault" "I" ∈ gw := gw_1 (List.mem_of_getElem? (i := 112) rfl) rfl
theorem gk_1_113 : Cond.fieldLink "WakeLet" 123 "WakeLet$Tape" "faultPlace" "I" ∈ gw := gw_1 (List.mem_of_getElem? (i := 113) rfl) rfl
theorem gk_1_114 : Cond.fieldLink "WakeLet$Tape" 115 "WakeLet$Tape" "faultPlace" "I" ∈ gw := gw_1 (List.mem_of_getElem? (i := 114) rfl) rfl
theorem gk_1_115 : Cond.laysFinal "WakeLet$Tape" "WakeLet$Tape" "bytes" "[I" ∈ gw := gw_1 (List.mem_of_getElem? (i := 115) rfl) rfl
theorem gk_1_117 : Cond.lays "WakeLet$Tape" "WakeLet$Tape" "length" "I" ∈ gw := gw_1 (List.mem_of_getElem? (i := 117) rfl) rfl
theorem gk_1_119 : Cond.lays "WakeLet$Tape" "WakeLet$Tape" "place" "I" ∈ gw := gw_1 (List.mem_of_getElem? (i := 119) rfl) rfl
theorem gk_1_121 : Cond.lays "WakeLet$Tape" "WakeLet$Tape" "fault" "I" ∈ gw := gw_1 (List.mem_of_getElem? (i := 121) rfl) rfl
theorem gk_1_123 : Cond.lays "WakeLet$Tape" "WakeLet$Tape" "faultPlace" "I" ∈ gw := gw_1 (List.mem_of_getElem? (i := 123) rfl) rfl
theorem gk_1_126 : Cond.classLink "WakeLet" 36 "WakeLet$Acts" ∈ gw := gw_1 (List.mem_of_getElem? (i := 126) rfl) rfl
theorem gk_1_127 : Cond.instantiable "WakeLet$Acts" 3 ∈ gw := gw_1 (List.mem_of_getElem? (i := 127) rfl) rfl
theorem gk_1_129 : Cond.instanceMethod ⟨"WakeLet$Acts", "<init>", "()V"⟩ ∈ gw := gw_1 (List.mem_of_getElem? (i := 129) rfl) rfl
theorem gk_1_130 : Cond.code ⟨"WakeLet$Acts", "<init>", "()V"⟩ prog_2_method_1_code 1 none ∈ gw := gw_1 (List.mem_of_getElem? (i := 130) rfl) rfl
theorem gk_1_131 : Cond.methodLink "WakeLet$Acts" 3 ⟨"java/lang/Object", "<init>", "()V"⟩ ∈ gw := gw_1 (List.mem_of_getElem? (i := 131) rfl) rfl
theorem gk_1_132 : Cond.fieldLink "WakeLet$Acts" 11 "WakeLet$Acts" "log" "[I" ∈ gw := gw_1 (List.mem_of_getElem? (i := 132) rfl) rfl
theorem gk_1_133 : Cond.fieldLink "WakeLet$Acts" 19 "WakeLet$Acts" "first" "I" ∈ gw := gw_1 (List.mem_of_getElem? (i := 133) rfl) rfl
theorem gk_1_134 : Cond.fieldLink "WakeLet$Acts" 15 "WakeLet$Acts" "kept" "I" ∈ gw := gw_1 (List.mem_of_getElem? (i := 134) rfl) rfl
theorem gk_1_135 : Cond.fieldLink "WakeLet" 174 "WakeLet$Acts" "kept" "I" ∈ gw := gw_1 (List.mem_of_getElem? (i := 135) rfl) rfl
theorem gk_1_136 : Cond.laysFinal "WakeLet$Acts" "WakeLet$Acts" "log" "[I" ∈ gw := gw_1 (List.mem_of_getElem? (i := 136) rfl) rfl
theorem gk_1_138 : Cond.lays "WakeLet$Acts" "WakeLet$Acts" "first" "I" ∈ gw := gw_1 (List.mem_of_getElem? (i := 138) rfl) rfl
theorem gk_1_140 : Cond.lays "WakeLet$Acts" "WakeLet$Acts" "kept" "I" ∈ gw := gw_1 (List.mem_of_getElem? (i := 140) rfl) rfl
theorem gk_1_143 : Cond.classLink "WakeLet" 43 "WakeLet$Search" ∈ gw := gw_1 (List.mem_of_getElem? (i := 143) rfl) rfl
theorem gk_1_144 : Cond.instantiable "WakeLet$Search" 8 ∈ gw := gw_1 (List.mem_of_getElem? (i := 144) rfl) rfl
theorem gk_1_146 : Cond.instanceMethod ⟨"WakeLet$Search", "<init>", "()V"⟩ ∈ gw := gw_1 (List.mem_of_getElem? (i := 146) rfl) rfl
theorem gk_1_147 : Cond.code ⟨"WakeLet$Search", "<init>", "()V"⟩ prog_6_method_1_code 1 none ∈ gw := gw_1 (List.mem_of_getElem? (i := 147) rfl) rfl
theorem gk_1_148 : Cond.methodLink "WakeLet$Search" 3 ⟨"java/lang/Object", "<init>", "()V"⟩ ∈ gw := gw_1 (List.mem_of_getElem? (i := 148) rfl) rfl
theorem gk_1_149 : Cond.fieldLink "WakeLet$Search" 9 "WakeLet$Search" "behind" "[I" ∈ gw := gw_1 (List.mem_of_getElem? (i := 149) rfl) rfl
theorem gk_1_150 : Cond.fieldLink "WakeLet$Search" 15 "WakeLet$Search" "taken" "[I" ∈ gw := gw_1 (List.mem_of_getElem? (i := 150) rfl) rfl
theorem gk_1_151 : Cond.fieldLink "WakeLet$Search" 18 "WakeLet$Search" "hiredBy" "[I" ∈ gw := gw_1 (List.mem_of_getElem? (i := 151) rfl) rfl
theorem gk_1_152 : Cond.fieldLink "WakeLet$Search" 21 "WakeLet$Search" "tried" "[I" ∈ gw := gw_1 (List.mem_of_getElem? (i := 152) rfl) rfl
theorem gk_1_153 : Cond.fieldLink "WakeLet$Search" 24 "WakeLet$Search" "chosen" "[I" ∈ gw := gw_1 (List.mem_of_getElem? (i := 153) rfl) rfl
theorem gk_1_154 : Cond.fieldLink "WakeLet" 287 "WakeLet$Search" "chosen" "[I" ∈ gw := gw_1 (List.mem_of_getElem? (i := 154) rfl) rfl
theorem gk_1_155 : Cond.fieldLink "WakeLet$Search" 31 "WakeLet$Search" "resting" "I" ∈ gw := gw_1 (List.mem_of_getElem? (i := 155) rfl) rfl
theorem gk_1_156 : Cond.fieldLink "WakeLet" 212 "WakeLet$Search" "resting" "I" ∈ gw := gw_1 (List.mem_of_getElem? (i := 156) rfl) rfl
theorem gk_1_157 : Cond.fieldLink "WakeLet$Search" 55 "WakeLet$Search" "together" "I" ∈ gw := gw_1 (List.mem_of_getElem? (i := 157) rfl) rfl
theorem gk_1_158 : Cond.fieldLink "WakeLet" 209 "WakeLet$Search" "together" "I" ∈ gw := gw_1 (List.mem_of_getElem? (i := 158) rfl) rfl
theorem gk_1_159 : Cond.fieldLink "WakeLet$Search" 62 "WakeLet$Search" "hired" "I" ∈ gw := gw_1 (List.mem_of_getElem? (i := 159) rfl) rfl
theorem gk_1_160 : Cond.fieldLink "WakeLet" 221 "WakeLet$Search" "hired" "I" ∈ gw := gw_1 (List.mem_of_getElem? (i := 160) rfl) rfl
theorem gk_1_161 : Cond.laysFinal "WakeLet$Search" "WakeLet$Search" "behind" "[I" ∈ gw := gw_1 (List.mem_of_getElem? (i := 161) rfl) rfl
theorem gk_1_163 : Cond.laysFinal "WakeLet$Search" "WakeLet$Search" "taken" "[I" ∈ gw := gw_1 (List.mem_of_getElem? (i := 163) rfl) rfl
theorem gk_1_165 : Cond.laysFinal "WakeLet$Search" "WakeLet$Search" "hiredBy" "[I" ∈ gw := gw_1 (List.mem_of_getElem? (i := 165) rfl) rfl
theorem gk_1_167 : Cond.laysFinal "WakeLet$Search" "WakeLet$Search" "tried" "[I" ∈ gw := gw_1 (List.mem_of_getElem? (i := 167) rfl) rfl
theorem gk_1_169 : Cond.laysFinal "WakeLet$Search" "WakeLet$Search" "chosen" "[I" ∈ gw := gw_1 (List.mem_of_getElem? (i := 169) rfl) rfl
theorem gk_1_171 : Cond.lays "WakeLet$Search" "WakeLet$Search" "resting" "I" ∈ gw := gw_1 (List.mem_of_getElem? (i := 171) rfl) rfl
theorem gk_1_173 : Cond.lays "WakeLet$Search" "WakeLet$Search" "together" "I" ∈ gw := gw_1 (List.mem_of_getElem? (i := 173) rfl) rfl
theorem gk_1_175 : Cond.lays "WakeLet$Search" "WakeLet$Search" "hired" "I" ∈ gw := gw_1 (List.mem_of_getElem? (i := 175) rfl) rfl
theorem gk_1_178 : Cond.classLink "WakeLet" 50 "WakeLet$Asks" ∈ gw := gw_1 (List.mem_of_getElem? (i := 178) rfl) rfl
theorem gk_1_179 : Cond.instantiable "WakeLet$Asks" 2 ∈ gw := gw_1 (List.mem_of_getElem? (i := 179) rfl) rfl
theorem gk_1_181 : Cond.instanceMethod ⟨"WakeLet$Asks", "<init>", "()V"⟩ ∈ gw := gw_1 (List.mem_of_getElem? (i := 181) rfl) rfl
theorem gk_1_182 : Cond.code ⟨"WakeLet$Asks", "<init>", "()V"⟩ prog_4_method_1_code 1 none ∈ gw := gw_1 (List.mem_of_getElem? (i := 182) rfl) rfl
theorem gk_1_183 : Cond.methodLink "WakeLet$Asks" 3 ⟨"java/lang/Object", "<init>", "()V"⟩ ∈ gw := gw_1 (List.mem_of_getElem? (i := 183) rfl) rfl
theorem gk_1_184 : Cond.fieldLink "WakeLet$Asks" 11 "WakeLet$Asks" "numbers" "[I" ∈ gw := gw_1 (List.mem_of_getElem? (i := 184) rfl) rfl
theorem gk_1_185 : Cond.fieldLink "WakeLet" 274 "WakeLet$Asks" "numbers" "[I" ∈ gw := gw_1 (List.mem_of_getElem? (i := 185) rfl) rfl
theorem gk_1_186 : Cond.fieldLink "WakeLet$Asks" 15 "WakeLet$Asks" "traced" "I" ∈ gw := gw_1 (List.mem_of_getElem? (i := 186) rfl) rfl
theorem gk_1_187 : Cond.fieldLink "WakeLet" 271 "WakeLet$Asks" "traced" "I" ∈ gw := gw_1 (List.mem_of_getElem? (i := 187) rfl) rfl
theorem gk_1_188 : Cond.laysFinal "WakeLet$Asks" "WakeLet$Asks" "numbers" "[I" ∈ gw := gw_1 (List.mem_of_getElem? (i := 188) rfl) rfl
theorem gk_1_190 : Cond.lays "WakeLet$Asks" "WakeLet$Asks" "traced" "I" ∈ gw := gw_1 (List.mem_of_getElem? (i := 190) rfl) rfl
theorem gk_1_193 : Cond.instantiable "WakeLet$Row" 3 ∈ gw := gw_1 (List.mem_of_getElem? (i := 193) rfl) rfl
theorem gk_1_195 : Cond.instanceMethod ⟨"WakeLet$Row", "<init>", "()V"⟩ ∈ gw := gw_1 (List.mem_of_getElem? (i := 195) rfl) rfl
theorem gk_1_196 : Cond.code ⟨"WakeLet$Row", "<init>", "()V"⟩ prog_5_method_1_code 1 none ∈ gw := gw_1 (List.mem_of_getElem? (i := 196) rfl) rfl
theorem gk_1_197 : Cond.methodLink "WakeLet$Row" 3 ⟨"java/lang/Object", "<init>", "()V"⟩ ∈ gw := gw_1 (List.mem_of_getElem? (i := 197) rfl) rfl
theorem gk_1_198 : Cond.fieldLink "WakeLet$Row" 9 "WakeLet$Row" "items" "[I" ∈ gw := gw_1 (List.mem_of_getElem? (i := 198) rfl) rfl
theorem gk_1_199 : Cond.fieldLink "WakeLet" 90 "WakeLet$Row" "items" "[I" ∈ gw := gw_1 (List.mem_of_getElem? (i := 199) rfl) rfl
theorem gk_1_200 : Cond.fieldLink "WakeLet$Row" 19 "WakeLet$Row" "lane" "I" ∈ gw := gw_1 (List.mem_of_getElem? (i := 200) rfl) rfl
theorem gk_1_201 : Cond.fieldLink "WakeLet" 86 "WakeLet$Row" "lane" "I" ∈ gw := gw_1 (List.mem_of_getElem? (i := 201) rfl) rfl
theorem gk_1_202 : Cond.fieldLink "WakeLet$Row" 15 "WakeLet$Row" "size" "I" ∈ gw := gw_1 (List.mem_of_getElem? (i := 202) rfl) rfl
theorem gk_1_203 : Cond.laysFinal "WakeLet$Row" "WakeLet$Row" "items" "[I" ∈ gw := gw_1 (List.mem_of_getElem? (i := 203) rfl) rfl
theorem gk_1_205 : Cond.lays "WakeLet$Row" "WakeLet$Row" "lane" "I" ∈ gw := gw_1 (List.mem_of_getElem? (i := 205) rfl) rfl
theorem gk_1_207 : Cond.lays "WakeLet$Row" "WakeLet$Row" "size" "I" ∈ gw := gw_1 (List.mem_of_getElem? (i := 207) rfl) rfl
theorem gk_1_210 : Cond.fieldLink "WakeLet" 11 "WakeLet" "rows" "[LWakeLet$Row;" ∈ gw := gw_1 (List.mem_of_getElem? (i := 210) rfl) rfl
theorem gk_1_211 : Cond.fieldLink "WakeLet" 17 "WakeLet" "images" "[LWakeLet$Agency;" ∈ gw := gw_1 (List.mem_of_getElem? (i := 211) rfl) rfl
theorem gk_1_212 : Cond.fieldLink "WakeLet" 22 "WakeLet" "now" "LWakeLet$Agency;" ∈ gw := gw_1 (List.mem_of_getElem? (i := 212) rfl) rfl
theorem gk_1_213 : Cond.fieldLink "WakeLet" 26 "WakeLet" "trial" "LWakeLet$Agency;" ∈ gw := gw_1 (List.mem_of_getElem? (i := 213) rfl) rfl
theorem gk_1_214 : Cond.fieldLink "WakeLet" 32 "WakeLet" "tape" "LWakeLet$Tape;" ∈ gw := gw_1 (List.mem_of_getElem? (i := 214) rfl) rfl
theorem gk_1_215 : Cond.fieldLink "WakeLet" 39 "WakeLet" "acts" "LWakeLet$Acts;" ∈ gw := gw_1 (List.mem_of_getElem? (i := 215) rfl) rfl
theorem gk_1_216 : Cond.fieldLink "WakeLet" 46 "WakeLet" "search" "LWakeLet$Search;" ∈ gw := gw_1 (List.mem_of_getElem? (i := 216) rfl) rfl
theorem gk_1_217 : Cond.fieldLink "WakeLet" 53 "WakeLet" "asks" "LWakeLet$Asks;" ∈ gw := gw_1 (List.mem_of_getElem? (i := 217) rfl) rfl
theorem gk_1_218 : Cond.fieldLink "WakeLet" 119 "WakeLet" "latestFault" "I" ∈ gw := gw_1 (List.mem_of_getElem? (i := 218) rfl) rfl
theorem gk_1_219 : Cond.fieldLink "WakeLet" 283 "WakeLet" "finding" "I" ∈ gw := gw_1 (List.mem_of_getElem? (i := 219) rfl) rfl
theorem gk_1_220 : Cond.laysFinal "WakeLet" "WakeLet" "rows" "[LWakeLet$Row;" ∈ gw := gw_1 (List.mem_of_getElem? (i := 220) rfl) rfl
theorem gk_1_222 : Cond.laysFinal "WakeLet" "WakeLet" "images" "[LWakeLet$Agency;" ∈ gw := gw_1 (List.mem_of_getElem? (i := 222) rfl) rfl
theorem gk_1_224 : Cond.laysFinal "WakeLet" "WakeLet" "now" "LWakeLet$Agency;" ∈ gw := gw_1 (List.mem_of_getElem? (i := 224) rfl) rfl
theorem gk_1_226 : Cond.laysFinal "WakeLet" "WakeLet" "trial" "LWakeLet$Agency;" ∈ gw := gw_1 (List.mem_of_getElem? (i := 226) rfl) rfl
theorem gk_1_228 : Cond.laysFinal "WakeLet" "WakeLet" "tape" "LWakeLet$Tape;" ∈ gw := gw_1 (List.mem_of_getElem? (i := 228) rfl) rfl
theorem gk_1_230 : Cond.laysFinal "WakeLet" "WakeLet" "acts" "LWakeLet$Acts;" ∈ gw := gw_1 (List.mem_of_getElem? (i := 230) rfl) rfl
theorem gk_1_232 : Cond.laysFinal "WakeLet" "WakeLet" "search" "LWakeLet$Search;" ∈ gw := gw_1 (List.mem_of_getElem? (i := 232) rfl) rfl
theorem gk_1_234 : Cond.laysFinal "WakeLet" "WakeLet" "asks" "LWakeLet$Asks;" ∈ gw := gw_1 (List.mem_of_getElem? (i := 234) rfl) rfl
theorem gk_1_236 : Cond.lays "WakeLet" "WakeLet" "latestFault" "I" ∈ gw := gw_1 (List.mem_of_getElem? (i := 236) rfl) rfl
theorem gk_1_238 : Cond.lays "WakeLet" "WakeLet" "finding" "I" ∈ gw := gw_1 (List.mem_of_getElem? (i := 238) rfl) rfl
theorem gk_2_1 : Cond.methodLink "WakeLetLaw" 13 ⟨"WakeLet", "row", "(III)I"⟩ ∈ gw := gw_2 (List.mem_of_getElem? (i := 1) rfl) rfl
theorem gk_2_2 : Cond.instanceMethod ⟨"WakeLet", "row", "(III)I"⟩ ∈ gw := gw_2 (List.mem_of_getElem? (i := 2) rfl) rfl
theorem gk_2_3 : Cond.selects "WakeLet" ⟨"WakeLet", "row", "(III)I"⟩ ⟨"WakeLet", "row", "(III)I"⟩ ∈ gw := gw_2 (List.mem_of_getElem? (i := 3) rfl) rfl
theorem gk_2_4 : Cond.code ⟨"WakeLet", "row", "(III)I"⟩ prog_1_method_2_code 4 (some FieldType.int) ∈ gw := gw_2 (List.mem_of_getElem? (i := 4) rfl) rfl
theorem gk_2_5 : Cond.methodLink "WakeLet" 58 ⟨"WakeLet", "isWithin", "(III)Z"⟩ ∈ gw := gw_2 (List.mem_of_getElem? (i := 5) rfl) rfl
theorem gk_2_6 : Cond.static ⟨"WakeLet", "isWithin", "(III)Z"⟩ ∈ gw := gw_2 (List.mem_of_getElem? (i := 6) rfl) rfl
theorem gk_2_7 : Cond.code ⟨"WakeLet", "isWithin", "(III)Z"⟩ prog_1_method_35_code 3 (some FieldType.boolean) ∈ gw := gw_2 (List.mem_of_getElem? (i := 7) rfl) rfl
theorem gk_2_8 : Cond.constant "WakeLet" 62 (-1000001) ∈ gw := gw_2 (List.mem_of_getElem? (i := 8) rfl) rfl
theorem gk_2_9 : Cond.methodLink "WakeLet" 63 ⟨"WakeLet", "found", "(I)I"⟩ ∈ gw := gw_2 (List.mem_of_getElem? (i := 9) rfl) rfl
theorem gk_2_11 : Cond.instanceMethod ⟨"WakeLet", "found", "(I)I"⟩ ∈ gw := gw_2 (List.mem_of_getElem? (i := 11) rfl) rfl
theorem gk_2_12 : Cond.code ⟨"WakeLet", "found", "(I)I"⟩ prog_1_method_36_code 2 (some FieldType.int) ∈ gw := gw_2 (List.mem_of_getElem? (i := 12) rfl) rfl
theorem gk_2_13 : Cond.constant "WakeLet" 286 (-1000010) ∈ gw := gw_2 (List.mem_of_getElem? (i := 13) rfl) rfl
theorem gk_2_14 : Cond.methodLink "WakeLet" 67 ⟨"WakeLet$Row", "make", "(II)V"⟩ ∈ gw := gw_2 (List.mem_of_getElem? (i := 14) rfl) rfl
theorem gk_2_15 : Cond.instanceMethod ⟨"WakeLet$Row", "make", "(II)V"⟩ ∈ gw := gw_2 (List.mem_of_getElem? (i := 15) rfl) rfl
theorem gk_2_16 : Cond.selects "WakeLet$Row" ⟨"WakeLet$Row", "make", "(II)V"⟩ ⟨"WakeLet$Row", "make", "(II)V"⟩ ∈ gw := gw_2 (List.mem_of_getElem? (i := 16) rfl) rfl
theorem gk_2_17 : Cond.code ⟨"WakeLet$Row", "make", "(II)V"⟩ prog_5_method_4_code 4 none ∈ gw := gw_2 (List.mem_of_getElem? (i := 17) rfl) rfl
theorem gk_2_18 : Cond.methodLink "WakeLet" 71 ⟨"WakeLet", "unfound", "(I)I"⟩ ∈ gw := gw_2 (List.mem_of_getElem? (i := 18) rfl) rfl
theorem gk_2_20 : Cond.instanceMethod ⟨"WakeLet", "unfound", "(I)I"⟩ ∈ gw := gw_2 (List.mem_of_getElem? (i := 20) rfl) rfl
theorem gk_2_21 : Cond.code ⟨"WakeLet", "unfound", "(I)I"⟩ prog_1_method_37_code 2 (some FieldType.int) ∈ gw := gw_2 (List.mem_of_getElem? (i := 21) rfl) rfl
theorem gk_2_22 : Cond.methodLink "WakeLetLaw" 18 ⟨"WakeLet", "set", "(III)I"⟩ ∈ gw := gw_2 (List.mem_of_getElem? (i := 22) rfl) rfl
theorem gk_2_23 : Cond.instanceMethod ⟨"WakeLet", "set", "(III)I"⟩ ∈ gw := gw_2 (List.mem_of_getElem? (i := 23) rfl) rfl
theorem gk_2_24 : Cond.selects "WakeLet" ⟨"WakeLet", "set", "(III)I"⟩ ⟨"WakeLet", "set", "(III)I"⟩ ∈ gw := gw_2 (List.mem_of_getElem? (i := 24) rfl) rfl
theorem gk_2_25 : Cond.code ⟨"WakeLet", "set", "(III)I"⟩ prog_1_method_3_code 5 (some FieldType.int) ∈ gw := gw_2 (List.mem_of_getElem? (i := 25) rfl) rfl
theorem gk_2_26 : Cond.methodLink "WakeLet" 74 ⟨"WakeLet$Row", "isMissing", "()Z"⟩ ∈ gw := gw_2 (List.mem_of_getElem? (i := 26) rfl) rfl
theorem gk_2_27 : Cond.instanceMethod ⟨"WakeLet$Row", "isMissing", "()Z"⟩ ∈ gw := gw_2 (List.mem_of_getElem? (i := 27) rfl) rfl
theorem gk_2_28 : Cond.selects "WakeLet$Row" ⟨"WakeLet$Row", "isMissing", "()Z"⟩ ⟨"WakeLet$Row", "isMissing", "()Z"⟩ ∈ gw := gw_2 (List.mem_of_getElem? (i := 28) rfl) rfl
theorem gk_2_29 : Cond.code ⟨"WakeLet$Row", "isMissing", "()Z"⟩ prog_5_method_2_code 1 (some FieldType.boolean) ∈ gw := gw_2 (List.mem_of_getElem? (i := 29) rfl) rfl
theorem gk_2_30 : Cond.methodLink "WakeLet" 78 ⟨"WakeLet$Row", "holds", "(II)Z"⟩ ∈ gw := gw_2 (List.mem_of_getElem? (i := 30) rfl) rfl
theorem gk_2_31 : Cond.instanceMethod ⟨"WakeLet$Row", "holds", "(II)Z"⟩ ∈ gw := gw_2 (List.mem_of_getElem? (i := 31) rfl) rfl
theorem gk_2_32 : Cond.selects "WakeLet$Row" ⟨"WakeLet$Row", "holds", "(II)Z"⟩ ⟨"WakeLet$Row", "holds", "(II)Z"⟩ ∈ gw := gw_2 (List.mem_of_getElem? (i := 32) rfl) rfl
theorem gk_2_33 : Cond.code ⟨"WakeLet$Row", "holds", "(II)Z"⟩ prog_5_method_3_code 3 (some FieldType.boolean) ∈ gw := gw_2 (List.mem_of_getElem? (i := 33) rfl) rfl
theorem gk_2_34 : Cond.methodLink "WakeLet" 82 ⟨"WakeLet$Row", "put", "(II)I"⟩ ∈ gw := gw_2 (List.mem_of_getElem? (i := 34) rfl) rfl
theorem gk_2_35 : Cond.instanceMethod ⟨"WakeLet$Row", "put", "(II)I"⟩ ∈ gw := gw_2 (List.mem_of_getElem? (i := 35) rfl) rfl
theorem gk_2_36 : Cond.selects "WakeLet$Row" ⟨"WakeLet$Row", "put", "(II)I"⟩ ⟨"WakeLet$Row", "put", "(II)I"⟩ ∈ gw := gw_2 (List.mem_of_getElem? (i := 36) rfl) rfl
theorem gk_2_37 : Cond.code ⟨"WakeLet$Row", "put", "(II)I"⟩ prog_5_method_5_code 3 (some FieldType.int) ∈ gw := gw_2 (List.mem_of_getElem? (i := 37) rfl) rfl
theorem gk_2_38 : Cond.methodLink "WakeLetLaw" 22 ⟨"WakeLet", "copy", "(IIIII)I"⟩ ∈ gw := gw_2 (List.mem_of_getElem? (i := 38) rfl) rfl
theorem gk_2_39 : Cond.instanceMethod ⟨"WakeLet", "copy", "(IIIII)I"⟩ ∈ gw := gw_2 (List.mem_of_getElem? (i := 39) rfl) rfl
theorem gk_2_40 : Cond.selects "WakeLet" ⟨"WakeLet", "copy", "(IIIII)I"⟩ ⟨"WakeLet", "copy", "(IIIII)I"⟩ ∈ gw := gw_2 (List.mem_of_getElem? (i := 40) rfl) rfl
theorem gk_2_41 : Cond.code ⟨"WakeLet", "copy", "(IIIII)I"⟩ prog_1_method_4_code 8 (some FieldType.int) ∈ gw := gw_2 (List.mem_of_getElem? (i := 41) rfl) rfl
theorem gk_2_42 : Cond.methodLink "WakeLet" 94 ⟨"java/lang/System", "arraycopy", "(Ljava/lang/Object;ILjava/lang/Object;II)V"⟩ ∈ gw := gw_2 (List.mem_of_getElem? (i := 42) rfl) rfl
theorem gk_2_43 : Cond.static ⟨"java/lang/System", "arraycopy", "(Ljava/lang/Object;ILjava/lang/Object;II)V"⟩ ∈ gw := gw_2 (List.mem_of_getElem? (i := 43) rfl) rfl
theorem gk_2_44 : Cond.native ⟨"java/lang/System", "arraycopy", "(Ljava/lang/Object;ILjava/lang/Object;II)V"⟩ ∈ gw := gw_2 (List.mem_of_getElem? (i := 44) rfl) rfl
theorem gk_2_45 : Cond.methodLink "WakeLetLaw" 27 ⟨"WakeLet", "drop", "(I)I"⟩ ∈ gw := gw_2 (List.mem_of_getElem? (i := 45) rfl) rfl
theorem gk_2_46 : Cond.instanceMethod ⟨"WakeLet", "drop", "(I)I"⟩ ∈ gw := gw_2 (List.mem_of_getElem? (i := 46) rfl) rfl
theorem gk_2_47 : Cond.selects "WakeLet" ⟨"WakeLet", "drop", "(I)I"⟩ ⟨"WakeLet", "drop", "(I)I"⟩ ∈ gw := gw_2 (List.mem_of_getElem? (i := 47) rfl) rfl
theorem gk_2_48 : Cond.code ⟨"WakeLet", "drop", "(I)I"⟩ prog_1_method_5_code 3 (some FieldType.int) ∈ gw := gw_2 (List.mem_of_getElem? (i := 48) rfl) rfl
theorem gk_2_49 : Cond.methodLink "WakeLet" 100 ⟨"WakeLet$Row", "lose", "()I"⟩ ∈ gw := gw_2 (List.mem_of_getElem? (i := 49) rfl) rfl
theorem gk_2_50 : Cond.instanceMethod ⟨"WakeLet$Row", "lose", "()I"⟩ ∈ gw := gw_2 (List.mem_of_getElem? (i := 50) rfl) rfl
theorem gk_2_51 : Cond.selects "WakeLet$Row" ⟨"WakeLet$Row", "lose", "()I"⟩ ⟨"WakeLet$Row", "lose", "()I"⟩ ∈ gw := gw_2 (List.mem_of_getElem? (i := 51) rfl) rfl
theorem gk_2_52 : Cond.code ⟨"WakeLet$Row", "lose", "()I"⟩ prog_5_method_6_code 2 (some FieldType.int) ∈ gw := gw_2 (List.mem_of_getElem? (i := 52) rfl) rfl
theorem gk_2_53 : Cond.methodLink "WakeLetLaw" 32 ⟨"WakeLet", "feed", "(I)I"⟩ ∈ gw := gw_2 (List.mem_of_getElem? (i := 53) rfl) rfl
theorem gk_2_54 : Cond.instanceMethod ⟨"WakeLet", "feed", "(I)I"⟩ ∈ gw := gw_2 (List.mem_of_getElem? (i := 54) rfl) rfl
theorem gk_2_55 : Cond.selects "WakeLet" ⟨"WakeLet", "feed", "(I)I"⟩ ⟨"WakeLet", "feed", "(I)I"⟩ ∈ gw := gw_2 (List.mem_of_getElem? (i := 55) rfl) rfl
theorem gk_2_56 : Cond.code ⟨"WakeLet", "feed", "(I)I"⟩ prog_1_method_6_code 2 (some FieldType.int) ∈ gw := gw_2 (List.mem_of_getElem? (i := 56) rfl) rfl
theorem gk_2_57 : Cond.methodLink "WakeLet" 104 ⟨"WakeLet$Tape", "append", "(I)Z"⟩ ∈ gw := gw_2 (List.mem_of_getElem? (i := 57) rfl) rfl
theorem gk_2_58 : Cond.instanceMethod ⟨"WakeLet$Tape", "append", "(I)Z"⟩ ∈ gw := gw_2 (List.mem_of_getElem? (i := 58) rfl) rfl
theorem gk_2_59 : Cond.selects "WakeLet$Tape" ⟨"WakeLet$Tape", "append", "(I)Z"⟩ ⟨"WakeLet$Tape", "append", "(I)Z"⟩ ∈ gw := gw_2 (List.mem_of_getElem? (i := 59) rfl) rfl
theorem gk_2_60 : Cond.code ⟨"WakeLet$Tape", "append", "(I)Z"⟩ prog_7_method_2_code 2 (some FieldType.boolean) ∈ gw := gw_2 (List.mem_of_getElem? (i := 60) rfl) rfl
theorem gk_2_61 : Cond.constant "WakeLet" 111 (-1000003) ∈ gw := gw_2 (List.mem_of_getElem? (i := 61) rfl) rfl
theorem gk_2_62 : Cond.methodLink "WakeLetLaw" 36 ⟨"WakeLet", "agency", "()I"⟩ ∈ gw := gw_2 (List.mem_of_getElem? (i := 62) rfl) rfl
theorem gk_2_63 : Cond.instanceMethod ⟨"WakeLet", "agency", "()I"⟩ ∈ gw := gw_2 (List.mem_of_getElem? (i := 63) rfl) rfl
theorem gk_2_64 : Cond.selects "WakeLet" ⟨"WakeLet", "agency", "()I"⟩ ⟨"WakeLet", "agency", "()I"⟩ ∈ gw := gw_2 (List.mem_of_getElem? (i := 64) rfl) rfl
theorem gk_2_65 : Cond.code ⟨"WakeLet", "agency", "()I"⟩ prog_1_method_7_code 1 (some FieldType.int) ∈ gw := gw_2 (List.mem_of_getElem? (i := 65) rfl) rfl
theorem gk_2_66 : Cond.methodLink "WakeLet" 112 ⟨"WakeLet$Tape", "readInto", "(LWakeLet$Agency;)V"⟩ ∈ gw := gw_2 (List.mem_of_getElem? (i := 66) rfl) rfl
theorem gk_2_67 : Cond.instanceMethod ⟨"WakeLet$Tape", "readInto", "(LWakeLet$Agency;)V"⟩ ∈ gw := gw_2 (List.mem_of_getElem? (i := 67) rfl) rfl
theorem gk_2_68 : Cond.selects "WakeLet$Tape" ⟨"WakeLet$Tape", "readInto", "(LWakeLet$Agency;)V"⟩ ⟨"WakeLet$Tape", "readInto", "(LWakeLet$Agency;)V"⟩ ∈ gw := gw_2 (List.mem_of_getElem? (i := 68) rfl) rfl
theorem gk_2_69 : Cond.code ⟨"WakeLet$Tape", "readInto", "(LWakeLet$Agency;)V"⟩ prog_7_method_3_code 2 none ∈ gw := gw_2 (List.mem_of_getElem? (i := 69) rfl) rfl
theorem gk_2_70 : Cond.methodLink "WakeLet$Tape" 25 ⟨"WakeLet$Agency", "close", "()V"⟩ ∈ gw := gw_2 (List.mem_of_getElem? (i := 70) rfl) rfl
theorem gk_2_71 : Cond.instanceMethod ⟨"WakeLet$Agency", "close", "()V"⟩ ∈ gw := gw_2 (List.mem_of_getElem? (i := 71) rfl) rfl
theorem gk_2_72 : Cond.selects "WakeLet$Agency" ⟨"WakeLet$Agency", "close", "()V"⟩ ⟨"WakeLet$Agency", "close", "()V"⟩ ∈ gw := gw_2 (List.mem_of_getElem? (i := 72) rfl) rfl
theorem gk_2_73 : Cond.code ⟨"WakeLet$Agency", "close", "()V"⟩ prog_3_method_2_code 1 none ∈ gw := gw_2 (List.mem_of_getElem? (i := 73) rfl) rfl
theorem gk_2_74 : Cond.methodLink "WakeLet$Tape" 30 ⟨"WakeLet$Tape", "readLaw", "(LWakeLet$Agency;)V"⟩ ∈ gw := gw_2 (List.mem_of_getElem? (i := 74) rfl) rfl
theorem gk_2_76 : Cond.instanceMethod ⟨"WakeLet$Tape", "readLaw", "(LWakeLet$Agency;)V"⟩ ∈ gw := gw_2 (List.mem_of_getElem? (i := 76) rfl) rfl
theorem gk_2_77 : Cond.code ⟨"WakeLet$Tape", "readLaw", "(LWakeLet$Agency;)V"⟩ prog_7_method_4_code 2 none ∈ gw := gw_2 (List.mem_of_getElem? (i := 77) rfl) rfl
theorem gk_2_78 : Cond.methodLink "WakeLet$Tape" 44 ⟨"WakeLet$Tape", "expect", "(I)V"⟩ ∈ gw := gw_2 (List.mem_of_getElem? (i := 78) rfl) rfl
theorem gk_2_80 : Cond.instanceMethod ⟨"WakeLet$Tape", "expect", "(I)V"⟩ ∈ gw := gw_2 (List.mem_of_getElem? (i := 80) rfl) rfl
theorem gk_2_81 : Cond.code ⟨"WakeLet$Tape", "expect", "(I)V"⟩ prog_7_method_12_code 2 none ∈ gw := gw_2 (List.mem_of_getElem? (i := 81) rfl) rfl
theorem gk_2_82 : Cond.methodLink "WakeLet$Tape" 61 ⟨"WakeLet$Tape", "next", "()I"⟩ ∈ gw := gw_2 (List.mem_of_getElem? (i := 82) rfl) rfl
theorem gk_2_84 : Cond.instanceMethod ⟨"WakeLet$Tape", "next", "()I"⟩ ∈ gw := gw_2 (List.mem_of_getElem? (i := 84) rfl) rfl
theorem gk_2_85 : Cond.code ⟨"WakeLet$Tape", "next", "()I"⟩ prog_7_method_14_code 1 (some FieldType.int) ∈ gw := gw_2 (List.mem_of_getElem? (i := 85) rfl) rfl
theorem gk_2_86 : Cond.methodLink "WakeLet$Tape" 40 ⟨"WakeLet$Tape", "fail", "(II)V"⟩ ∈ gw := gw_2 (List.mem_of_getElem? (i := 86) rfl) rfl
theorem gk_2_88 : Cond.instanceMethod ⟨"WakeLet$Tape", "fail", "(II)V"⟩ ∈ gw := gw_2 (List.mem_of_getElem? (i := 88) rfl) rfl
theorem gk_2_89 : Cond.code ⟨"WakeLet$Tape", "fail", "(II)V"⟩ prog_7_method_15_code 3 none ∈ gw := gw_2 (List.mem_of_getElem? (i := 89) rfl) rfl
theorem gk_2_90 : Cond.methodLink "WakeLet$Tape" 48 ⟨"WakeLet$Tape", "number", "(I)I"⟩ ∈ gw := gw_2 (List.mem_of_getElem? (i := 90) rfl) rfl
theorem gk_2_92 : Cond.instanceMethod ⟨"WakeLet$Tape", "number", "(I)I"⟩ ∈ gw := gw_2 (List.mem_of_getElem? (i := 92) rfl) rfl
theorem gk_2_93 : Cond.code ⟨"WakeLet$Tape", "number", "(I)I"⟩ prog_7_method_11_code 5 (some FieldType.int) ∈ gw := gw_2 (List.mem_of_getElem? (i := 93) rfl) rfl
theorem gk_2_94 : Cond.methodLink "WakeLet$Tape" 106 ⟨"WakeLet$Tape", "isFigure", "(I)Z"⟩ ∈ gw := gw_2 (List.mem_of_getElem? (i := 94) rfl) rfl
theorem gk_2_95 : Cond.static ⟨"WakeLet$Tape", "isFigure", "(I)Z"⟩ ∈ gw := gw_2 (List.mem_of_getElem? (i := 95) rfl) rfl
theorem gk_2_96 : Cond.code ⟨"WakeLet$Tape", "isFigure", "(I)Z"⟩ prog_7_method_13_code 1 (some FieldType.boolean) ∈ gw := gw_2 (List.mem_of_getElem? (i := 96) rfl) rfl
theorem gk_2_97 : Cond.methodLink "WakeLet$Tape" 109 ⟨"java/lang/Math", "min", "(II)I"⟩ ∈ gw := gw_2 (List.mem_of_getElem? (i := 97) rfl) rfl
theorem gk_2_98 : Cond.static ⟨"java/lang/Math", "min", "(II)I"⟩ ∈ gw := gw_2 (List.mem_of_getElem? (i := 98) rfl) rfl
theorem gk_2_99 : Cond.code ⟨"java/lang/Math", "min", "(II)I"⟩ prog_11_method_69_code 2 (some FieldType.int) ∈ gw := gw_2 (List.mem_of_getElem? (i := 99) rfl) rfl
theorem gk_2_100 : Cond.methodLink "WakeLet$Tape" 34 ⟨"WakeLet$Tape", "readClients", "(LWakeLet$Agency;)V"⟩ ∈ gw := gw_2 (List.mem_of_getElem? (i := 100) rfl) rfl
theorem gk_2_102 : Cond.instanceMethod ⟨"WakeLet$Tape", "readClients", "(LWakeLet$Agency;)V"⟩ ∈ gw := gw_2 (List.mem_of_getElem? (i := 102) rfl) rfl
theorem gk_2_103 : Cond.code ⟨"WakeLet$Tape", "readClients", "(LWakeLet$Agency;)V"⟩ prog_7_method_5_code 3 none ∈ gw := gw_2 (List.mem_of_getElem? (i := 103) rfl) rfl
theorem gk_2_104 : Cond.methodLink "WakeLet$Tape" 58 ⟨"WakeLet$Tape", "readClient", "(LWakeLet$Agency;)V"⟩ ∈ gw := gw_2 (List.mem_of_getElem? (i := 104) rfl) rfl
theorem gk_2_106 : Cond.instanceMethod ⟨"WakeLet$Tape", "readClient", "(LWakeLet$Agency;)V"⟩ ∈ gw := gw_2 (List.mem_of_getElem? (i := 106) rfl) rfl
theorem gk_2_107 : Cond.code ⟨"WakeLet$Tape", "readClient", "(LWakeLet$Agency;)V"⟩ prog_7_method_6_code 3 none ∈ gw := gw_2 (List.mem_of_getElem? (i := 107) rfl) rfl
theorem gk_2_108 : Cond.methodLink "WakeLet$Tape" 37 ⟨"WakeLet$Tape", "readWakers", "(LWakeLet$Agency;)V"⟩ ∈ gw := gw_2 (List.mem_of_getElem? (i := 108) rfl) rfl
theorem gk_2_110 : Cond.instanceMethod ⟨"WakeLet$Tape", "readWakers", "(LWakeLet$Agency;)V"⟩ ∈ gw := gw_2 (List.mem_of_getElem? (i := 110) rfl) rfl
theorem gk_2_111 : Cond.code ⟨"WakeLet$Tape", "readWakers", "(LWakeLet$Agency;)V"⟩ prog_7_method_7_code 3 none ∈ gw := gw_2 (List.mem_of_getElem? (i := 111) rfl) rfl
theorem gk_2_112 : Cond.methodLink "WakeLet$Tape" 74 ⟨"WakeLet$Tape", "kindTold", "(I)I"⟩ ∈ gw := gw_2 (List.mem_of_getElem? (i := 112) rfl) rfl
theorem gk_2_113 : Cond.static ⟨"WakeLet$Tape", "kindTold", "(I)I"⟩ ∈ gw := gw_2 (List.mem_of_getElem? (i := 113) rfl) rfl
theorem gk_2_114 : Cond.code ⟨"WakeLet$Tape", "kindTold", "(I)I"⟩ prog_7_method_9_code 1 (some FieldType.int) ∈ gw := gw_2 (List.mem_of_getElem? (i := 114) rfl) rfl
theorem gk_2_115 : Cond.methodLink "WakeLet$Tape" 77 ⟨"WakeLet$Tape", "readWaker", "(LWakeLet$Agency;)V"⟩ ∈ gw := gw_2 (List.mem_of_getElem? (i := 115) rfl) rfl
theorem gk_2_117 : Cond.instanceMethod ⟨"WakeLet$Tape", "readWaker", "(LWakeLet$Agency;)V"⟩ ∈ gw := gw_2 (List.mem_of_getElem? (i := 117) rfl) rfl
theorem gk_2_118 : Cond.code ⟨"WakeLet$Tape", "readWaker", "(LWakeLet$Agency;)V"⟩ prog_7_method_8_code 3 none ∈ gw := gw_2 (List.mem_of_getElem? (i := 118) rfl) rfl
theorem gk_2_119 : Cond.methodLink "WakeLet$Tape" 95 ⟨"WakeLet$Tape", "hirer", "(LWakeLet$Agency;)I"⟩ ∈ gw := gw_2 (List.mem_of_getElem? (i := 119) rfl) rfl
theorem gk_2_121 : Cond.instanceMethod ⟨"WakeLet$Tape", "hirer", "(LWakeLet$Agency;)I"⟩ ∈ gw := gw_2 (List.mem_of_getElem? (i := 121) rfl) rfl
theorem gk_2_122 : Cond.code ⟨"WakeLet$Tape", "hirer", "(LWakeLet$Agency;)I"⟩ prog_7_method_10_code 4 (some FieldType.int) ∈ gw := gw_2 (List.mem_of_getElem? (i := 122) rfl) rfl
theorem gk_2_123 : Cond.methodLink "WakeLet$Tape" 102 ⟨"WakeLet$Agency", "hasClient", "(I)Z"⟩ ∈ gw := gw_2 (List.mem_of_getElem? (i := 123) rfl) rfl
theorem gk_2_124 : Cond.instanceMethod ⟨"WakeLet$Agency", "hasClient", "(I)Z"⟩ ∈ gw := gw_2 (List.mem_of_getElem? (i := 124) rfl) rfl
theorem gk_2_125 : Cond.selects "WakeLet$Agency" ⟨"WakeLet$Agency", "hasClient", "(I)Z"⟩ ⟨"WakeLet$Agency", "hasClient", "(I)Z"⟩ ∈ gw := gw_2 (List.mem_of_getElem? (i := 125) rfl) rfl
theorem gk_2_126 : Cond.code ⟨"WakeLet$Agency", "hasClient", "(I)Z"⟩ prog_3_method_5_code 2 (some FieldType.boolean) ∈ gw := gw_2 (List.mem_of_getElem? (i := 126) rfl) rfl
theorem gk_2_127 : Cond.constant "WakeLet" 122 (-1000100) ∈ gw := gw_2 (List.mem_of_getElem? (i := 127) rfl) rfl
theorem gk_2_128 : Cond.methodLink "WakeLet" 126 ⟨"WakeLet$Agency", "copyFrom", "(LWakeLet$Agency;)V"⟩ ∈ gw := gw_2 (List.mem_of_getElem? (i := 128) rfl) rfl
theorem gk_2_129 : Cond.instanceMethod ⟨"WakeLet$Agency", "copyFrom", "(LWakeLet$Agency;)V"⟩ ∈ gw := gw_2 (List.mem_of_getElem? (i := 129) rfl) rfl
theorem gk_2_130 : Cond.selects "WakeLet$Agency" ⟨"WakeLet$Agency", "copyFrom", "(LWakeLet$Agency;)V"⟩ ⟨"WakeLet$Agency", "copyFrom", "(LWakeLet$Agency;)V"⟩ ∈ gw := gw_2 (List.mem_of_getElem? (i := 130) rfl) rfl
theorem gk_2_131 : Cond.code ⟨"WakeLet$Agency", "copyFrom", "(LWakeLet$Agency;)V"⟩ prog_3_method_3_code 2 none ∈ gw := gw_2 (List.mem_of_getElem? (i := 131) rfl) rfl
theorem gk_2_132 : Cond.methodLink "WakeLet$Agency" 43 ⟨"java/lang/System", "arraycopy", "(Ljava/lang/Object;ILjava/lang/Object;II)V"⟩ ∈ gw := gw_2 (List.mem_of_getElem? (i := 132) rfl) rfl
theorem gk_2_133 : Cond.methodLink "WakeLet" 129 ⟨"WakeLet$Acts", "forgetAll", "()V"⟩ ∈ gw := gw_2 (List.mem_of_getElem? (i := 133) rfl) rfl
theorem gk_2_134 : Cond.instanceMethod ⟨"WakeLet$Acts", "forgetAll", "()V"⟩ ∈ gw := gw_2 (List.mem_of_getElem? (i := 134) rfl) rfl
theorem gk_2_135 : Cond.selects "WakeLet$Acts" ⟨"WakeLet$Acts", "forgetAll", "()V"⟩ ⟨"WakeLet$Acts", "forgetAll", "()V"⟩ ∈ gw := gw_2 (List.mem_of_getElem? (i := 135) rfl) rfl
theorem gk_2_136 : Cond.code ⟨"WakeLet$Acts", "forgetAll", "()V"⟩ prog_2_method_2_code 1 none ∈ gw := gw_2 (List.mem_of_getElem? (i := 136) rfl) rfl
theorem gk_2_137 : Cond.methodLink "WakeLetLaw" 41 ⟨"WakeLet", "fault", "()I"⟩ ∈ gw := gw_2 (List.mem_of_getElem? (i := 137) rfl) rfl
theorem gk_2_138 : Cond.instanceMethod ⟨"WakeLet", "fault", "()I"⟩ ∈ gw := gw_2 (List.mem_of_getElem? (i := 138) rfl) rfl
theorem gk_2_139 : Cond.selects "WakeLet" ⟨"WakeLet", "fault", "()I"⟩ ⟨"WakeLet", "fault", "()I"⟩ ∈ gw := gw_2 (List.mem_of_getElem? (i := 139) rfl) rfl
theorem gk_2_140 : Cond.code ⟨"WakeLet", "fault", "()I"⟩ prog_1_method_8_code 1 (some FieldType.int) ∈ gw := gw_2 (List.mem_of_getElem? (i := 140) rfl) rfl
theorem gk_2_141 : Cond.methodLink "WakeLetLaw" 45 ⟨"WakeLet", "nights", "(I)I"⟩ ∈ gw := gw_2 (List.mem_of_getElem? (i := 141) rfl) rfl
theorem gk_2_142 : Cond.instanceMethod ⟨"WakeLet", "nights", "(I)I"⟩ ∈ gw := gw_2 (List.mem_of_getElem? (i := 142) rfl) rfl
theorem gk_2_143 : Cond.selects "WakeLet" ⟨"WakeLet", "nights", "(I)I"⟩ ⟨"WakeLet", "nights", "(I)I"⟩ ∈ gw := gw_2 (List.mem_of_getElem? (i := 143) rfl) rfl
theorem gk_2_144 : Cond.code ⟨"WakeLet", "nights", "(I)I"⟩ prog_1_method_9_code 3 (some FieldType.int) ∈ gw := gw_2 (List.mem_of_getElem? (i := 144) rfl) rfl
theorem gk_2_145 : Cond.methodLink "WakeLet" 135 ⟨"WakeLet$Agency", "isOpen", "()Z"⟩ ∈ gw := gw_2 (List.mem_of_getElem? (i := 145) rfl) rfl
theorem gk_2_146 : Cond.instanceMethod ⟨"WakeLet$Agency", "isOpen", "()Z"⟩ ∈ gw := gw_2 (List.mem_of_getElem? (i := 146) rfl) rfl
theorem gk_2_147 : Cond.selects "WakeLet$Agency" ⟨"WakeLet$Agency", "isOpen", "()Z"⟩ ⟨"WakeLet$Agency", "isOpen", "()Z"⟩ ∈ gw := gw_2 (List.mem_of_getElem? (i := 147) rfl) rfl
theorem gk_2_148 : Cond.code ⟨"WakeLet$Agency", "isOpen", "()Z"⟩ prog_3_method_4_code 1 (some FieldType.boolean) ∈ gw := gw_2 (List.mem_of_getElem? (i := 148) rfl) rfl
theorem gk_2_149 : Cond.constant "WakeLet" 138 (-1000002) ∈ gw := gw_2 (List.mem_of_getElem? (i := 149) rfl) rfl
theorem gk_2_150 : Cond.methodLink "WakeLet" 142 ⟨"WakeLet$Acts", "keep", "(LWakeLet$Agency;)V"⟩ ∈ gw := gw_2 (List.mem_of_getElem? (i := 150) rfl) rfl
theorem gk_2_151 : Cond.instanceMethod ⟨"WakeLet$Acts", "keep", "(LWakeLet$Agency;)V"⟩ ∈ gw := gw_2 (List.mem_of_getElem? (i := 151) rfl) rfl
theorem gk_2_152 : Cond.selects "WakeLet$Acts" ⟨"WakeLet$Acts", "keep", "(LWakeLet$Agency;)V"⟩ ⟨"WakeLet$Acts", "keep", "(LWakeLet$Agency;)V"⟩ ∈ gw := gw_2 (List.mem_of_getElem? (i := 152) rfl) rfl
theorem gk_2_153 : Cond.code ⟨"WakeLet$Acts", "keep", "(LWakeLet$Agency;)V"⟩ prog_2_method_3_code 3 none ∈ gw := gw_2 (List.mem_of_getElem? (i := 153) rfl) rfl
theorem gk_2_154 : Cond.methodLink "WakeLet$Acts" 22 ⟨"WakeLet$Acts", "startOf", "(I)I"⟩ ∈ gw := gw_2 (List.mem_of_getElem? (i := 154) rfl) rfl
theorem gk_2_156 : Cond.instanceMethod ⟨"WakeLet$Acts", "startOf", "(I)I"⟩ ∈ gw := gw_2 (List.mem_of_getElem? (i := 156) rfl) rfl
theorem gk_2_157 : Cond.code ⟨"WakeLet$Acts", "startOf", "(I)I"⟩ prog_2_method_5_code 2 (some FieldType.int) ∈ gw := gw_2 (List.mem_of_getElem? (i := 157) rfl) rfl
theorem gk_2_158 : Cond.methodLink "WakeLet$Acts" 34 ⟨"java/lang/System", "arraycopy", "(Ljava/lang/Object;ILjava/lang/Object;II)V"⟩ ∈ gw := gw_2 (List.mem_of_getElem? (i := 158) rfl) rfl
theorem gk_2_159 : Cond.methodLink "WakeLet" 145 ⟨"WakeLet$Agency", "passNight", "(I)V"⟩ ∈ gw := gw_2 (List.mem_of_getElem? (i := 159) rfl) rfl
theorem gk_2_160 : Cond.instanceMethod ⟨"WakeLet$Agency", "passNight", "(I)V"⟩ ∈ gw := gw_2 (List.mem_of_getElem? (i := 160) rfl) rfl
theorem gk_2_161 : Cond.selects "WakeLet$Agency" ⟨"WakeLet$Agency", "passNight", "(I)V"⟩ ⟨"WakeLet$Agency", "passNight", "(I)V"⟩ ∈ gw := gw_2 (List.mem_of_getElem? (i := 161) rfl) rfl
theorem gk_2_162 : Cond.code ⟨"WakeLet$Agency", "passNight", "(I)V"⟩ prog_3_method_13_code 3 none ∈ gw := gw_2 (List.mem_of_getElem? (i := 162) rfl) rfl
theorem gk_2_163 : Cond.methodLink "WakeLet$Agency" 85 ⟨"WakeLet$Agency", "lighterBy", "(II)I"⟩ ∈ gw := gw_2 (List.mem_of_getElem? (i := 163) rfl) rfl
theorem gk_2_164 : Cond.instanceMethod ⟨"WakeLet$Agency", "lighterBy", "(II)I"⟩ ∈ gw := gw_2 (List.mem_of_getElem? (i := 164) rfl) rfl
theorem gk_2_165 : Cond.selects "WakeLet$Agency" ⟨"WakeLet$Agency", "lighterBy", "(II)I"⟩ ⟨"WakeLet$Agency", "lighterBy", "(II)I"⟩ ∈ gw := gw_2 (List.mem_of_getElem? (i := 165) rfl) rfl
theorem gk_2_166 : Cond.code ⟨"WakeLet$Agency", "lighterBy", "(II)I"⟩ prog_3_method_11_code 6 (some FieldType.int) ∈ gw := gw_2 (List.mem_of_getElem? (i := 166) rfl) rfl
theorem gk_2_167 : Cond.methodLink "WakeLet$Agency" 75 ⟨"WakeLet$Agency", "hiredBy", "(I)I"⟩ ∈ gw := gw_2 (List.mem_of_getElem? (i := 167) rfl) rfl
theorem gk_2_168 : Cond.instanceMethod ⟨"WakeLet$Agency", "hiredBy", "(I)I"⟩ ∈ gw := gw_2 (List.mem_of_getElem? (i := 168) rfl) rfl
theorem gk_2_169 : Cond.selects "WakeLet$Agency" ⟨"WakeLet$Agency", "hiredBy", "(I)I"⟩ ⟨"WakeLet$Agency", "hiredBy", "(I)I"⟩ ∈ gw := gw_2 (List.mem_of_getElem? (i := 169) rfl) rfl
theorem gk_2_170 : Cond.code ⟨"WakeLet$Agency", "hiredBy", "(I)I"⟩ prog_3_method_12_code 4 (some FieldType.int) ∈ gw := gw_2 (List.mem_of_getElem? (i := 170) rfl) rfl
theorem gk_2_171 : Cond.methodLink "WakeLet$Agency" 79 ⟨"WakeLet$Agency", "takenBy", "(III)I"⟩ ∈ gw := gw_2 (List.mem_of_getElem? (i := 171) rfl) rfl
theorem gk_2_172 : Cond.instanceMethod ⟨"WakeLet$Agency", "takenBy", "(III)I"⟩ ∈ gw := gw_2 (List.mem_of_getElem? (i := 172) rfl) rfl
theorem gk_2_173 : Cond.selects "WakeLet$Agency" ⟨"WakeLet$Agency", "takenBy", "(III)I"⟩ ⟨"WakeLet$Agency", "takenBy", "(III)I"⟩ ∈ gw := gw_2 (List.mem_of_getElem? (i := 173) rfl) rfl
theorem gk_2_174 : Cond.code ⟨"WakeLet$Agency", "takenBy", "(III)I"⟩ prog_3_method_10_code 5 (some FieldType.int) ∈ gw := gw_2 (List.mem_of_getElem? (i := 174) rfl) rfl
theorem gk_2_175 : Cond.methodLink "WakeLet$Agency" 55 ⟨"WakeLet$Agency", "hasWaker", "(I)Z"⟩ ∈ gw := gw_2 (List.mem_of_getElem? (i := 175) rfl) rfl
theorem gk_2_176 : Cond.instanceMethod ⟨"WakeLet$Agency", "hasWaker", "(I)Z"⟩ ∈ gw := gw_2 (List.mem_of_getElem? (i := 176) rfl) rfl
theorem gk_2_177 : Cond.selects "WakeLet$Agency" ⟨"WakeLet$Agency", "hasWaker", "(I)Z"⟩ ⟨"WakeLet$Agency", "hasWaker", "(I)Z"⟩ ∈ gw := gw_2 (List.mem_of_getElem? (i := 177) rfl) rfl
theorem gk_2_178 : Cond.code ⟨"WakeLet$Agency", "hasWaker", "(I)Z"⟩ prog_3_method_6_code 2 (some FieldType.boolean) ∈ gw := gw_2 (List.mem_of_getElem? (i := 178) rfl) rfl
theorem gk_2_179 : Cond.methodLink "WakeLet$Agency" 59 ⟨"WakeLet$Agency", "hasClient", "(I)Z"⟩ ∈ gw := gw_2 (List.mem_of_getElem? (i := 179) rfl) rfl
theorem gk_2_180 : Cond.methodLink "WakeLet$Agency" 71 ⟨"WakeLet$Agency", "lying", "(III)I"⟩ ∈ gw := gw_2 (List.mem_of_getElem? (i := 180) rfl) rfl
theorem gk_2_181 : Cond.instanceMethod ⟨"WakeLet$Agency", "lying", "(III)I"⟩ ∈ gw := gw_2 (List.mem_of_getElem? (i := 181) rfl) rfl
theorem gk_2_182 : Cond.selects "WakeLet$Agency" ⟨"WakeLet$Agency", "lying", "(III)I"⟩ ⟨"WakeLet$Agency", "lying", "(III)I"⟩ ∈ gw := gw_2 (List.mem_of_getElem? (i := 182) rfl) rfl
theorem gk_2_183 : Cond.code ⟨"WakeLet$Agency", "lying", "(III)I"⟩ prog_3_method_8_code 5 (some FieldType.int) ∈ gw := gw_2 (List.mem_of_getElem? (i := 183) rfl) rfl
theorem gk_2_184 : Cond.methodLink "WakeLet$Agency" 62 ⟨"WakeLet$Agency", "guarding", "(II)I"⟩ ∈ gw := gw_2 (List.mem_of_getElem? (i := 184) rfl) rfl
theorem gk_2_185 : Cond.static ⟨"WakeLet$Agency", "guarding", "(II)I"⟩ ∈ gw := gw_2 (List.mem_of_getElem? (i := 185) rfl) rfl
theorem gk_2_186 : Cond.code ⟨"WakeLet$Agency", "guarding", "(II)I"⟩ prog_3_method_9_code 2 (some FieldType.int) ∈ gw := gw_2 (List.mem_of_getElem? (i := 186) rfl) rfl
theorem gk_2_187 : Cond.methodLink "WakeLet$Agency" 66 ⟨"java/lang/Math", "min", "(II)I"⟩ ∈ gw := gw_2 (List.mem_of_getElem? (i := 187) rfl) rfl
theorem gk_2_188 : Cond.methodLink "WakeLet$Agency" 82 ⟨"java/lang/Math", "max", "(II)I"⟩ ∈ gw := gw_2 (List.mem_of_getElem? (i := 188) rfl) rfl
theorem gk_2_189 : Cond.static ⟨"java/lang/Math", "max", "(II)I"⟩ ∈ gw := gw_2 (List.mem_of_getElem? (i := 189) rfl) rfl
theorem gk_2_190 : Cond.code ⟨"java/lang/Math", "max", "(II)I"⟩ prog_11_method_65_code 2 (some FieldType.int) ∈ gw := gw_2 (List.mem_of_getElem? (i := 190) rfl) rfl
theorem gk_2_191 : Cond.methodLink "WakeLet$Agency" 88 ⟨"WakeLet$Agency", "nextWeight", "(II)I"⟩ ∈ gw := gw_2 (List.mem_of_getElem? (i := 191) rfl) rfl
theorem gk_2_192 : Cond.static ⟨"WakeLet$Agency", "nextWeight", "(II)I"⟩ ∈ gw := gw_2 (List.mem_of_getElem? (i := 192) rfl) rfl
theorem gk_2_193 : Cond.code ⟨"WakeLet$Agency", "nextWeight", "(II)I"⟩ prog_3_method_14_code 2 (some FieldType.int) ∈ gw := gw_2 (List.mem_of_getElem? (i := 193) rfl) rfl
theorem gk_2_194 : Cond.methodLink "WakeLet" 149 ⟨"WakeLet$Agency", "resting", "()I"⟩ ∈ gw := gw_2 (List.mem_of_getElem? (i := 194) rfl) rfl
theorem gk_2_195 : Cond.instanceMethod ⟨"WakeLet$Agency", "resting", "()I"⟩ ∈ gw := gw_2 (List.mem_of_getElem? (i := 195) rfl) rfl
theorem gk_2_196 : Cond.selects "WakeLet$Agency" ⟨"WakeLet$Agency", "resting", "()I"⟩ ⟨"WakeLet$Agency", "resting", "()I"⟩ ∈ gw := gw_2 (List.mem_of_getElem? (i := 196) rfl) rfl
theorem gk_2_197 : Cond.code ⟨"WakeLet$Agency", "resting", "()I"⟩ prog_3_method_16_code 3 (some FieldType.int) ∈ gw := gw_2 (List.mem_of_getElem? (i := 197) rfl) rfl
theorem gk_2_198 : Cond.methodLink "WakeLetLaw" 49 ⟨"WakeLet", "let", "(II)I"⟩ ∈ gw := gw_2 (List.mem_of_getElem? (i := 198) rfl) rfl
theorem gk_2_199 : Cond.instanceMethod ⟨"WakeLet", "let", "(II)I"⟩ ∈ gw := gw_2 (List.mem_of_getElem? (i := 199) rfl) rfl
theorem gk_2_200 : Cond.selects "WakeLet" ⟨"WakeLet", "let", "(II)I"⟩ ⟨"WakeLet", "let", "(II)I"⟩ ∈ gw := gw_2 (List.mem_of_getElem? (i := 200) rfl) rfl
theorem gk_2_201 : Cond.code ⟨"WakeLet", "let", "(II)I"⟩ prog_1_method_10_code 4 (some FieldType.int) ∈ gw := gw_2 (List.mem_of_getElem? (i := 201) rfl) rfl
theorem gk_2_202 : Cond.methodLink "WakeLet" 152 ⟨"WakeLet$Agency", "hasWaker", "(I)Z"⟩ ∈ gw := gw_2 (List.mem_of_getElem? (i := 202) rfl) rfl
theorem gk_2_203 : Cond.methodLink "WakeLet" 155 ⟨"WakeLet$Agency", "hasClient", "(I)Z"⟩ ∈ gw := gw_2 (List.mem_of_getElem? (i := 203) rfl) rfl
theorem gk_2_204 : Cond.methodLink "WakeLetLaw" 54 ⟨"WakeLet", "grow", "(II)I"⟩ ∈ gw := gw_2 (List.mem_of_getElem? (i := 204) rfl) rfl
theorem gk_2_205 : Cond.instanceMethod ⟨"WakeLet", "grow", "(II)I"⟩ ∈ gw := gw_2 (List.mem_of_getElem? (i := 205) rfl) rfl
theorem gk_2_206 : Cond.selects "WakeLet" ⟨"WakeLet", "grow", "(II)I"⟩ ⟨"WakeLet", "grow", "(II)I"⟩ ∈ gw := gw_2 (List.mem_of_getElem? (i := 206) rfl) rfl
theorem gk_2_207 : Cond.code ⟨"WakeLet", "grow", "(II)I"⟩ prog_1_method_11_code 3 (some FieldType.int) ∈ gw := gw_2 (List.mem_of_getElem? (i := 207) rfl) rfl
theorem gk_2_208 : Cond.methodLink "WakeLet" 161 ⟨"WakeLet$Agency", "makeHeavier", "(II)V"⟩ ∈ gw := gw_2 (List.mem_of_getElem? (i := 208) rfl) rfl
theorem gk_2_209 : Cond.instanceMethod ⟨"WakeLet$Agency", "makeHeavier", "(II)V"⟩ ∈ gw := gw_2 (List.mem_of_getElem? (i := 209) rfl) rfl
theorem gk_2_210 : Cond.selects "WakeLet$Agency" ⟨"WakeLet$Agency", "makeHeavier", "(II)V"⟩ ⟨"WakeLet$Agency", "makeHeavier", "(II)V"⟩ ∈ gw := gw_2 (List.mem_of_getElem? (i := 210) rfl) rfl
theorem gk_2_211 : Cond.code ⟨"WakeLet$Agency", "makeHeavier", "(II)V"⟩ prog_3_method_15_code 3 none ∈ gw := gw_2 (List.mem_of_getElem? (i := 211) rfl) rfl
theorem gk_2_212 : Cond.methodLink "WakeLetLaw" 58 ⟨"WakeLet", "learn", "(II)I"⟩ ∈ gw := gw_2 (List.mem_of_getElem? (i := 212) rfl) rfl
theorem gk_2_213 : Cond.instanceMethod ⟨"WakeLet", "learn", "(II)I"⟩ ∈ gw := gw_2 (List.mem_of_getElem? (i := 213) rfl) rfl
theorem gk_2_214 : Cond.selects "WakeLet" ⟨"WakeLet", "learn", "(II)I"⟩ ⟨"WakeLet", "learn", "(II)I"⟩ ∈ gw := gw_2 (List.mem_of_getElem? (i := 214) rfl) rfl
theorem gk_2_215 : Cond.code ⟨"WakeLet", "learn", "(II)I"⟩ prog_1_method_12_code 4 (some FieldType.int) ∈ gw := gw_2 (List.mem_of_getElem? (i := 215) rfl) rfl
theorem gk_2_216 : Cond.methodLink "WakeLetLaw" 62 ⟨"WakeLet", "undo", "()I"⟩ ∈ gw := gw_2 (List.mem_of_getElem? (i := 216) rfl) rfl
theorem gk_2_217 : Cond.instanceMethod ⟨"WakeLet", "undo", "()I"⟩ ∈ gw := gw_2 (List.mem_of_getElem? (i := 217) rfl) rfl
theorem gk_2_218 : Cond.selects "WakeLet" ⟨"WakeLet", "undo", "()I"⟩ ⟨"WakeLet", "undo", "()I"⟩ ∈ gw := gw_2 (List.mem_of_getElem? (i := 218) rfl) rfl
theorem gk_2_219 : Cond.code ⟨"WakeLet", "undo", "()I"⟩ prog_1_method_13_code 1 (some FieldType.int) ∈ gw := gw_2 (List.mem_of_getElem? (i := 219) rfl) rfl
theorem gk_2_220 : Cond.methodLink "WakeLet" 170 ⟨"WakeLet$Acts", "takeBack", "(LWakeLet$Agency;)Z"⟩ ∈ gw := gw_2 (List.mem_of_getElem? (i := 220) rfl) rfl
theorem gk_2_221 : Cond.instanceMethod ⟨"WakeLet$Acts", "takeBack", "(LWakeLet$Agency;)Z"⟩ ∈ gw := gw_2 (List.mem_of_getElem? (i := 221) rfl) rfl
theorem gk_2_222 : Cond.selects "WakeLet$Acts" ⟨"WakeLet$Acts", "takeBack", "(LWakeLet$Agency;)Z"⟩ ⟨"WakeLet$Acts", "takeBack", "(LWakeLet$Agency;)Z"⟩ ∈ gw := gw_2 (List.mem_of_getElem? (i := 222) rfl) rfl
theorem gk_2_223 : Cond.code ⟨"WakeLet$Acts", "takeBack", "(LWakeLet$Agency;)Z"⟩ prog_2_method_4_code 3 (some FieldType.boolean) ∈ gw := gw_2 (List.mem_of_getElem? (i := 223) rfl) rfl
theorem gk_2_224 : Cond.methodLink "WakeLetLaw" 66 ⟨"WakeLet", "client", "(II)I"⟩ ∈ gw := gw_2 (List.mem_of_getElem? (i := 224) rfl) rfl
theorem gk_2_225 : Cond.instanceMethod ⟨"WakeLet", "client", "(II)I"⟩ ∈ gw := gw_2 (List.mem_of_getElem? (i := 225) rfl) rfl
theorem gk_2_226 : Cond.selects "WakeLet" ⟨"WakeLet", "client", "(II)I"⟩ ⟨"WakeLet", "client", "(II)I"⟩ ∈ gw := gw_2 (List.mem_of_getElem? (i := 226) rfl) rfl
theorem gk_2_227 : Cond.code ⟨"WakeLet", "client", "(II)I"⟩ prog_1_method_14_code 3 (some FieldType.int) ∈ gw := gw_2 (List.mem_of_getElem? (i := 227) rfl) rfl
theorem gk_2_228 : Cond.methodLink "WakeLet" 180 ⟨"WakeLet$Agency", "hiredBy", "(I)I"⟩ ∈ gw := gw_2 (List.mem_of_getElem? (i := 228) rfl) rfl
theorem gk_2_229 : Cond.methodLink "WakeLet" 183 ⟨"WakeLet$Agency", "lighterBy", "(II)I"⟩ ∈ gw := gw_2 (List.mem_of_getElem? (i := 229) rfl) rfl
theorem gk_2_230 : Cond.methodLink "WakeLetLaw" 70 ⟨"WakeLet", "waker", "(II)I"⟩ ∈ gw := gw_2 (List.mem_of_getElem? (i := 230) rfl) rfl
theorem gk_2_231 : Cond.instanceMethod ⟨"WakeLet", "waker", "(II)I"⟩ ∈ gw := gw_2 (List.mem_of_getElem? (i := 231) rfl) rfl
theorem gk_2_232 : Cond.selects "WakeLet" ⟨"WakeLet", "waker", "(II)I"⟩ ⟨"WakeLet", "waker", "(II)I"⟩ ∈ gw := gw_2 (List.mem_of_getElem? (i := 232) rfl) rfl
theorem gk_2_233 : Cond.code ⟨"WakeLet", "waker", "(II)I"⟩ prog_1_method_15_code 3 (some FieldType.int) ∈ gw := gw_2 (List.mem_of_getElem? (i := 233) rfl) rfl
theorem gk_2_234 : Cond.methodLink "WakeLet" 189 ⟨"WakeLet$Agency", "lying", "(III)I"⟩ ∈ gw := gw_2 (List.mem_of_getElem? (i := 234) rfl) rfl
theorem gk_2_235 : Cond.methodLink "WakeLetLaw" 74 ⟨"WakeLet", "weight", "(II)I"⟩ ∈ gw := gw_2 (List.mem_of_getElem? (i := 235) rfl) rfl
theorem gk_2_236 : Cond.instanceMethod ⟨"WakeLet", "weight", "(II)I"⟩ ∈ gw := gw_2 (List.mem_of_getElem? (i := 236) rfl) rfl
theorem gk_2_237 : Cond.selects "WakeLet" ⟨"WakeLet", "weight", "(II)I"⟩ ⟨"WakeLet", "weight", "(II)I"⟩ ∈ gw := gw_2 (List.mem_of_getElem? (i := 237) rfl) rfl
theorem gk_2_238 : Cond.code ⟨"WakeLet", "weight", "(II)I"⟩ prog_1_method_16_code 3 (some FieldType.int) ∈ gw := gw_2 (List.mem_of_getElem? (i := 238) rfl) rfl
theorem gk_2_239 : Cond.methodLink "WakeLet" 196 ⟨"WakeLet", "foretell", "(I)V"⟩ ∈ gw := gw_2 (List.mem_of_getElem? (i := 239) rfl) rfl
theorem gk_3_1 : Cond.instanceMethod ⟨"WakeLet", "foretell", "(I)V"⟩ ∈ gw := gw_3 (List.mem_of_getElem? (i := 1) rfl) rfl
theorem gk_3_2 : Cond.code ⟨"WakeLet", "foretell", "(I)V"⟩ prog_1_method_39_code 3 none ∈ gw := gw_3 (List.mem_of_getElem? (i := 2) rfl) rfl
theorem gk_3_3 : Cond.methodLink "WakeLetLaw" 78 ⟨"WakeLet", "earned", "(II)I"⟩ ∈ gw := gw_3 (List.mem_of_getElem? (i := 3) rfl) rfl
theorem gk_3_4 : Cond.instanceMethod ⟨"WakeLet", "earned", "(II)I"⟩ ∈ gw := gw_3 (List.mem_of_getElem? (i := 4) rfl) rfl
theorem gk_3_5 : Cond.selects "WakeLet" ⟨"WakeLet", "earned", "(II)I"⟩ ⟨"WakeLet", "earned", "(II)I"⟩ ∈ gw := gw_3 (List.mem_of_getElem? (i := 5) rfl) rfl
theorem gk_3_6 : Cond.code ⟨"WakeLet", "earned", "(II)I"⟩ prog_1_method_17_code 3 (some FieldType.int) ∈ gw := gw_3 (List.mem_of_getElem? (i := 6) rfl) rfl
theorem gk_3_7 : Cond.methodLink "WakeLetLaw" 82 ⟨"WakeLet", "rests", "(I)I"⟩ ∈ gw := gw_3 (List.mem_of_getElem? (i := 7) rfl) rfl
theorem gk_3_8 : Cond.instanceMethod ⟨"WakeLet", "rests", "(I)I"⟩ ∈ gw := gw_3 (List.mem_of_getElem? (i := 8) rfl) rfl
theorem gk_3_9 : Cond.selects "WakeLet" ⟨"WakeLet", "rests", "(I)I"⟩ ⟨"WakeLet", "rests", "(I)I"⟩ ∈ gw := gw_3 (List.mem_of_getElem? (i := 9) rfl) rfl
theorem gk_3_10 : Cond.code ⟨"WakeLet", "rests", "(I)I"⟩ prog_1_method_18_code 2 (some FieldType.int) ∈ gw := gw_3 (List.mem_of_getElem? (i := 10) rfl) rfl
theorem gk_3_11 : Cond.methodLink "WakeLetLaw" 86 ⟨"WakeLet", "when", "(I)I"⟩ ∈ gw := gw_3 (List.mem_of_getElem? (i := 11) rfl) rfl
theorem gk_3_12 : Cond.instanceMethod ⟨"WakeLet", "when", "(I)I"⟩ ∈ gw := gw_3 (List.mem_of_getElem? (i := 12) rfl) rfl
theorem gk_3_13 : Cond.selects "WakeLet" ⟨"WakeLet", "when", "(I)I"⟩ ⟨"WakeLet", "when", "(I)I"⟩ ∈ gw := gw_3 (List.mem_of_getElem? (i := 13) rfl) rfl
theorem gk_3_14 : Cond.code ⟨"WakeLet", "when", "(I)I"⟩ prog_1_method_19_code 2 (some FieldType.int) ∈ gw := gw_3 (List.mem_of_getElem? (i := 14) rfl) rfl
theorem gk_3_15 : Cond.methodLink "WakeLet" 199 ⟨"WakeLet", "firstRest", "(I)I"⟩ ∈ gw := gw_3 (List.mem_of_getElem? (i := 15) rfl) rfl
theorem gk_3_17 : Cond.instanceMethod ⟨"WakeLet", "firstRest", "(I)I"⟩ ∈ gw := gw_3 (List.mem_of_getElem? (i := 17) rfl) rfl
theorem gk_3_18 : Cond.code ⟨"WakeLet", "firstRest", "(I)I"⟩ prog_1_method_40_code 3 (some FieldType.int) ∈ gw := gw_3 (List.mem_of_getElem? (i := 18) rfl) rfl
theorem gk_3_19 : Cond.constant "WakeLet" 224 (-1000000) ∈ gw := gw_3 (List.mem_of_getElem? (i := 19) rfl) rfl
theorem gk_3_20 : Cond.methodLink "WakeLetLaw" 90 ⟨"WakeLet", "all", "(I)I"⟩ ∈ gw := gw_3 (List.mem_of_getElem? (i := 20) rfl) rfl
theorem gk_3_21 : Cond.instanceMethod ⟨"WakeLet", "all", "(I)I"⟩ ∈ gw := gw_3 (List.mem_of_getElem? (i := 21) rfl) rfl
theorem gk_3_22 : Cond.selects "WakeLet" ⟨"WakeLet", "all", "(I)I"⟩ ⟨"WakeLet", "all", "(I)I"⟩ ∈ gw := gw_3 (List.mem_of_getElem? (i := 22) rfl) rfl
theorem gk_3_23 : Cond.code ⟨"WakeLet", "all", "(I)I"⟩ prog_1_method_20_code 2 (some FieldType.int) ∈ gw := gw_3 (List.mem_of_getElem? (i := 23) rfl) rfl
theorem gk_3_24 : Cond.methodLink "WakeLet" 202 ⟨"WakeLet$Agency", "hasAll", "(I)Z"⟩ ∈ gw := gw_3 (List.mem_of_getElem? (i := 24) rfl) rfl
theorem gk_3_25 : Cond.instanceMethod ⟨"WakeLet$Agency", "hasAll", "(I)Z"⟩ ∈ gw := gw_3 (List.mem_of_getElem? (i := 25) rfl) rfl
theorem gk_3_26 : Cond.selects "WakeLet$Agency" ⟨"WakeLet$Agency", "hasAll", "(I)Z"⟩ ⟨"WakeLet$Agency", "hasAll", "(I)Z"⟩ ∈ gw := gw_3 (List.mem_of_getElem? (i := 26) rfl) rfl
theorem gk_3_27 : Cond.code ⟨"WakeLet$Agency", "hasAll", "(I)Z"⟩ prog_3_method_7_code 2 (some FieldType.boolean) ∈ gw := gw_3 (List.mem_of_getElem? (i := 27) rfl) rfl
theorem gk_3_28 : Cond.methodLink "WakeLetLaw" 94 ⟨"WakeLet", "never", "()I"⟩ ∈ gw := gw_3 (List.mem_of_getElem? (i := 28) rfl) rfl
theorem gk_3_29 : Cond.instanceMethod ⟨"WakeLet", "never", "()I"⟩ ∈ gw := gw_3 (List.mem_of_getElem? (i := 29) rfl) rfl
theorem gk_3_30 : Cond.selects "WakeLet" ⟨"WakeLet", "never", "()I"⟩ ⟨"WakeLet", "never", "()I"⟩ ∈ gw := gw_3 (List.mem_of_getElem? (i := 30) rfl) rfl
theorem gk_3_31 : Cond.code ⟨"WakeLet", "never", "()I"⟩ prog_1_method_21_code 3 (some FieldType.int) ∈ gw := gw_3 (List.mem_of_getElem? (i := 31) rfl) rfl
theorem gk_3_32 : Cond.methodLink "WakeLetLaw" 98 ⟨"WakeLet", "best", "(II)I"⟩ ∈ gw := gw_3 (List.mem_of_getElem? (i := 32) rfl) rfl
theorem gk_3_33 : Cond.instanceMethod ⟨"WakeLet", "best", "(II)I"⟩ ∈ gw := gw_3 (List.mem_of_getElem? (i := 33) rfl) rfl
theorem gk_3_34 : Cond.selects "WakeLet" ⟨"WakeLet", "best", "(II)I"⟩ ⟨"WakeLet", "best", "(II)I"⟩ ∈ gw := gw_3 (List.mem_of_getElem? (i := 34) rfl) rfl
theorem gk_3_35 : Cond.code ⟨"WakeLet", "best", "(II)I"⟩ prog_1_method_22_code 3 (some FieldType.int) ∈ gw := gw_3 (List.mem_of_getElem? (i := 35) rfl) rfl
theorem gk_3_36 : Cond.methodLink "WakeLet" 205 ⟨"WakeLet$Search", "findBest", "(LWakeLet$Agency;I)V"⟩ ∈ gw := gw_3 (List.mem_of_getElem? (i := 36) rfl) rfl
theorem gk_3_37 : Cond.instanceMethod ⟨"WakeLet$Search", "findBest", "(LWakeLet$Agency;I)V"⟩ ∈ gw := gw_3 (List.mem_of_getElem? (i := 37) rfl) rfl
theorem gk_3_38 : Cond.selects "WakeLet$Search" ⟨"WakeLet$Search", "findBest", "(LWakeLet$Agency;I)V"⟩ ⟨"WakeLet$Search", "findBest", "(LWakeLet$Agency;I)V"⟩ ∈ gw := gw_3 (List.mem_of_getElem? (i := 38) rfl) rfl
theorem gk_3_39 : Cond.code ⟨"WakeLet$Search", "findBest", "(LWakeLet$Agency;I)V"⟩ prog_6_method_2_code 9 none ∈ gw := gw_3 (List.mem_of_getElem? (i := 39) rfl) rfl
theorem gk_3_40 : Cond.methodLink "WakeLet$Search" 27 ⟨"WakeLet$Search", "foretellSets", "(LWakeLet$Agency;I)V"⟩ ∈ gw := gw_3 (List.mem_of_getElem? (i := 40) rfl) rfl
theorem gk_3_42 : Cond.instanceMethod ⟨"WakeLet$Search", "foretellSets", "(LWakeLet$Agency;I)V"⟩ ∈ gw := gw_3 (List.mem_of_getElem? (i := 42) rfl) rfl
theorem gk_3_43 : Cond.code ⟨"WakeLet$Search", "foretellSets", "(LWakeLet$Agency;I)V"⟩ prog_6_method_7_code 7 none ∈ gw := gw_3 (List.mem_of_getElem? (i := 43) rfl) rfl
theorem gk_3_44 : Cond.methodLink "WakeLet$Search" 81 ⟨"WakeLet$Search", "findTaken", "(LWakeLet$Agency;II)V"⟩ ∈ gw := gw_3 (List.mem_of_getElem? (i := 44) rfl) rfl
theorem gk_3_46 : Cond.instanceMethod ⟨"WakeLet$Search", "findTaken", "(LWakeLet$Agency;II)V"⟩ ∈ gw := gw_3 (List.mem_of_getElem? (i := 46) rfl) rfl
theorem gk_3_47 : Cond.code ⟨"WakeLet$Search", "findTaken", "(LWakeLet$Agency;II)V"⟩ prog_6_method_8_code 6 none ∈ gw := gw_3 (List.mem_of_getElem? (i := 47) rfl) rfl
theorem gk_3_48 : Cond.methodLink "WakeLet$Search" 89 ⟨"java/lang/Integer", "numberOfTrailingZeros", "(I)I"⟩ ∈ gw := gw_3 (List.mem_of_getElem? (i := 48) rfl) rfl
theorem gk_3_49 : Cond.static ⟨"java/lang/Integer", "numberOfTrailingZeros", "(I)I"⟩ ∈ gw := gw_3 (List.mem_of_getElem? (i := 49) rfl) rfl
theorem gk_3_50 : Cond.code ⟨"java/lang/Integer", "numberOfTrailingZeros", "(I)I"⟩ prog_10_method_48_code 2 (some FieldType.int) ∈ gw := gw_3 (List.mem_of_getElem? (i := 50) rfl) rfl
theorem gk_3_51 : Cond.constant "java/lang/Integer" 264 (65536) ∈ gw := gw_3 (List.mem_of_getElem? (i := 51) rfl) rfl
theorem gk_3_52 : Cond.methodLink "WakeLet$Search" 94 ⟨"WakeLet$Agency", "takenBy", "(III)I"⟩ ∈ gw := gw_3 (List.mem_of_getElem? (i := 52) rfl) rfl
theorem gk_3_53 : Cond.methodLink "WakeLet$Search" 98 ⟨"java/lang/Math", "max", "(II)I"⟩ ∈ gw := gw_3 (List.mem_of_getElem? (i := 53) rfl) rfl
theorem gk_3_54 : Cond.methodLink "WakeLet$Search" 85 ⟨"WakeLet$Agency", "nextWeight", "(II)I"⟩ ∈ gw := gw_3 (List.mem_of_getElem? (i := 54) rfl) rfl
theorem gk_3_55 : Cond.methodLink "WakeLet$Search" 35 ⟨"WakeLet$Search", "waysToLet", "(LWakeLet$Agency;)I"⟩ ∈ gw := gw_3 (List.mem_of_getElem? (i := 55) rfl) rfl
theorem gk_3_56 : Cond.static ⟨"WakeLet$Search", "waysToLet", "(LWakeLet$Agency;)I"⟩ ∈ gw := gw_3 (List.mem_of_getElem? (i := 56) rfl) rfl
theorem gk_3_57 : Cond.code ⟨"WakeLet$Search", "waysToLet", "(LWakeLet$Agency;)I"⟩ prog_6_method_9_code 3 (some FieldType.int) ∈ gw := gw_3 (List.mem_of_getElem? (i := 57) rfl) rfl
theorem gk_3_58 : Cond.methodLink "WakeLet$Search" 39 ⟨"WakeLet$Search", "tryWay", "(LWakeLet$Agency;I)I"⟩ ∈ gw := gw_3 (List.mem_of_getElem? (i := 58) rfl) rfl
theorem gk_3_60 : Cond.instanceMethod ⟨"WakeLet$Search", "tryWay", "(LWakeLet$Agency;I)I"⟩ ∈ gw := gw_3 (List.mem_of_getElem? (i := 60) rfl) rfl
theorem gk_3_61 : Cond.code ⟨"WakeLet$Search", "tryWay", "(LWakeLet$Agency;I)I"⟩ prog_6_method_10_code 8 (some FieldType.int) ∈ gw := gw_3 (List.mem_of_getElem? (i := 61) rfl) rfl
theorem gk_3_62 : Cond.methodLink "WakeLet$Search" 106 ⟨"WakeLet$Agency", "hasClient", "(I)Z"⟩ ∈ gw := gw_3 (List.mem_of_getElem? (i := 62) rfl) rfl
theorem gk_3_63 : Cond.methodLink "WakeLet$Search" 48 ⟨"WakeLet$Search", "weightBehind", "(I)I"⟩ ∈ gw := gw_3 (List.mem_of_getElem? (i := 63) rfl) rfl
theorem gk_3_65 : Cond.instanceMethod ⟨"WakeLet$Search", "weightBehind", "(I)I"⟩ ∈ gw := gw_3 (List.mem_of_getElem? (i := 65) rfl) rfl
theorem gk_3_66 : Cond.code ⟨"WakeLet$Search", "weightBehind", "(I)I"⟩ prog_6_method_5_code 2 (some FieldType.int) ∈ gw := gw_3 (List.mem_of_getElem? (i := 66) rfl) rfl
theorem gk_3_67 : Cond.methodLink "WakeLet$Search" 58 ⟨"WakeLet$Search", "choose", "()V"⟩ ∈ gw := gw_3 (List.mem_of_getElem? (i := 67) rfl) rfl
theorem gk_3_69 : Cond.instanceMethod ⟨"WakeLet$Search", "choose", "()V"⟩ ∈ gw := gw_3 (List.mem_of_getElem? (i := 69) rfl) rfl
theorem gk_3_70 : Cond.code ⟨"WakeLet$Search", "choose", "()V"⟩ prog_6_method_6_code 1 none ∈ gw := gw_3 (List.mem_of_getElem? (i := 70) rfl) rfl
theorem gk_3_71 : Cond.methodLink "WakeLet$Search" 69 ⟨"java/lang/System", "arraycopy", "(Ljava/lang/Object;ILjava/lang/Object;II)V"⟩ ∈ gw := gw_3 (List.mem_of_getElem? (i := 71) rfl) rfl
theorem gk_3_72 : Cond.methodLink "WakeLet" 214 ⟨"WakeLet", "hirerFound", "(I)I"⟩ ∈ gw := gw_3 (List.mem_of_getElem? (i := 72) rfl) rfl
theorem gk_3_74 : Cond.instanceMethod ⟨"WakeLet", "hirerFound", "(I)I"⟩ ∈ gw := gw_3 (List.mem_of_getElem? (i := 74) rfl) rfl
theorem gk_3_75 : Cond.code ⟨"WakeLet", "hirerFound", "(I)I"⟩ prog_1_method_41_code 2 (some FieldType.int) ∈ gw := gw_3 (List.mem_of_getElem? (i := 75) rfl) rfl
theorem gk_3_76 : Cond.methodLink "WakeLetLaw" 102 ⟨"WakeLet", "fewest", "(III)I"⟩ ∈ gw := gw_3 (List.mem_of_getElem? (i := 76) rfl) rfl
theorem gk_3_77 : Cond.instanceMethod ⟨"WakeLet", "fewest", "(III)I"⟩ ∈ gw := gw_3 (List.mem_of_getElem? (i := 77) rfl) rfl
theorem gk_3_78 : Cond.selects "WakeLet" ⟨"WakeLet", "fewest", "(III)I"⟩ ⟨"WakeLet", "fewest", "(III)I"⟩ ∈ gw := gw_3 (List.mem_of_getElem? (i := 78) rfl) rfl
theorem gk_3_79 : Cond.code ⟨"WakeLet", "fewest", "(III)I"⟩ prog_1_method_23_code 4 (some FieldType.int) ∈ gw := gw_3 (List.mem_of_getElem? (i := 79) rfl) rfl
theorem gk_3_80 : Cond.methodLink "WakeLet" 217 ⟨"WakeLet$Search", "findFewest", "(LWakeLet$Agency;II)V"⟩ ∈ gw := gw_3 (List.mem_of_getElem? (i := 80) rfl) rfl
theorem gk_3_81 : Cond.instanceMethod ⟨"WakeLet$Search", "findFewest", "(LWakeLet$Agency;II)V"⟩ ∈ gw := gw_3 (List.mem_of_getElem? (i := 81) rfl) rfl
theorem gk_3_82 : Cond.selects "WakeLet$Search" ⟨"WakeLet$Search", "findFewest", "(LWakeLet$Agency;II)V"⟩ ⟨"WakeLet$Search", "findFewest", "(LWakeLet$Agency;II)V"⟩ ∈ gw := gw_3 (List.mem_of_getElem? (i := 82) rfl) rfl
theorem gk_3_83 : Cond.code ⟨"WakeLet$Search", "findFewest", "(LWakeLet$Agency;II)V"⟩ prog_6_method_3_code 7 none ∈ gw := gw_3 (List.mem_of_getElem? (i := 83) rfl) rfl
theorem gk_3_84 : Cond.constant "WakeLet$Search" 61 (-1000000) ∈ gw := gw_3 (List.mem_of_getElem? (i := 84) rfl) rfl
theorem gk_3_85 : Cond.methodLink "WakeLet$Search" 65 ⟨"WakeLet$Search", "restAll", "(LWakeLet$Agency;I)Z"⟩ ∈ gw := gw_3 (List.mem_of_getElem? (i := 85) rfl) rfl
theorem gk_3_87 : Cond.instanceMethod ⟨"WakeLet$Search", "restAll", "(LWakeLet$Agency;I)Z"⟩ ∈ gw := gw_3 (List.mem_of_getElem? (i := 87) rfl) rfl
theorem gk_3_88 : Cond.code ⟨"WakeLet$Search", "restAll", "(LWakeLet$Agency;I)Z"⟩ prog_6_method_4_code 4 (some FieldType.boolean) ∈ gw := gw_3 (List.mem_of_getElem? (i := 88) rfl) rfl
theorem gk_3_89 : Cond.methodLink "WakeLetLaw" 106 ⟨"WakeLet", "fits", "(IIIII)I"⟩ ∈ gw := gw_3 (List.mem_of_getElem? (i := 89) rfl) rfl
theorem gk_3_90 : Cond.instanceMethod ⟨"WakeLet", "fits", "(IIIII)I"⟩ ∈ gw := gw_3 (List.mem_of_getElem? (i := 90) rfl) rfl
theorem gk_3_91 : Cond.selects "WakeLet" ⟨"WakeLet", "fits", "(IIIII)I"⟩ ⟨"WakeLet", "fits", "(IIIII)I"⟩ ∈ gw := gw_3 (List.mem_of_getElem? (i := 91) rfl) rfl
theorem gk_3_92 : Cond.code ⟨"WakeLet", "fits", "(IIIII)I"⟩ prog_1_method_24_code 9 (some FieldType.int) ∈ gw := gw_3 (List.mem_of_getElem? (i := 92) rfl) rfl
theorem gk_3_93 : Cond.methodLink "WakeLet" 225 ⟨"WakeLet", "isGuess", "(II)Z"⟩ ∈ gw := gw_3 (List.mem_of_getElem? (i := 93) rfl) rfl
theorem gk_3_95 : Cond.instanceMethod ⟨"WakeLet", "isGuess", "(II)Z"⟩ ∈ gw := gw_3 (List.mem_of_getElem? (i := 95) rfl) rfl
theorem gk_3_96 : Cond.code ⟨"WakeLet", "isGuess", "(II)Z"⟩ prog_1_method_42_code 3 (some FieldType.boolean) ∈ gw := gw_3 (List.mem_of_getElem? (i := 96) rfl) rfl
theorem gk_3_97 : Cond.methodLink "WakeLet" 228 ⟨"WakeLet", "wouldShow", "(IIILWakeLet$Row;II)Z"⟩ ∈ gw := gw_3 (List.mem_of_getElem? (i := 97) rfl) rfl
theorem gk_3_99 : Cond.instanceMethod ⟨"WakeLet", "wouldShow", "(IIILWakeLet$Row;II)Z"⟩ ∈ gw := gw_3 (List.mem_of_getElem? (i := 99) rfl) rfl
theorem gk_3_100 : Cond.code ⟨"WakeLet", "wouldShow", "(IIILWakeLet$Row;II)Z"⟩ prog_1_method_43_code 8 (some FieldType.boolean) ∈ gw := gw_3 (List.mem_of_getElem? (i := 100) rfl) rfl
theorem gk_3_101 : Cond.methodLink "WakeLetLaw" 110 ⟨"WakeLet", "nods", "(III)I"⟩ ∈ gw := gw_3 (List.mem_of_getElem? (i := 101) rfl) rfl
theorem gk_3_102 : Cond.instanceMethod ⟨"WakeLet", "nods", "(III)I"⟩ ∈ gw := gw_3 (List.mem_of_getElem? (i := 102) rfl) rfl
theorem gk_3_103 : Cond.selects "WakeLet" ⟨"WakeLet", "nods", "(III)I"⟩ ⟨"WakeLet", "nods", "(III)I"⟩ ∈ gw := gw_3 (List.mem_of_getElem? (i := 103) rfl) rfl
theorem gk_3_104 : Cond.code ⟨"WakeLet", "nods", "(III)I"⟩ prog_1_method_25_code 7 (some FieldType.int) ∈ gw := gw_3 (List.mem_of_getElem? (i := 104) rfl) rfl
theorem gk_3_105 : Cond.methodLink "WakeLet" 235 ⟨"java/lang/Integer", "bitCount", "(I)I"⟩ ∈ gw := gw_3 (List.mem_of_getElem? (i := 105) rfl) rfl
theorem gk_3_106 : Cond.static ⟨"java/lang/Integer", "bitCount", "(I)I"⟩ ∈ gw := gw_3 (List.mem_of_getElem? (i := 106) rfl) rfl
theorem gk_3_107 : Cond.code ⟨"java/lang/Integer", "bitCount", "(I)I"⟩ prog_10_method_49_code 1 (some FieldType.int) ∈ gw := gw_3 (List.mem_of_getElem? (i := 107) rfl) rfl
theorem gk_3_108 : Cond.constant "java/lang/Integer" 265 (1431655765) ∈ gw := gw_3 (List.mem_of_getElem? (i := 108) rfl) rfl
theorem gk_3_109 : Cond.constant "java/lang/Integer" 266 (858993459) ∈ gw := gw_3 (List.mem_of_getElem? (i := 109) rfl) rfl
theorem gk_3_110 : Cond.constant "java/lang/Integer" 267 (252645135) ∈ gw := gw_3 (List.mem_of_getElem? (i := 110) rfl) rfl
theorem gk_3_111 : Cond.methodLink "WakeLet" 240 ⟨"WakeLet", "waysToBe", "(II)I"⟩ ∈ gw := gw_3 (List.mem_of_getElem? (i := 111) rfl) rfl
theorem gk_3_113 : Cond.instanceMethod ⟨"WakeLet", "waysToBe", "(II)I"⟩ ∈ gw := gw_3 (List.mem_of_getElem? (i := 113) rfl) rfl
theorem gk_3_114 : Cond.code ⟨"WakeLet", "waysToBe", "(II)I"⟩ prog_1_method_44_code 5 (some FieldType.int) ∈ gw := gw_3 (List.mem_of_getElem? (i := 114) rfl) rfl
theorem gk_3_115 : Cond.methodLink "WakeLet" 243 ⟨"WakeLet", "commonDivisor", "(II)I"⟩ ∈ gw := gw_3 (List.mem_of_getElem? (i := 115) rfl) rfl
theorem gk_3_116 : Cond.static ⟨"WakeLet", "commonDivisor", "(II)I"⟩ ∈ gw := gw_3 (List.mem_of_getElem? (i := 116) rfl) rfl
theorem gk_3_117 : Cond.code ⟨"WakeLet", "commonDivisor", "(II)I"⟩ prog_1_method_45_code 6 (some FieldType.int) ∈ gw := gw_3 (List.mem_of_getElem? (i := 117) rfl) rfl
theorem gk_3_118 : Cond.methodLink "WakeLet" 246 ⟨"java/lang/Math", "max", "(II)I"⟩ ∈ gw := gw_3 (List.mem_of_getElem? (i := 118) rfl) rfl
theorem gk_3_119 : Cond.methodLink "WakeLetLaw" 114 ⟨"WakeLet", "drawn", "(III)I"⟩ ∈ gw := gw_3 (List.mem_of_getElem? (i := 119) rfl) rfl
theorem gk_3_120 : Cond.instanceMethod ⟨"WakeLet", "drawn", "(III)I"⟩ ∈ gw := gw_3 (List.mem_of_getElem? (i := 120) rfl) rfl
theorem gk_3_121 : Cond.selects "WakeLet" ⟨"WakeLet", "drawn", "(III)I"⟩ ⟨"WakeLet", "drawn", "(III)I"⟩ ∈ gw := gw_3 (List.mem_of_getElem? (i := 121) rfl) rfl
theorem gk_3_122 : Cond.code ⟨"WakeLet", "drawn", "(III)I"⟩ prog_1_method_26_code 8 (some FieldType.int) ∈ gw := gw_3 (List.mem_of_getElem? (i := 122) rfl) rfl
theorem gk_3_123 : Cond.constant "WakeLet" 251 (999999) ∈ gw := gw_3 (List.mem_of_getElem? (i := 123) rfl) rfl
theorem gk_3_124 : Cond.constantLong "WakeLet" 252 (16807) ∈ gw := gw_3 (List.mem_of_getElem? (i := 124) rfl) rfl
theorem gk_3_125 : Cond.constantLong "WakeLet" 254 (2147483647) ∈ gw := gw_3 (List.mem_of_getElem? (i := 125) rfl) rfl
theorem gk_3_126 : Cond.constantLong "WakeLet" 256 (5) ∈ gw := gw_3 (List.mem_of_getElem? (i := 126) rfl) rfl
theorem gk_3_127 : Cond.methodLink "WakeLet" 258 ⟨"WakeLet$Agency", "weightsTogether", "()I"⟩ ∈ gw := gw_3 (List.mem_of_getElem? (i := 127) rfl) rfl
theorem gk_3_128 : Cond.instanceMethod ⟨"WakeLet$Agency", "weightsTogether", "()I"⟩ ∈ gw := gw_3 (List.mem_of_getElem? (i := 128) rfl) rfl
theorem gk_3_129 : Cond.selects "WakeLet$Agency" ⟨"WakeLet$Agency", "weightsTogether", "()I"⟩ ⟨"WakeLet$Agency", "weightsTogether", "()I"⟩ ∈ gw := gw_3 (List.mem_of_getElem? (i := 129) rfl) rfl
theorem gk_3_130 : Cond.code ⟨"WakeLet$Agency", "weightsTogether", "()I"⟩ prog_3_method_17_code 3 (some FieldType.int) ∈ gw := gw_3 (List.mem_of_getElem? (i := 130) rfl) rfl
theorem gk_3_131 : Cond.methodLink "WakeLetLaw" 118 ⟨"WakeLet", "image", "(I)I"⟩ ∈ gw := gw_3 (List.mem_of_getElem? (i := 131) rfl) rfl
theorem gk_3_132 : Cond.instanceMethod ⟨"WakeLet", "image", "(I)I"⟩ ∈ gw := gw_3 (List.mem_of_getElem? (i := 132) rfl) rfl
theorem gk_3_133 : Cond.selects "WakeLet" ⟨"WakeLet", "image", "(I)I"⟩ ⟨"WakeLet", "image", "(I)I"⟩ ∈ gw := gw_3 (List.mem_of_getElem? (i := 133) rfl) rfl
theorem gk_3_134 : Cond.code ⟨"WakeLet", "image", "(I)I"⟩ prog_1_method_27_code 2 (some FieldType.int) ∈ gw := gw_3 (List.mem_of_getElem? (i := 134) rfl) rfl
theorem gk_3_135 : Cond.methodLink "WakeLetLaw" 122 ⟨"WakeLet", "restore", "(I)I"⟩ ∈ gw := gw_3 (List.mem_of_getElem? (i := 135) rfl) rfl
theorem gk_3_136 : Cond.instanceMethod ⟨"WakeLet", "restore", "(I)I"⟩ ∈ gw := gw_3 (List.mem_of_getElem? (i := 136) rfl) rfl
theorem gk_3_137 : Cond.selects "WakeLet" ⟨"WakeLet", "restore", "(I)I"⟩ ⟨"WakeLet", "restore", "(I)I"⟩ ∈ gw := gw_3 (List.mem_of_getElem? (i := 137) rfl) rfl
theorem gk_3_138 : Cond.code ⟨"WakeLet", "restore", "(I)I"⟩ prog_1_method_28_code 2 (some FieldType.int) ∈ gw := gw_3 (List.mem_of_getElem? (i := 138) rfl) rfl
theorem gk_3_139 : Cond.methodLink "WakeLetLaw" 126 ⟨"WakeLet", "kind", "(I)I"⟩ ∈ gw := gw_3 (List.mem_of_getElem? (i := 139) rfl) rfl
theorem gk_3_140 : Cond.instanceMethod ⟨"WakeLet", "kind", "(I)I"⟩ ∈ gw := gw_3 (List.mem_of_getElem? (i := 140) rfl) rfl
theorem gk_3_141 : Cond.selects "WakeLet" ⟨"WakeLet", "kind", "(I)I"⟩ ⟨"WakeLet", "kind", "(I)I"⟩ ∈ gw := gw_3 (List.mem_of_getElem? (i := 141) rfl) rfl
theorem gk_3_142 : Cond.code ⟨"WakeLet", "kind", "(I)I"⟩ prog_1_method_29_code 2 (some FieldType.int) ∈ gw := gw_3 (List.mem_of_getElem? (i := 142) rfl) rfl
theorem gk_3_143 : Cond.methodLink "WakeLetLaw" 130 ⟨"WakeLet", "as", "(II)I"⟩ ∈ gw := gw_3 (List.mem_of_getElem? (i := 143) rfl) rfl
theorem gk_3_144 : Cond.instanceMethod ⟨"WakeLet", "as", "(II)I"⟩ ∈ gw := gw_3 (List.mem_of_getElem? (i := 144) rfl) rfl
theorem gk_3_145 : Cond.selects "WakeLet" ⟨"WakeLet", "as", "(II)I"⟩ ⟨"WakeLet", "as", "(II)I"⟩ ∈ gw := gw_3 (List.mem_of_getElem? (i := 145) rfl) rfl
theorem gk_3_146 : Cond.code ⟨"WakeLet", "as", "(II)I"⟩ prog_1_method_30_code 3 (some FieldType.int) ∈ gw := gw_3 (List.mem_of_getElem? (i := 146) rfl) rfl
theorem gk_3_147 : Cond.methodLink "WakeLet" 264 ⟨"WakeLet$Asks", "isOfKind", "(II)Z"⟩ ∈ gw := gw_3 (List.mem_of_getElem? (i := 147) rfl) rfl
theorem gk_3_148 : Cond.static ⟨"WakeLet$Asks", "isOfKind", "(II)Z"⟩ ∈ gw := gw_3 (List.mem_of_getElem? (i := 148) rfl) rfl
theorem gk_3_149 : Cond.code ⟨"WakeLet$Asks", "isOfKind", "(II)Z"⟩ prog_4_method_3_code 4 (some FieldType.boolean) ∈ gw := gw_3 (List.mem_of_getElem? (i := 149) rfl) rfl
theorem gk_3_150 : Cond.methodLink "WakeLet$Asks" 23 ⟨"WakeLet$Asks", "parentOf", "(I)I"⟩ ∈ gw := gw_3 (List.mem_of_getElem? (i := 150) rfl) rfl
theorem gk_3_151 : Cond.static ⟨"WakeLet$Asks", "parentOf", "(I)I"⟩ ∈ gw := gw_3 (List.mem_of_getElem? (i := 151) rfl) rfl
theorem gk_3_152 : Cond.code ⟨"WakeLet$Asks", "parentOf", "(I)I"⟩ prog_4_method_4_code 1 (some FieldType.int) ∈ gw := gw_3 (List.mem_of_getElem? (i := 152) rfl) rfl
theorem gk_3_153 : Cond.fieldLink "WakeLet$Asks" 27 "WakeLet$Asks" "PARENTS" "[I" ∈ gw := gw_3 (List.mem_of_getElem? (i := 153) rfl) rfl
theorem gk_3_155 : Cond.methodLink "WakeLetLaw" 134 ⟨"WakeLet", "ask", "(II)I"⟩ ∈ gw := gw_3 (List.mem_of_getElem? (i := 155) rfl) rfl
theorem gk_3_156 : Cond.instanceMethod ⟨"WakeLet", "ask", "(II)I"⟩ ∈ gw := gw_3 (List.mem_of_getElem? (i := 156) rfl) rfl
theorem gk_3_157 : Cond.selects "WakeLet" ⟨"WakeLet", "ask", "(II)I"⟩ ⟨"WakeLet", "ask", "(II)I"⟩ ∈ gw := gw_3 (List.mem_of_getElem? (i := 157) rfl) rfl
theorem gk_3_158 : Cond.code ⟨"WakeLet", "ask", "(II)I"⟩ prog_1_method_31_code 3 (some FieldType.int) ∈ gw := gw_3 (List.mem_of_getElem? (i := 158) rfl) rfl
theorem gk_3_159 : Cond.methodLink "WakeLet" 267 ⟨"WakeLet$Asks", "begin", "(LWakeLet$Agency;II)I"⟩ ∈ gw := gw_3 (List.mem_of_getElem? (i := 159) rfl) rfl
theorem gk_3_160 : Cond.instanceMethod ⟨"WakeLet$Asks", "begin", "(LWakeLet$Agency;II)I"⟩ ∈ gw := gw_3 (List.mem_of_getElem? (i := 160) rfl) rfl
theorem gk_3_161 : Cond.selects "WakeLet$Asks" ⟨"WakeLet$Asks", "begin", "(LWakeLet$Agency;II)I"⟩ ⟨"WakeLet$Asks", "begin", "(LWakeLet$Agency;II)I"⟩ ∈ gw := gw_3 (List.mem_of_getElem? (i := 161) rfl) rfl
theorem gk_3_162 : Cond.code ⟨"WakeLet$Asks", "begin", "(LWakeLet$Agency;II)I"⟩ prog_4_method_2_code 4 (some FieldType.int) ∈ gw := gw_3 (List.mem_of_getElem? (i := 162) rfl) rfl
theorem gk_3_163 : Cond.methodLink "WakeLet$Asks" 19 ⟨"WakeLet$Asks", "askAnew", "(LWakeLet$Agency;III)I"⟩ ∈ gw := gw_3 (List.mem_of_getElem? (i := 163) rfl) rfl
theorem gk_3_165 : Cond.instanceMethod ⟨"WakeLet$Asks", "askAnew", "(LWakeLet$Agency;III)I"⟩ ∈ gw := gw_3 (List.mem_of_getElem? (i := 165) rfl) rfl
theorem gk_3_166 : Cond.code ⟨"WakeLet$Asks", "askAnew", "(LWakeLet$Agency;III)I"⟩ prog_4_method_5_code 5 (some FieldType.int) ∈ gw := gw_3 (List.mem_of_getElem? (i := 166) rfl) rfl
theorem gk_3_167 : Cond.methodLink "WakeLet$Asks" 30 ⟨"WakeLet$Agency", "hasWaker", "(I)Z"⟩ ∈ gw := gw_3 (List.mem_of_getElem? (i := 167) rfl) rfl
theorem gk_3_168 : Cond.methodLink "WakeLet$Asks" 39 ⟨"WakeLet$Asks", "bodyFor", "(II)I"⟩ ∈ gw := gw_3 (List.mem_of_getElem? (i := 168) rfl) rfl
theorem gk_3_169 : Cond.static ⟨"WakeLet$Asks", "bodyFor", "(II)I"⟩ ∈ gw := gw_3 (List.mem_of_getElem? (i := 169) rfl) rfl
theorem gk_3_170 : Cond.code ⟨"WakeLet$Asks", "bodyFor", "(II)I"⟩ prog_4_method_6_code 4 (some FieldType.int) ∈ gw := gw_3 (List.mem_of_getElem? (i := 170) rfl) rfl
theorem gk_3_171 : Cond.methodLink "WakeLet$Asks" 46 ⟨"WakeLet$Asks", "ownBody", "(II)I"⟩ ∈ gw := gw_3 (List.mem_of_getElem? (i := 171) rfl) rfl
theorem gk_3_172 : Cond.static ⟨"WakeLet$Asks", "ownBody", "(II)I"⟩ ∈ gw := gw_3 (List.mem_of_getElem? (i := 172) rfl) rfl
theorem gk_3_173 : Cond.code ⟨"WakeLet$Asks", "ownBody", "(II)I"⟩ prog_4_method_7_code 3 (some FieldType.int) ∈ gw := gw_3 (List.mem_of_getElem? (i := 173) rfl) rfl
theorem gk_3_174 : Cond.fieldLink "WakeLet$Asks" 49 "WakeLet$Asks" "SIZE_BODIES" "[I" ∈ gw := gw_3 (List.mem_of_getElem? (i := 174) rfl) rfl
theorem gk_3_176 : Cond.fieldLink "WakeLet$Asks" 52 "WakeLet$Asks" "MARK_BODIES" "[I" ∈ gw := gw_3 (List.mem_of_getElem? (i := 176) rfl) rfl
theorem gk_3_178 : Cond.methodLink "WakeLet$Asks" 43 ⟨"WakeLet$Asks", "runBody", "(LWakeLet$Agency;III)I"⟩ ∈ gw := gw_3 (List.mem_of_getElem? (i := 178) rfl) rfl
theorem gk_3_180 : Cond.instanceMethod ⟨"WakeLet$Asks", "runBody", "(LWakeLet$Agency;III)I"⟩ ∈ gw := gw_3 (List.mem_of_getElem? (i := 180) rfl) rfl
theorem gk_3_181 : Cond.code ⟨"WakeLet$Asks", "runBody", "(LWakeLet$Agency;III)I"⟩ prog_4_method_8_code 6 (some FieldType.int) ∈ gw := gw_3 (List.mem_of_getElem? (i := 181) rfl) rfl
theorem gk_3_182 : Cond.methodLink "WakeLet$Asks" 55 ⟨"WakeLet$Asks", "leave", "(I)V"⟩ ∈ gw := gw_3 (List.mem_of_getElem? (i := 182) rfl) rfl
theorem gk_3_184 : Cond.instanceMethod ⟨"WakeLet$Asks", "leave", "(I)V"⟩ ∈ gw := gw_3 (List.mem_of_getElem? (i := 184) rfl) rfl
theorem gk_3_185 : Cond.code ⟨"WakeLet$Asks", "leave", "(I)V"⟩ prog_4_method_9_code 2 none ∈ gw := gw_3 (List.mem_of_getElem? (i := 185) rfl) rfl
theorem gk_3_186 : Cond.methodLink "WakeLetLaw" 138 ⟨"WakeLet", "trace", "(I)I"⟩ ∈ gw := gw_3 (List.mem_of_getElem? (i := 186) rfl) rfl
theorem gk_3_187 : Cond.instanceMethod ⟨"WakeLet", "trace", "(I)I"⟩ ∈ gw := gw_3 (List.mem_of_getElem? (i := 187) rfl) rfl
theorem gk_3_188 : Cond.selects "WakeLet" ⟨"WakeLet", "trace", "(I)I"⟩ ⟨"WakeLet", "trace", "(I)I"⟩ ∈ gw := gw_3 (List.mem_of_getElem? (i := 188) rfl) rfl
theorem gk_3_189 : Cond.code ⟨"WakeLet", "trace", "(I)I"⟩ prog_1_method_32_code 2 (some FieldType.int) ∈ gw := gw_3 (List.mem_of_getElem? (i := 189) rfl) rfl
theorem gk_3_190 : Cond.methodLink "WakeLetLaw" 142 ⟨"WakeLet", "count", "(I)I"⟩ ∈ gw := gw_3 (List.mem_of_getElem? (i := 190) rfl) rfl
theorem gk_3_191 : Cond.instanceMethod ⟨"WakeLet", "count", "(I)I"⟩ ∈ gw := gw_3 (List.mem_of_getElem? (i := 191) rfl) rfl
theorem gk_3_192 : Cond.selects "WakeLet" ⟨"WakeLet", "count", "(I)I"⟩ ⟨"WakeLet", "count", "(I)I"⟩ ∈ gw := gw_3 (List.mem_of_getElem? (i := 192) rfl) rfl
theorem gk_3_193 : Cond.code ⟨"WakeLet", "count", "(I)I"⟩ prog_1_method_33_code 2 (some FieldType.int) ∈ gw := gw_3 (List.mem_of_getElem? (i := 193) rfl) rfl
theorem gk_3_194 : Cond.methodLink "WakeLet" 277 ⟨"WakeLet", "rowsThere", "()I"⟩ ∈ gw := gw_3 (List.mem_of_getElem? (i := 194) rfl) rfl
theorem gk_3_196 : Cond.instanceMethod ⟨"WakeLet", "rowsThere", "()I"⟩ ∈ gw := gw_3 (List.mem_of_getElem? (i := 196) rfl) rfl
theorem gk_3_197 : Cond.code ⟨"WakeLet", "rowsThere", "()I"⟩ prog_1_method_38_code 3 (some FieldType.int) ∈ gw := gw_3 (List.mem_of_getElem? (i := 197) rfl) rfl
theorem gk_3_198 : Cond.methodLink "WakeLet" 280 ⟨"WakeLet$Agency", "wagesTogether", "()I"⟩ ∈ gw := gw_3 (List.mem_of_getElem? (i := 198) rfl) rfl
theorem gk_3_199 : Cond.instanceMethod ⟨"WakeLet$Agency", "wagesTogether", "()I"⟩ ∈ gw := gw_3 (List.mem_of_getElem? (i := 199) rfl) rfl
theorem gk_3_200 : Cond.selects "WakeLet$Agency" ⟨"WakeLet$Agency", "wagesTogether", "()I"⟩ ⟨"WakeLet$Agency", "wagesTogether", "()I"⟩ ∈ gw := gw_3 (List.mem_of_getElem? (i := 200) rfl) rfl
theorem gk_3_201 : Cond.code ⟨"WakeLet$Agency", "wagesTogether", "()I"⟩ prog_3_method_18_code 3 (some FieldType.int) ∈ gw := gw_3 (List.mem_of_getElem? (i := 201) rfl) rfl
theorem gk_3_202 : Cond.methodLink "WakeLetLaw" 146 ⟨"WakeLet", "status", "()I"⟩ ∈ gw := gw_3 (List.mem_of_getElem? (i := 202) rfl) rfl
theorem gk_3_203 : Cond.instanceMethod ⟨"WakeLet", "status", "()I"⟩ ∈ gw := gw_3 (List.mem_of_getElem? (i := 203) rfl) rfl
theorem gk_3_204 : Cond.selects "WakeLet" ⟨"WakeLet", "status", "()I"⟩ ⟨"WakeLet", "status", "()I"⟩ ∈ gw := gw_3 (List.mem_of_getElem? (i := 204) rfl) rfl
theorem gk_3_205 : Cond.code ⟨"WakeLet", "status", "()I"⟩ prog_1_method_34_code 1 (some FieldType.int) ∈ gw := gw_3 (List.mem_of_getElem? (i := 205) rfl) rfl
theorem gk_3_206 : Cond.classLink "WakeLetLaw" 10 "WakeLetModel" ∈ gw := gw_3 (List.mem_of_getElem? (i := 206) rfl) rfl
theorem gk_3_207 : Cond.instantiable "WakeLetModel" 17 ∈ gw := gw_3 (List.mem_of_getElem? (i := 207) rfl) rfl
theorem gk_3_208 : Cond.methodLink "WakeLetLaw" 12 ⟨"WakeLetModel", "<init>", "()V"⟩ ∈ gw := gw_3 (List.mem_of_getElem? (i := 208) rfl) rfl
theorem gk_3_209 : Cond.instanceMethod ⟨"WakeLetModel", "<init>", "()V"⟩ ∈ gw := gw_3 (List.mem_of_getElem? (i := 209) rfl) rfl
theorem gk_3_210 : Cond.code ⟨"WakeLetModel", "<init>", "()V"⟩ prog_9_method_1_code 2 none ∈ gw := gw_3 (List.mem_of_getElem? (i := 210) rfl) rfl
theorem gk_3_211 : Cond.methodLink "WakeLetModel" 1 ⟨"java/lang/Object", "<init>", "()V"⟩ ∈ gw := gw_3 (List.mem_of_getElem? (i := 211) rfl) rfl
theorem gk_3_212 : Cond.fieldLink "WakeLetModel" 7 "WakeLetModel" "w" "[I" ∈ gw := gw_3 (List.mem_of_getElem? (i := 212) rfl) rfl
theorem gk_3_213 : Cond.fieldLink "WakeLetModel" 13 "WakeLetModel" "isKept" "[Z" ∈ gw := gw_3 (List.mem_of_getElem? (i := 213) rfl) rfl
theorem gk_3_214 : Cond.fieldLink "WakeLetModel" 17 "WakeLetModel" "acts" "[I" ∈ gw := gw_3 (List.mem_of_getElem? (i := 214) rfl) rfl
theorem gk_3_215 : Cond.fieldLink "WakeLetModel" 123 "WakeLetModel" "acted" "I" ∈ gw := gw_3 (List.mem_of_getElem? (i := 215) rfl) rfl
theorem gk_3_216 : Cond.fieldLink "WakeLetModel" 20 "WakeLetModel" "rows" "[I" ∈ gw := gw_3 (List.mem_of_getElem? (i := 216) rfl) rfl
theorem gk_3_217 : Cond.fieldLink "WakeLetModel" 23 "WakeLetModel" "rowSize" "[I" ∈ gw := gw_3 (List.mem_of_getElem? (i := 217) rfl) rfl
theorem gk_3_218 : Cond.fieldLink "WakeLetModel" 26 "WakeLetModel" "rowLane" "[I" ∈ gw := gw_3 (List.mem_of_getElem? (i := 218) rfl) rfl
theorem gk_3_219 : Cond.fieldLink "WakeLetModel" 38 "WakeLetModel" "status" "I" ∈ gw := gw_3 (List.mem_of_getElem? (i := 219) rfl) rfl
theorem gk_3_220 : Cond.fieldLink "WakeLetModel" 29 "WakeLetModel" "tape" "[I" ∈ gw := gw_3 (List.mem_of_getElem? (i := 220) rfl) rfl
theorem gk_3_221 : Cond.fieldLink "WakeLetModel" 69 "WakeLetModel" "taped" "I" ∈ gw := gw_3 (List.mem_of_getElem? (i := 221) rfl) rfl
theorem gk_3_222 : Cond.fieldLink "WakeLetModel" 73 "WakeLetModel" "faulty" "I" ∈ gw := gw_3 (List.mem_of_getElem? (i := 222) rfl) rfl
theorem gk_3_223 : Cond.fieldLink "WakeLetModel" 32 "WakeLetModel" "trace" "[I" ∈ gw := gw_3 (List.mem_of_getElem? (i := 223) rfl) rfl
theorem gk_3_224 : Cond.fieldLink "WakeLetModel" 225 "WakeLetModel" "traced" "I" ∈ gw := gw_3 (List.mem_of_getElem? (i := 224) rfl) rfl
theorem gk_3_225 : Cond.fieldLink "WakeLetModel" 35 "WakeLetModel" "held" "[I" ∈ gw := gw_3 (List.mem_of_getElem? (i := 225) rfl) rfl
theorem gk_3_226 : Cond.fieldLink "WakeLetModel" 79 "WakeLetModel" "at" "I" ∈ gw := gw_3 (List.mem_of_getElem? (i := 226) rfl) rfl
theorem gk_3_227 : Cond.fieldLink "WakeLetModel" 89 "WakeLetModel" "number" "I" ∈ gw := gw_3 (List.mem_of_getElem? (i := 227) rfl) rfl
theorem gk_3_228 : Cond.fieldLink "WakeLetModel" 76 "WakeLetModel" "faultAt" "I" ∈ gw := gw_3 (List.mem_of_getElem? (i := 228) rfl) rfl
theorem gk_3_229 : Cond.laysFinal "WakeLetModel" "WakeLetModel" "w" "[I" ∈ gw := gw_3 (List.mem_of_getElem? (i := 229) rfl) rfl
theorem gk_3_231 : Cond.laysFinal "WakeLetModel" "WakeLetModel" "isKept" "[Z" ∈ gw := gw_3 (List.mem_of_getElem? (i := 231) rfl) rfl
theorem gk_3_233 : Cond.laysFinal "WakeLetModel" "WakeLetModel" "acts" "[I" ∈ gw := gw_3 (List.mem_of_getElem? (i := 233) rfl) rfl
theorem gk_3_235 : Cond.lays "WakeLetModel" "WakeLetModel" "acted" "I" ∈ gw := gw_3 (List.mem_of_getElem? (i := 235) rfl) rfl
theorem gk_3_237 : Cond.laysFinal "WakeLetModel" "WakeLetModel" "rows" "[I" ∈ gw := gw_3 (List.mem_of_getElem? (i := 237) rfl) rfl
theorem gk_3_239 : Cond.laysFinal "WakeLetModel" "WakeLetModel" "rowSize" "[I" ∈ gw := gw_3 (List.mem_of_getElem? (i := 239) rfl) rfl
theorem gk_4_1 : Cond.laysFinal "WakeLetModel" "WakeLetModel" "rowLane" "[I" ∈ gw := gw_4 (List.mem_of_getElem? (i := 1) rfl) rfl
theorem gk_4_3 : Cond.lays "WakeLetModel" "WakeLetModel" "status" "I" ∈ gw := gw_4 (List.mem_of_getElem? (i := 3) rfl) rfl
theorem gk_4_5 : Cond.laysFinal "WakeLetModel" "WakeLetModel" "tape" "[I" ∈ gw := gw_4 (List.mem_of_getElem? (i := 5) rfl) rfl
theorem gk_4_7 : Cond.lays "WakeLetModel" "WakeLetModel" "taped" "I" ∈ gw := gw_4 (List.mem_of_getElem? (i := 7) rfl) rfl
theorem gk_4_9 : Cond.lays "WakeLetModel" "WakeLetModel" "faulty" "I" ∈ gw := gw_4 (List.mem_of_getElem? (i := 9) rfl) rfl
theorem gk_4_11 : Cond.laysFinal "WakeLetModel" "WakeLetModel" "trace" "[I" ∈ gw := gw_4 (List.mem_of_getElem? (i := 11) rfl) rfl
theorem gk_4_13 : Cond.lays "WakeLetModel" "WakeLetModel" "traced" "I" ∈ gw := gw_4 (List.mem_of_getElem? (i := 13) rfl) rfl
theorem gk_4_15 : Cond.laysFinal "WakeLetModel" "WakeLetModel" "held" "[I" ∈ gw := gw_4 (List.mem_of_getElem? (i := 15) rfl) rfl
theorem gk_4_17 : Cond.lays "WakeLetModel" "WakeLetModel" "at" "I" ∈ gw := gw_4 (List.mem_of_getElem? (i := 17) rfl) rfl
theorem gk_4_19 : Cond.lays "WakeLetModel" "WakeLetModel" "number" "I" ∈ gw := gw_4 (List.mem_of_getElem? (i := 19) rfl) rfl
theorem gk_4_21 : Cond.lays "WakeLetModel" "WakeLetModel" "faultAt" "I" ∈ gw := gw_4 (List.mem_of_getElem? (i := 21) rfl) rfl
theorem gk_4_24 : Cond.arrayClass .boolean ∈ gw := gw_4 (List.mem_of_getElem? (i := 24) rfl) rfl
theorem gk_4_25 : Cond.methodLink "WakeLetLaw" 17 ⟨"WakeLetModel", "row", "(III)I"⟩ ∈ gw := gw_4 (List.mem_of_getElem? (i := 25) rfl) rfl
theorem gk_4_26 : Cond.instanceMethod ⟨"WakeLetModel", "row", "(III)I"⟩ ∈ gw := gw_4 (List.mem_of_getElem? (i := 26) rfl) rfl
theorem gk_4_27 : Cond.selects "WakeLetModel" ⟨"WakeLetModel", "row", "(III)I"⟩ ⟨"WakeLetModel", "row", "(III)I"⟩ ∈ gw := gw_4 (List.mem_of_getElem? (i := 27) rfl) rfl
theorem gk_4_28 : Cond.code ⟨"WakeLetModel", "row", "(III)I"⟩ prog_9_method_9_code 5 (some FieldType.int) ∈ gw := gw_4 (List.mem_of_getElem? (i := 28) rfl) rfl
theorem gk_4_29 : Cond.methodLink "WakeLetModel" 49 ⟨"WakeLetModel", "isRow", "(I)Z"⟩ ∈ gw := gw_4 (List.mem_of_getElem? (i := 29) rfl) rfl
theorem gk_4_30 : Cond.static ⟨"WakeLetModel", "isRow", "(I)Z"⟩ ∈ gw := gw_4 (List.mem_of_getElem? (i := 30) rfl) rfl
theorem gk_4_31 : Cond.code ⟨"WakeLetModel", "isRow", "(I)Z"⟩ prog_9_method_8_code 1 (some FieldType.boolean) ∈ gw := gw_4 (List.mem_of_getElem? (i := 31) rfl) rfl
theorem gk_4_32 : Cond.constantLong "WakeLetModel" 43 (7) ∈ gw := gw_4 (List.mem_of_getElem? (i := 32) rfl) rfl
theorem gk_4_33 : Cond.methodLink "WakeLetModel" 45 ⟨"WakeLetModel", "in", "(JJJ)Z"⟩ ∈ gw := gw_4 (List.mem_of_getElem? (i := 33) rfl) rfl
theorem gk_4_34 : Cond.static ⟨"WakeLetModel", "in", "(JJJ)Z"⟩ ∈ gw := gw_4 (List.mem_of_getElem? (i := 34) rfl) rfl
theorem gk_4_35 : Cond.code ⟨"WakeLetModel", "in", "(JJJ)Z"⟩ prog_9_method_3_code 6 (some FieldType.boolean) ∈ gw := gw_4 (List.mem_of_getElem? (i := 35) rfl) rfl
theorem gk_4_36 : Cond.constantLong "WakeLetModel" 53 (2) ∈ gw := gw_4 (List.mem_of_getElem? (i := 36) rfl) rfl
theorem gk_4_37 : Cond.constant "WakeLetModel" 55 (-1000001) ∈ gw := gw_4 (List.mem_of_getElem? (i := 37) rfl) rfl
theorem gk_4_38 : Cond.methodLink "WakeLetModel" 56 ⟨"WakeLetModel", "found", "(I)I"⟩ ∈ gw := gw_4 (List.mem_of_getElem? (i := 38) rfl) rfl
theorem gk_4_40 : Cond.instanceMethod ⟨"WakeLetModel", "found", "(I)I"⟩ ∈ gw := gw_4 (List.mem_of_getElem? (i := 40) rfl) rfl
theorem gk_4_41 : Cond.code ⟨"WakeLetModel", "found", "(I)I"⟩ prog_9_method_6_code 2 (some FieldType.int) ∈ gw := gw_4 (List.mem_of_getElem? (i := 41) rfl) rfl
theorem gk_4_42 : Cond.constant "WakeLetModel" 42 (-1000010) ∈ gw := gw_4 (List.mem_of_getElem? (i := 42) rfl) rfl
theorem gk_4_43 : Cond.methodLink "WakeLetModel" 60 ⟨"WakeLetModel", "good", "(I)I"⟩ ∈ gw := gw_4 (List.mem_of_getElem? (i := 43) rfl) rfl
theorem gk_4_45 : Cond.instanceMethod ⟨"WakeLetModel", "good", "(I)I"⟩ ∈ gw := gw_4 (List.mem_of_getElem? (i := 45) rfl) rfl
theorem gk_4_46 : Cond.code ⟨"WakeLetModel", "good", "(I)I"⟩ prog_9_method_7_code 2 (some FieldType.int) ∈ gw := gw_4 (List.mem_of_getElem? (i := 46) rfl) rfl
theorem gk_4_47 : Cond.methodLink "WakeLetLaw" 21 ⟨"WakeLetModel", "set", "(III)I"⟩ ∈ gw := gw_4 (List.mem_of_getElem? (i := 47) rfl) rfl
theorem gk_4_48 : Cond.instanceMethod ⟨"WakeLetModel", "set", "(III)I"⟩ ∈ gw := gw_4 (List.mem_of_getElem? (i := 48) rfl) rfl
theorem gk_4_49 : Cond.selects "WakeLetModel" ⟨"WakeLetModel", "set", "(III)I"⟩ ⟨"WakeLetModel", "set", "(III)I"⟩ ∈ gw := gw_4 (List.mem_of_getElem? (i := 49) rfl) rfl
theorem gk_4_50 : Cond.code ⟨"WakeLetModel", "set", "(III)I"⟩ prog_9_method_10_code 4 (some FieldType.int) ∈ gw := gw_4 (List.mem_of_getElem? (i := 50) rfl) rfl
theorem gk_4_51 : Cond.methodLink "WakeLetLaw" 26 ⟨"WakeLetModel", "copy", "(IIIII)I"⟩ ∈ gw := gw_4 (List.mem_of_getElem? (i := 51) rfl) rfl
theorem gk_4_52 : Cond.instanceMethod ⟨"WakeLetModel", "copy", "(IIIII)I"⟩ ∈ gw := gw_4 (List.mem_of_getElem? (i := 52) rfl) rfl
theorem gk_4_53 : Cond.selects "WakeLetModel" ⟨"WakeLetModel", "copy", "(IIIII)I"⟩ ⟨"WakeLetModel", "copy", "(IIIII)I"⟩ ∈ gw := gw_4 (List.mem_of_getElem? (i := 53) rfl) rfl
theorem gk_4_54 : Cond.code ⟨"WakeLetModel", "copy", "(IIIII)I"⟩ prog_9_method_12_code 7 (some FieldType.int) ∈ gw := gw_4 (List.mem_of_getElem? (i := 54) rfl) rfl
theorem gk_4_55 : Cond.methodLink "WakeLetModel" 63 ⟨"WakeLetModel", "isWithin", "(III)Z"⟩ ∈ gw := gw_4 (List.mem_of_getElem? (i := 55) rfl) rfl
theorem gk_4_56 : Cond.static ⟨"WakeLetModel", "isWithin", "(III)Z"⟩ ∈ gw := gw_4 (List.mem_of_getElem? (i := 56) rfl) rfl
theorem gk_4_57 : Cond.code ⟨"WakeLetModel", "isWithin", "(III)Z"⟩ prog_9_method_11_code 3 (some FieldType.boolean) ∈ gw := gw_4 (List.mem_of_getElem? (i := 57) rfl) rfl
theorem gk_4_58 : Cond.methodLink "WakeLetLaw" 31 ⟨"WakeLetModel", "drop", "(I)I"⟩ ∈ gw := gw_4 (List.mem_of_getElem? (i := 58) rfl) rfl
theorem gk_4_59 : Cond.instanceMethod ⟨"WakeLetModel", "drop", "(I)I"⟩ ∈ gw := gw_4 (List.mem_of_getElem? (i := 59) rfl) rfl
theorem gk_4_60 : Cond.selects "WakeLetModel" ⟨"WakeLetModel", "drop", "(I)I"⟩ ⟨"WakeLetModel", "drop", "(I)I"⟩ ∈ gw := gw_4 (List.mem_of_getElem? (i := 60) rfl) rfl
theorem gk_4_61 : Cond.code ⟨"WakeLetModel", "drop", "(I)I"⟩ prog_9_method_13_code 3 (some FieldType.int) ∈ gw := gw_4 (List.mem_of_getElem? (i := 61) rfl) rfl
theorem gk_4_62 : Cond.methodLink "WakeLetLaw" 35 ⟨"WakeLetModel", "feed", "(I)I"⟩ ∈ gw := gw_4 (List.mem_of_getElem? (i := 62) rfl) rfl
theorem gk_4_63 : Cond.instanceMethod ⟨"WakeLetModel", "feed", "(I)I"⟩ ∈ gw := gw_4 (List.mem_of_getElem? (i := 63) rfl) rfl
theorem gk_4_64 : Cond.selects "WakeLetModel" ⟨"WakeLetModel", "feed", "(I)I"⟩ ⟨"WakeLetModel", "feed", "(I)I"⟩ ∈ gw := gw_4 (List.mem_of_getElem? (i := 64) rfl) rfl
theorem gk_4_65 : Cond.code ⟨"WakeLetModel", "feed", "(I)I"⟩ prog_9_method_15_code 2 (some FieldType.int) ∈ gw := gw_4 (List.mem_of_getElem? (i := 65) rfl) rfl
theorem gk_4_66 : Cond.constantLong "WakeLetModel" 67 (255) ∈ gw := gw_4 (List.mem_of_getElem? (i := 66) rfl) rfl
theorem gk_4_67 : Cond.constant "WakeLetModel" 72 (-1000003) ∈ gw := gw_4 (List.mem_of_getElem? (i := 67) rfl) rfl
theorem gk_4_68 : Cond.methodLink "WakeLetLaw" 40 ⟨"WakeLetModel", "agency", "()I"⟩ ∈ gw := gw_4 (List.mem_of_getElem? (i := 68) rfl) rfl
theorem gk_4_69 : Cond.instanceMethod ⟨"WakeLetModel", "agency", "()I"⟩ ∈ gw := gw_4 (List.mem_of_getElem? (i := 69) rfl) rfl
theorem gk_4_70 : Cond.selects "WakeLetModel" ⟨"WakeLetModel", "agency", "()I"⟩ ⟨"WakeLetModel", "agency", "()I"⟩ ∈ gw := gw_4 (List.mem_of_getElem? (i := 70) rfl) rfl
theorem gk_4_71 : Cond.code ⟨"WakeLetModel", "agency", "()I"⟩ prog_9_method_26_code 2 (some FieldType.int) ∈ gw := gw_4 (List.mem_of_getElem? (i := 71) rfl) rfl
theorem gk_4_72 : Cond.methodLink "WakeLetModel" 112 ⟨"WakeLetModel", "takesLaw", "()Z"⟩ ∈ gw := gw_4 (List.mem_of_getElem? (i := 72) rfl) rfl
theorem gk_4_74 : Cond.instanceMethod ⟨"WakeLetModel", "takesLaw", "()Z"⟩ ∈ gw := gw_4 (List.mem_of_getElem? (i := 74) rfl) rfl
theorem gk_4_75 : Cond.code ⟨"WakeLetModel", "takesLaw", "()Z"⟩ prog_9_method_20_code 2 (some FieldType.boolean) ∈ gw := gw_4 (List.mem_of_getElem? (i := 75) rfl) rfl
theorem gk_4_76 : Cond.methodLink "WakeLetModel" 96 ⟨"WakeLetModel", "takes", "(I)Z"⟩ ∈ gw := gw_4 (List.mem_of_getElem? (i := 76) rfl) rfl
theorem gk_4_78 : Cond.instanceMethod ⟨"WakeLetModel", "takes", "(I)Z"⟩ ∈ gw := gw_4 (List.mem_of_getElem? (i := 78) rfl) rfl
theorem gk_4_79 : Cond.code ⟨"WakeLetModel", "takes", "(I)Z"⟩ prog_9_method_18_code 2 (some FieldType.boolean) ∈ gw := gw_4 (List.mem_of_getElem? (i := 79) rfl) rfl
theorem gk_4_80 : Cond.methodLink "WakeLetModel" 82 ⟨"WakeLetModel", "byteAt", "(I)I"⟩ ∈ gw := gw_4 (List.mem_of_getElem? (i := 80) rfl) rfl
theorem gk_4_82 : Cond.instanceMethod ⟨"WakeLetModel", "byteAt", "(I)I"⟩ ∈ gw := gw_4 (List.mem_of_getElem? (i := 82) rfl) rfl
theorem gk_4_83 : Cond.code ⟨"WakeLetModel", "byteAt", "(I)I"⟩ prog_9_method_16_code 2 (some FieldType.int) ∈ gw := gw_4 (List.mem_of_getElem? (i := 83) rfl) rfl
theorem gk_4_84 : Cond.methodLink "WakeLetModel" 85 ⟨"WakeLetModel", "fails", "(II)Z"⟩ ∈ gw := gw_4 (List.mem_of_getElem? (i := 84) rfl) rfl
theorem gk_4_86 : Cond.instanceMethod ⟨"WakeLetModel", "fails", "(II)Z"⟩ ∈ gw := gw_4 (List.mem_of_getElem? (i := 86) rfl) rfl
theorem gk_4_87 : Cond.code ⟨"WakeLetModel", "fails", "(II)Z"⟩ prog_9_method_17_code 3 (some FieldType.boolean) ∈ gw := gw_4 (List.mem_of_getElem? (i := 87) rfl) rfl
theorem gk_4_88 : Cond.methodLink "WakeLetModel" 99 ⟨"WakeLetModel", "takesNumber", "(III)Z"⟩ ∈ gw := gw_4 (List.mem_of_getElem? (i := 88) rfl) rfl
theorem gk_4_90 : Cond.instanceMethod ⟨"WakeLetModel", "takesNumber", "(III)Z"⟩ ∈ gw := gw_4 (List.mem_of_getElem? (i := 90) rfl) rfl
theorem gk_4_91 : Cond.code ⟨"WakeLetModel", "takesNumber", "(III)Z"⟩ prog_9_method_19_code 5 (some FieldType.boolean) ∈ gw := gw_4 (List.mem_of_getElem? (i := 91) rfl) rfl
theorem gk_4_92 : Cond.constantLong "WakeLetModel" 92 (48) ∈ gw := gw_4 (List.mem_of_getElem? (i := 92) rfl) rfl
theorem gk_4_93 : Cond.constantLong "WakeLetModel" 94 (57) ∈ gw := gw_4 (List.mem_of_getElem? (i := 93) rfl) rfl
theorem gk_4_94 : Cond.methodLink "WakeLetModel" 115 ⟨"WakeLetModel", "takesMore", "()Z"⟩ ∈ gw := gw_4 (List.mem_of_getElem? (i := 94) rfl) rfl
theorem gk_4_96 : Cond.instanceMethod ⟨"WakeLetModel", "takesMore", "()Z"⟩ ∈ gw := gw_4 (List.mem_of_getElem? (i := 96) rfl) rfl
theorem gk_4_97 : Cond.code ⟨"WakeLetModel", "takesMore", "()Z"⟩ prog_9_method_24_code 3 (some FieldType.boolean) ∈ gw := gw_4 (List.mem_of_getElem? (i := 97) rfl) rfl
theorem gk_4_98 : Cond.methodLink "WakeLetModel" 102 ⟨"WakeLetModel", "kindOf", "(I)I"⟩ ∈ gw := gw_4 (List.mem_of_getElem? (i := 98) rfl) rfl
theorem gk_4_99 : Cond.static ⟨"WakeLetModel", "kindOf", "(I)I"⟩ ∈ gw := gw_4 (List.mem_of_getElem? (i := 99) rfl) rfl
theorem gk_4_100 : Cond.code ⟨"WakeLetModel", "kindOf", "(I)I"⟩ prog_9_method_22_code 1 (some FieldType.int) ∈ gw := gw_4 (List.mem_of_getElem? (i := 100) rfl) rfl
theorem gk_4_101 : Cond.methodLink "WakeLetModel" 105 ⟨"WakeLetModel", "takesClient", "()Z"⟩ ∈ gw := gw_4 (List.mem_of_getElem? (i := 101) rfl) rfl
theorem gk_4_103 : Cond.instanceMethod ⟨"WakeLetModel", "takesClient", "()Z"⟩ ∈ gw := gw_4 (List.mem_of_getElem? (i := 103) rfl) rfl
theorem gk_4_104 : Cond.code ⟨"WakeLetModel", "takesClient", "()Z"⟩ prog_9_method_21_code 2 (some FieldType.boolean) ∈ gw := gw_4 (List.mem_of_getElem? (i := 104) rfl) rfl
theorem gk_4_105 : Cond.methodLink "WakeLetModel" 109 ⟨"WakeLetModel", "takesWaker", "(I)Z"⟩ ∈ gw := gw_4 (List.mem_of_getElem? (i := 105) rfl) rfl
theorem gk_4_107 : Cond.instanceMethod ⟨"WakeLetModel", "takesWaker", "(I)Z"⟩ ∈ gw := gw_4 (List.mem_of_getElem? (i := 107) rfl) rfl
theorem gk_4_108 : Cond.code ⟨"WakeLetModel", "takesWaker", "(I)Z"⟩ prog_9_method_23_code 6 (some FieldType.boolean) ∈ gw := gw_4 (List.mem_of_getElem? (i := 108) rfl) rfl
theorem gk_4_109 : Cond.constant "WakeLetModel" 118 (-1000100) ∈ gw := gw_4 (List.mem_of_getElem? (i := 109) rfl) rfl
theorem gk_4_110 : Cond.methodLink "WakeLetModel" 119 ⟨"WakeLetModel", "copyAll", "(II)V"⟩ ∈ gw := gw_4 (List.mem_of_getElem? (i := 110) rfl) rfl
theorem gk_4_112 : Cond.instanceMethod ⟨"WakeLetModel", "copyAll", "(II)V"⟩ ∈ gw := gw_4 (List.mem_of_getElem? (i := 112) rfl) rfl
theorem gk_4_113 : Cond.code ⟨"WakeLetModel", "copyAll", "(II)V"⟩ prog_9_method_25_code 4 none ∈ gw := gw_4 (List.mem_of_getElem? (i := 113) rfl) rfl
theorem gk_4_114 : Cond.methodLink "WakeLetLaw" 44 ⟨"WakeLetModel", "fault", "()I"⟩ ∈ gw := gw_4 (List.mem_of_getElem? (i := 114) rfl) rfl
theorem gk_4_115 : Cond.instanceMethod ⟨"WakeLetModel", "fault", "()I"⟩ ∈ gw := gw_4 (List.mem_of_getElem? (i := 115) rfl) rfl
theorem gk_4_116 : Cond.selects "WakeLetModel" ⟨"WakeLetModel", "fault", "()I"⟩ ⟨"WakeLetModel", "fault", "()I"⟩ ∈ gw := gw_4 (List.mem_of_getElem? (i := 116) rfl) rfl
theorem gk_4_117 : Cond.code ⟨"WakeLetModel", "fault", "()I"⟩ prog_9_method_27_code 1 (some FieldType.int) ∈ gw := gw_4 (List.mem_of_getElem? (i := 117) rfl) rfl
theorem gk_4_118 : Cond.methodLink "WakeLetLaw" 48 ⟨"WakeLetModel", "nights", "(I)I"⟩ ∈ gw := gw_4 (List.mem_of_getElem? (i := 118) rfl) rfl
theorem gk_4_119 : Cond.instanceMethod ⟨"WakeLetModel", "nights", "(I)I"⟩ ∈ gw := gw_4 (List.mem_of_getElem? (i := 119) rfl) rfl
theorem gk_4_120 : Cond.selects "WakeLetModel" ⟨"WakeLetModel", "nights", "(I)I"⟩ ⟨"WakeLetModel", "nights", "(I)I"⟩ ∈ gw := gw_4 (List.mem_of_getElem? (i := 120) rfl) rfl
theorem gk_4_121 : Cond.code ⟨"WakeLetModel", "nights", "(I)I"⟩ prog_9_method_38_code 3 (some FieldType.int) ∈ gw := gw_4 (List.mem_of_getElem? (i := 121) rfl) rfl
theorem gk_4_122 : Cond.methodLink "WakeLetModel" 143 ⟨"WakeLetModel", "isAgency", "()Z"⟩ ∈ gw := gw_4 (List.mem_of_getElem? (i := 122) rfl) rfl
theorem gk_4_124 : Cond.instanceMethod ⟨"WakeLetModel", "isAgency", "()Z"⟩ ∈ gw := gw_4 (List.mem_of_getElem? (i := 124) rfl) rfl
theorem gk_4_125 : Cond.code ⟨"WakeLetModel", "isAgency", "()Z"⟩ prog_9_method_28_code 1 (some FieldType.boolean) ∈ gw := gw_4 (List.mem_of_getElem? (i := 125) rfl) rfl
theorem gk_4_126 : Cond.constant "WakeLetModel" 146 (-1000002) ∈ gw := gw_4 (List.mem_of_getElem? (i := 126) rfl) rfl
theorem gk_4_127 : Cond.constantLong "WakeLetModel" 147 (24) ∈ gw := gw_4 (List.mem_of_getElem? (i := 127) rfl) rfl
theorem gk_4_128 : Cond.methodLink "WakeLetModel" 149 ⟨"WakeLetModel", "minds", "()V"⟩ ∈ gw := gw_4 (List.mem_of_getElem? (i := 128) rfl) rfl
theorem gk_4_130 : Cond.instanceMethod ⟨"WakeLetModel", "minds", "()V"⟩ ∈ gw := gw_4 (List.mem_of_getElem? (i := 130) rfl) rfl
theorem gk_4_131 : Cond.code ⟨"WakeLetModel", "minds", "()V"⟩ prog_9_method_37_code 2 none ∈ gw := gw_4 (List.mem_of_getElem? (i := 131) rfl) rfl
theorem gk_4_132 : Cond.methodLink "WakeLetModel" 152 ⟨"WakeLetModel", "passes", "(II)V"⟩ ∈ gw := gw_4 (List.mem_of_getElem? (i := 132) rfl) rfl
theorem gk_4_134 : Cond.instanceMethod ⟨"WakeLetModel", "passes", "(II)V"⟩ ∈ gw := gw_4 (List.mem_of_getElem? (i := 134) rfl) rfl
theorem gk_4_135 : Cond.code ⟨"WakeLetModel", "passes", "(II)V"⟩ prog_9_method_35_code 7 none ∈ gw := gw_4 (List.mem_of_getElem? (i := 135) rfl) rfl
theorem gk_4_136 : Cond.methodLink "WakeLetModel" 139 ⟨"WakeLetModel", "lighter", "(III)I"⟩ ∈ gw := gw_4 (List.mem_of_getElem? (i := 136) rfl) rfl
theorem gk_4_138 : Cond.instanceMethod ⟨"WakeLetModel", "lighter", "(III)I"⟩ ∈ gw := gw_4 (List.mem_of_getElem? (i := 138) rfl) rfl
theorem gk_4_139 : Cond.code ⟨"WakeLetModel", "lighter", "(III)I"⟩ prog_9_method_34_code 7 (some FieldType.int) ∈ gw := gw_4 (List.mem_of_getElem? (i := 139) rfl) rfl
theorem gk_4_140 : Cond.methodLink "WakeLetModel" 133 ⟨"WakeLetModel", "has", "(II)Z"⟩ ∈ gw := gw_4 (List.mem_of_getElem? (i := 140) rfl) rfl
theorem gk_4_141 : Cond.static ⟨"WakeLetModel", "has", "(II)Z"⟩ ∈ gw := gw_4 (List.mem_of_getElem? (i := 141) rfl) rfl
theorem gk_4_142 : Cond.code ⟨"WakeLetModel", "has", "(II)Z"⟩ prog_9_method_4_code 2 (some FieldType.boolean) ∈ gw := gw_4 (List.mem_of_getElem? (i := 142) rfl) rfl
theorem gk_4_143 : Cond.methodLink "WakeLetModel" 126 ⟨"WakeLetModel", "isFit", "(II)Z"⟩ ∈ gw := gw_4 (List.mem_of_getElem? (i := 143) rfl) rfl
theorem gk_4_145 : Cond.instanceMethod ⟨"WakeLetModel", "isFit", "(II)Z"⟩ ∈ gw := gw_4 (List.mem_of_getElem? (i := 145) rfl) rfl
theorem gk_4_146 : Cond.code ⟨"WakeLetModel", "isFit", "(II)Z"⟩ prog_9_method_31_code 3 (some FieldType.boolean) ∈ gw := gw_4 (List.mem_of_getElem? (i := 146) rfl) rfl
theorem gk_4_147 : Cond.methodLink "WakeLetModel" 136 ⟨"WakeLetModel", "lies", "(II)I"⟩ ∈ gw := gw_4 (List.mem_of_getElem? (i := 147) rfl) rfl
theorem gk_4_149 : Cond.instanceMethod ⟨"WakeLetModel", "lies", "(II)I"⟩ ∈ gw := gw_4 (List.mem_of_getElem? (i := 149) rfl) rfl
theorem gk_4_150 : Cond.code ⟨"WakeLetModel", "lies", "(II)I"⟩ prog_9_method_33_code 6 (some FieldType.int) ∈ gw := gw_4 (List.mem_of_getElem? (i := 150) rfl) rfl
theorem gk_4_151 : Cond.methodLink "WakeLetModel" 129 ⟨"WakeLetModel", "guards", "(II)I"⟩ ∈ gw := gw_4 (List.mem_of_getElem? (i := 151) rfl) rfl
theorem gk_4_152 : Cond.static ⟨"WakeLetModel", "guards", "(II)I"⟩ ∈ gw := gw_4 (List.mem_of_getElem? (i := 152) rfl) rfl
theorem gk_4_153 : Cond.code ⟨"WakeLetModel", "guards", "(II)I"⟩ prog_9_method_32_code 2 (some FieldType.int) ∈ gw := gw_4 (List.mem_of_getElem? (i := 153) rfl) rfl
theorem gk_4_154 : Cond.methodLink "WakeLetModel" 155 ⟨"WakeLetModel", "restsIn", "(I)I"⟩ ∈ gw := gw_4 (List.mem_of_getElem? (i := 154) rfl) rfl
theorem gk_4_156 : Cond.instanceMethod ⟨"WakeLetModel", "restsIn", "(I)I"⟩ ∈ gw := gw_4 (List.mem_of_getElem? (i := 156) rfl) rfl
theorem gk_4_157 : Cond.code ⟨"WakeLetModel", "restsIn", "(I)I"⟩ prog_9_method_36_code 4 (some FieldType.int) ∈ gw := gw_4 (List.mem_of_getElem? (i := 157) rfl) rfl
theorem gk_4_158 : Cond.methodLink "WakeLetLaw" 53 ⟨"WakeLetModel", "let", "(II)I"⟩ ∈ gw := gw_4 (List.mem_of_getElem? (i := 158) rfl) rfl
theorem gk_4_159 : Cond.instanceMethod ⟨"WakeLetModel", "let", "(II)I"⟩ ∈ gw := gw_4 (List.mem_of_getElem? (i := 159) rfl) rfl
theorem gk_4_160 : Cond.selects "WakeLetModel" ⟨"WakeLetModel", "let", "(II)I"⟩ ⟨"WakeLetModel", "let", "(II)I"⟩ ∈ gw := gw_4 (List.mem_of_getElem? (i := 160) rfl) rfl
theorem gk_4_161 : Cond.code ⟨"WakeLetModel", "let", "(II)I"⟩ prog_9_method_39_code 4 (some FieldType.int) ∈ gw := gw_4 (List.mem_of_getElem? (i := 161) rfl) rfl
theorem gk_4_162 : Cond.methodLink "WakeLetModel" 158 ⟨"WakeLetModel", "isWaker", "(I)Z"⟩ ∈ gw := gw_4 (List.mem_of_getElem? (i := 162) rfl) rfl
theorem gk_4_164 : Cond.instanceMethod ⟨"WakeLetModel", "isWaker", "(I)Z"⟩ ∈ gw := gw_4 (List.mem_of_getElem? (i := 164) rfl) rfl
theorem gk_4_165 : Cond.code ⟨"WakeLetModel", "isWaker", "(I)Z"⟩ prog_9_method_30_code 2 (some FieldType.boolean) ∈ gw := gw_4 (List.mem_of_getElem? (i := 165) rfl) rfl
theorem gk_4_166 : Cond.methodLink "WakeLetModel" 161 ⟨"WakeLetModel", "isClient", "(I)Z"⟩ ∈ gw := gw_4 (List.mem_of_getElem? (i := 166) rfl) rfl
theorem gk_4_168 : Cond.instanceMethod ⟨"WakeLetModel", "isClient", "(I)Z"⟩ ∈ gw := gw_4 (List.mem_of_getElem? (i := 168) rfl) rfl
theorem gk_4_169 : Cond.code ⟨"WakeLetModel", "isClient", "(I)Z"⟩ prog_9_method_29_code 2 (some FieldType.boolean) ∈ gw := gw_4 (List.mem_of_getElem? (i := 169) rfl) rfl
theorem gk_4_170 : Cond.methodLink "WakeLetLaw" 57 ⟨"WakeLetModel", "grow", "(II)I"⟩ ∈ gw := gw_4 (List.mem_of_getElem? (i := 170) rfl) rfl
theorem gk_4_171 : Cond.instanceMethod ⟨"WakeLetModel", "grow", "(II)I"⟩ ∈ gw := gw_4 (List.mem_of_getElem? (i := 171) rfl) rfl
theorem gk_4_172 : Cond.selects "WakeLetModel" ⟨"WakeLetModel", "grow", "(II)I"⟩ ⟨"WakeLetModel", "grow", "(II)I"⟩ ∈ gw := gw_4 (List.mem_of_getElem? (i := 172) rfl) rfl
theorem gk_4_173 : Cond.code ⟨"WakeLetModel", "grow", "(II)I"⟩ prog_9_method_40_code 3 (some FieldType.int) ∈ gw := gw_4 (List.mem_of_getElem? (i := 173) rfl) rfl
theorem gk_4_174 : Cond.constantLong "WakeLetModel" 164 (20) ∈ gw := gw_4 (List.mem_of_getElem? (i := 174) rfl) rfl
theorem gk_4_175 : Cond.methodLink "WakeLetLaw" 61 ⟨"WakeLetModel", "learn", "(II)I"⟩ ∈ gw := gw_4 (List.mem_of_getElem? (i := 175) rfl) rfl
theorem gk_4_176 : Cond.instanceMethod ⟨"WakeLetModel", "learn", "(II)I"⟩ ∈ gw := gw_4 (List.mem_of_getElem? (i := 176) rfl) rfl
theorem gk_4_177 : Cond.selects "WakeLetModel" ⟨"WakeLetModel", "learn", "(II)I"⟩ ⟨"WakeLetModel", "learn", "(II)I"⟩ ∈ gw := gw_4 (List.mem_of_getElem? (i := 177) rfl) rfl
theorem gk_4_178 : Cond.code ⟨"WakeLetModel", "learn", "(II)I"⟩ prog_9_method_41_code 4 (some FieldType.int) ∈ gw := gw_4 (List.mem_of_getElem? (i := 178) rfl) rfl
theorem gk_4_179 : Cond.constantLong "WakeLetModel" 166 (5) ∈ gw := gw_4 (List.mem_of_getElem? (i := 179) rfl) rfl
theorem gk_4_180 : Cond.methodLink "WakeLetLaw" 65 ⟨"WakeLetModel", "undo", "()I"⟩ ∈ gw := gw_4 (List.mem_of_getElem? (i := 180) rfl) rfl
theorem gk_4_181 : Cond.instanceMethod ⟨"WakeLetModel", "undo", "()I"⟩ ∈ gw := gw_4 (List.mem_of_getElem? (i := 181) rfl) rfl
theorem gk_4_182 : Cond.selects "WakeLetModel" ⟨"WakeLetModel", "undo", "()I"⟩ ⟨"WakeLetModel", "undo", "()I"⟩ ∈ gw := gw_4 (List.mem_of_getElem? (i := 182) rfl) rfl
theorem gk_4_183 : Cond.code ⟨"WakeLetModel", "undo", "()I"⟩ prog_9_method_42_code 2 (some FieldType.int) ∈ gw := gw_4 (List.mem_of_getElem? (i := 183) rfl) rfl
theorem gk_4_184 : Cond.methodLink "WakeLetLaw" 69 ⟨"WakeLetModel", "client", "(II)I"⟩ ∈ gw := gw_4 (List.mem_of_getElem? (i := 184) rfl) rfl
theorem gk_4_185 : Cond.instanceMethod ⟨"WakeLetModel", "client", "(II)I"⟩ ∈ gw := gw_4 (List.mem_of_getElem? (i := 185) rfl) rfl
theorem gk_4_186 : Cond.selects "WakeLetModel" ⟨"WakeLetModel", "client", "(II)I"⟩ ⟨"WakeLetModel", "client", "(II)I"⟩ ∈ gw := gw_4 (List.mem_of_getElem? (i := 186) rfl) rfl
theorem gk_4_187 : Cond.code ⟨"WakeLetModel", "client", "(II)I"⟩ prog_9_method_43_code 5 (some FieldType.int) ∈ gw := gw_4 (List.mem_of_getElem? (i := 187) rfl) rfl
theorem gk_4_188 : Cond.methodLink "WakeLetLaw" 73 ⟨"WakeLetModel", "waker", "(II)I"⟩ ∈ gw := gw_4 (List.mem_of_getElem? (i := 188) rfl) rfl
theorem gk_4_189 : Cond.instanceMethod ⟨"WakeLetModel", "waker", "(II)I"⟩ ∈ gw := gw_4 (List.mem_of_getElem? (i := 189) rfl) rfl
theorem gk_4_190 : Cond.selects "WakeLetModel" ⟨"WakeLetModel", "waker", "(II)I"⟩ ⟨"WakeLetModel", "waker", "(II)I"⟩ ∈ gw := gw_4 (List.mem_of_getElem? (i := 190) rfl) rfl
theorem gk_4_191 : Cond.code ⟨"WakeLetModel", "waker", "(II)I"⟩ prog_9_method_44_code 3 (some FieldType.int) ∈ gw := gw_4 (List.mem_of_getElem? (i := 191) rfl) rfl
theorem gk_4_192 : Cond.methodLink "WakeLetLaw" 77 ⟨"WakeLetModel", "weight", "(II)I"⟩ ∈ gw := gw_4 (List.mem_of_getElem? (i := 192) rfl) rfl
theorem gk_4_193 : Cond.instanceMethod ⟨"WakeLetModel", "weight", "(II)I"⟩ ∈ gw := gw_4 (List.mem_of_getElem? (i := 193) rfl) rfl
theorem gk_4_194 : Cond.selects "WakeLetModel" ⟨"WakeLetModel", "weight", "(II)I"⟩ ⟨"WakeLetModel", "weight", "(II)I"⟩ ∈ gw := gw_4 (List.mem_of_getElem? (i := 194) rfl) rfl
theorem gk_4_195 : Cond.code ⟨"WakeLetModel", "weight", "(II)I"⟩ prog_9_method_48_code 3 (some FieldType.int) ∈ gw := gw_4 (List.mem_of_getElem? (i := 195) rfl) rfl
theorem gk_4_196 : Cond.methodLink "WakeLetModel" 174 ⟨"WakeLetModel", "isSpan", "(I)Z"⟩ ∈ gw := gw_4 (List.mem_of_getElem? (i := 196) rfl) rfl
theorem gk_4_197 : Cond.static ⟨"WakeLetModel", "isSpan", "(I)Z"⟩ ∈ gw := gw_4 (List.mem_of_getElem? (i := 197) rfl) rfl
theorem gk_4_198 : Cond.code ⟨"WakeLetModel", "isSpan", "(I)Z"⟩ prog_9_method_45_code 1 (some FieldType.boolean) ∈ gw := gw_4 (List.mem_of_getElem? (i := 198) rfl) rfl
theorem gk_4_199 : Cond.constantLong "WakeLetModel" 168 (60) ∈ gw := gw_4 (List.mem_of_getElem? (i := 199) rfl) rfl
theorem gk_4_200 : Cond.methodLink "WakeLetModel" 177 ⟨"WakeLetModel", "triesFrom", "(I)V"⟩ ∈ gw := gw_4 (List.mem_of_getElem? (i := 200) rfl) rfl
theorem gk_4_202 : Cond.instanceMethod ⟨"WakeLetModel", "triesFrom", "(I)V"⟩ ∈ gw := gw_4 (List.mem_of_getElem? (i := 202) rfl) rfl
theorem gk_4_203 : Cond.code ⟨"WakeLetModel", "triesFrom", "(I)V"⟩ prog_9_method_47_code 2 none ∈ gw := gw_4 (List.mem_of_getElem? (i := 203) rfl) rfl
theorem gk_4_204 : Cond.methodLink "WakeLetModel" 170 ⟨"WakeLetModel", "tries", "(I)V"⟩ ∈ gw := gw_4 (List.mem_of_getElem? (i := 204) rfl) rfl
theorem gk_4_206 : Cond.instanceMethod ⟨"WakeLetModel", "tries", "(I)V"⟩ ∈ gw := gw_4 (List.mem_of_getElem? (i := 206) rfl) rfl
theorem gk_4_207 : Cond.code ⟨"WakeLetModel", "tries", "(I)V"⟩ prog_9_method_46_code 3 none ∈ gw := gw_4 (List.mem_of_getElem? (i := 207) rfl) rfl
theorem gk_4_208 : Cond.methodLink "WakeLetLaw" 81 ⟨"WakeLetModel", "earned", "(II)I"⟩ ∈ gw := gw_4 (List.mem_of_getElem? (i := 208) rfl) rfl
theorem gk_4_209 : Cond.instanceMethod ⟨"WakeLetModel", "earned", "(II)I"⟩ ∈ gw := gw_4 (List.mem_of_getElem? (i := 209) rfl) rfl
theorem gk_4_210 : Cond.selects "WakeLetModel" ⟨"WakeLetModel", "earned", "(II)I"⟩ ⟨"WakeLetModel", "earned", "(II)I"⟩ ∈ gw := gw_4 (List.mem_of_getElem? (i := 210) rfl) rfl
theorem gk_4_211 : Cond.code ⟨"WakeLetModel", "earned", "(II)I"⟩ prog_9_method_49_code 3 (some FieldType.int) ∈ gw := gw_4 (List.mem_of_getElem? (i := 211) rfl) rfl
theorem gk_4_212 : Cond.methodLink "WakeLetLaw" 85 ⟨"WakeLetModel", "rests", "(I)I"⟩ ∈ gw := gw_4 (List.mem_of_getElem? (i := 212) rfl) rfl
theorem gk_4_213 : Cond.instanceMethod ⟨"WakeLetModel", "rests", "(I)I"⟩ ∈ gw := gw_4 (List.mem_of_getElem? (i := 213) rfl) rfl
theorem gk_4_214 : Cond.selects "WakeLetModel" ⟨"WakeLetModel", "rests", "(I)I"⟩ ⟨"WakeLetModel", "rests", "(I)I"⟩ ∈ gw := gw_4 (List.mem_of_getElem? (i := 214) rfl) rfl
theorem gk_4_215 : Cond.code ⟨"WakeLetModel", "rests", "(I)I"⟩ prog_9_method_50_code 2 (some FieldType.int) ∈ gw := gw_4 (List.mem_of_getElem? (i := 215) rfl) rfl
theorem gk_4_216 : Cond.methodLink "WakeLetLaw" 89 ⟨"WakeLetModel", "when", "(I)I"⟩ ∈ gw := gw_4 (List.mem_of_getElem? (i := 216) rfl) rfl
theorem gk_4_217 : Cond.instanceMethod ⟨"WakeLetModel", "when", "(I)I"⟩ ∈ gw := gw_4 (List.mem_of_getElem? (i := 217) rfl) rfl
theorem gk_4_218 : Cond.selects "WakeLetModel" ⟨"WakeLetModel", "when", "(I)I"⟩ ⟨"WakeLetModel", "when", "(I)I"⟩ ∈ gw := gw_4 (List.mem_of_getElem? (i := 218) rfl) rfl
theorem gk_4_219 : Cond.code ⟨"WakeLetModel", "when", "(I)I"⟩ prog_9_method_52_code 2 (some FieldType.int) ∈ gw := gw_4 (List.mem_of_getElem? (i := 219) rfl) rfl
theorem gk_4_220 : Cond.methodLink "WakeLetModel" 181 ⟨"WakeLetModel", "firstOf", "(I)I"⟩ ∈ gw := gw_4 (List.mem_of_getElem? (i := 220) rfl) rfl
theorem gk_4_222 : Cond.instanceMethod ⟨"WakeLetModel", "firstOf", "(I)I"⟩ ∈ gw := gw_4 (List.mem_of_getElem? (i := 222) rfl) rfl
theorem gk_4_223 : Cond.code ⟨"WakeLetModel", "firstOf", "(I)I"⟩ prog_9_method_51_code 3 (some FieldType.int) ∈ gw := gw_4 (List.mem_of_getElem? (i := 223) rfl) rfl
theorem gk_4_224 : Cond.constant "WakeLetModel" 180 (-1000000) ∈ gw := gw_4 (List.mem_of_getElem? (i := 224) rfl) rfl
theorem gk_4_225 : Cond.methodLink "WakeLetLaw" 93 ⟨"WakeLetModel", "all", "(I)I"⟩ ∈ gw := gw_4 (List.mem_of_getElem? (i := 225) rfl) rfl
theorem gk_4_226 : Cond.instanceMethod ⟨"WakeLetModel", "all", "(I)I"⟩ ∈ gw := gw_4 (List.mem_of_getElem? (i := 226) rfl) rfl
theorem gk_4_227 : Cond.selects "WakeLetModel" ⟨"WakeLetModel", "all", "(I)I"⟩ ⟨"WakeLetModel", "all", "(I)I"⟩ ∈ gw := gw_4 (List.mem_of_getElem? (i := 227) rfl) rfl
theorem gk_4_228 : Cond.code ⟨"WakeLetModel", "all", "(I)I"⟩ prog_9_method_54_code 2 (some FieldType.int) ∈ gw := gw_4 (List.mem_of_getElem? (i := 228) rfl) rfl
theorem gk_4_229 : Cond.methodLink "WakeLetModel" 184 ⟨"WakeLetModel", "isSet", "(I)Z"⟩ ∈ gw := gw_4 (List.mem_of_getElem? (i := 229) rfl) rfl
theorem gk_4_231 : Cond.instanceMethod ⟨"WakeLetModel", "isSet", "(I)Z"⟩ ∈ gw := gw_4 (List.mem_of_getElem? (i := 231) rfl) rfl
theorem gk_4_232 : Cond.code ⟨"WakeLetModel", "isSet", "(I)Z"⟩ prog_9_method_53_code 2 (some FieldType.boolean) ∈ gw := gw_4 (List.mem_of_getElem? (i := 232) rfl) rfl
theorem gk_4_233 : Cond.methodLink "WakeLetLaw" 97 ⟨"WakeLetModel", "never", "()I"⟩ ∈ gw := gw_4 (List.mem_of_getElem? (i := 233) rfl) rfl
theorem gk_4_234 : Cond.instanceMethod ⟨"WakeLetModel", "never", "()I"⟩ ∈ gw := gw_4 (List.mem_of_getElem? (i := 234) rfl) rfl
theorem gk_4_235 : Cond.selects "WakeLetModel" ⟨"WakeLetModel", "never", "()I"⟩ ⟨"WakeLetModel", "never", "()I"⟩ ∈ gw := gw_4 (List.mem_of_getElem? (i := 235) rfl) rfl
theorem gk_4_236 : Cond.code ⟨"WakeLetModel", "never", "()I"⟩ prog_9_method_55_code 3 (some FieldType.int) ∈ gw := gw_4 (List.mem_of_getElem? (i := 236) rfl) rfl
theorem gk_4_237 : Cond.methodLink "WakeLetLaw" 101 ⟨"WakeLetModel", "best", "(II)I"⟩ ∈ gw := gw_4 (List.mem_of_getElem? (i := 237) rfl) rfl
theorem gk_4_238 : Cond.instanceMethod ⟨"WakeLetModel", "best", "(II)I"⟩ ∈ gw := gw_4 (List.mem_of_getElem? (i := 238) rfl) rfl
theorem gk_4_239 : Cond.selects "WakeLetModel" ⟨"WakeLetModel", "best", "(II)I"⟩ ⟨"WakeLetModel", "best", "(II)I"⟩ ∈ gw := gw_4 (List.mem_of_getElem? (i := 239) rfl) rfl
theorem gk_5_0 : Cond.code ⟨"WakeLetModel", "best", "(II)I"⟩ prog_9_method_60_code 9 (some FieldType.int) ∈ gw := gw_5 (List.mem_of_getElem? (i := 0) rfl) rfl
theorem gk_5_1 : Cond.constantLong "WakeLetModel" 190 (-2) ∈ gw := gw_5 (List.mem_of_getElem? (i := 1) rfl) rfl
theorem gk_5_2 : Cond.constantLong "WakeLetModel" 192 (3) ∈ gw := gw_5 (List.mem_of_getElem? (i := 2) rfl) rfl
theorem gk_5_3 : Cond.methodLink "WakeLetModel" 194 ⟨"WakeLetModel", "allLets", "()I"⟩ ∈ gw := gw_5 (List.mem_of_getElem? (i := 3) rfl) rfl
theorem gk_5_5 : Cond.instanceMethod ⟨"WakeLetModel", "allLets", "()I"⟩ ∈ gw := gw_5 (List.mem_of_getElem? (i := 5) rfl) rfl
theorem gk_5_6 : Cond.code ⟨"WakeLetModel", "allLets", "()I"⟩ prog_9_method_56_code 3 (some FieldType.int) ∈ gw := gw_5 (List.mem_of_getElem? (i := 6) rfl) rfl
theorem gk_5_7 : Cond.methodLink "WakeLetModel" 198 ⟨"WakeLetModel", "triesLets", "(II)I"⟩ ∈ gw := gw_5 (List.mem_of_getElem? (i := 7) rfl) rfl
theorem gk_5_9 : Cond.instanceMethod ⟨"WakeLetModel", "triesLets", "(II)I"⟩ ∈ gw := gw_5 (List.mem_of_getElem? (i := 9) rfl) rfl
theorem gk_5_10 : Cond.code ⟨"WakeLetModel", "triesLets", "(II)I"⟩ prog_9_method_58_code 5 (some FieldType.int) ∈ gw := gw_5 (List.mem_of_getElem? (i := 10) rfl) rfl
theorem gk_5_11 : Cond.methodLink "WakeLetModel" 187 ⟨"WakeLetModel", "letBy", "(II)I"⟩ ∈ gw := gw_5 (List.mem_of_getElem? (i := 11) rfl) rfl
theorem gk_5_13 : Cond.instanceMethod ⟨"WakeLetModel", "letBy", "(II)I"⟩ ∈ gw := gw_5 (List.mem_of_getElem? (i := 13) rfl) rfl
theorem gk_5_14 : Cond.code ⟨"WakeLetModel", "letBy", "(II)I"⟩ prog_9_method_57_code 5 (some FieldType.int) ∈ gw := gw_5 (List.mem_of_getElem? (i := 14) rfl) rfl
theorem gk_5_15 : Cond.methodLink "WakeLetModel" 201 ⟨"WakeLetModel", "ones", "(I)I"⟩ ∈ gw := gw_5 (List.mem_of_getElem? (i := 15) rfl) rfl
theorem gk_5_16 : Cond.static ⟨"WakeLetModel", "ones", "(I)I"⟩ ∈ gw := gw_5 (List.mem_of_getElem? (i := 16) rfl) rfl
theorem gk_5_17 : Cond.code ⟨"WakeLetModel", "ones", "(I)I"⟩ prog_9_method_5_code 3 (some FieldType.int) ∈ gw := gw_5 (List.mem_of_getElem? (i := 17) rfl) rfl
theorem gk_5_18 : Cond.methodLink "WakeLetModel" 204 ⟨"WakeLetModel", "weightsIn", "(I)I"⟩ ∈ gw := gw_5 (List.mem_of_getElem? (i := 18) rfl) rfl
theorem gk_5_20 : Cond.instanceMethod ⟨"WakeLetModel", "weightsIn", "(I)I"⟩ ∈ gw := gw_5 (List.mem_of_getElem? (i := 20) rfl) rfl
theorem gk_5_21 : Cond.code ⟨"WakeLetModel", "weightsIn", "(I)I"⟩ prog_9_method_59_code 4 (some FieldType.int) ∈ gw := gw_5 (List.mem_of_getElem? (i := 21) rfl) rfl
theorem gk_5_22 : Cond.methodLink "WakeLetLaw" 105 ⟨"WakeLetModel", "fewest", "(III)I"⟩ ∈ gw := gw_5 (List.mem_of_getElem? (i := 22) rfl) rfl
theorem gk_5_23 : Cond.instanceMethod ⟨"WakeLetModel", "fewest", "(III)I"⟩ ∈ gw := gw_5 (List.mem_of_getElem? (i := 23) rfl) rfl
theorem gk_5_24 : Cond.selects "WakeLetModel" ⟨"WakeLetModel", "fewest", "(III)I"⟩ ⟨"WakeLetModel", "fewest", "(III)I"⟩ ∈ gw := gw_5 (List.mem_of_getElem? (i := 24) rfl) rfl
theorem gk_5_25 : Cond.code ⟨"WakeLetModel", "fewest", "(III)I"⟩ prog_9_method_61_code 9 (some FieldType.int) ∈ gw := gw_5 (List.mem_of_getElem? (i := 25) rfl) rfl
theorem gk_5_26 : Cond.constantLong "WakeLetModel" 207 (-1) ∈ gw := gw_5 (List.mem_of_getElem? (i := 26) rfl) rfl
theorem gk_5_27 : Cond.methodLink "WakeLetLaw" 109 ⟨"WakeLetModel", "fits", "(IIIII)I"⟩ ∈ gw := gw_5 (List.mem_of_getElem? (i := 27) rfl) rfl
theorem gk_5_28 : Cond.instanceMethod ⟨"WakeLetModel", "fits", "(IIIII)I"⟩ ∈ gw := gw_5 (List.mem_of_getElem? (i := 28) rfl) rfl
theorem gk_5_29 : Cond.selects "WakeLetModel" ⟨"WakeLetModel", "fits", "(IIIII)I"⟩ ⟨"WakeLetModel", "fits", "(IIIII)I"⟩ ∈ gw := gw_5 (List.mem_of_getElem? (i := 29) rfl) rfl
theorem gk_5_30 : Cond.code ⟨"WakeLetModel", "fits", "(IIIII)I"⟩ prog_9_method_63_code 12 (some FieldType.int) ∈ gw := gw_5 (List.mem_of_getElem? (i := 30) rfl) rfl
theorem gk_5_31 : Cond.constantLong "WakeLetModel" 209 (16) ∈ gw := gw_5 (List.mem_of_getElem? (i := 31) rfl) rfl
theorem gk_5_32 : Cond.methodLink "WakeLetModel" 211 ⟨"WakeLetModel", "against", "(III)I"⟩ ∈ gw := gw_5 (List.mem_of_getElem? (i := 32) rfl) rfl
theorem gk_5_34 : Cond.instanceMethod ⟨"WakeLetModel", "against", "(III)I"⟩ ∈ gw := gw_5 (List.mem_of_getElem? (i := 34) rfl) rfl
theorem gk_5_35 : Cond.code ⟨"WakeLetModel", "against", "(III)I"⟩ prog_9_method_14_code 4 (some FieldType.int) ∈ gw := gw_5 (List.mem_of_getElem? (i := 35) rfl) rfl
theorem gk_5_36 : Cond.methodLink "WakeLetModel" 214 ⟨"WakeLetModel", "isSo", "(II)Z"⟩ ∈ gw := gw_5 (List.mem_of_getElem? (i := 36) rfl) rfl
theorem gk_5_38 : Cond.instanceMethod ⟨"WakeLetModel", "isSo", "(II)Z"⟩ ∈ gw := gw_5 (List.mem_of_getElem? (i := 38) rfl) rfl
theorem gk_5_39 : Cond.code ⟨"WakeLetModel", "isSo", "(II)Z"⟩ prog_9_method_62_code 5 (some FieldType.boolean) ∈ gw := gw_5 (List.mem_of_getElem? (i := 39) rfl) rfl
theorem gk_5_40 : Cond.methodLink "WakeLetLaw" 113 ⟨"WakeLetModel", "nods", "(III)I"⟩ ∈ gw := gw_5 (List.mem_of_getElem? (i := 40) rfl) rfl
theorem gk_5_41 : Cond.instanceMethod ⟨"WakeLetModel", "nods", "(III)I"⟩ ∈ gw := gw_5 (List.mem_of_getElem? (i := 41) rfl) rfl
theorem gk_5_42 : Cond.selects "WakeLetModel" ⟨"WakeLetModel", "nods", "(III)I"⟩ ⟨"WakeLetModel", "nods", "(III)I"⟩ ∈ gw := gw_5 (List.mem_of_getElem? (i := 42) rfl) rfl
theorem gk_5_43 : Cond.code ⟨"WakeLetModel", "nods", "(III)I"⟩ prog_9_method_64_code 9 (some FieldType.int) ∈ gw := gw_5 (List.mem_of_getElem? (i := 43) rfl) rfl
theorem gk_5_44 : Cond.constantLong "WakeLetModel" 217 (10) ∈ gw := gw_5 (List.mem_of_getElem? (i := 44) rfl) rfl
theorem gk_5_45 : Cond.methodLink "WakeLetLaw" 117 ⟨"WakeLetModel", "drawn", "(III)I"⟩ ∈ gw := gw_5 (List.mem_of_getElem? (i := 45) rfl) rfl
theorem gk_5_46 : Cond.instanceMethod ⟨"WakeLetModel", "drawn", "(III)I"⟩ ∈ gw := gw_5 (List.mem_of_getElem? (i := 46) rfl) rfl
theorem gk_5_47 : Cond.selects "WakeLetModel" ⟨"WakeLetModel", "drawn", "(III)I"⟩ ⟨"WakeLetModel", "drawn", "(III)I"⟩ ∈ gw := gw_5 (List.mem_of_getElem? (i := 47) rfl) rfl
theorem gk_5_48 : Cond.code ⟨"WakeLetModel", "drawn", "(III)I"⟩ prog_9_method_65_code 10 (some FieldType.int) ∈ gw := gw_5 (List.mem_of_getElem? (i := 48) rfl) rfl
theorem gk_5_49 : Cond.constantLong "WakeLetModel" 219 (999999) ∈ gw := gw_5 (List.mem_of_getElem? (i := 49) rfl) rfl
theorem gk_5_50 : Cond.constantLong "WakeLetModel" 221 (16807) ∈ gw := gw_5 (List.mem_of_getElem? (i := 50) rfl) rfl
theorem gk_5_51 : Cond.constantLong "WakeLetModel" 223 (2147483647) ∈ gw := gw_5 (List.mem_of_getElem? (i := 51) rfl) rfl
theorem gk_5_52 : Cond.methodLink "WakeLetLaw" 121 ⟨"WakeLetModel", "image", "(I)I"⟩ ∈ gw := gw_5 (List.mem_of_getElem? (i := 52) rfl) rfl
theorem gk_5_53 : Cond.instanceMethod ⟨"WakeLetModel", "image", "(I)I"⟩ ∈ gw := gw_5 (List.mem_of_getElem? (i := 53) rfl) rfl
theorem gk_5_54 : Cond.selects "WakeLetModel" ⟨"WakeLetModel", "image", "(I)I"⟩ ⟨"WakeLetModel", "image", "(I)I"⟩ ∈ gw := gw_5 (List.mem_of_getElem? (i := 54) rfl) rfl
theorem gk_5_55 : Cond.code ⟨"WakeLetModel", "image", "(I)I"⟩ prog_9_method_66_code 2 (some FieldType.int) ∈ gw := gw_5 (List.mem_of_getElem? (i := 55) rfl) rfl
theorem gk_5_56 : Cond.methodLink "WakeLetLaw" 125 ⟨"WakeLetModel", "restore", "(I)I"⟩ ∈ gw := gw_5 (List.mem_of_getElem? (i := 56) rfl) rfl
theorem gk_5_57 : Cond.instanceMethod ⟨"WakeLetModel", "restore", "(I)I"⟩ ∈ gw := gw_5 (List.mem_of_getElem? (i := 57) rfl) rfl
theorem gk_5_58 : Cond.selects "WakeLetModel" ⟨"WakeLetModel", "restore", "(I)I"⟩ ⟨"WakeLetModel", "restore", "(I)I"⟩ ∈ gw := gw_5 (List.mem_of_getElem? (i := 58) rfl) rfl
theorem gk_5_59 : Cond.code ⟨"WakeLetModel", "restore", "(I)I"⟩ prog_9_method_67_code 2 (some FieldType.int) ∈ gw := gw_5 (List.mem_of_getElem? (i := 59) rfl) rfl
theorem gk_5_60 : Cond.methodLink "WakeLetLaw" 129 ⟨"WakeLetModel", "kind", "(I)I"⟩ ∈ gw := gw_5 (List.mem_of_getElem? (i := 60) rfl) rfl
theorem gk_5_61 : Cond.instanceMethod ⟨"WakeLetModel", "kind", "(I)I"⟩ ∈ gw := gw_5 (List.mem_of_getElem? (i := 61) rfl) rfl
theorem gk_5_62 : Cond.selects "WakeLetModel" ⟨"WakeLetModel", "kind", "(I)I"⟩ ⟨"WakeLetModel", "kind", "(I)I"⟩ ∈ gw := gw_5 (List.mem_of_getElem? (i := 62) rfl) rfl
theorem gk_5_63 : Cond.code ⟨"WakeLetModel", "kind", "(I)I"⟩ prog_9_method_68_code 2 (some FieldType.int) ∈ gw := gw_5 (List.mem_of_getElem? (i := 63) rfl) rfl
theorem gk_5_64 : Cond.methodLink "WakeLetLaw" 133 ⟨"WakeLetModel", "as", "(II)I"⟩ ∈ gw := gw_5 (List.mem_of_getElem? (i := 64) rfl) rfl
theorem gk_5_65 : Cond.instanceMethod ⟨"WakeLetModel", "as", "(II)I"⟩ ∈ gw := gw_5 (List.mem_of_getElem? (i := 65) rfl) rfl
theorem gk_5_66 : Cond.selects "WakeLetModel" ⟨"WakeLetModel", "as", "(II)I"⟩ ⟨"WakeLetModel", "as", "(II)I"⟩ ∈ gw := gw_5 (List.mem_of_getElem? (i := 66) rfl) rfl
theorem gk_5_67 : Cond.code ⟨"WakeLetModel", "as", "(II)I"⟩ prog_9_method_69_code 5 (some FieldType.int) ∈ gw := gw_5 (List.mem_of_getElem? (i := 67) rfl) rfl
theorem gk_5_68 : Cond.methodLink "WakeLetLaw" 137 ⟨"WakeLetModel", "ask", "(II)I"⟩ ∈ gw := gw_5 (List.mem_of_getElem? (i := 68) rfl) rfl
theorem gk_5_69 : Cond.instanceMethod ⟨"WakeLetModel", "ask", "(II)I"⟩ ∈ gw := gw_5 (List.mem_of_getElem? (i := 69) rfl) rfl
theorem gk_5_70 : Cond.selects "WakeLetModel" ⟨"WakeLetModel", "ask", "(II)I"⟩ ⟨"WakeLetModel", "ask", "(II)I"⟩ ∈ gw := gw_5 (List.mem_of_getElem? (i := 70) rfl) rfl
theorem gk_5_71 : Cond.code ⟨"WakeLetModel", "ask", "(II)I"⟩ prog_9_method_77_code 3 (some FieldType.int) ∈ gw := gw_5 (List.mem_of_getElem? (i := 71) rfl) rfl
theorem gk_5_72 : Cond.methodLink "WakeLetModel" 247 ⟨"WakeLetModel", "size", "(I)I"⟩ ∈ gw := gw_5 (List.mem_of_getElem? (i := 72) rfl) rfl
theorem gk_5_74 : Cond.instanceMethod ⟨"WakeLetModel", "size", "(I)I"⟩ ∈ gw := gw_5 (List.mem_of_getElem? (i := 74) rfl) rfl
theorem gk_5_75 : Cond.code ⟨"WakeLetModel", "size", "(I)I"⟩ prog_9_method_76_code 3 (some FieldType.int) ∈ gw := gw_5 (List.mem_of_getElem? (i := 75) rfl) rfl
theorem gk_5_76 : Cond.methodLink "WakeLetModel" 228 ⟨"WakeLetModel", "leaves", "(I)V"⟩ ∈ gw := gw_5 (List.mem_of_getElem? (i := 76) rfl) rfl
theorem gk_5_78 : Cond.instanceMethod ⟨"WakeLetModel", "leaves", "(I)V"⟩ ∈ gw := gw_5 (List.mem_of_getElem? (i := 78) rfl) rfl
theorem gk_5_79 : Cond.code ⟨"WakeLetModel", "leaves", "(I)V"⟩ prog_9_method_70_code 2 none ∈ gw := gw_5 (List.mem_of_getElem? (i := 79) rfl) rfl
theorem gk_5_80 : Cond.methodLink "WakeLetModel" 244 ⟨"WakeLetModel", "sizeOwl", "(I)I"⟩ ∈ gw := gw_5 (List.mem_of_getElem? (i := 80) rfl) rfl
theorem gk_5_82 : Cond.instanceMethod ⟨"WakeLetModel", "sizeOwl", "(I)I"⟩ ∈ gw := gw_5 (List.mem_of_getElem? (i := 82) rfl) rfl
theorem gk_5_83 : Cond.code ⟨"WakeLetModel", "sizeOwl", "(I)I"⟩ prog_9_method_75_code 2 (some FieldType.int) ∈ gw := gw_5 (List.mem_of_getElem? (i := 83) rfl) rfl
theorem gk_5_84 : Cond.methodLink "WakeLetModel" 241 ⟨"WakeLetModel", "mark", "(I)I"⟩ ∈ gw := gw_5 (List.mem_of_getElem? (i := 84) rfl) rfl
theorem gk_5_86 : Cond.instanceMethod ⟨"WakeLetModel", "mark", "(I)I"⟩ ∈ gw := gw_5 (List.mem_of_getElem? (i := 86) rfl) rfl
theorem gk_5_87 : Cond.code ⟨"WakeLetModel", "mark", "(I)I"⟩ prog_9_method_74_code 3 (some FieldType.int) ∈ gw := gw_5 (List.mem_of_getElem? (i := 87) rfl) rfl
theorem gk_5_88 : Cond.methodLink "WakeLetModel" 234 ⟨"WakeLetModel", "markOwl", "(I)I"⟩ ∈ gw := gw_5 (List.mem_of_getElem? (i := 88) rfl) rfl
theorem gk_5_90 : Cond.instanceMethod ⟨"WakeLetModel", "markOwl", "(I)I"⟩ ∈ gw := gw_5 (List.mem_of_getElem? (i := 90) rfl) rfl
theorem gk_5_91 : Cond.code ⟨"WakeLetModel", "markOwl", "(I)I"⟩ prog_9_method_72_code 2 (some FieldType.int) ∈ gw := gw_5 (List.mem_of_getElem? (i := 91) rfl) rfl
theorem gk_5_92 : Cond.methodLink "WakeLetModel" 231 ⟨"WakeLetModel", "markLent", "(I)I"⟩ ∈ gw := gw_5 (List.mem_of_getElem? (i := 92) rfl) rfl
theorem gk_5_94 : Cond.instanceMethod ⟨"WakeLetModel", "markLent", "(I)I"⟩ ∈ gw := gw_5 (List.mem_of_getElem? (i := 94) rfl) rfl
theorem gk_5_95 : Cond.code ⟨"WakeLetModel", "markLent", "(I)I"⟩ prog_9_method_71_code 2 (some FieldType.int) ∈ gw := gw_5 (List.mem_of_getElem? (i := 95) rfl) rfl
theorem gk_5_96 : Cond.methodLink "WakeLetModel" 237 ⟨"WakeLetModel", "sizeGuard", "(IZ)I"⟩ ∈ gw := gw_5 (List.mem_of_getElem? (i := 96) rfl) rfl
theorem gk_5_98 : Cond.instanceMethod ⟨"WakeLetModel", "sizeGuard", "(IZ)I"⟩ ∈ gw := gw_5 (List.mem_of_getElem? (i := 98) rfl) rfl
theorem gk_5_99 : Cond.code ⟨"WakeLetModel", "sizeGuard", "(IZ)I"⟩ prog_9_method_73_code 4 (some FieldType.int) ∈ gw := gw_5 (List.mem_of_getElem? (i := 99) rfl) rfl
theorem gk_5_100 : Cond.methodLink "WakeLetLaw" 141 ⟨"WakeLetModel", "trace", "(I)I"⟩ ∈ gw := gw_5 (List.mem_of_getElem? (i := 100) rfl) rfl
theorem gk_5_101 : Cond.instanceMethod ⟨"WakeLetModel", "trace", "(I)I"⟩ ∈ gw := gw_5 (List.mem_of_getElem? (i := 101) rfl) rfl
theorem gk_5_102 : Cond.selects "WakeLetModel" ⟨"WakeLetModel", "trace", "(I)I"⟩ ⟨"WakeLetModel", "trace", "(I)I"⟩ ∈ gw := gw_5 (List.mem_of_getElem? (i := 102) rfl) rfl
theorem gk_5_103 : Cond.code ⟨"WakeLetModel", "trace", "(I)I"⟩ prog_9_method_78_code 2 (some FieldType.int) ∈ gw := gw_5 (List.mem_of_getElem? (i := 103) rfl) rfl
theorem gk_5_104 : Cond.methodLink "WakeLetLaw" 145 ⟨"WakeLetModel", "count", "(I)I"⟩ ∈ gw := gw_5 (List.mem_of_getElem? (i := 104) rfl) rfl
theorem gk_5_105 : Cond.instanceMethod ⟨"WakeLetModel", "count", "(I)I"⟩ ∈ gw := gw_5 (List.mem_of_getElem? (i := 105) rfl) rfl
theorem gk_5_106 : Cond.selects "WakeLetModel" ⟨"WakeLetModel", "count", "(I)I"⟩ ⟨"WakeLetModel", "count", "(I)I"⟩ ∈ gw := gw_5 (List.mem_of_getElem? (i := 106) rfl) rfl
theorem gk_5_107 : Cond.code ⟨"WakeLetModel", "count", "(I)I"⟩ prog_9_method_80_code 4 (some FieldType.int) ∈ gw := gw_5 (List.mem_of_getElem? (i := 107) rfl) rfl
theorem gk_5_108 : Cond.methodLink "WakeLetModel" 250 ⟨"WakeLetModel", "earnedOfAll", "()I"⟩ ∈ gw := gw_5 (List.mem_of_getElem? (i := 108) rfl) rfl
theorem gk_5_110 : Cond.instanceMethod ⟨"WakeLetModel", "earnedOfAll", "()I"⟩ ∈ gw := gw_5 (List.mem_of_getElem? (i := 110) rfl) rfl
theorem gk_5_111 : Cond.code ⟨"WakeLetModel", "earnedOfAll", "()I"⟩ prog_9_method_79_code 3 (some FieldType.int) ∈ gw := gw_5 (List.mem_of_getElem? (i := 111) rfl) rfl
theorem gk_5_112 : Cond.methodLink "WakeLetLaw" 149 ⟨"WakeLetModel", "status", "()I"⟩ ∈ gw := gw_5 (List.mem_of_getElem? (i := 112) rfl) rfl
theorem gk_5_113 : Cond.instanceMethod ⟨"WakeLetModel", "status", "()I"⟩ ∈ gw := gw_5 (List.mem_of_getElem? (i := 113) rfl) rfl
theorem gk_5_114 : Cond.selects "WakeLetModel" ⟨"WakeLetModel", "status", "()I"⟩ ⟨"WakeLetModel", "status", "()I"⟩ ∈ gw := gw_5 (List.mem_of_getElem? (i := 114) rfl) rfl
theorem gk_5_115 : Cond.code ⟨"WakeLetModel", "status", "()I"⟩ prog_9_method_81_code 1 (some FieldType.int) ∈ gw := gw_5 (List.mem_of_getElem? (i := 115) rfl) rfl
