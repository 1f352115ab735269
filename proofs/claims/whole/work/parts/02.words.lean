/-! THE WORDS: those of the tables that stay good, and each by its place -/
def zws : List Cond := lw_tbl.filter goodWord
theorem zil0 {w : Cond} (h : w ∈ k2_sels lw_privs) : w ∈ lw_tbl := List.mem_append_left _ h
theorem zil1 {w : Cond} (h : w ∈ tables_1_1) : w ∈ lw_tbl := List.mem_append_right _ (List.mem_append_left _ h)
theorem zil2 {w : Cond} (h : w ∈ tables_1_2) : w ∈ lw_tbl := List.mem_append_right _ (List.mem_append_right _ (List.mem_append_left _ h))
theorem zil3 {w : Cond} (h : w ∈ tables_1_3) : w ∈ lw_tbl := List.mem_append_right _ (List.mem_append_right _ (List.mem_append_right _ (List.mem_append_left _ h)))
theorem zil4 {w : Cond} (h : w ∈ tables_1_4) : w ∈ lw_tbl := List.mem_append_right _ (List.mem_append_right _ (List.mem_append_right _ (List.mem_append_right _ (List.mem_append_left _ h))))
theorem zil5 {w : Cond} (h : w ∈ tables_1_5) : w ∈ lw_tbl := List.mem_append_right _ (List.mem_append_right _ (List.mem_append_right _ (List.mem_append_right _ (List.mem_append_right _ h))))
theorem zin0 {w : Cond} (h : w ∈ k2_sels lw_privs) (hg : goodWord w = true) : w ∈ zws := List.mem_filter.mpr ⟨zil0 h, hg⟩
theorem zin1 {w : Cond} (h : w ∈ tables_1_1) (hg : goodWord w = true) : w ∈ zws := List.mem_filter.mpr ⟨zil1 h, hg⟩
theorem zin2 {w : Cond} (h : w ∈ tables_1_2) (hg : goodWord w = true) : w ∈ zws := List.mem_filter.mpr ⟨zil2 h, hg⟩
theorem zin3 {w : Cond} (h : w ∈ tables_1_3) (hg : goodWord w = true) : w ∈ zws := List.mem_filter.mpr ⟨zil3 h, hg⟩
theorem zin4 {w : Cond} (h : w ∈ tables_1_4) (hg : goodWord w = true) : w ∈ zws := List.mem_filter.mpr ⟨zil4 h, hg⟩
theorem zin5 {w : Cond} (h : w ∈ tables_1_5) (hg : goodWord w = true) : w ∈ zws := List.mem_filter.mpr ⟨zil5 h, hg⟩
theorem zgood {w : Cond} (h : w ∈ zws) : w ∈ lw_tbl ∧ ((w.onTables && w.keeps) = true ∨ ∃ ty, w = .arrayClass ty) := ⟨(List.mem_filter.mp h).1, good_of_word (List.mem_filter.mp h).2⟩
theorem zgoodIn : GoodIn zws zws := fun w h => ⟨h, (zgood h).2⟩
theorem zgoodTbl : GoodIn lw_tbl zws := fun w h => zgood h
set_option maxRecDepth 20000 in
theorem zw_0 : (.selects RX10 yX10_refuseRow yX10_refuseRow : Cond) ∈ zws := zin0 (List.mem_of_getElem? (i := 0) rfl) rfl
set_option maxRecDepth 20000 in
theorem zw_1 : (.selects RX6 yX6_areThere yX6_areThere : Cond) ∈ zws := zin0 (List.mem_of_getElem? (i := 1) rfl) rfl
set_option maxRecDepth 20000 in
theorem zw_2 : (.selects RX10 yX10_comeTo yX10_comeTo : Cond) ∈ zws := zin0 (List.mem_of_getElem? (i := 2) rfl) rfl
set_option maxRecDepth 20000 in
theorem zw_3 : (.selects RX5 yX5_takesSign yX5_takesSign : Cond) ∈ zws := zin0 (List.mem_of_getElem? (i := 3) rfl) rfl
set_option maxRecDepth 20000 in
theorem zw_4 : (.selects RX5 yX5_takeDigit yX5_takeDigit : Cond) ∈ zws := zin0 (List.mem_of_getElem? (i := 4) rfl) rfl
set_option maxRecDepth 20000 in
theorem zw_5 : (.selects RX5 yX5_takesTable yX5_takesTable : Cond) ∈ zws := zin0 (List.mem_of_getElem? (i := 5) rfl) rfl
set_option maxRecDepth 20000 in
theorem zw_6 : (.selects RX5 yX5_takesWord yX5_takesWord : Cond) ∈ zws := zin0 (List.mem_of_getElem? (i := 6) rfl) rfl
set_option maxRecDepth 20000 in
theorem zw_7 : (.selects RX8 yX8_takeWord yX8_takeWord : Cond) ∈ zws := zin0 (List.mem_of_getElem? (i := 7) rfl) rfl
set_option maxRecDepth 20000 in
theorem zw_8 : (.selects RX10 yX10_isWord yX10_isWord : Cond) ∈ zws := zin0 (List.mem_of_getElem? (i := 8) rfl) rfl
set_option maxRecDepth 20000 in
theorem zw_9 : (.selects RX10 yX10_isWordOrNothing yX10_isWordOrNothing : Cond) ∈ zws := zin0 (List.mem_of_getElem? (i := 9) rfl) rfl
set_option maxRecDepth 20000 in
theorem zw_10 : (.selects RX3 yX3_saidAndHeard yX3_saidAndHeard : Cond) ∈ zws := zin0 (List.mem_of_getElem? (i := 10) rfl) rfl
set_option maxRecDepth 20000 in
theorem zw_11 : (.selects RX3 yX3_passing yX3_passing : Cond) ∈ zws := zin0 (List.mem_of_getElem? (i := 11) rfl) rfl
set_option maxRecDepth 20000 in
theorem zw_12 : (.selects RX10 yX10_refusesHeard yX10_refusesHeard : Cond) ∈ zws := zin0 (List.mem_of_getElem? (i := 12) rfl) rfl
set_option maxRecDepth 20000 in
theorem zw_13 : (.selects RX4 yX4_weighOne yX4_weighOne : Cond) ∈ zws := zin0 (List.mem_of_getElem? (i := 13) rfl) rfl
set_option maxRecDepth 20000 in
theorem zw_14 : (.selects RX4 yX4_minutesOf yX4_minutesOf : Cond) ∈ zws := zin0 (List.mem_of_getElem? (i := 14) rfl) rfl
set_option maxRecDepth 20000 in
theorem zw_15 : (.selects RX4 yX4_isBetter yX4_isBetter : Cond) ∈ zws := zin0 (List.mem_of_getElem? (i := 15) rfl) rfl
set_option maxRecDepth 20000 in
theorem zw_16 : (.selects RX4 yX4_gainOf yX4_gainOf : Cond) ∈ zws := zin0 (List.mem_of_getElem? (i := 16) rfl) rfl
set_option maxRecDepth 20000 in
theorem zw_17 : (.selects RX7 yX7_workMinute yX7_workMinute : Cond) ∈ zws := zin0 (List.mem_of_getElem? (i := 17) rfl) rfl
set_option maxRecDepth 20000 in
theorem zw_18 : (.selects RX7 yX7_workFirst yX7_workFirst : Cond) ∈ zws := zin0 (List.mem_of_getElem? (i := 18) rfl) rfl
set_option maxRecDepth 20000 in
theorem zw_19 : (.selects RX7 yX7_workSecond yX7_workSecond : Cond) ∈ zws := zin0 (List.mem_of_getElem? (i := 19) rfl) rfl
set_option maxRecDepth 20000 in
theorem zw_20 : (.selects RX2 yX2_toldBySworn yX2_toldBySworn : Cond) ∈ zws := zin0 (List.mem_of_getElem? (i := 20) rfl) rfl
set_option maxRecDepth 20000 in
theorem zw_21 : (.selects RX2 yX2_mark yX2_mark : Cond) ∈ zws := zin0 (List.mem_of_getElem? (i := 21) rfl) rfl
set_option maxRecDepth 20000 in
theorem zw_22 : (.selects RX2 yX2_toldByTrained yX2_toldByTrained : Cond) ∈ zws := zin0 (List.mem_of_getElem? (i := 22) rfl) rfl
set_option maxRecDepth 20000 in
theorem zw_23 : (.selects RX2 yX2_toldByKin yX2_toldByKin : Cond) ∈ zws := zin0 (List.mem_of_getElem? (i := 23) rfl) rfl
set_option maxRecDepth 20000 in
theorem zw_24 : (.selects RX11 yX11_against yX11_against : Cond) ∈ zws := zin0 (List.mem_of_getElem? (i := 24) rfl) rfl
set_option maxRecDepth 20000 in
theorem zw_25 : (.selects RX11 yX11_fails yX11_fails : Cond) ∈ zws := zin0 (List.mem_of_getElem? (i := 25) rfl) rfl
set_option maxRecDepth 20000 in
theorem zw_26 : (.selects RX11 yX11_readTongues yX11_readTongues : Cond) ∈ zws := zin0 (List.mem_of_getElem? (i := 26) rfl) rfl
set_option maxRecDepth 20000 in
theorem zw_27 : (.selects RX11 yX11_isCode yX11_isCode : Cond) ∈ zws := zin0 (List.mem_of_getElem? (i := 27) rfl) rfl
set_option maxRecDepth 20000 in
theorem zw_28 : (.selects RX11 yX11_digitAt yX11_digitAt : Cond) ∈ zws := zin0 (List.mem_of_getElem? (i := 28) rfl) rfl
set_option maxRecDepth 20000 in
theorem zw_29 : (.selects RX11 yX11_readRows yX11_readRows : Cond) ∈ zws := zin0 (List.mem_of_getElem? (i := 29) rfl) rfl
set_option maxRecDepth 20000 in
theorem zw_30 : (.selects RX11 yX11_isWord yX11_isWord : Cond) ∈ zws := zin0 (List.mem_of_getElem? (i := 30) rfl) rfl
set_option maxRecDepth 20000 in
theorem zw_31 : (.selects RX11 yX11_isEnd yX11_isEnd : Cond) ∈ zws := zin0 (List.mem_of_getElem? (i := 31) rfl) rfl
set_option maxRecDepth 20000 in
theorem zw_32 : (.selects RX11 yX11_meantBy yX11_meantBy : Cond) ∈ zws := zin0 (List.mem_of_getElem? (i := 32) rfl) rfl
set_option maxRecDepth 20000 in
theorem zw_33 : (.selects RX11 yX11_isInterpreter yX11_isInterpreter : Cond) ∈ zws := zin0 (List.mem_of_getElem? (i := 33) rfl) rfl
set_option maxRecDepth 20000 in
theorem zw_34 : (.selects RX11 yX11_carried yX11_carried : Cond) ∈ zws := zin0 (List.mem_of_getElem? (i := 34) rfl) rfl
set_option maxRecDepth 20000 in
theorem zw_35 : (.selects RX11 yX11_plainly yX11_plainly : Cond) ∈ zws := zin0 (List.mem_of_getElem? (i := 35) rfl) rfl
set_option maxRecDepth 20000 in
theorem zw_36 : (.selects RX11 yX11_lost yX11_lost : Cond) ∈ zws := zin0 (List.mem_of_getElem? (i := 36) rfl) rfl
set_option maxRecDepth 20000 in
theorem zw_37 : (.selects RX11 yX11_carryOn yX11_carryOn : Cond) ∈ zws := zin0 (List.mem_of_getElem? (i := 37) rfl) rfl
set_option maxRecDepth 20000 in
theorem zw_38 : (.selects RX11 yX11_readWitness yX11_readWitness : Cond) ∈ zws := zin0 (List.mem_of_getElem? (i := 38) rfl) rfl
set_option maxRecDepth 20000 in
theorem zw_39 : (.selects RX11 yX11_answered yX11_answered : Cond) ∈ zws := zin0 (List.mem_of_getElem? (i := 39) rfl) rfl
set_option maxRecDepth 20000 in
theorem zw_40 : (.selects RX11 yX11_allWords yX11_allWords : Cond) ∈ zws := zin0 (List.mem_of_getElem? (i := 40) rfl) rfl
set_option maxRecDepth 20000 in
theorem zw_41 : (.selects RX11 yX11_times yX11_times : Cond) ∈ zws := zin0 (List.mem_of_getElem? (i := 41) rfl) rfl
set_option maxRecDepth 20000 in
theorem zw_42 : (.selects RX11 yX11_isAsked yX11_isAsked : Cond) ∈ zws := zin0 (List.mem_of_getElem? (i := 42) rfl) rfl
set_option maxRecDepth 20000 in
theorem zw_43 : (.selects RX11 yX11_saidBy yX11_saidBy : Cond) ∈ zws := zin0 (List.mem_of_getElem? (i := 43) rfl) rfl
set_option maxRecDepth 20000 in
theorem zw_44 : (.selects RX11 yX11_overOf yX11_overOf : Cond) ∈ zws := zin0 (List.mem_of_getElem? (i := 44) rfl) rfl
set_option maxRecDepth 20000 in
theorem zw_45 : (.selects RX11 yX11_truthOf yX11_truthOf : Cond) ∈ zws := zin0 (List.mem_of_getElem? (i := 45) rfl) rfl
set_option maxRecDepth 20000 in
theorem zw_46 : (.selects RX11 yX11_layLeast yX11_layLeast : Cond) ∈ zws := zin0 (List.mem_of_getElem? (i := 46) rfl) rfl
set_option maxRecDepth 20000 in
theorem zw_47 : (.selects RX11 yX11_costBy yX11_costBy : Cond) ∈ zws := zin0 (List.mem_of_getElem? (i := 47) rfl) rfl
set_option maxRecDepth 20000 in
theorem zw_48 : (.selects RX11 yX11_isOrder yX11_isOrder : Cond) ∈ zws := zin0 (List.mem_of_getElem? (i := 48) rfl) rfl
set_option maxRecDepth 20000 in
theorem zw_49 : (.selects RX11 yX11_held yX11_held : Cond) ∈ zws := zin0 (List.mem_of_getElem? (i := 49) rfl) rfl
set_option maxRecDepth 20000 in
theorem zw_50 : (.selects RX11 yX11_begins yX11_begins : Cond) ∈ zws := zin0 (List.mem_of_getElem? (i := 50) rfl) rfl
set_option maxRecDepth 20000 in
theorem zw_51 : (.initialized RL : Cond) ∈ zws := zin1 (List.mem_of_getElem? (i := 0) rfl) rfl
set_option maxRecDepth 20000 in
theorem zw_52 : (.initialized RX10 : Cond) ∈ zws := zin1 (List.mem_of_getElem? (i := 1) rfl) rfl
set_option maxRecDepth 20000 in
theorem zw_53 : (.initialized RX6 : Cond) ∈ zws := zin1 (List.mem_of_getElem? (i := 2) rfl) rfl
set_option maxRecDepth 20000 in
theorem zw_54 : (.initialized RJ7 : Cond) ∈ zws := zin1 (List.mem_of_getElem? (i := 3) rfl) rfl
set_option maxRecDepth 20000 in
theorem zw_55 : (.initialized RX5 : Cond) ∈ zws := zin1 (List.mem_of_getElem? (i := 4) rfl) rfl
set_option maxRecDepth 20000 in
theorem zw_56 : (.initialized RX8 : Cond) ∈ zws := zin1 (List.mem_of_getElem? (i := 5) rfl) rfl
set_option maxRecDepth 20000 in
theorem zw_57 : (.initialized RX2 : Cond) ∈ zws := zin1 (List.mem_of_getElem? (i := 6) rfl) rfl
set_option maxRecDepth 20000 in
theorem zw_58 : (.initialized RX9 : Cond) ∈ zws := zin1 (List.mem_of_getElem? (i := 7) rfl) rfl
set_option maxRecDepth 20000 in
theorem zw_59 : (.initialized RX3 : Cond) ∈ zws := zin1 (List.mem_of_getElem? (i := 8) rfl) rfl
set_option maxRecDepth 20000 in
theorem zw_60 : (.initialized RX1 : Cond) ∈ zws := zin1 (List.mem_of_getElem? (i := 9) rfl) rfl
set_option maxRecDepth 20000 in
theorem zw_61 : (.initialized RX4 : Cond) ∈ zws := zin1 (List.mem_of_getElem? (i := 10) rfl) rfl
set_option maxRecDepth 20000 in
theorem zw_62 : (.initialized RX7 : Cond) ∈ zws := zin1 (List.mem_of_getElem? (i := 11) rfl) rfl
set_option maxRecDepth 20000 in
theorem zw_63 : (.initialized RX0 : Cond) ∈ zws := zin1 (List.mem_of_getElem? (i := 12) rfl) rfl
set_option maxRecDepth 20000 in
theorem zw_64 : (.initialized RX11 : Cond) ∈ zws := zin1 (List.mem_of_getElem? (i := 13) rfl) rfl
set_option maxRecDepth 20000 in
theorem zw_65 : (.initialized RJ9 : Cond) ∈ zws := zin1 (List.mem_of_getElem? (i := 14) rfl) rfl
set_option maxRecDepth 20000 in
theorem zw_66 : (.initialized RJ10 : Cond) ∈ zws := zin1 (List.mem_of_getElem? (i := 15) rfl) rfl
set_option maxRecDepth 20000 in
theorem zv_67 : (.classLink RL (7) RX10 : Cond) ∈ lw_tbl := zil1 (List.mem_of_getElem? (i := 16) rfl)
set_option maxRecDepth 20000 in
theorem zv_68 : (.instantiable RX10 (11) : Cond) ∈ lw_tbl := zil1 (List.mem_of_getElem? (i := 17) rfl)
set_option maxRecDepth 20000 in
theorem zw_69 : (.methodLink RL (9) yX10_init : Cond) ∈ zws := zin1 (List.mem_of_getElem? (i := 18) rfl) rfl
set_option maxRecDepth 20000 in
theorem zw_70 : (.instanceMethod yX10_init : Cond) ∈ zws := zin1 (List.mem_of_getElem? (i := 19) rfl) rfl
set_option maxRecDepth 20000 in
theorem zw_71 : (.code yX10_init cX10_init (1) (none : Option Jvm.ClassFile.FieldType) : Cond) ∈ zws := zin1 (List.mem_of_getElem? (i := 20) rfl) rfl
set_option maxRecDepth 20000 in
theorem zw_72 : (.methodLink RX10 (5) objectInit : Cond) ∈ zws := zin1 (List.mem_of_getElem? (i := 21) rfl) rfl
set_option maxRecDepth 20000 in
theorem zw_73 : (.instanceMethod objectInit : Cond) ∈ zws := zin1 (List.mem_of_getElem? (i := 22) rfl) rfl
set_option maxRecDepth 20000 in
theorem zw_74 : (.code objectInit object_method_1_code (1) (none : Option Jvm.ClassFile.FieldType) : Cond) ∈ zws := zin1 (List.mem_of_getElem? (i := 23) rfl) rfl
set_option maxRecDepth 20000 in
theorem zv_75 : (.classLink RX10 (11) RX6 : Cond) ∈ lw_tbl := zil1 (List.mem_of_getElem? (i := 24) rfl)
set_option maxRecDepth 20000 in
theorem zv_76 : (.instantiable RX6 (3) : Cond) ∈ lw_tbl := zil1 (List.mem_of_getElem? (i := 25) rfl)
set_option maxRecDepth 20000 in
theorem zw_77 : (.methodLink RX10 (13) yX6_init : Cond) ∈ zws := zin1 (List.mem_of_getElem? (i := 26) rfl) rfl
set_option maxRecDepth 20000 in
theorem zw_78 : (.instanceMethod yX6_init : Cond) ∈ zws := zin1 (List.mem_of_getElem? (i := 27) rfl) rfl
set_option maxRecDepth 20000 in
theorem zw_79 : (.code yX6_init cX6_init (1) (none : Option Jvm.ClassFile.FieldType) : Cond) ∈ zws := zin1 (List.mem_of_getElem? (i := 28) rfl) rfl
set_option maxRecDepth 20000 in
theorem zw_80 : (.methodLink RX6 (3) objectInit : Cond) ∈ zws := zin1 (List.mem_of_getElem? (i := 29) rfl) rfl
set_option maxRecDepth 20000 in
theorem zv_81 : (.classLink RX6 (11) "[[I" : Cond) ∈ lw_tbl := zil1 (List.mem_of_getElem? (i := 30) rfl)
set_option maxRecDepth 20000 in
theorem zv_82 : (.arrayOver (.array .int) : Cond) ∈ lw_tbl := zil1 (List.mem_of_getElem? (i := 31) rfl)
set_option maxRecDepth 20000 in
theorem zw_83 : (.methodLink RX6 (23) yJ7_fill_53178 : Cond) ∈ zws := zin1 (List.mem_of_getElem? (i := 32) rfl) rfl
set_option maxRecDepth 20000 in
theorem zw_84 : (.static yJ7_fill_53178 : Cond) ∈ zws := zin1 (List.mem_of_getElem? (i := 33) rfl) rfl
set_option maxRecDepth 20000 in
theorem zw_85 : (.code yJ7_fill_53178 cJ7_fill_53178 (4) (none : Option Jvm.ClassFile.FieldType) : Cond) ∈ zws := zin1 (List.mem_of_getElem? (i := 34) rfl) rfl
set_option maxRecDepth 20000 in
theorem zw_86 : (.fieldLink RX6 (13) "ToldOver$Sheets" "rows" "[[I" : Cond) ∈ zws := zin1 (List.mem_of_getElem? (i := 35) rfl) rfl
set_option maxRecDepth 20000 in
theorem zw_87 : (.fieldLink RX10 (95) "ToldOver$Sheets" "rows" "[[I" : Cond) ∈ zws := zin1 (List.mem_of_getElem? (i := 36) rfl) rfl
set_option maxRecDepth 20000 in
theorem zw_88 : (.fieldLink RX6 (16) "ToldOver$Sheets" "sorts" "[I" : Cond) ∈ zws := zin1 (List.mem_of_getElem? (i := 37) rfl) rfl
set_option maxRecDepth 20000 in
theorem zw_89 : (.fieldLink RX6 (20) "ToldOver$Sheets" "lengths" "[I" : Cond) ∈ zws := zin1 (List.mem_of_getElem? (i := 38) rfl) rfl
set_option maxRecDepth 20000 in
theorem zv_97 : (.arrayClass .int : Cond) ∈ lw_tbl := zil1 (List.mem_of_getElem? (i := 46) rfl)
set_option maxRecDepth 20000 in
theorem zv_98 : (.classLink RX10 (18) RX5 : Cond) ∈ lw_tbl := zil1 (List.mem_of_getElem? (i := 47) rfl)
set_option maxRecDepth 20000 in
theorem zv_99 : (.instantiable RX5 (7) : Cond) ∈ lw_tbl := zil1 (List.mem_of_getElem? (i := 48) rfl)
set_option maxRecDepth 20000 in
theorem zv_100 : (.methodLinkNest RX10 (20) yX5_init RX10 : Cond) ∈ lw_tbl := zil1 (List.mem_of_getElem? (i := 49) rfl)
set_option maxRecDepth 20000 in
theorem zw_101 : (.instanceMethod yX5_init : Cond) ∈ zws := zin1 (List.mem_of_getElem? (i := 50) rfl) rfl
set_option maxRecDepth 20000 in
theorem zw_102 : (.code yX5_init cX5_init (1) (none : Option Jvm.ClassFile.FieldType) : Cond) ∈ zws := zin1 (List.mem_of_getElem? (i := 51) rfl) rfl
set_option maxRecDepth 20000 in
theorem zw_103 : (.methodLink RX5 (3) objectInit : Cond) ∈ zws := zin1 (List.mem_of_getElem? (i := 52) rfl) rfl
set_option maxRecDepth 20000 in
theorem zv_104 : (.classLink RX5 (9) "[[I" : Cond) ∈ lw_tbl := zil1 (List.mem_of_getElem? (i := 53) rfl)
set_option maxRecDepth 20000 in
theorem zw_105 : (.fieldLink RX5 (11) "ToldOver$Reader" "digits" "[[I" : Cond) ∈ zws := zin1 (List.mem_of_getElem? (i := 54) rfl) rfl
set_option maxRecDepth 20000 in
theorem zw_106 : (.fieldLink RX10 (111) "ToldOver$Reader" "digits" "[[I" : Cond) ∈ zws := zin1 (List.mem_of_getElem? (i := 55) rfl) rfl
set_option maxRecDepth 20000 in
theorem zw_107 : (.fieldLink RX10 (114) "ToldOver$Reader" "words" "I" : Cond) ∈ zws := zin1 (List.mem_of_getElem? (i := 56) rfl) rfl
set_option maxRecDepth 20000 in
theorem zw_108 : (.fieldLink RX5 (38) "ToldOver$Reader" "words" "I" : Cond) ∈ zws := zin1 (List.mem_of_getElem? (i := 57) rfl) rfl
set_option maxRecDepth 20000 in
theorem zw_109 : (.fieldLink RX5 (45) "ToldOver$Reader" "please" "I" : Cond) ∈ zws := zin1 (List.mem_of_getElem? (i := 58) rfl) rfl
set_option maxRecDepth 20000 in
theorem zw_110 : (.fieldLink RX10 (216) "ToldOver$Reader" "please" "I" : Cond) ∈ zws := zin1 (List.mem_of_getElem? (i := 59) rfl) rfl
set_option maxRecDepth 20000 in
theorem zw_111 : (.fieldLink RX5 (16) "ToldOver$Reader" "row" "[I" : Cond) ∈ zws := zin1 (List.mem_of_getElem? (i := 60) rfl) rfl
set_option maxRecDepth 20000 in
theorem zw_112 : (.fieldLink RX5 (20) "ToldOver$Reader" "from" "I" : Cond) ∈ zws := zin1 (List.mem_of_getElem? (i := 61) rfl) rfl
set_option maxRecDepth 20000 in
theorem zw_113 : (.fieldLink RX5 (24) "ToldOver$Reader" "at" "I" : Cond) ∈ zws := zin1 (List.mem_of_getElem? (i := 62) rfl) rfl
set_option maxRecDepth 20000 in
theorem zw_114 : (.fieldLink RX5 (27) "ToldOver$Reader" "end" "I" : Cond) ∈ zws := zin1 (List.mem_of_getElem? (i := 63) rfl) rfl
set_option maxRecDepth 20000 in
theorem zv_130 : (.classLink RX10 (25) RX8 : Cond) ∈ lw_tbl := zil1 (List.mem_of_getElem? (i := 79) rfl)
set_option maxRecDepth 20000 in
theorem zv_131 : (.instantiable RX8 (3) : Cond) ∈ lw_tbl := zil1 (List.mem_of_getElem? (i := 80) rfl)
set_option maxRecDepth 20000 in
theorem zv_132 : (.methodLinkNest RX10 (27) yX8_init RX10 : Cond) ∈ lw_tbl := zil1 (List.mem_of_getElem? (i := 81) rfl)
set_option maxRecDepth 20000 in
theorem zw_133 : (.instanceMethod yX8_init : Cond) ∈ zws := zin1 (List.mem_of_getElem? (i := 82) rfl) rfl
set_option maxRecDepth 20000 in
theorem zw_134 : (.code yX8_init cX8_init (1) (none : Option Jvm.ClassFile.FieldType) : Cond) ∈ zws := zin1 (List.mem_of_getElem? (i := 83) rfl) rfl
set_option maxRecDepth 20000 in
theorem zw_135 : (.methodLink RX8 (3) objectInit : Cond) ∈ zws := zin1 (List.mem_of_getElem? (i := 84) rfl) rfl
set_option maxRecDepth 20000 in
theorem zv_136 : (.classLink RX8 (9) "[[I" : Cond) ∈ lw_tbl := zil1 (List.mem_of_getElem? (i := 85) rfl)
set_option maxRecDepth 20000 in
theorem zw_137 : (.fieldLink RX8 (20) "ToldOver$Tongues" "words" "I" : Cond) ∈ zws := zin1 (List.mem_of_getElem? (i := 86) rfl) rfl
set_option maxRecDepth 20000 in
theorem zw_138 : (.fieldLink RX3 (27) "ToldOver$Tongues" "words" "I" : Cond) ∈ zws := zin1 (List.mem_of_getElem? (i := 87) rfl) rfl
set_option maxRecDepth 20000 in
theorem zw_139 : (.fieldLink RX10 (128) "ToldOver$Tongues" "words" "I" : Cond) ∈ zws := zin1 (List.mem_of_getElem? (i := 88) rfl) rfl
set_option maxRecDepth 20000 in
theorem zw_140 : (.fieldLink RX1 (32) "ToldOver$Tongues" "words" "I" : Cond) ∈ zws := zin1 (List.mem_of_getElem? (i := 89) rfl) rfl
set_option maxRecDepth 20000 in
theorem zw_141 : (.fieldLink RX8 (11) "ToldOver$Tongues" "told" "[[I" : Cond) ∈ zws := zin1 (List.mem_of_getElem? (i := 90) rfl) rfl
set_option maxRecDepth 20000 in
theorem zw_142 : (.fieldLink RX8 (16) "ToldOver$Tongues" "meanings" "[I" : Cond) ∈ zws := zin1 (List.mem_of_getElem? (i := 91) rfl) rfl
set_option maxRecDepth 20000 in
theorem zv_150 : (.classLink RX10 (32) RX2 : Cond) ∈ lw_tbl := zil1 (List.mem_of_getElem? (i := 99) rfl)
set_option maxRecDepth 20000 in
theorem zv_151 : (.instantiable RX2 (4) : Cond) ∈ lw_tbl := zil1 (List.mem_of_getElem? (i := 100) rfl)
set_option maxRecDepth 20000 in
theorem zv_152 : (.methodLinkNest RX10 (34) yX2_init RX10 : Cond) ∈ lw_tbl := zil1 (List.mem_of_getElem? (i := 101) rfl)
set_option maxRecDepth 20000 in
theorem zw_153 : (.instanceMethod yX2_init : Cond) ∈ zws := zin1 (List.mem_of_getElem? (i := 102) rfl) rfl
set_option maxRecDepth 20000 in
theorem zw_154 : (.code yX2_init cX2_init (1) (none : Option Jvm.ClassFile.FieldType) : Cond) ∈ zws := zin1 (List.mem_of_getElem? (i := 103) rfl) rfl
set_option maxRecDepth 20000 in
theorem zw_155 : (.methodLink RX2 (3) objectInit : Cond) ∈ zws := zin1 (List.mem_of_getElem? (i := 104) rfl) rfl
set_option maxRecDepth 20000 in
theorem zw_156 : (.fieldLink RX2 (11) "ToldOver$Crew" "kinds" "[I" : Cond) ∈ zws := zin1 (List.mem_of_getElem? (i := 105) rfl) rfl
set_option maxRecDepth 20000 in
theorem zw_157 : (.fieldLink RX10 (164) "ToldOver$Crew" "kinds" "[I" : Cond) ∈ zws := zin1 (List.mem_of_getElem? (i := 106) rfl) rfl
set_option maxRecDepth 20000 in
theorem zw_158 : (.fieldLink RX2 (15) "ToldOver$Crew" "tired" "[I" : Cond) ∈ zws := zin1 (List.mem_of_getElem? (i := 107) rfl) rfl
set_option maxRecDepth 20000 in
theorem zw_159 : (.fieldLink RX10 (168) "ToldOver$Crew" "tired" "[I" : Cond) ∈ zws := zin1 (List.mem_of_getElem? (i := 108) rfl) rfl
set_option maxRecDepth 20000 in
theorem zw_160 : (.fieldLink RX2 (18) "ToldOver$Crew" "count" "I" : Cond) ∈ zws := zin1 (List.mem_of_getElem? (i := 109) rfl) rfl
set_option maxRecDepth 20000 in
theorem zw_161 : (.fieldLink RX10 (346) "ToldOver$Crew" "count" "I" : Cond) ∈ zws := zin1 (List.mem_of_getElem? (i := 110) rfl) rfl
set_option maxRecDepth 20000 in
theorem zw_162 : (.fieldLink RX2 (40) "ToldOver$Crew" "marks" "I" : Cond) ∈ zws := zin1 (List.mem_of_getElem? (i := 111) rfl) rfl
set_option maxRecDepth 20000 in
theorem zw_163 : (.fieldLink RX10 (343) "ToldOver$Crew" "marks" "I" : Cond) ∈ zws := zin1 (List.mem_of_getElem? (i := 112) rfl) rfl
set_option maxRecDepth 20000 in
theorem zv_173 : (.classLink RX10 (39) RX9 : Cond) ∈ lw_tbl := zil1 (List.mem_of_getElem? (i := 122) rfl)
set_option maxRecDepth 20000 in
theorem zv_174 : (.instantiable RX9 (3) : Cond) ∈ lw_tbl := zil1 (List.mem_of_getElem? (i := 123) rfl)
set_option maxRecDepth 20000 in
theorem zv_175 : (.methodLinkNest RX10 (41) yX9_init RX10 : Cond) ∈ lw_tbl := zil1 (List.mem_of_getElem? (i := 124) rfl)
set_option maxRecDepth 20000 in
theorem zw_176 : (.instanceMethod yX9_init : Cond) ∈ zws := zin1 (List.mem_of_getElem? (i := 125) rfl) rfl
set_option maxRecDepth 20000 in
theorem zw_177 : (.code yX9_init cX9_init (1) (none : Option Jvm.ClassFile.FieldType) : Cond) ∈ zws := zin1 (List.mem_of_getElem? (i := 126) rfl) rfl
set_option maxRecDepth 20000 in
theorem zw_178 : (.methodLink RX9 (3) objectInit : Cond) ∈ zws := zin1 (List.mem_of_getElem? (i := 127) rfl) rfl
set_option maxRecDepth 20000 in
theorem zv_179 : (.classLink RX9 (9) "[[I" : Cond) ∈ lw_tbl := zil1 (List.mem_of_getElem? (i := 128) rfl)
set_option maxRecDepth 20000 in
theorem zw_180 : (.fieldLink RX9 (11) "ToldOver$Witness" "times" "[[I" : Cond) ∈ zws := zin1 (List.mem_of_getElem? (i := 129) rfl) rfl
set_option maxRecDepth 20000 in
theorem zw_181 : (.fieldLink RX3 (62) "ToldOver$Witness" "times" "[[I" : Cond) ∈ zws := zin1 (List.mem_of_getElem? (i := 130) rfl) rfl
set_option maxRecDepth 20000 in
theorem zw_182 : (.fieldLink RX10 (226) "ToldOver$Witness" "times" "[[I" : Cond) ∈ zws := zin1 (List.mem_of_getElem? (i := 131) rfl) rfl
set_option maxRecDepth 20000 in
theorem zw_183 : (.fieldLink RX9 (16) "ToldOver$Witness" "present" "Z" : Cond) ∈ zws := zin1 (List.mem_of_getElem? (i := 132) rfl) rfl
set_option maxRecDepth 20000 in
theorem zw_184 : (.fieldLink RX10 (222) "ToldOver$Witness" "present" "Z" : Cond) ∈ zws := zin1 (List.mem_of_getElem? (i := 133) rfl) rfl
set_option maxRecDepth 20000 in
theorem zw_185 : (.fieldLink RX9 (20) "ToldOver$Witness" "please" "I" : Cond) ∈ zws := zin1 (List.mem_of_getElem? (i := 134) rfl) rfl
set_option maxRecDepth 20000 in
theorem zw_186 : (.fieldLink RX10 (347) "ToldOver$Witness" "please" "I" : Cond) ∈ zws := zin1 (List.mem_of_getElem? (i := 135) rfl) rfl
set_option maxRecDepth 20000 in
theorem zv_194 : (.classLink RX10 (46) RX3 : Cond) ∈ lw_tbl := zil1 (List.mem_of_getElem? (i := 143) rfl)
set_option maxRecDepth 20000 in
theorem zv_195 : (.instantiable RX3 (4) : Cond) ∈ lw_tbl := zil1 (List.mem_of_getElem? (i := 144) rfl)
set_option maxRecDepth 20000 in
theorem zw_196 : (.methodLink RX10 (48) yX3_init : Cond) ∈ zws := zin1 (List.mem_of_getElem? (i := 145) rfl) rfl
set_option maxRecDepth 20000 in
theorem zw_197 : (.instanceMethod yX3_init : Cond) ∈ zws := zin1 (List.mem_of_getElem? (i := 146) rfl) rfl
set_option maxRecDepth 20000 in
theorem zw_198 : (.code yX3_init cX3_init (3) (none : Option Jvm.ClassFile.FieldType) : Cond) ∈ zws := zin1 (List.mem_of_getElem? (i := 147) rfl) rfl
set_option maxRecDepth 20000 in
theorem zw_199 : (.methodLink RX3 (3) objectInit : Cond) ∈ zws := zin1 (List.mem_of_getElem? (i := 148) rfl) rfl
set_option maxRecDepth 20000 in
theorem zv_200 : (.classLink RX3 (9) "[[I" : Cond) ∈ lw_tbl := zil1 (List.mem_of_getElem? (i := 149) rfl)
set_option maxRecDepth 20000 in
theorem zw_201 : (.fieldLink RX3 (19) "ToldOver$Hearing" "speech" "LToldOver$Tongues;" : Cond) ∈ zws := zin1 (List.mem_of_getElem? (i := 150) rfl) rfl
set_option maxRecDepth 20000 in
theorem zw_202 : (.fieldLink RX3 (23) "ToldOver$Hearing" "stand" "LToldOver$Witness;" : Cond) ∈ zws := zin1 (List.mem_of_getElem? (i := 151) rfl) rfl
set_option maxRecDepth 20000 in
theorem zw_203 : (.fieldLink RX3 (11) "ToldOver$Hearing" "there" "[[I" : Cond) ∈ zws := zin1 (List.mem_of_getElem? (i := 152) rfl) rfl
set_option maxRecDepth 20000 in
theorem zw_204 : (.fieldLink RX3 (16) "ToldOver$Hearing" "home" "[[I" : Cond) ∈ zws := zin1 (List.mem_of_getElem? (i := 153) rfl) rfl
set_option maxRecDepth 20000 in
theorem zv_214 : (.classLink RX10 (55) RX1 : Cond) ∈ lw_tbl := zil1 (List.mem_of_getElem? (i := 163) rfl)
set_option maxRecDepth 20000 in
theorem zv_215 : (.instantiable RX1 (4) : Cond) ∈ lw_tbl := zil1 (List.mem_of_getElem? (i := 164) rfl)
set_option maxRecDepth 20000 in
theorem zv_216 : (.methodLinkNest RX10 (57) yX1_init RX10 : Cond) ∈ lw_tbl := zil1 (List.mem_of_getElem? (i := 165) rfl)
set_option maxRecDepth 20000 in
theorem zw_217 : (.instanceMethod yX1_init : Cond) ∈ zws := zin1 (List.mem_of_getElem? (i := 166) rfl) rfl
set_option maxRecDepth 20000 in
theorem zw_218 : (.code yX1_init cX1_init (1) (none : Option Jvm.ClassFile.FieldType) : Cond) ∈ zws := zin1 (List.mem_of_getElem? (i := 167) rfl) rfl
set_option maxRecDepth 20000 in
theorem zw_219 : (.methodLink RX1 (3) objectInit : Cond) ∈ zws := zin1 (List.mem_of_getElem? (i := 168) rfl) rfl
set_option maxRecDepth 20000 in
theorem zw_220 : (.fieldLink RX1 (22) "ToldOver$Chain" "whole" "J" : Cond) ∈ zws := zin1 (List.mem_of_getElem? (i := 169) rfl) rfl
set_option maxRecDepth 20000 in
theorem zw_221 : (.fieldLink RX10 (205) "ToldOver$Chain" "whole" "J" : Cond) ∈ zws := zin1 (List.mem_of_getElem? (i := 170) rfl) rfl
set_option maxRecDepth 20000 in
theorem zw_222 : (.fieldLink RX1 (9) "ToldOver$Chain" "now" "[J" : Cond) ∈ zws := zin1 (List.mem_of_getElem? (i := 171) rfl) rfl
set_option maxRecDepth 20000 in
theorem zw_223 : (.fieldLink RX1 (15) "ToldOver$Chain" "next" "[J" : Cond) ∈ zws := zin1 (List.mem_of_getElem? (i := 172) rfl) rfl
set_option maxRecDepth 20000 in
theorem zw_224 : (.fieldLink RX1 (18) "ToldOver$Chain" "carried" "[I" : Cond) ∈ zws := zin1 (List.mem_of_getElem? (i := 173) rfl) rfl
set_option maxRecDepth 20000 in
theorem zv_234 : (.arrayClass .long : Cond) ∈ lw_tbl := zil1 (List.mem_of_getElem? (i := 183) rfl)
set_option maxRecDepth 20000 in
theorem zv_235 : (.classLink RX10 (62) RX4 : Cond) ∈ lw_tbl := zil1 (List.mem_of_getElem? (i := 184) rfl)
set_option maxRecDepth 20000 in
theorem zv_236 : (.instantiable RX4 (4) : Cond) ∈ lw_tbl := zil1 (List.mem_of_getElem? (i := 185) rfl)
set_option maxRecDepth 20000 in
theorem zv_237 : (.methodLinkNest RX10 (64) yX4_init RX10 : Cond) ∈ lw_tbl := zil1 (List.mem_of_getElem? (i := 186) rfl)
set_option maxRecDepth 20000 in
theorem zw_238 : (.instanceMethod yX4_init : Cond) ∈ zws := zin1 (List.mem_of_getElem? (i := 187) rfl) rfl
set_option maxRecDepth 20000 in
theorem zw_239 : (.code yX4_init cX4_init (1) (none : Option Jvm.ClassFile.FieldType) : Cond) ∈ zws := zin1 (List.mem_of_getElem? (i := 188) rfl) rfl
set_option maxRecDepth 20000 in
theorem zw_240 : (.methodLink RX4 (1) objectInit : Cond) ∈ zws := zin1 (List.mem_of_getElem? (i := 189) rfl) rfl
set_option maxRecDepth 20000 in
theorem zv_241 : (.classLink RX4 (9) "[[I" : Cond) ∈ lw_tbl := zil1 (List.mem_of_getElem? (i := 190) rfl)
set_option maxRecDepth 20000 in
theorem zw_242 : (.fieldLink RX4 (11) "ToldOver$Protocol" "lines" "[[I" : Cond) ∈ zws := zin1 (List.mem_of_getElem? (i := 191) rfl) rfl
set_option maxRecDepth 20000 in
theorem zw_243 : (.fieldLink RX10 (271) "ToldOver$Protocol" "lines" "[[I" : Cond) ∈ zws := zin1 (List.mem_of_getElem? (i := 192) rfl) rfl
set_option maxRecDepth 20000 in
theorem zw_244 : (.fieldLink RX4 (18) "ToldOver$Protocol" "count" "I" : Cond) ∈ zws := zin1 (List.mem_of_getElem? (i := 193) rfl) rfl
set_option maxRecDepth 20000 in
theorem zw_245 : (.fieldLink RX10 (268) "ToldOver$Protocol" "count" "I" : Cond) ∈ zws := zin1 (List.mem_of_getElem? (i := 194) rfl) rfl
set_option maxRecDepth 20000 in
theorem zw_246 : (.fieldLink RX4 (28) "ToldOver$Protocol" "whole" "J" : Cond) ∈ zws := zin1 (List.mem_of_getElem? (i := 195) rfl) rfl
set_option maxRecDepth 20000 in
theorem zw_247 : (.fieldLink RX10 (281) "ToldOver$Protocol" "whole" "J" : Cond) ∈ zws := zin1 (List.mem_of_getElem? (i := 196) rfl) rfl
set_option maxRecDepth 20000 in
theorem zw_248 : (.fieldLink RX4 (14) "ToldOver$Protocol" "trueOnes" "[J" : Cond) ∈ zws := zin1 (List.mem_of_getElem? (i := 197) rfl) rfl
set_option maxRecDepth 20000 in
theorem zv_258 : (.classLink RX10 (69) RX7 : Cond) ∈ lw_tbl := zil1 (List.mem_of_getElem? (i := 207) rfl)
set_option maxRecDepth 20000 in
theorem zv_259 : (.instantiable RX7 (4) : Cond) ∈ lw_tbl := zil1 (List.mem_of_getElem? (i := 208) rfl)
set_option maxRecDepth 20000 in
theorem zv_260 : (.methodLinkNest RX10 (71) yX7_init RX10 : Cond) ∈ lw_tbl := zil1 (List.mem_of_getElem? (i := 209) rfl)
set_option maxRecDepth 20000 in
theorem zw_261 : (.instanceMethod yX7_init : Cond) ∈ zws := zin1 (List.mem_of_getElem? (i := 210) rfl) rfl
set_option maxRecDepth 20000 in
theorem zw_262 : (.code yX7_init cX7_init (1) (none : Option Jvm.ClassFile.FieldType) : Cond) ∈ zws := zin1 (List.mem_of_getElem? (i := 211) rfl) rfl
set_option maxRecDepth 20000 in
theorem zw_263 : (.methodLink RX7 (7) objectInit : Cond) ∈ zws := zin1 (List.mem_of_getElem? (i := 212) rfl) rfl
set_option maxRecDepth 20000 in
theorem zw_264 : (.fieldLink RX7 (13) "ToldOver$Shifts" "now" "[J" : Cond) ∈ zws := zin1 (List.mem_of_getElem? (i := 213) rfl) rfl
set_option maxRecDepth 20000 in
theorem zw_265 : (.fieldLink RX7 (17) "ToldOver$Shifts" "next" "[J" : Cond) ∈ zws := zin1 (List.mem_of_getElem? (i := 214) rfl) rfl
set_option maxRecDepth 20000 in
theorem zw_266 : (.fieldLink RX7 (20) "ToldOver$Shifts" "plannedFor" "I" : Cond) ∈ zws := zin1 (List.mem_of_getElem? (i := 215) rfl) rfl
set_option maxRecDepth 20000 in
theorem zw_267 : (.fieldLink RX7 (40) "ToldOver$Shifts" "planned" "J" : Cond) ∈ zws := zin1 (List.mem_of_getElem? (i := 216) rfl) rfl
set_option maxRecDepth 20000 in
theorem zv_277 : (.classLink RX10 (76) RX0 : Cond) ∈ lw_tbl := zil1 (List.mem_of_getElem? (i := 226) rfl)
set_option maxRecDepth 20000 in
theorem zv_278 : (.instantiable RX0 (3) : Cond) ∈ lw_tbl := zil1 (List.mem_of_getElem? (i := 227) rfl)
set_option maxRecDepth 20000 in
theorem zv_279 : (.methodLinkNest RX10 (78) yX0_init RX10 : Cond) ∈ lw_tbl := zil1 (List.mem_of_getElem? (i := 228) rfl)
set_option maxRecDepth 20000 in
theorem zw_280 : (.instanceMethod yX0_init : Cond) ∈ zws := zin1 (List.mem_of_getElem? (i := 229) rfl) rfl
set_option maxRecDepth 20000 in
theorem zw_281 : (.code yX0_init cX0_init (1) (none : Option Jvm.ClassFile.FieldType) : Cond) ∈ zws := zin1 (List.mem_of_getElem? (i := 230) rfl) rfl
set_option maxRecDepth 20000 in
theorem zw_282 : (.methodLink RX0 (1) objectInit : Cond) ∈ zws := zin1 (List.mem_of_getElem? (i := 231) rfl) rfl
set_option maxRecDepth 20000 in
theorem zw_283 : (.fieldLink RX0 (7) "ToldOver$Booth" "end" "I" : Cond) ∈ zws := zin1 (List.mem_of_getElem? (i := 232) rfl) rfl
set_option maxRecDepth 20000 in
theorem zw_284 : (.fieldLink RX10 (301) "ToldOver$Booth" "end" "I" : Cond) ∈ zws := zin1 (List.mem_of_getElem? (i := 233) rfl) rfl
set_option maxRecDepth 20000 in
theorem zw_285 : (.fieldLink RX0 (13) "ToldOver$Booth" "held" "I" : Cond) ∈ zws := zin1 (List.mem_of_getElem? (i := 234) rfl) rfl
set_option maxRecDepth 20000 in
theorem zw_286 : (.fieldLink RX10 (304) "ToldOver$Booth" "held" "I" : Cond) ∈ zws := zin1 (List.mem_of_getElem? (i := 235) rfl) rfl
set_option maxRecDepth 20000 in
theorem zw_287 : (.fieldLink RX0 (16) "ToldOver$Booth" "behind" "I" : Cond) ∈ zws := zin1 (List.mem_of_getElem? (i := 236) rfl) rfl
set_option maxRecDepth 20000 in
theorem zw_288 : (.fieldLink RX10 (307) "ToldOver$Booth" "behind" "I" : Cond) ∈ zws := zin1 (List.mem_of_getElem? (i := 237) rfl) rfl
set_option maxRecDepth 20000 in
theorem zw_296 : (.fieldLink RX10 (14) "ToldOver" "sheets" "LToldOver$Sheets;" : Cond) ∈ zws := zin2 (List.mem_of_getElem? (i := 5) rfl) rfl
set_option maxRecDepth 20000 in
theorem zw_297 : (.fieldLink RX10 (21) "ToldOver" "reader" "LToldOver$Reader;" : Cond) ∈ zws := zin2 (List.mem_of_getElem? (i := 6) rfl) rfl
set_option maxRecDepth 20000 in
theorem zw_298 : (.fieldLink RX10 (28) "ToldOver" "speech" "LToldOver$Tongues;" : Cond) ∈ zws := zin2 (List.mem_of_getElem? (i := 7) rfl) rfl
set_option maxRecDepth 20000 in
theorem zw_299 : (.fieldLink RX10 (35) "ToldOver" "crew" "LToldOver$Crew;" : Cond) ∈ zws := zin2 (List.mem_of_getElem? (i := 8) rfl) rfl
set_option maxRecDepth 20000 in
theorem zw_300 : (.fieldLink RX10 (42) "ToldOver" "stand" "LToldOver$Witness;" : Cond) ∈ zws := zin2 (List.mem_of_getElem? (i := 9) rfl) rfl
set_option maxRecDepth 20000 in
theorem zw_301 : (.fieldLink RX10 (51) "ToldOver" "hearing" "LToldOver$Hearing;" : Cond) ∈ zws := zin2 (List.mem_of_getElem? (i := 10) rfl) rfl
set_option maxRecDepth 20000 in
theorem zw_302 : (.fieldLink RX10 (58) "ToldOver" "chain" "LToldOver$Chain;" : Cond) ∈ zws := zin2 (List.mem_of_getElem? (i := 11) rfl) rfl
set_option maxRecDepth 20000 in
theorem zw_303 : (.fieldLink RX10 (65) "ToldOver" "protocol" "LToldOver$Protocol;" : Cond) ∈ zws := zin2 (List.mem_of_getElem? (i := 12) rfl) rfl
set_option maxRecDepth 20000 in
theorem zw_304 : (.fieldLink RX10 (72) "ToldOver" "roster" "LToldOver$Shifts;" : Cond) ∈ zws := zin2 (List.mem_of_getElem? (i := 13) rfl) rfl
set_option maxRecDepth 20000 in
theorem zw_305 : (.fieldLink RX10 (79) "ToldOver" "cabin" "LToldOver$Booth;" : Cond) ∈ zws := zin2 (List.mem_of_getElem? (i := 14) rfl) rfl
set_option maxRecDepth 20000 in
theorem zw_306 : (.fieldLink RX10 (189) "ToldOver" "latestFault" "I" : Cond) ∈ zws := zin2 (List.mem_of_getElem? (i := 15) rfl) rfl
set_option maxRecDepth 20000 in
theorem zw_330 : (.methodLink RL (13) yX10_tongues : Cond) ∈ zws := zin2 (List.mem_of_getElem? (i := 39) rfl) rfl
set_option maxRecDepth 20000 in
theorem zw_331 : (.instanceMethod yX10_tongues : Cond) ∈ zws := zin2 (List.mem_of_getElem? (i := 40) rfl) rfl
set_option maxRecDepth 20000 in
theorem zw_332 : (.selects RX10 yX10_tongues yX10_tongues : Cond) ∈ zws := zin2 (List.mem_of_getElem? (i := 41) rfl) rfl
set_option maxRecDepth 20000 in
theorem zw_333 : (.code yX10_tongues cX10_tongues (7) (some .int) : Cond) ∈ zws := zin2 (List.mem_of_getElem? (i := 42) rfl) rfl
set_option maxRecDepth 20000 in
theorem zw_334 : (.methodLink RX10 (83) yX10_refuseRow : Cond) ∈ zws := zin2 (List.mem_of_getElem? (i := 43) rfl) rfl
set_option maxRecDepth 20000 in
theorem zw_336 : (.instanceMethod yX10_refuseRow : Cond) ∈ zws := zin2 (List.mem_of_getElem? (i := 45) rfl) rfl
set_option maxRecDepth 20000 in
theorem zw_337 : (.code yX10_refuseRow cX10_refuseRow (3) (some .int) : Cond) ∈ zws := zin2 (List.mem_of_getElem? (i := 46) rfl) rfl
set_option maxRecDepth 20000 in
theorem zw_338 : (.methodLink RX10 (192) yX6_has : Cond) ∈ zws := zin2 (List.mem_of_getElem? (i := 47) rfl) rfl
set_option maxRecDepth 20000 in
theorem zw_339 : (.instanceMethod yX6_has : Cond) ∈ zws := zin2 (List.mem_of_getElem? (i := 48) rfl) rfl
set_option maxRecDepth 20000 in
theorem zw_340 : (.selects RX6 yX6_has yX6_has : Cond) ∈ zws := zin2 (List.mem_of_getElem? (i := 49) rfl) rfl
set_option maxRecDepth 20000 in
theorem zw_341 : (.code yX6_has cX6_has (2) (some .boolean) : Cond) ∈ zws := zin2 (List.mem_of_getElem? (i := 50) rfl) rfl
set_option maxRecDepth 20000 in
theorem zw_342 : (.methodLink RX10 (193) yX10_isSort : Cond) ∈ zws := zin2 (List.mem_of_getElem? (i := 51) rfl) rfl
set_option maxRecDepth 20000 in
theorem zw_343 : (.static yX10_isSort : Cond) ∈ zws := zin2 (List.mem_of_getElem? (i := 52) rfl) rfl
set_option maxRecDepth 20000 in
theorem zw_344 : (.code yX10_isSort cX10_isSort (1) (some .boolean) : Cond) ∈ zws := zin2 (List.mem_of_getElem? (i := 53) rfl) rfl
set_option maxRecDepth 20000 in
theorem zw_345 : (.methodLink RX10 (87) yX6_faultOfCells : Cond) ∈ zws := zin2 (List.mem_of_getElem? (i := 54) rfl) rfl
set_option maxRecDepth 20000 in
theorem zw_346 : (.instanceMethod yX6_faultOfCells : Cond) ∈ zws := zin2 (List.mem_of_getElem? (i := 55) rfl) rfl
set_option maxRecDepth 20000 in
theorem zw_347 : (.selects RX6 yX6_faultOfCells yX6_faultOfCells : Cond) ∈ zws := zin2 (List.mem_of_getElem? (i := 56) rfl) rfl
set_option maxRecDepth 20000 in
theorem zw_348 : (.code yX6_faultOfCells cX6_faultOfCells (5) (some .int) : Cond) ∈ zws := zin2 (List.mem_of_getElem? (i := 57) rfl) rfl
set_option maxRecDepth 20000 in
theorem zw_349 : (.methodLink RX6 (29) yX6_isOtherSort : Cond) ∈ zws := zin2 (List.mem_of_getElem? (i := 58) rfl) rfl
set_option maxRecDepth 20000 in
theorem zw_350 : (.instanceMethod yX6_isOtherSort : Cond) ∈ zws := zin2 (List.mem_of_getElem? (i := 59) rfl) rfl
set_option maxRecDepth 20000 in
theorem zw_351 : (.selects RX6 yX6_isOtherSort yX6_isOtherSort : Cond) ∈ zws := zin2 (List.mem_of_getElem? (i := 60) rfl) rfl
set_option maxRecDepth 20000 in
theorem zw_352 : (.code yX6_isOtherSort cX6_isOtherSort (3) (some .boolean) : Cond) ∈ zws := zin2 (List.mem_of_getElem? (i := 61) rfl) rfl
set_option maxRecDepth 20000 in
theorem zw_353 : (.methodLink RX6 (33) yX6_areThere : Cond) ∈ zws := zin2 (List.mem_of_getElem? (i := 62) rfl) rfl
set_option maxRecDepth 20000 in
theorem zw_355 : (.instanceMethod yX6_areThere : Cond) ∈ zws := zin2 (List.mem_of_getElem? (i := 64) rfl) rfl
set_option maxRecDepth 20000 in
theorem zw_356 : (.code yX6_areThere cX6_areThere (4) (some .boolean) : Cond) ∈ zws := zin2 (List.mem_of_getElem? (i := 65) rfl) rfl
set_option maxRecDepth 20000 in
theorem zw_357 : (.methodLink RX10 (91) yX10_comeTo : Cond) ∈ zws := zin2 (List.mem_of_getElem? (i := 66) rfl) rfl
set_option maxRecDepth 20000 in
theorem zw_359 : (.instanceMethod yX10_comeTo : Cond) ∈ zws := zin2 (List.mem_of_getElem? (i := 68) rfl) rfl
set_option maxRecDepth 20000 in
theorem zw_360 : (.code yX10_comeTo cX10_comeTo (2) (some .int) : Cond) ∈ zws := zin2 (List.mem_of_getElem? (i := 69) rfl) rfl
set_option maxRecDepth 20000 in
theorem zw_361 : (.methodLink RX10 (99) yX5_open : Cond) ∈ zws := zin2 (List.mem_of_getElem? (i := 70) rfl) rfl
set_option maxRecDepth 20000 in
theorem zw_362 : (.instanceMethod yX5_open : Cond) ∈ zws := zin2 (List.mem_of_getElem? (i := 71) rfl) rfl
set_option maxRecDepth 20000 in
theorem zw_363 : (.selects RX5 yX5_open yX5_open : Cond) ∈ zws := zin2 (List.mem_of_getElem? (i := 72) rfl) rfl
set_option maxRecDepth 20000 in
theorem zw_364 : (.code yX5_open cX5_open (4) (none : Option Jvm.ClassFile.FieldType) : Cond) ∈ zws := zin2 (List.mem_of_getElem? (i := 73) rfl) rfl
set_option maxRecDepth 20000 in
theorem zw_365 : (.methodLink RX10 (103) yX5_readsTongues : Cond) ∈ zws := zin2 (List.mem_of_getElem? (i := 74) rfl) rfl
set_option maxRecDepth 20000 in
theorem zw_366 : (.instanceMethod yX5_readsTongues : Cond) ∈ zws := zin2 (List.mem_of_getElem? (i := 75) rfl) rfl
set_option maxRecDepth 20000 in
theorem zw_367 : (.selects RX5 yX5_readsTongues yX5_readsTongues : Cond) ∈ zws := zin2 (List.mem_of_getElem? (i := 76) rfl) rfl
set_option maxRecDepth 20000 in
theorem zw_368 : (.code yX5_readsTongues cX5_readsTongues (1) (some .boolean) : Cond) ∈ zws := zin2 (List.mem_of_getElem? (i := 77) rfl) rfl
set_option maxRecDepth 20000 in
theorem zw_369 : (.methodLink RX5 (30) yX5_takesSign : Cond) ∈ zws := zin2 (List.mem_of_getElem? (i := 78) rfl) rfl
set_option maxRecDepth 20000 in
theorem zw_371 : (.instanceMethod yX5_takesSign : Cond) ∈ zws := zin2 (List.mem_of_getElem? (i := 80) rfl) rfl
set_option maxRecDepth 20000 in
theorem zw_372 : (.code yX5_takesSign cX5_takesSign (2) (some .boolean) : Cond) ∈ zws := zin2 (List.mem_of_getElem? (i := 81) rfl) rfl
set_option maxRecDepth 20000 in
theorem zw_373 : (.methodLink RX5 (34) yX5_takeDigit : Cond) ∈ zws := zin2 (List.mem_of_getElem? (i := 82) rfl) rfl
set_option maxRecDepth 20000 in
theorem zw_375 : (.instanceMethod yX5_takeDigit : Cond) ∈ zws := zin2 (List.mem_of_getElem? (i := 84) rfl) rfl
set_option maxRecDepth 20000 in
theorem zw_376 : (.code yX5_takeDigit cX5_takeDigit (3) (some .int) : Cond) ∈ zws := zin2 (List.mem_of_getElem? (i := 85) rfl) rfl
set_option maxRecDepth 20000 in
theorem zw_377 : (.methodLink RX5 (41) yX5_takesTable : Cond) ∈ zws := zin2 (List.mem_of_getElem? (i := 86) rfl) rfl
set_option maxRecDepth 20000 in
theorem zw_379 : (.instanceMethod yX5_takesTable : Cond) ∈ zws := zin2 (List.mem_of_getElem? (i := 88) rfl) rfl
set_option maxRecDepth 20000 in
theorem zw_380 : (.code yX5_takesTable cX5_takesTable (4) (some .boolean) : Cond) ∈ zws := zin2 (List.mem_of_getElem? (i := 89) rfl) rfl
set_option maxRecDepth 20000 in
theorem zw_381 : (.methodLink RX5 (48) yX5_takesWord : Cond) ∈ zws := zin2 (List.mem_of_getElem? (i := 90) rfl) rfl
set_option maxRecDepth 20000 in
theorem zw_383 : (.instanceMethod yX5_takesWord : Cond) ∈ zws := zin2 (List.mem_of_getElem? (i := 92) rfl) rfl
set_option maxRecDepth 20000 in
theorem zw_384 : (.code yX5_takesWord cX5_takesWord (7) (some .boolean) : Cond) ∈ zws := zin2 (List.mem_of_getElem? (i := 93) rfl) rfl
set_option maxRecDepth 20000 in
theorem zw_385 : (.methodLink RX5 (52) Lib.Math.min.name : Cond) ∈ zws := zin2 (List.mem_of_getElem? (i := 94) rfl) rfl
set_option maxRecDepth 20000 in
theorem zw_386 : (.static Lib.Math.min.name : Cond) ∈ zws := zin2 (List.mem_of_getElem? (i := 95) rfl) rfl
set_option maxRecDepth 20000 in
theorem zw_387 : (.code Lib.Math.min.name Lib.Math.min.code (2) (some .int) : Cond) ∈ zws := zin2 (List.mem_of_getElem? (i := 96) rfl) rfl
set_option maxRecDepth 20000 in
theorem zw_388 : (.methodLink RX10 (107) yX5_place : Cond) ∈ zws := zin2 (List.mem_of_getElem? (i := 97) rfl) rfl
set_option maxRecDepth 20000 in
theorem zw_389 : (.instanceMethod yX5_place : Cond) ∈ zws := zin2 (List.mem_of_getElem? (i := 98) rfl) rfl
set_option maxRecDepth 20000 in
theorem zw_390 : (.selects RX5 yX5_place yX5_place : Cond) ∈ zws := zin2 (List.mem_of_getElem? (i := 99) rfl) rfl
set_option maxRecDepth 20000 in
theorem zw_391 : (.code yX5_place cX5_place (1) (some .int) : Cond) ∈ zws := zin2 (List.mem_of_getElem? (i := 100) rfl) rfl
set_option maxRecDepth 20000 in
theorem zw_392 : (.methodLink RX10 (118) yX8_take : Cond) ∈ zws := zin2 (List.mem_of_getElem? (i := 101) rfl) rfl
set_option maxRecDepth 20000 in
theorem zw_393 : (.instanceMethod yX8_take : Cond) ∈ zws := zin2 (List.mem_of_getElem? (i := 102) rfl) rfl
set_option maxRecDepth 20000 in
theorem zw_394 : (.selects RX8 yX8_take yX8_take : Cond) ∈ zws := zin2 (List.mem_of_getElem? (i := 103) rfl) rfl
set_option maxRecDepth 20000 in
theorem zw_395 : (.code yX8_take cX8_take (5) (none : Option Jvm.ClassFile.FieldType) : Cond) ∈ zws := zin2 (List.mem_of_getElem? (i := 104) rfl) rfl
set_option maxRecDepth 20000 in
theorem zw_396 : (.methodLink RX8 (24) yX8_takeWord : Cond) ∈ zws := zin2 (List.mem_of_getElem? (i := 105) rfl) rfl
set_option maxRecDepth 20000 in
theorem zw_398 : (.instanceMethod yX8_takeWord : Cond) ∈ zws := zin2 (List.mem_of_getElem? (i := 107) rfl) rfl
set_option maxRecDepth 20000 in
theorem zw_399 : (.code yX8_takeWord cX8_takeWord (6) (none : Option Jvm.ClassFile.FieldType) : Cond) ∈ zws := zin2 (List.mem_of_getElem? (i := 108) rfl) rfl
set_option maxRecDepth 20000 in
theorem zw_400 : (.methodLink RX10 (122) yX9_leave : Cond) ∈ zws := zin2 (List.mem_of_getElem? (i := 109) rfl) rfl
set_option maxRecDepth 20000 in
theorem zw_401 : (.instanceMethod yX9_leave : Cond) ∈ zws := zin2 (List.mem_of_getElem? (i := 110) rfl) rfl
set_option maxRecDepth 20000 in
theorem zw_402 : (.selects RX9 yX9_leave yX9_leave : Cond) ∈ zws := zin2 (List.mem_of_getElem? (i := 111) rfl) rfl
set_option maxRecDepth 20000 in
theorem zw_403 : (.code yX9_leave cX9_leave (1) (none : Option Jvm.ClassFile.FieldType) : Cond) ∈ zws := zin2 (List.mem_of_getElem? (i := 112) rfl) rfl
set_option maxRecDepth 20000 in
theorem zw_404 : (.methodLink RX10 (125) yX4_clear : Cond) ∈ zws := zin2 (List.mem_of_getElem? (i := 113) rfl) rfl
set_option maxRecDepth 20000 in
theorem zw_405 : (.instanceMethod yX4_clear : Cond) ∈ zws := zin2 (List.mem_of_getElem? (i := 114) rfl) rfl
set_option maxRecDepth 20000 in
theorem zw_406 : (.selects RX4 yX4_clear yX4_clear : Cond) ∈ zws := zin2 (List.mem_of_getElem? (i := 115) rfl) rfl
set_option maxRecDepth 20000 in
theorem zw_407 : (.code yX4_clear cX4_clear (1) (none : Option Jvm.ClassFile.FieldType) : Cond) ∈ zws := zin2 (List.mem_of_getElem? (i := 116) rfl) rfl
set_option maxRecDepth 20000 in
theorem zw_408 : (.methodLink RL (18) yX10_becomes : Cond) ∈ zws := zin2 (List.mem_of_getElem? (i := 117) rfl) rfl
set_option maxRecDepth 20000 in
theorem zw_409 : (.instanceMethod yX10_becomes : Cond) ∈ zws := zin2 (List.mem_of_getElem? (i := 118) rfl) rfl
set_option maxRecDepth 20000 in
theorem zw_410 : (.selects RX10 yX10_becomes yX10_becomes : Cond) ∈ zws := zin2 (List.mem_of_getElem? (i := 119) rfl) rfl
set_option maxRecDepth 20000 in
theorem zw_411 : (.code yX10_becomes cX10_becomes (4) (some .int) : Cond) ∈ zws := zin2 (List.mem_of_getElem? (i := 120) rfl) rfl
set_option maxRecDepth 20000 in
theorem zw_412 : (.methodLink RX10 (129) yX10_isWord : Cond) ∈ zws := zin2 (List.mem_of_getElem? (i := 121) rfl) rfl
set_option maxRecDepth 20000 in
theorem zw_414 : (.instanceMethod yX10_isWord : Cond) ∈ zws := zin2 (List.mem_of_getElem? (i := 123) rfl) rfl
set_option maxRecDepth 20000 in
theorem zw_415 : (.code yX10_isWord cX10_isWord (2) (some .boolean) : Cond) ∈ zws := zin2 (List.mem_of_getElem? (i := 124) rfl) rfl
set_option maxRecDepth 20000 in
theorem zw_416 : (.methodLink RX10 (133) yX10_isWordOrNothing : Cond) ∈ zws := zin2 (List.mem_of_getElem? (i := 125) rfl) rfl
set_option maxRecDepth 20000 in
theorem zw_418 : (.instanceMethod yX10_isWordOrNothing : Cond) ∈ zws := zin2 (List.mem_of_getElem? (i := 127) rfl) rfl
set_option maxRecDepth 20000 in
theorem zw_419 : (.code yX10_isWordOrNothing cX10_isWordOrNothing (2) (some .boolean) : Cond) ∈ zws := zin2 (List.mem_of_getElem? (i := 128) rfl) rfl
set_option maxRecDepth 20000 in
theorem zw_420 : (.methodLink RX10 (136) yX10_isWay : Cond) ∈ zws := zin2 (List.mem_of_getElem? (i := 129) rfl) rfl
set_option maxRecDepth 20000 in
theorem zw_421 : (.static yX10_isWay : Cond) ∈ zws := zin2 (List.mem_of_getElem? (i := 130) rfl) rfl
set_option maxRecDepth 20000 in
theorem zw_422 : (.code yX10_isWay cX10_isWay (1) (some .boolean) : Cond) ∈ zws := zin2 (List.mem_of_getElem? (i := 131) rfl) rfl
set_option maxRecDepth 20000 in
theorem zw_423 : (.methodLink RX10 (139) yX8_twelfths : Cond) ∈ zws := zin2 (List.mem_of_getElem? (i := 132) rfl) rfl
set_option maxRecDepth 20000 in
theorem zw_424 : (.instanceMethod yX8_twelfths : Cond) ∈ zws := zin2 (List.mem_of_getElem? (i := 133) rfl) rfl
set_option maxRecDepth 20000 in
theorem zw_425 : (.selects RX8 yX8_twelfths yX8_twelfths : Cond) ∈ zws := zin2 (List.mem_of_getElem? (i := 134) rfl) rfl
set_option maxRecDepth 20000 in
theorem zw_426 : (.code yX8_twelfths cX8_twelfths (4) (some .int) : Cond) ∈ zws := zin2 (List.mem_of_getElem? (i := 135) rfl) rfl
set_option maxRecDepth 20000 in
theorem zw_427 : (.methodLink RL (23) yX10_meant : Cond) ∈ zws := zin2 (List.mem_of_getElem? (i := 136) rfl) rfl
set_option maxRecDepth 20000 in
theorem zw_428 : (.instanceMethod yX10_meant : Cond) ∈ zws := zin2 (List.mem_of_getElem? (i := 137) rfl) rfl
set_option maxRecDepth 20000 in
theorem zw_429 : (.selects RX10 yX10_meant yX10_meant : Cond) ∈ zws := zin2 (List.mem_of_getElem? (i := 138) rfl) rfl
set_option maxRecDepth 20000 in
theorem zw_430 : (.code yX10_meant cX10_meant (3) (some .int) : Cond) ∈ zws := zin2 (List.mem_of_getElem? (i := 139) rfl) rfl
set_option maxRecDepth 20000 in
theorem zw_431 : (.methodLink RX10 (143) yX8_meaning : Cond) ∈ zws := zin2 (List.mem_of_getElem? (i := 140) rfl) rfl
set_option maxRecDepth 20000 in
theorem zw_432 : (.instanceMethod yX8_meaning : Cond) ∈ zws := zin2 (List.mem_of_getElem? (i := 141) rfl) rfl
set_option maxRecDepth 20000 in
theorem zw_433 : (.selects RX8 yX8_meaning yX8_meaning : Cond) ∈ zws := zin2 (List.mem_of_getElem? (i := 142) rfl) rfl
set_option maxRecDepth 20000 in
theorem zw_434 : (.code yX8_meaning cX8_meaning (3) (some .int) : Cond) ∈ zws := zin2 (List.mem_of_getElem? (i := 143) rfl) rfl
set_option maxRecDepth 20000 in
theorem zw_435 : (.methodLink RL (28) yX10_alike : Cond) ∈ zws := zin2 (List.mem_of_getElem? (i := 144) rfl) rfl
set_option maxRecDepth 20000 in
theorem zw_436 : (.instanceMethod yX10_alike : Cond) ∈ zws := zin2 (List.mem_of_getElem? (i := 145) rfl) rfl
set_option maxRecDepth 20000 in
theorem zw_437 : (.selects RX10 yX10_alike yX10_alike : Cond) ∈ zws := zin2 (List.mem_of_getElem? (i := 146) rfl) rfl
set_option maxRecDepth 20000 in
theorem zw_438 : (.code yX10_alike cX10_alike (3) (some .int) : Cond) ∈ zws := zin2 (List.mem_of_getElem? (i := 147) rfl) rfl
set_option maxRecDepth 20000 in
theorem zw_439 : (.methodLink RX10 (146) yX8_sameMeaning : Cond) ∈ zws := zin2 (List.mem_of_getElem? (i := 148) rfl) rfl
set_option maxRecDepth 20000 in
theorem zw_440 : (.instanceMethod yX8_sameMeaning : Cond) ∈ zws := zin2 (List.mem_of_getElem? (i := 149) rfl) rfl
set_option maxRecDepth 20000 in
theorem zw_441 : (.selects RX8 yX8_sameMeaning yX8_sameMeaning : Cond) ∈ zws := zin2 (List.mem_of_getElem? (i := 150) rfl) rfl
set_option maxRecDepth 20000 in
theorem zw_442 : (.code yX8_sameMeaning cX8_sameMeaning (5) (some .int) : Cond) ∈ zws := zin2 (List.mem_of_getElem? (i := 151) rfl) rfl
set_option maxRecDepth 20000 in
theorem zw_443 : (.methodLink RX8 (28) yX8_meaning : Cond) ∈ zws := zin2 (List.mem_of_getElem? (i := 152) rfl) rfl
set_option maxRecDepth 20000 in
theorem zw_444 : (.methodLink RL (32) yX10_interpreter : Cond) ∈ zws := zin2 (List.mem_of_getElem? (i := 153) rfl) rfl
set_option maxRecDepth 20000 in
theorem zw_445 : (.instanceMethod yX10_interpreter : Cond) ∈ zws := zin2 (List.mem_of_getElem? (i := 154) rfl) rfl
set_option maxRecDepth 20000 in
theorem zw_446 : (.selects RX10 yX10_interpreter yX10_interpreter : Cond) ∈ zws := zin2 (List.mem_of_getElem? (i := 155) rfl) rfl
set_option maxRecDepth 20000 in
theorem zw_447 : (.code yX10_interpreter cX10_interpreter (3) (some .int) : Cond) ∈ zws := zin2 (List.mem_of_getElem? (i := 156) rfl) rfl
set_option maxRecDepth 20000 in
theorem zw_448 : (.methodLink RX10 (149) yX10_isKind : Cond) ∈ zws := zin2 (List.mem_of_getElem? (i := 157) rfl) rfl
set_option maxRecDepth 20000 in
theorem zw_449 : (.static yX10_isKind : Cond) ∈ zws := zin2 (List.mem_of_getElem? (i := 158) rfl) rfl
set_option maxRecDepth 20000 in
theorem zw_450 : (.code yX10_isKind cX10_isKind (1) (some .boolean) : Cond) ∈ zws := zin2 (List.mem_of_getElem? (i := 159) rfl) rfl
set_option maxRecDepth 20000 in
theorem zw_451 : (.methodLink RX10 (152) yX10_isTired : Cond) ∈ zws := zin2 (List.mem_of_getElem? (i := 160) rfl) rfl
set_option maxRecDepth 20000 in
theorem zw_452 : (.static yX10_isTired : Cond) ∈ zws := zin2 (List.mem_of_getElem? (i := 161) rfl) rfl
set_option maxRecDepth 20000 in
theorem zw_453 : (.code yX10_isTired cX10_isTired (1) (some .boolean) : Cond) ∈ zws := zin2 (List.mem_of_getElem? (i := 162) rfl) rfl
set_option maxRecDepth 20000 in
theorem zw_454 : (.methodLink RX10 (155) yX2_isFull : Cond) ∈ zws := zin2 (List.mem_of_getElem? (i := 163) rfl) rfl
set_option maxRecDepth 20000 in
theorem zw_455 : (.instanceMethod yX2_isFull : Cond) ∈ zws := zin2 (List.mem_of_getElem? (i := 164) rfl) rfl
set_option maxRecDepth 20000 in
theorem zw_456 : (.selects RX2 yX2_isFull yX2_isFull : Cond) ∈ zws := zin2 (List.mem_of_getElem? (i := 165) rfl) rfl
set_option maxRecDepth 20000 in
theorem zw_457 : (.code yX2_isFull cX2_isFull (1) (some .boolean) : Cond) ∈ zws := zin2 (List.mem_of_getElem? (i := 166) rfl) rfl
set_option maxRecDepth 20000 in
theorem zw_458 : (.methodLink RX10 (158) yX2_hire : Cond) ∈ zws := zin2 (List.mem_of_getElem? (i := 167) rfl) rfl
set_option maxRecDepth 20000 in
theorem zw_459 : (.instanceMethod yX2_hire : Cond) ∈ zws := zin2 (List.mem_of_getElem? (i := 168) rfl) rfl
set_option maxRecDepth 20000 in
theorem zw_460 : (.selects RX2 yX2_hire yX2_hire : Cond) ∈ zws := zin2 (List.mem_of_getElem? (i := 169) rfl) rfl
set_option maxRecDepth 20000 in
theorem zw_461 : (.code yX2_hire cX2_hire (3) (some .int) : Cond) ∈ zws := zin2 (List.mem_of_getElem? (i := 170) rfl) rfl
set_option maxRecDepth 20000 in
theorem zw_462 : (.methodLink RL (36) yX10_ofInterpreter : Cond) ∈ zws := zin2 (List.mem_of_getElem? (i := 171) rfl) rfl
set_option maxRecDepth 20000 in
theorem zw_463 : (.instanceMethod yX10_ofInterpreter : Cond) ∈ zws := zin2 (List.mem_of_getElem? (i := 172) rfl) rfl
set_option maxRecDepth 20000 in
theorem zw_464 : (.selects RX10 yX10_ofInterpreter yX10_ofInterpreter : Cond) ∈ zws := zin2 (List.mem_of_getElem? (i := 173) rfl) rfl
set_option maxRecDepth 20000 in
theorem zw_465 : (.code yX10_ofInterpreter cX10_ofInterpreter (3) (some .int) : Cond) ∈ zws := zin2 (List.mem_of_getElem? (i := 174) rfl) rfl
set_option maxRecDepth 20000 in
theorem zw_466 : (.methodLink RX10 (161) yX2_has : Cond) ∈ zws := zin2 (List.mem_of_getElem? (i := 175) rfl) rfl
set_option maxRecDepth 20000 in
theorem zw_467 : (.instanceMethod yX2_has : Cond) ∈ zws := zin2 (List.mem_of_getElem? (i := 176) rfl) rfl
set_option maxRecDepth 20000 in
theorem zw_468 : (.selects RX2 yX2_has yX2_has : Cond) ∈ zws := zin2 (List.mem_of_getElem? (i := 177) rfl) rfl
set_option maxRecDepth 20000 in
theorem zw_469 : (.code yX2_has cX2_has (2) (some .boolean) : Cond) ∈ zws := zin2 (List.mem_of_getElem? (i := 178) rfl) rfl
set_option maxRecDepth 20000 in
theorem zw_470 : (.methodLink RL (40) yX10_tire : Cond) ∈ zws := zin2 (List.mem_of_getElem? (i := 179) rfl) rfl
set_option maxRecDepth 20000 in
theorem zw_471 : (.instanceMethod yX10_tire : Cond) ∈ zws := zin2 (List.mem_of_getElem? (i := 180) rfl) rfl
set_option maxRecDepth 20000 in
theorem zw_472 : (.selects RX10 yX10_tire yX10_tire : Cond) ∈ zws := zin2 (List.mem_of_getElem? (i := 181) rfl) rfl
set_option maxRecDepth 20000 in
theorem zw_473 : (.code yX10_tire cX10_tire (4) (some .int) : Cond) ∈ zws := zin2 (List.mem_of_getElem? (i := 182) rfl) rfl
set_option maxRecDepth 20000 in
theorem zw_474 : (.methodLink RL (44) yX10_carries : Cond) ∈ zws := zin2 (List.mem_of_getElem? (i := 183) rfl) rfl
set_option maxRecDepth 20000 in
theorem zw_475 : (.instanceMethod yX10_carries : Cond) ∈ zws := zin2 (List.mem_of_getElem? (i := 184) rfl) rfl
set_option maxRecDepth 20000 in
theorem zw_476 : (.selects RX10 yX10_carries yX10_carries : Cond) ∈ zws := zin2 (List.mem_of_getElem? (i := 185) rfl) rfl
set_option maxRecDepth 20000 in
theorem zw_477 : (.code yX10_carries cX10_carries (5) (some .int) : Cond) ∈ zws := zin2 (List.mem_of_getElem? (i := 186) rfl) rfl
set_option maxRecDepth 20000 in
theorem zw_478 : (.methodLink RX10 (171) yX1_begin : Cond) ∈ zws := zin2 (List.mem_of_getElem? (i := 187) rfl) rfl
set_option maxRecDepth 20000 in
theorem zw_479 : (.instanceMethod yX1_begin : Cond) ∈ zws := zin2 (List.mem_of_getElem? (i := 188) rfl) rfl
set_option maxRecDepth 20000 in
theorem zw_480 : (.selects RX1 yX1_begin yX1_begin : Cond) ∈ zws := zin2 (List.mem_of_getElem? (i := 189) rfl) rfl
set_option maxRecDepth 20000 in
theorem zw_481 : (.code yX1_begin cX1_begin (2) (none : Option Jvm.ClassFile.FieldType) : Cond) ∈ zws := zin2 (List.mem_of_getElem? (i := 190) rfl) rfl
set_option maxRecDepth 20000 in
theorem zw_482 : (.methodLink RX1 (26) yJ7_fill_d0a16 : Cond) ∈ zws := zin2 (List.mem_of_getElem? (i := 191) rfl) rfl
set_option maxRecDepth 20000 in
theorem zw_483 : (.static yJ7_fill_d0a16 : Cond) ∈ zws := zin2 (List.mem_of_getElem? (i := 192) rfl) rfl
set_option maxRecDepth 20000 in
theorem zw_484 : (.code yJ7_fill_d0a16 cJ7_fill_d0a16 (5) (none : Option Jvm.ClassFile.FieldType) : Cond) ∈ zws := zin2 (List.mem_of_getElem? (i := 193) rfl) rfl
set_option maxRecDepth 20000 in
theorem zw_485 : (.methodLink RX10 (175) yX1_hand : Cond) ∈ zws := zin2 (List.mem_of_getElem? (i := 194) rfl) rfl
set_option maxRecDepth 20000 in
theorem zw_486 : (.instanceMethod yX1_hand : Cond) ∈ zws := zin2 (List.mem_of_getElem? (i := 195) rfl) rfl
set_option maxRecDepth 20000 in
theorem zw_487 : (.selects RX1 yX1_hand yX1_hand : Cond) ∈ zws := zin2 (List.mem_of_getElem? (i := 196) rfl) rfl
set_option maxRecDepth 20000 in
theorem zw_488 : (.code yX1_hand cX1_hand (7) (none : Option Jvm.ClassFile.FieldType) : Cond) ∈ zws := zin2 (List.mem_of_getElem? (i := 197) rfl) rfl
set_option maxRecDepth 20000 in
theorem zw_489 : (.methodLink RX1 (38) yX8_carry : Cond) ∈ zws := zin2 (List.mem_of_getElem? (i := 198) rfl) rfl
set_option maxRecDepth 20000 in
theorem zw_490 : (.instanceMethod yX8_carry : Cond) ∈ zws := zin2 (List.mem_of_getElem? (i := 199) rfl) rfl
set_option maxRecDepth 20000 in
theorem zw_491 : (.selects RX8 yX8_carry yX8_carry : Cond) ∈ zws := zin2 (List.mem_of_getElem? (i := 200) rfl) rfl
set_option maxRecDepth 20000 in
theorem zw_492 : (.code yX8_carry cX8_carry (11) (none : Option Jvm.ClassFile.FieldType) : Cond) ∈ zws := zin2 (List.mem_of_getElem? (i := 201) rfl) rfl
set_option maxRecDepth 20000 in
theorem zw_493 : (.constantLong RX1 (42) (144) : Cond) ∈ zws := zin2 (List.mem_of_getElem? (i := 202) rfl) rfl
set_option maxRecDepth 20000 in
theorem zw_494 : (.methodLink RX10 (179) yX1_timesAs : Cond) ∈ zws := zin2 (List.mem_of_getElem? (i := 203) rfl) rfl
set_option maxRecDepth 20000 in
theorem zw_495 : (.instanceMethod yX1_timesAs : Cond) ∈ zws := zin2 (List.mem_of_getElem? (i := 204) rfl) rfl
set_option maxRecDepth 20000 in
theorem zw_496 : (.selects RX1 yX1_timesAs yX1_timesAs : Cond) ∈ zws := zin2 (List.mem_of_getElem? (i := 205) rfl) rfl
set_option maxRecDepth 20000 in
theorem zw_497 : (.code yX1_timesAs cX1_timesAs (6) (some .long) : Cond) ∈ zws := zin2 (List.mem_of_getElem? (i := 206) rfl) rfl
set_option maxRecDepth 20000 in
theorem zw_498 : (.methodLink RL (48) yX10_returns : Cond) ∈ zws := zin2 (List.mem_of_getElem? (i := 207) rfl) rfl
set_option maxRecDepth 20000 in
theorem zw_499 : (.instanceMethod yX10_returns : Cond) ∈ zws := zin2 (List.mem_of_getElem? (i := 208) rfl) rfl
set_option maxRecDepth 20000 in
theorem zw_500 : (.selects RX10 yX10_returns yX10_returns : Cond) ∈ zws := zin2 (List.mem_of_getElem? (i := 209) rfl) rfl
set_option maxRecDepth 20000 in
theorem zw_501 : (.code yX10_returns cX10_returns (4) (some .int) : Cond) ∈ zws := zin2 (List.mem_of_getElem? (i := 210) rfl) rfl
set_option maxRecDepth 20000 in
theorem zw_502 : (.methodLink RX10 (183) yX10_otherWay : Cond) ∈ zws := zin2 (List.mem_of_getElem? (i := 211) rfl) rfl
set_option maxRecDepth 20000 in
theorem zw_503 : (.static yX10_otherWay : Cond) ∈ zws := zin2 (List.mem_of_getElem? (i := 212) rfl) rfl
set_option maxRecDepth 20000 in
theorem zw_504 : (.code yX10_otherWay cX10_otherWay (1) (some .int) : Cond) ∈ zws := zin2 (List.mem_of_getElem? (i := 213) rfl) rfl
set_option maxRecDepth 20000 in
theorem zw_505 : (.methodLink RX10 (186) yX1_likeliest : Cond) ∈ zws := zin2 (List.mem_of_getElem? (i := 214) rfl) rfl
set_option maxRecDepth 20000 in
theorem zw_506 : (.instanceMethod yX1_likeliest : Cond) ∈ zws := zin2 (List.mem_of_getElem? (i := 215) rfl) rfl
set_option maxRecDepth 20000 in
theorem zw_507 : (.selects RX1 yX1_likeliest yX1_likeliest : Cond) ∈ zws := zin2 (List.mem_of_getElem? (i := 216) rfl) rfl
set_option maxRecDepth 20000 in
theorem zw_508 : (.code yX1_likeliest cX1_likeliest (4) (some .int) : Cond) ∈ zws := zin2 (List.mem_of_getElem? (i := 217) rfl) rfl
set_option maxRecDepth 20000 in
theorem zw_509 : (.methodLink RL (52) yX10_hands : Cond) ∈ zws := zin2 (List.mem_of_getElem? (i := 218) rfl) rfl
set_option maxRecDepth 20000 in
theorem zw_510 : (.instanceMethod yX10_hands : Cond) ∈ zws := zin2 (List.mem_of_getElem? (i := 219) rfl) rfl
set_option maxRecDepth 20000 in
theorem zw_511 : (.selects RX10 yX10_hands yX10_hands : Cond) ∈ zws := zin2 (List.mem_of_getElem? (i := 220) rfl) rfl
set_option maxRecDepth 20000 in
theorem zw_512 : (.code yX10_hands cX10_hands (12) (some .long) : Cond) ∈ zws := zin2 (List.mem_of_getElem? (i := 221) rfl) rfl
set_option maxRecDepth 20000 in
theorem zw_513 : (.constantLong RX10 (196) (-9223372036854775808) : Cond) ∈ zws := zin2 (List.mem_of_getElem? (i := 222) rfl) rfl
set_option maxRecDepth 20000 in
theorem zw_514 : (.methodLink RX10 (198) yX2_hasAll : Cond) ∈ zws := zin2 (List.mem_of_getElem? (i := 223) rfl) rfl
set_option maxRecDepth 20000 in
theorem zw_515 : (.instanceMethod yX2_hasAll : Cond) ∈ zws := zin2 (List.mem_of_getElem? (i := 224) rfl) rfl
set_option maxRecDepth 20000 in
theorem zw_516 : (.selects RX2 yX2_hasAll yX2_hasAll : Cond) ∈ zws := zin2 (List.mem_of_getElem? (i := 225) rfl) rfl
set_option maxRecDepth 20000 in
theorem zw_517 : (.code yX2_hasAll cX2_hasAll (5) (some .boolean) : Cond) ∈ zws := zin2 (List.mem_of_getElem? (i := 226) rfl) rfl
set_option maxRecDepth 20000 in
theorem zw_518 : (.methodLink RX2 (22) yX2_has : Cond) ∈ zws := zin2 (List.mem_of_getElem? (i := 227) rfl) rfl
set_option maxRecDepth 20000 in
theorem zw_519 : (.methodLink RX10 (202) yX10_isWhich : Cond) ∈ zws := zin2 (List.mem_of_getElem? (i := 228) rfl) rfl
set_option maxRecDepth 20000 in
theorem zw_520 : (.static yX10_isWhich : Cond) ∈ zws := zin2 (List.mem_of_getElem? (i := 229) rfl) rfl
set_option maxRecDepth 20000 in
theorem zw_521 : (.code yX10_isWhich cX10_isWhich (1) (some .boolean) : Cond) ∈ zws := zin2 (List.mem_of_getElem? (i := 230) rfl) rfl
set_option maxRecDepth 20000 in
theorem zw_522 : (.methodLink RX10 (209) yX10_inLeastTerms : Cond) ∈ zws := zin2 (List.mem_of_getElem? (i := 231) rfl) rfl
set_option maxRecDepth 20000 in
theorem zw_523 : (.static yX10_inLeastTerms : Cond) ∈ zws := zin2 (List.mem_of_getElem? (i := 232) rfl) rfl
set_option maxRecDepth 20000 in
theorem zw_524 : (.code yX10_inLeastTerms cX10_inLeastTerms (7) (some .long) : Cond) ∈ zws := zin2 (List.mem_of_getElem? (i := 233) rfl) rfl
set_option maxRecDepth 20000 in
theorem zw_525 : (.methodLink RX10 (348) yX10_greatestCommon : Cond) ∈ zws := zin2 (List.mem_of_getElem? (i := 234) rfl) rfl
set_option maxRecDepth 20000 in
theorem zw_526 : (.static yX10_greatestCommon : Cond) ∈ zws := zin2 (List.mem_of_getElem? (i := 235) rfl) rfl
set_option maxRecDepth 20000 in
theorem zw_527 : (.code yX10_greatestCommon cX10_greatestCommon (11) (some .long) : Cond) ∈ zws := zin2 (List.mem_of_getElem? (i := 236) rfl) rfl
set_option maxRecDepth 20000 in
theorem zw_528 : (.methodLink RL (57) yX10_witness : Cond) ∈ zws := zin2 (List.mem_of_getElem? (i := 237) rfl) rfl
set_option maxRecDepth 20000 in
theorem zw_529 : (.instanceMethod yX10_witness : Cond) ∈ zws := zin2 (List.mem_of_getElem? (i := 238) rfl) rfl
set_option maxRecDepth 20000 in
theorem zw_530 : (.selects RX10 yX10_witness yX10_witness : Cond) ∈ zws := zin2 (List.mem_of_getElem? (i := 239) rfl) rfl
set_option maxRecDepth 20000 in
theorem zw_531 : (.code yX10_witness cX10_witness (7) (some .int) : Cond) ∈ zws := zin3 (List.mem_of_getElem? (i := 0) rfl) rfl
set_option maxRecDepth 20000 in
theorem zw_532 : (.methodLink RX10 (213) yX5_readsWitness : Cond) ∈ zws := zin3 (List.mem_of_getElem? (i := 1) rfl) rfl
set_option maxRecDepth 20000 in
theorem zw_533 : (.instanceMethod yX5_readsWitness : Cond) ∈ zws := zin3 (List.mem_of_getElem? (i := 2) rfl) rfl
set_option maxRecDepth 20000 in
theorem zw_534 : (.selects RX5 yX5_readsWitness yX5_readsWitness : Cond) ∈ zws := zin3 (List.mem_of_getElem? (i := 3) rfl) rfl
set_option maxRecDepth 20000 in
theorem zw_535 : (.code yX5_readsWitness cX5_readsWitness (2) (some .boolean) : Cond) ∈ zws := zin3 (List.mem_of_getElem? (i := 4) rfl) rfl
set_option maxRecDepth 20000 in
theorem zw_536 : (.methodLink RX10 (219) yX9_take : Cond) ∈ zws := zin3 (List.mem_of_getElem? (i := 5) rfl) rfl
set_option maxRecDepth 20000 in
theorem zw_537 : (.instanceMethod yX9_take : Cond) ∈ zws := zin3 (List.mem_of_getElem? (i := 6) rfl) rfl
set_option maxRecDepth 20000 in
theorem zw_538 : (.selects RX9 yX9_take yX9_take : Cond) ∈ zws := zin3 (List.mem_of_getElem? (i := 7) rfl) rfl
set_option maxRecDepth 20000 in
theorem zw_539 : (.code yX9_take cX9_take (7) (none : Option Jvm.ClassFile.FieldType) : Cond) ∈ zws := zin3 (List.mem_of_getElem? (i := 8) rfl) rfl
set_option maxRecDepth 20000 in
theorem zw_540 : (.methodLink RL (61) yX10_answers : Cond) ∈ zws := zin3 (List.mem_of_getElem? (i := 9) rfl) rfl
set_option maxRecDepth 20000 in
theorem zw_541 : (.instanceMethod yX10_answers : Cond) ∈ zws := zin3 (List.mem_of_getElem? (i := 10) rfl) rfl
set_option maxRecDepth 20000 in
theorem zw_542 : (.selects RX10 yX10_answers yX10_answers : Cond) ∈ zws := zin3 (List.mem_of_getElem? (i := 11) rfl) rfl
set_option maxRecDepth 20000 in
theorem zw_543 : (.code yX10_answers cX10_answers (3) (some .int) : Cond) ∈ zws := zin3 (List.mem_of_getElem? (i := 12) rfl) rfl
set_option maxRecDepth 20000 in
theorem zw_544 : (.methodLink RL (65) yX10_heard : Cond) ∈ zws := zin3 (List.mem_of_getElem? (i := 13) rfl) rfl
set_option maxRecDepth 20000 in
theorem zw_545 : (.instanceMethod yX10_heard : Cond) ∈ zws := zin3 (List.mem_of_getElem? (i := 14) rfl) rfl
set_option maxRecDepth 20000 in
theorem zw_546 : (.selects RX10 yX10_heard yX10_heard : Cond) ∈ zws := zin3 (List.mem_of_getElem? (i := 15) rfl) rfl
set_option maxRecDepth 20000 in
theorem zw_547 : (.code yX10_heard cX10_heard (6) (some .long) : Cond) ∈ zws := zin3 (List.mem_of_getElem? (i := 16) rfl) rfl
set_option maxRecDepth 20000 in
theorem zw_548 : (.methodLink RX10 (229) yX3_through : Cond) ∈ zws := zin3 (List.mem_of_getElem? (i := 17) rfl) rfl
set_option maxRecDepth 20000 in
theorem zw_549 : (.instanceMethod yX3_through : Cond) ∈ zws := zin3 (List.mem_of_getElem? (i := 18) rfl) rfl
set_option maxRecDepth 20000 in
theorem zw_550 : (.selects RX3 yX3_through yX3_through : Cond) ∈ zws := zin3 (List.mem_of_getElem? (i := 19) rfl) rfl
set_option maxRecDepth 20000 in
theorem zw_551 : (.code yX3_through cX3_through (4) (none : Option Jvm.ClassFile.FieldType) : Cond) ∈ zws := zin3 (List.mem_of_getElem? (i := 20) rfl) rfl
set_option maxRecDepth 20000 in
theorem zw_552 : (.methodLink RX3 (33) yX8_carry : Cond) ∈ zws := zin3 (List.mem_of_getElem? (i := 21) rfl) rfl
set_option maxRecDepth 20000 in
theorem zw_553 : (.methodLink RX10 (233) yX3_nothing : Cond) ∈ zws := zin3 (List.mem_of_getElem? (i := 22) rfl) rfl
set_option maxRecDepth 20000 in
theorem zw_554 : (.instanceMethod yX3_nothing : Cond) ∈ zws := zin3 (List.mem_of_getElem? (i := 23) rfl) rfl
set_option maxRecDepth 20000 in
theorem zw_555 : (.selects RX3 yX3_nothing yX3_nothing : Cond) ∈ zws := zin3 (List.mem_of_getElem? (i := 24) rfl) rfl
set_option maxRecDepth 20000 in
theorem zw_556 : (.code yX3_nothing cX3_nothing (4) (some .int) : Cond) ∈ zws := zin3 (List.mem_of_getElem? (i := 25) rfl) rfl
set_option maxRecDepth 20000 in
theorem zw_557 : (.constant RX3 (41) (2985984) : Cond) ∈ zws := zin3 (List.mem_of_getElem? (i := 26) rfl) rfl
set_option maxRecDepth 20000 in
theorem zw_558 : (.methodLink RX3 (42) yX3_heardTimes : Cond) ∈ zws := zin3 (List.mem_of_getElem? (i := 27) rfl) rfl
set_option maxRecDepth 20000 in
theorem zw_559 : (.instanceMethod yX3_heardTimes : Cond) ∈ zws := zin3 (List.mem_of_getElem? (i := 28) rfl) rfl
set_option maxRecDepth 20000 in
theorem zw_560 : (.selects RX3 yX3_heardTimes yX3_heardTimes : Cond) ∈ zws := zin3 (List.mem_of_getElem? (i := 29) rfl) rfl
set_option maxRecDepth 20000 in
theorem zw_561 : (.code yX3_heardTimes cX3_heardTimes (5) (some .int) : Cond) ∈ zws := zin3 (List.mem_of_getElem? (i := 30) rfl) rfl
set_option maxRecDepth 20000 in
theorem zw_562 : (.methodLink RX3 (37) yX3_saidAndHeard : Cond) ∈ zws := zin3 (List.mem_of_getElem? (i := 31) rfl) rfl
set_option maxRecDepth 20000 in
theorem zw_564 : (.instanceMethod yX3_saidAndHeard : Cond) ∈ zws := zin3 (List.mem_of_getElem? (i := 33) rfl) rfl
set_option maxRecDepth 20000 in
theorem zw_565 : (.code yX3_saidAndHeard cX3_saidAndHeard (6) (some .int) : Cond) ∈ zws := zin3 (List.mem_of_getElem? (i := 34) rfl) rfl
set_option maxRecDepth 20000 in
theorem zw_566 : (.methodLink RX3 (49) yX3_passing : Cond) ∈ zws := zin3 (List.mem_of_getElem? (i := 35) rfl) rfl
set_option maxRecDepth 20000 in
theorem zw_568 : (.instanceMethod yX3_passing : Cond) ∈ zws := zin3 (List.mem_of_getElem? (i := 37) rfl) rfl
set_option maxRecDepth 20000 in
theorem zw_569 : (.code yX3_passing cX3_passing (5) (some .int) : Cond) ∈ zws := zin3 (List.mem_of_getElem? (i := 38) rfl) rfl
set_option maxRecDepth 20000 in
theorem zw_570 : (.methodLink RX10 (236) yX3_heardTimes : Cond) ∈ zws := zin3 (List.mem_of_getElem? (i := 39) rfl) rfl
set_option maxRecDepth 20000 in
theorem zw_571 : (.constantLong RX10 (239) (2985984) : Cond) ∈ zws := zin3 (List.mem_of_getElem? (i := 40) rfl) rfl
set_option maxRecDepth 20000 in
theorem zw_572 : (.methodLink RL (70) yX10_reached : Cond) ∈ zws := zin3 (List.mem_of_getElem? (i := 41) rfl) rfl
set_option maxRecDepth 20000 in
theorem zw_573 : (.instanceMethod yX10_reached : Cond) ∈ zws := zin3 (List.mem_of_getElem? (i := 42) rfl) rfl
set_option maxRecDepth 20000 in
theorem zw_574 : (.selects RX10 yX10_reached yX10_reached : Cond) ∈ zws := zin3 (List.mem_of_getElem? (i := 43) rfl) rfl
set_option maxRecDepth 20000 in
theorem zw_575 : (.code yX10_reached cX10_reached (6) (some .long) : Cond) ∈ zws := zin3 (List.mem_of_getElem? (i := 44) rfl) rfl
set_option maxRecDepth 20000 in
theorem zw_576 : (.methodLink RX10 (241) yX10_refusesHeard : Cond) ∈ zws := zin3 (List.mem_of_getElem? (i := 45) rfl) rfl
set_option maxRecDepth 20000 in
theorem zw_578 : (.instanceMethod yX10_refusesHeard : Cond) ∈ zws := zin3 (List.mem_of_getElem? (i := 47) rfl) rfl
set_option maxRecDepth 20000 in
theorem zw_579 : (.code yX10_refusesHeard cX10_refusesHeard (5) (some .boolean) : Cond) ∈ zws := zin3 (List.mem_of_getElem? (i := 48) rfl) rfl
set_option maxRecDepth 20000 in
theorem zw_580 : (.methodLink RX10 (245) yX3_reachedTimes : Cond) ∈ zws := zin3 (List.mem_of_getElem? (i := 49) rfl) rfl
set_option maxRecDepth 20000 in
theorem zw_581 : (.instanceMethod yX3_reachedTimes : Cond) ∈ zws := zin3 (List.mem_of_getElem? (i := 50) rfl) rfl
set_option maxRecDepth 20000 in
theorem zw_582 : (.selects RX3 yX3_reachedTimes yX3_reachedTimes : Cond) ∈ zws := zin3 (List.mem_of_getElem? (i := 51) rfl) rfl
set_option maxRecDepth 20000 in
theorem zw_583 : (.code yX3_reachedTimes cX3_reachedTimes (6) (some .int) : Cond) ∈ zws := zin3 (List.mem_of_getElem? (i := 52) rfl) rfl
set_option maxRecDepth 20000 in
theorem zw_584 : (.methodLink RX3 (46) yX8_meaning : Cond) ∈ zws := zin3 (List.mem_of_getElem? (i := 53) rfl) rfl
set_option maxRecDepth 20000 in
theorem zw_585 : (.methodLink RL (74) yX10_said : Cond) ∈ zws := zin3 (List.mem_of_getElem? (i := 54) rfl) rfl
set_option maxRecDepth 20000 in
theorem zw_586 : (.instanceMethod yX10_said : Cond) ∈ zws := zin3 (List.mem_of_getElem? (i := 55) rfl) rfl
set_option maxRecDepth 20000 in
theorem zw_587 : (.selects RX10 yX10_said yX10_said : Cond) ∈ zws := zin3 (List.mem_of_getElem? (i := 56) rfl) rfl
set_option maxRecDepth 20000 in
theorem zw_588 : (.code yX10_said cX10_said (6) (some .long) : Cond) ∈ zws := zin3 (List.mem_of_getElem? (i := 57) rfl) rfl
set_option maxRecDepth 20000 in
theorem zw_589 : (.methodLink RX10 (248) yX3_saidTimes : Cond) ∈ zws := zin3 (List.mem_of_getElem? (i := 58) rfl) rfl
set_option maxRecDepth 20000 in
theorem zw_590 : (.instanceMethod yX3_saidTimes : Cond) ∈ zws := zin3 (List.mem_of_getElem? (i := 59) rfl) rfl
set_option maxRecDepth 20000 in
theorem zw_591 : (.selects RX3 yX3_saidTimes yX3_saidTimes : Cond) ∈ zws := zin3 (List.mem_of_getElem? (i := 60) rfl) rfl
set_option maxRecDepth 20000 in
theorem zw_592 : (.code yX3_saidTimes cX3_saidTimes (5) (some .int) : Cond) ∈ zws := zin3 (List.mem_of_getElem? (i := 61) rfl) rfl
set_option maxRecDepth 20000 in
theorem zw_593 : (.methodLink RL (78) yX10_over : Cond) ∈ zws := zin3 (List.mem_of_getElem? (i := 62) rfl) rfl
set_option maxRecDepth 20000 in
theorem zw_594 : (.instanceMethod yX10_over : Cond) ∈ zws := zin3 (List.mem_of_getElem? (i := 63) rfl) rfl
set_option maxRecDepth 20000 in
theorem zw_595 : (.selects RX10 yX10_over yX10_over : Cond) ∈ zws := zin3 (List.mem_of_getElem? (i := 64) rfl) rfl
set_option maxRecDepth 20000 in
theorem zw_596 : (.code yX10_over cX10_over (4) (some .long) : Cond) ∈ zws := zin3 (List.mem_of_getElem? (i := 65) rfl) rfl
set_option maxRecDepth 20000 in
theorem zw_597 : (.methodLink RX10 (251) yX3_overTimes : Cond) ∈ zws := zin3 (List.mem_of_getElem? (i := 66) rfl) rfl
set_option maxRecDepth 20000 in
theorem zw_598 : (.instanceMethod yX3_overTimes : Cond) ∈ zws := zin3 (List.mem_of_getElem? (i := 67) rfl) rfl
set_option maxRecDepth 20000 in
theorem zw_599 : (.selects RX3 yX3_overTimes yX3_overTimes : Cond) ∈ zws := zin3 (List.mem_of_getElem? (i := 68) rfl) rfl
set_option maxRecDepth 20000 in
theorem zw_600 : (.code yX3_overTimes cX3_overTimes (5) (some .int) : Cond) ∈ zws := zin3 (List.mem_of_getElem? (i := 69) rfl) rfl
set_option maxRecDepth 20000 in
theorem zw_601 : (.methodLink RL (83) yX10_ask : Cond) ∈ zws := zin3 (List.mem_of_getElem? (i := 70) rfl) rfl
set_option maxRecDepth 20000 in
theorem zw_602 : (.instanceMethod yX10_ask : Cond) ∈ zws := zin3 (List.mem_of_getElem? (i := 71) rfl) rfl
set_option maxRecDepth 20000 in
theorem zw_603 : (.selects RX10 yX10_ask yX10_ask : Cond) ∈ zws := zin3 (List.mem_of_getElem? (i := 72) rfl) rfl
set_option maxRecDepth 20000 in
theorem zw_604 : (.code yX10_ask cX10_ask (3) (some .int) : Cond) ∈ zws := zin3 (List.mem_of_getElem? (i := 73) rfl) rfl
set_option maxRecDepth 20000 in
theorem zw_605 : (.methodLink RX10 (254) yX3_bestOver : Cond) ∈ zws := zin3 (List.mem_of_getElem? (i := 74) rfl) rfl
set_option maxRecDepth 20000 in
theorem zw_606 : (.instanceMethod yX3_bestOver : Cond) ∈ zws := zin3 (List.mem_of_getElem? (i := 75) rfl) rfl
set_option maxRecDepth 20000 in
theorem zw_607 : (.selects RX3 yX3_bestOver yX3_bestOver : Cond) ∈ zws := zin3 (List.mem_of_getElem? (i := 76) rfl) rfl
set_option maxRecDepth 20000 in
theorem zw_608 : (.code yX3_bestOver cX3_bestOver (6) (some .int) : Cond) ∈ zws := zin3 (List.mem_of_getElem? (i := 77) rfl) rfl
set_option maxRecDepth 20000 in
theorem zw_609 : (.methodLink RX3 (53) yX3_overTimes : Cond) ∈ zws := zin3 (List.mem_of_getElem? (i := 78) rfl) rfl
set_option maxRecDepth 20000 in
theorem zw_610 : (.methodLink RL (87) yX10_turn : Cond) ∈ zws := zin3 (List.mem_of_getElem? (i := 79) rfl) rfl
set_option maxRecDepth 20000 in
theorem zw_611 : (.instanceMethod yX10_turn : Cond) ∈ zws := zin3 (List.mem_of_getElem? (i := 80) rfl) rfl
set_option maxRecDepth 20000 in
theorem zw_612 : (.selects RX10 yX10_turn yX10_turn : Cond) ∈ zws := zin3 (List.mem_of_getElem? (i := 81) rfl) rfl
set_option maxRecDepth 20000 in
theorem zw_613 : (.code yX10_turn cX10_turn (7) (some .int) : Cond) ∈ zws := zin3 (List.mem_of_getElem? (i := 82) rfl) rfl
set_option maxRecDepth 20000 in
theorem zw_614 : (.methodLink RX10 (257) yX4_isFull : Cond) ∈ zws := zin3 (List.mem_of_getElem? (i := 83) rfl) rfl
set_option maxRecDepth 20000 in
theorem zw_615 : (.instanceMethod yX4_isFull : Cond) ∈ zws := zin3 (List.mem_of_getElem? (i := 84) rfl) rfl
set_option maxRecDepth 20000 in
theorem zw_616 : (.selects RX4 yX4_isFull yX4_isFull : Cond) ∈ zws := zin3 (List.mem_of_getElem? (i := 85) rfl) rfl
set_option maxRecDepth 20000 in
theorem zw_617 : (.code yX4_isFull cX4_isFull (1) (some .boolean) : Cond) ∈ zws := zin3 (List.mem_of_getElem? (i := 86) rfl) rfl
set_option maxRecDepth 20000 in
theorem zw_618 : (.methodLink RX10 (258) yX4_nextLine : Cond) ∈ zws := zin3 (List.mem_of_getElem? (i := 87) rfl) rfl
set_option maxRecDepth 20000 in
theorem zw_619 : (.instanceMethod yX4_nextLine : Cond) ∈ zws := zin3 (List.mem_of_getElem? (i := 88) rfl) rfl
set_option maxRecDepth 20000 in
theorem zw_620 : (.selects RX4 yX4_nextLine yX4_nextLine : Cond) ∈ zws := zin3 (List.mem_of_getElem? (i := 89) rfl) rfl
set_option maxRecDepth 20000 in
theorem zw_621 : (.code yX4_nextLine cX4_nextLine (1) (some (.array .int)) : Cond) ∈ zws := zin3 (List.mem_of_getElem? (i := 90) rfl) rfl
set_option maxRecDepth 20000 in
theorem zw_622 : (.methodLink RX10 (262) yX3_truth : Cond) ∈ zws := zin3 (List.mem_of_getElem? (i := 91) rfl) rfl
set_option maxRecDepth 20000 in
theorem zw_623 : (.instanceMethod yX3_truth : Cond) ∈ zws := zin3 (List.mem_of_getElem? (i := 92) rfl) rfl
set_option maxRecDepth 20000 in
theorem zw_624 : (.selects RX3 yX3_truth yX3_truth : Cond) ∈ zws := zin3 (List.mem_of_getElem? (i := 93) rfl) rfl
set_option maxRecDepth 20000 in
theorem zw_625 : (.code yX3_truth cX3_truth (4) (some .int) : Cond) ∈ zws := zin3 (List.mem_of_getElem? (i := 94) rfl) rfl
set_option maxRecDepth 20000 in
theorem zw_626 : (.constantLong RX3 (57) (1000) : Cond) ∈ zws := zin3 (List.mem_of_getElem? (i := 95) rfl) rfl
set_option maxRecDepth 20000 in
theorem zw_627 : (.methodLink RX3 (59) yX3_saidTimes : Cond) ∈ zws := zin3 (List.mem_of_getElem? (i := 96) rfl) rfl
set_option maxRecDepth 20000 in
theorem zw_628 : (.methodLink RX10 (265) yX4_keepLine : Cond) ∈ zws := zin3 (List.mem_of_getElem? (i := 97) rfl) rfl
set_option maxRecDepth 20000 in
theorem zw_629 : (.instanceMethod yX4_keepLine : Cond) ∈ zws := zin3 (List.mem_of_getElem? (i := 98) rfl) rfl
set_option maxRecDepth 20000 in
theorem zw_630 : (.selects RX4 yX4_keepLine yX4_keepLine : Cond) ∈ zws := zin3 (List.mem_of_getElem? (i := 99) rfl) rfl
set_option maxRecDepth 20000 in
theorem zw_631 : (.code yX4_keepLine cX4_keepLine (1) (some .int) : Cond) ∈ zws := zin3 (List.mem_of_getElem? (i := 100) rfl) rfl
set_option maxRecDepth 20000 in
theorem zw_632 : (.methodLink RL (92) yX10_ofTurn : Cond) ∈ zws := zin3 (List.mem_of_getElem? (i := 101) rfl) rfl
set_option maxRecDepth 20000 in
theorem zw_633 : (.instanceMethod yX10_ofTurn : Cond) ∈ zws := zin3 (List.mem_of_getElem? (i := 102) rfl) rfl
set_option maxRecDepth 20000 in
theorem zw_634 : (.selects RX10 yX10_ofTurn yX10_ofTurn : Cond) ∈ zws := zin3 (List.mem_of_getElem? (i := 103) rfl) rfl
set_option maxRecDepth 20000 in
theorem zw_635 : (.code yX10_ofTurn cX10_ofTurn (3) (some .int) : Cond) ∈ zws := zin3 (List.mem_of_getElem? (i := 104) rfl) rfl
set_option maxRecDepth 20000 in
theorem zw_636 : (.methodLink RL (96) yX10_back : Cond) ∈ zws := zin3 (List.mem_of_getElem? (i := 105) rfl) rfl
set_option maxRecDepth 20000 in
theorem zw_637 : (.instanceMethod yX10_back : Cond) ∈ zws := zin3 (List.mem_of_getElem? (i := 106) rfl) rfl
set_option maxRecDepth 20000 in
theorem zw_638 : (.selects RX10 yX10_back yX10_back : Cond) ∈ zws := zin3 (List.mem_of_getElem? (i := 107) rfl) rfl
set_option maxRecDepth 20000 in
theorem zw_639 : (.code yX10_back cX10_back (2) (some .int) : Cond) ∈ zws := zin3 (List.mem_of_getElem? (i := 108) rfl) rfl
set_option maxRecDepth 20000 in
theorem zw_640 : (.methodLink RL (101) yX10_wrong : Cond) ∈ zws := zin3 (List.mem_of_getElem? (i := 109) rfl) rfl
set_option maxRecDepth 20000 in
theorem zw_641 : (.instanceMethod yX10_wrong : Cond) ∈ zws := zin3 (List.mem_of_getElem? (i := 110) rfl) rfl
set_option maxRecDepth 20000 in
theorem zw_642 : (.selects RX10 yX10_wrong yX10_wrong : Cond) ∈ zws := zin3 (List.mem_of_getElem? (i := 111) rfl) rfl
set_option maxRecDepth 20000 in
theorem zw_643 : (.code yX10_wrong cX10_wrong (3) (some .long) : Cond) ∈ zws := zin3 (List.mem_of_getElem? (i := 112) rfl) rfl
set_option maxRecDepth 20000 in
theorem zw_644 : (.methodLink RX10 (274) yX4_weighYes : Cond) ∈ zws := zin3 (List.mem_of_getElem? (i := 113) rfl) rfl
set_option maxRecDepth 20000 in
theorem zw_645 : (.instanceMethod yX4_weighYes : Cond) ∈ zws := zin3 (List.mem_of_getElem? (i := 114) rfl) rfl
set_option maxRecDepth 20000 in
theorem zw_646 : (.selects RX4 yX4_weighYes yX4_weighYes : Cond) ∈ zws := zin3 (List.mem_of_getElem? (i := 115) rfl) rfl
set_option maxRecDepth 20000 in
theorem zw_647 : (.code yX4_weighYes cX4_weighYes (2) (none : Option Jvm.ClassFile.FieldType) : Cond) ∈ zws := zin3 (List.mem_of_getElem? (i := 116) rfl) rfl
set_option maxRecDepth 20000 in
theorem zw_648 : (.methodLink RX4 (22) yJ7_fill_d0a16 : Cond) ∈ zws := zin3 (List.mem_of_getElem? (i := 117) rfl) rfl
set_option maxRecDepth 20000 in
theorem zw_649 : (.methodLink RX4 (32) yX4_weighOne : Cond) ∈ zws := zin3 (List.mem_of_getElem? (i := 118) rfl) rfl
set_option maxRecDepth 20000 in
theorem zw_651 : (.instanceMethod yX4_weighOne : Cond) ∈ zws := zin3 (List.mem_of_getElem? (i := 120) rfl) rfl
set_option maxRecDepth 20000 in
theorem zw_652 : (.code yX4_weighOne cX4_weighOne (3) (none : Option Jvm.ClassFile.FieldType) : Cond) ∈ zws := zin3 (List.mem_of_getElem? (i := 121) rfl) rfl
set_option maxRecDepth 20000 in
theorem zw_653 : (.constantLong RX4 (36) (1000) : Cond) ∈ zws := zin3 (List.mem_of_getElem? (i := 122) rfl) rfl
set_option maxRecDepth 20000 in
theorem zw_654 : (.methodLink RX10 (277) yX4_fewerThan : Cond) ∈ zws := zin3 (List.mem_of_getElem? (i := 123) rfl) rfl
set_option maxRecDepth 20000 in
theorem zw_655 : (.instanceMethod yX4_fewerThan : Cond) ∈ zws := zin3 (List.mem_of_getElem? (i := 124) rfl) rfl
set_option maxRecDepth 20000 in
theorem zw_656 : (.selects RX4 yX4_fewerThan yX4_fewerThan : Cond) ∈ zws := zin3 (List.mem_of_getElem? (i := 125) rfl) rfl
set_option maxRecDepth 20000 in
theorem zw_657 : (.code yX4_fewerThan cX4_fewerThan (5) (some .long) : Cond) ∈ zws := zin3 (List.mem_of_getElem? (i := 126) rfl) rfl
set_option maxRecDepth 20000 in
theorem zw_658 : (.methodLink RL (106) yX10_again : Cond) ∈ zws := zin3 (List.mem_of_getElem? (i := 127) rfl) rfl
set_option maxRecDepth 20000 in
theorem zw_659 : (.instanceMethod yX10_again : Cond) ∈ zws := zin3 (List.mem_of_getElem? (i := 128) rfl) rfl
set_option maxRecDepth 20000 in
theorem zw_660 : (.selects RX10 yX10_again yX10_again : Cond) ∈ zws := zin3 (List.mem_of_getElem? (i := 129) rfl) rfl
set_option maxRecDepth 20000 in
theorem zw_661 : (.code yX10_again cX10_again (2) (some .int) : Cond) ∈ zws := zin3 (List.mem_of_getElem? (i := 130) rfl) rfl
set_option maxRecDepth 20000 in
theorem zw_662 : (.methodLink RX10 (282) yX4_bestSet : Cond) ∈ zws := zin3 (List.mem_of_getElem? (i := 131) rfl) rfl
set_option maxRecDepth 20000 in
theorem zw_663 : (.instanceMethod yX4_bestSet : Cond) ∈ zws := zin3 (List.mem_of_getElem? (i := 132) rfl) rfl
set_option maxRecDepth 20000 in
theorem zw_664 : (.selects RX4 yX4_bestSet yX4_bestSet : Cond) ∈ zws := zin3 (List.mem_of_getElem? (i := 133) rfl) rfl
set_option maxRecDepth 20000 in
theorem zw_665 : (.code yX4_bestSet cX4_bestSet (4) (some .int) : Cond) ∈ zws := zin3 (List.mem_of_getElem? (i := 134) rfl) rfl
set_option maxRecDepth 20000 in
theorem zw_666 : (.methodLink RX4 (38) yX4_minutesOf : Cond) ∈ zws := zin3 (List.mem_of_getElem? (i := 135) rfl) rfl
set_option maxRecDepth 20000 in
theorem zw_668 : (.instanceMethod yX4_minutesOf : Cond) ∈ zws := zin3 (List.mem_of_getElem? (i := 137) rfl) rfl
set_option maxRecDepth 20000 in
theorem zw_669 : (.code yX4_minutesOf cX4_minutesOf (4) (some .int) : Cond) ∈ zws := zin3 (List.mem_of_getElem? (i := 138) rfl) rfl
set_option maxRecDepth 20000 in
theorem zw_670 : (.methodLink RX4 (42) yX4_isBetter : Cond) ∈ zws := zin3 (List.mem_of_getElem? (i := 139) rfl) rfl
set_option maxRecDepth 20000 in
theorem zw_672 : (.instanceMethod yX4_isBetter : Cond) ∈ zws := zin3 (List.mem_of_getElem? (i := 141) rfl) rfl
set_option maxRecDepth 20000 in
theorem zw_673 : (.code yX4_isBetter cX4_isBetter (5) (some .boolean) : Cond) ∈ zws := zin3 (List.mem_of_getElem? (i := 142) rfl) rfl
set_option maxRecDepth 20000 in
theorem zw_674 : (.methodLink RX4 (46) yX4_gainOf : Cond) ∈ zws := zin3 (List.mem_of_getElem? (i := 143) rfl) rfl
set_option maxRecDepth 20000 in
theorem zw_676 : (.instanceMethod yX4_gainOf : Cond) ∈ zws := zin3 (List.mem_of_getElem? (i := 145) rfl) rfl
set_option maxRecDepth 20000 in
theorem zw_677 : (.code yX4_gainOf cX4_gainOf (4) (some .int) : Cond) ∈ zws := zin3 (List.mem_of_getElem? (i := 146) rfl) rfl
set_option maxRecDepth 20000 in
theorem zw_678 : (.methodLink RL (110) yX10_shifts : Cond) ∈ zws := zin3 (List.mem_of_getElem? (i := 147) rfl) rfl
set_option maxRecDepth 20000 in
theorem zw_679 : (.instanceMethod yX10_shifts : Cond) ∈ zws := zin3 (List.mem_of_getElem? (i := 148) rfl) rfl
set_option maxRecDepth 20000 in
theorem zw_680 : (.selects RX10 yX10_shifts yX10_shifts : Cond) ∈ zws := zin3 (List.mem_of_getElem? (i := 149) rfl) rfl
set_option maxRecDepth 20000 in
theorem zw_681 : (.code yX10_shifts cX10_shifts (6) (some .int) : Cond) ∈ zws := zin3 (List.mem_of_getElem? (i := 150) rfl) rfl
set_option maxRecDepth 20000 in
theorem zw_682 : (.methodLink RX10 (285) yX7_plan : Cond) ∈ zws := zin3 (List.mem_of_getElem? (i := 151) rfl) rfl
set_option maxRecDepth 20000 in
theorem zw_683 : (.instanceMethod yX7_plan : Cond) ∈ zws := zin3 (List.mem_of_getElem? (i := 152) rfl) rfl
set_option maxRecDepth 20000 in
theorem zw_684 : (.selects RX7 yX7_plan yX7_plan : Cond) ∈ zws := zin3 (List.mem_of_getElem? (i := 153) rfl) rfl
set_option maxRecDepth 20000 in
theorem zw_685 : (.code yX7_plan cX7_plan (7) (none : Option Jvm.ClassFile.FieldType) : Cond) ∈ zws := zin3 (List.mem_of_getElem? (i := 154) rfl) rfl
set_option maxRecDepth 20000 in
theorem zw_686 : (.constantLong RX7 (24) (9223372036854775807) : Cond) ∈ zws := zin3 (List.mem_of_getElem? (i := 155) rfl) rfl
set_option maxRecDepth 20000 in
theorem zw_687 : (.methodLink RX7 (26) yJ7_fill_d0a16 : Cond) ∈ zws := zin3 (List.mem_of_getElem? (i := 156) rfl) rfl
set_option maxRecDepth 20000 in
theorem zw_688 : (.methodLink RX7 (32) yX7_stateOf : Cond) ∈ zws := zin3 (List.mem_of_getElem? (i := 157) rfl) rfl
set_option maxRecDepth 20000 in
theorem zw_689 : (.static yX7_stateOf : Cond) ∈ zws := zin3 (List.mem_of_getElem? (i := 158) rfl) rfl
set_option maxRecDepth 20000 in
theorem zw_690 : (.code yX7_stateOf cX7_stateOf (3) (some .int) : Cond) ∈ zws := zin3 (List.mem_of_getElem? (i := 159) rfl) rfl
set_option maxRecDepth 20000 in
theorem zw_691 : (.methodLink RX7 (36) yX7_workMinute : Cond) ∈ zws := zin3 (List.mem_of_getElem? (i := 160) rfl) rfl
set_option maxRecDepth 20000 in
theorem zw_693 : (.instanceMethod yX7_workMinute : Cond) ∈ zws := zin3 (List.mem_of_getElem? (i := 162) rfl) rfl
set_option maxRecDepth 20000 in
theorem zw_694 : (.code yX7_workMinute cX7_workMinute (5) (none : Option Jvm.ClassFile.FieldType) : Cond) ∈ zws := zin3 (List.mem_of_getElem? (i := 163) rfl) rfl
set_option maxRecDepth 20000 in
theorem zw_695 : (.methodLink RX7 (50) yX7_workFirst : Cond) ∈ zws := zin3 (List.mem_of_getElem? (i := 164) rfl) rfl
set_option maxRecDepth 20000 in
theorem zw_697 : (.instanceMethod yX7_workFirst : Cond) ∈ zws := zin3 (List.mem_of_getElem? (i := 166) rfl) rfl
set_option maxRecDepth 20000 in
theorem zw_698 : (.code yX7_workFirst cX7_workFirst (7) (none : Option Jvm.ClassFile.FieldType) : Cond) ∈ zws := zin3 (List.mem_of_getElem? (i := 167) rfl) rfl
set_option maxRecDepth 20000 in
theorem zw_699 : (.methodLink RX7 (58) yX7_firstOf : Cond) ∈ zws := zin3 (List.mem_of_getElem? (i := 168) rfl) rfl
set_option maxRecDepth 20000 in
theorem zw_700 : (.static yX7_firstOf : Cond) ∈ zws := zin3 (List.mem_of_getElem? (i := 169) rfl) rfl
set_option maxRecDepth 20000 in
theorem zw_701 : (.code yX7_firstOf cX7_firstOf (1) (some .int) : Cond) ∈ zws := zin3 (List.mem_of_getElem? (i := 170) rfl) rfl
set_option maxRecDepth 20000 in
theorem zw_702 : (.methodLink RX7 (62) yX7_lastOf : Cond) ∈ zws := zin3 (List.mem_of_getElem? (i := 171) rfl) rfl
set_option maxRecDepth 20000 in
theorem zw_703 : (.static yX7_lastOf : Cond) ∈ zws := zin3 (List.mem_of_getElem? (i := 172) rfl) rfl
set_option maxRecDepth 20000 in
theorem zw_704 : (.code yX7_lastOf cX7_lastOf (1) (some .int) : Cond) ∈ zws := zin3 (List.mem_of_getElem? (i := 173) rfl) rfl
set_option maxRecDepth 20000 in
theorem zw_705 : (.methodLink RX7 (65) Lib.Math.min.name : Cond) ∈ zws := zin3 (List.mem_of_getElem? (i := 174) rfl) rfl
set_option maxRecDepth 20000 in
theorem zw_706 : (.methodLink RX7 (68) yX7_secondOf : Cond) ∈ zws := zin3 (List.mem_of_getElem? (i := 175) rfl) rfl
set_option maxRecDepth 20000 in
theorem zw_707 : (.static yX7_secondOf : Cond) ∈ zws := zin3 (List.mem_of_getElem? (i := 176) rfl) rfl
set_option maxRecDepth 20000 in
theorem zw_708 : (.code yX7_secondOf cX7_secondOf (1) (some .int) : Cond) ∈ zws := zin3 (List.mem_of_getElem? (i := 177) rfl) rfl
set_option maxRecDepth 20000 in
theorem zw_709 : (.methodLink RX7 (71) Lib.Math.max.name : Cond) ∈ zws := zin3 (List.mem_of_getElem? (i := 178) rfl) rfl
set_option maxRecDepth 20000 in
theorem zw_710 : (.static Lib.Math.max.name : Cond) ∈ zws := zin3 (List.mem_of_getElem? (i := 179) rfl) rfl
set_option maxRecDepth 20000 in
theorem zw_711 : (.code Lib.Math.max.name Lib.Math.max.code (2) (some .int) : Cond) ∈ zws := zin3 (List.mem_of_getElem? (i := 180) rfl) rfl
set_option maxRecDepth 20000 in
theorem zw_712 : (.methodLink RX7 (44) Lib.MathLoose.min_long.x : Cond) ∈ zws := zin3 (List.mem_of_getElem? (i := 181) rfl) rfl
set_option maxRecDepth 20000 in
theorem zw_713 : (.static Lib.MathLoose.min_long.x : Cond) ∈ zws := zin3 (List.mem_of_getElem? (i := 182) rfl) rfl
set_option maxRecDepth 20000 in
theorem zw_714 : (.code Lib.MathLoose.min_long.x Lib.MathLoose.min_long.code (4) (some .long) : Cond) ∈ zws := zin3 (List.mem_of_getElem? (i := 183) rfl) rfl
set_option maxRecDepth 20000 in
theorem zw_715 : (.methodLink RX7 (54) yX7_workSecond : Cond) ∈ zws := zin3 (List.mem_of_getElem? (i := 184) rfl) rfl
set_option maxRecDepth 20000 in
theorem zw_717 : (.instanceMethod yX7_workSecond : Cond) ∈ zws := zin3 (List.mem_of_getElem? (i := 186) rfl) rfl
set_option maxRecDepth 20000 in
theorem zw_718 : (.code yX7_workSecond cX7_workSecond (9) (none : Option Jvm.ClassFile.FieldType) : Cond) ∈ zws := zin3 (List.mem_of_getElem? (i := 187) rfl) rfl
set_option maxRecDepth 20000 in
theorem zw_719 : (.methodLink RX10 (289) yX7_cost : Cond) ∈ zws := zin3 (List.mem_of_getElem? (i := 188) rfl) rfl
set_option maxRecDepth 20000 in
theorem zw_720 : (.instanceMethod yX7_cost : Cond) ∈ zws := zin3 (List.mem_of_getElem? (i := 189) rfl) rfl
set_option maxRecDepth 20000 in
theorem zw_721 : (.selects RX7 yX7_cost yX7_cost : Cond) ∈ zws := zin3 (List.mem_of_getElem? (i := 190) rfl) rfl
set_option maxRecDepth 20000 in
theorem zw_722 : (.code yX7_cost cX7_cost (1) (some .int) : Cond) ∈ zws := zin3 (List.mem_of_getElem? (i := 191) rfl) rfl
set_option maxRecDepth 20000 in
theorem zw_723 : (.methodLink RX10 (292) yX7_worker : Cond) ∈ zws := zin3 (List.mem_of_getElem? (i := 192) rfl) rfl
set_option maxRecDepth 20000 in
theorem zw_724 : (.instanceMethod yX7_worker : Cond) ∈ zws := zin3 (List.mem_of_getElem? (i := 193) rfl) rfl
set_option maxRecDepth 20000 in
theorem zw_725 : (.selects RX7 yX7_worker yX7_worker : Cond) ∈ zws := zin3 (List.mem_of_getElem? (i := 194) rfl) rfl
set_option maxRecDepth 20000 in
theorem zw_726 : (.code yX7_worker cX7_worker (3) (some .int) : Cond) ∈ zws := zin3 (List.mem_of_getElem? (i := 195) rfl) rfl
set_option maxRecDepth 20000 in
theorem zw_727 : (.methodLink RL (114) yX10_booth : Cond) ∈ zws := zin3 (List.mem_of_getElem? (i := 196) rfl) rfl
set_option maxRecDepth 20000 in
theorem zw_728 : (.instanceMethod yX10_booth : Cond) ∈ zws := zin3 (List.mem_of_getElem? (i := 197) rfl) rfl
set_option maxRecDepth 20000 in
theorem zw_729 : (.selects RX10 yX10_booth yX10_booth : Cond) ∈ zws := zin3 (List.mem_of_getElem? (i := 198) rfl) rfl
set_option maxRecDepth 20000 in
theorem zw_730 : (.code yX10_booth cX10_booth (8) (some .int) : Cond) ∈ zws := zin3 (List.mem_of_getElem? (i := 199) rfl) rfl
set_option maxRecDepth 20000 in
theorem zw_731 : (.methodLink RX10 (295) yX0_isEachOnce : Cond) ∈ zws := zin3 (List.mem_of_getElem? (i := 200) rfl) rfl
set_option maxRecDepth 20000 in
theorem zw_732 : (.static yX0_isEachOnce : Cond) ∈ zws := zin3 (List.mem_of_getElem? (i := 201) rfl) rfl
set_option maxRecDepth 20000 in
theorem zw_733 : (.code yX0_isEachOnce cX0_isEachOnce (5) (some .boolean) : Cond) ∈ zws := zin3 (List.mem_of_getElem? (i := 202) rfl) rfl
set_option maxRecDepth 20000 in
theorem zw_734 : (.methodLink RX10 (298) yX0_work : Cond) ∈ zws := zin3 (List.mem_of_getElem? (i := 203) rfl) rfl
set_option maxRecDepth 20000 in
theorem zw_735 : (.instanceMethod yX0_work : Cond) ∈ zws := zin3 (List.mem_of_getElem? (i := 204) rfl) rfl
set_option maxRecDepth 20000 in
theorem zw_736 : (.selects RX0 yX0_work yX0_work : Cond) ∈ zws := zin3 (List.mem_of_getElem? (i := 205) rfl) rfl
set_option maxRecDepth 20000 in
theorem zw_737 : (.code yX0_work cX0_work (7) (none : Option Jvm.ClassFile.FieldType) : Cond) ∈ zws := zin3 (List.mem_of_getElem? (i := 206) rfl) rfl
set_option maxRecDepth 20000 in
theorem zw_738 : (.methodLink RX0 (19) Lib.Math.max.name : Cond) ∈ zws := zin3 (List.mem_of_getElem? (i := 207) rfl) rfl
set_option maxRecDepth 20000 in
theorem zw_739 : (.methodLink RX0 (25) Lib.Math.min.name : Cond) ∈ zws := zin3 (List.mem_of_getElem? (i := 208) rfl) rfl
set_option maxRecDepth 20000 in
theorem zw_740 : (.methodLink RL (118) yX10_sheet : Cond) ∈ zws := zin3 (List.mem_of_getElem? (i := 209) rfl) rfl
set_option maxRecDepth 20000 in
theorem zw_741 : (.instanceMethod yX10_sheet : Cond) ∈ zws := zin3 (List.mem_of_getElem? (i := 210) rfl) rfl
set_option maxRecDepth 20000 in
theorem zw_742 : (.selects RX10 yX10_sheet yX10_sheet : Cond) ∈ zws := zin3 (List.mem_of_getElem? (i := 211) rfl) rfl
set_option maxRecDepth 20000 in
theorem zw_743 : (.code yX10_sheet cX10_sheet (5) (some .int) : Cond) ∈ zws := zin3 (List.mem_of_getElem? (i := 212) rfl) rfl
set_option maxRecDepth 20000 in
theorem zw_744 : (.methodLink RX10 (310) yX6_renew : Cond) ∈ zws := zin3 (List.mem_of_getElem? (i := 213) rfl) rfl
set_option maxRecDepth 20000 in
theorem zw_745 : (.instanceMethod yX6_renew : Cond) ∈ zws := zin3 (List.mem_of_getElem? (i := 214) rfl) rfl
set_option maxRecDepth 20000 in
theorem zw_746 : (.selects RX6 yX6_renew yX6_renew : Cond) ∈ zws := zin3 (List.mem_of_getElem? (i := 215) rfl) rfl
set_option maxRecDepth 20000 in
theorem zw_747 : (.code yX6_renew cX6_renew (4) (none : Option Jvm.ClassFile.FieldType) : Cond) ∈ zws := zin3 (List.mem_of_getElem? (i := 216) rfl) rfl
set_option maxRecDepth 20000 in
theorem zw_748 : (.methodLink RL (122) yX10_lose : Cond) ∈ zws := zin3 (List.mem_of_getElem? (i := 217) rfl) rfl
set_option maxRecDepth 20000 in
theorem zw_749 : (.instanceMethod yX10_lose : Cond) ∈ zws := zin3 (List.mem_of_getElem? (i := 218) rfl) rfl
set_option maxRecDepth 20000 in
theorem zw_750 : (.selects RX10 yX10_lose yX10_lose : Cond) ∈ zws := zin3 (List.mem_of_getElem? (i := 219) rfl) rfl
set_option maxRecDepth 20000 in
theorem zw_751 : (.code yX10_lose cX10_lose (2) (some .int) : Cond) ∈ zws := zin3 (List.mem_of_getElem? (i := 220) rfl) rfl
set_option maxRecDepth 20000 in
theorem zw_752 : (.methodLink RX10 (314) yX6_drop : Cond) ∈ zws := zin3 (List.mem_of_getElem? (i := 221) rfl) rfl
set_option maxRecDepth 20000 in
theorem zw_753 : (.instanceMethod yX6_drop : Cond) ∈ zws := zin3 (List.mem_of_getElem? (i := 222) rfl) rfl
set_option maxRecDepth 20000 in
theorem zw_754 : (.selects RX6 yX6_drop yX6_drop : Cond) ∈ zws := zin3 (List.mem_of_getElem? (i := 223) rfl) rfl
set_option maxRecDepth 20000 in
theorem zw_755 : (.code yX6_drop cX6_drop (3) (some .boolean) : Cond) ∈ zws := zin3 (List.mem_of_getElem? (i := 224) rfl) rfl
set_option maxRecDepth 20000 in
theorem zw_756 : (.methodLink RL (126) yX10_put : Cond) ∈ zws := zin3 (List.mem_of_getElem? (i := 225) rfl) rfl
set_option maxRecDepth 20000 in
theorem zw_757 : (.instanceMethod yX10_put : Cond) ∈ zws := zin3 (List.mem_of_getElem? (i := 226) rfl) rfl
set_option maxRecDepth 20000 in
theorem zw_758 : (.selects RX10 yX10_put yX10_put : Cond) ∈ zws := zin3 (List.mem_of_getElem? (i := 227) rfl) rfl
set_option maxRecDepth 20000 in
theorem zw_759 : (.code yX10_put cX10_put (5) (some .int) : Cond) ∈ zws := zin3 (List.mem_of_getElem? (i := 228) rfl) rfl
set_option maxRecDepth 20000 in
theorem zw_760 : (.methodLink RX10 (317) yX6_faultOfCell : Cond) ∈ zws := zin3 (List.mem_of_getElem? (i := 229) rfl) rfl
set_option maxRecDepth 20000 in
theorem zw_761 : (.instanceMethod yX6_faultOfCell : Cond) ∈ zws := zin3 (List.mem_of_getElem? (i := 230) rfl) rfl
set_option maxRecDepth 20000 in
theorem zw_762 : (.selects RX6 yX6_faultOfCell yX6_faultOfCell : Cond) ∈ zws := zin3 (List.mem_of_getElem? (i := 231) rfl) rfl
set_option maxRecDepth 20000 in
theorem zw_763 : (.code yX6_faultOfCell cX6_faultOfCell (3) (some .int) : Cond) ∈ zws := zin3 (List.mem_of_getElem? (i := 232) rfl) rfl
set_option maxRecDepth 20000 in
theorem zw_764 : (.methodLink RX10 (320) yX6_write : Cond) ∈ zws := zin3 (List.mem_of_getElem? (i := 233) rfl) rfl
set_option maxRecDepth 20000 in
theorem zw_765 : (.instanceMethod yX6_write : Cond) ∈ zws := zin3 (List.mem_of_getElem? (i := 234) rfl) rfl
set_option maxRecDepth 20000 in
theorem zw_766 : (.selects RX6 yX6_write yX6_write : Cond) ∈ zws := zin3 (List.mem_of_getElem? (i := 235) rfl) rfl
set_option maxRecDepth 20000 in
theorem zw_767 : (.code yX6_write cX6_write (4) (none : Option Jvm.ClassFile.FieldType) : Cond) ∈ zws := zin3 (List.mem_of_getElem? (i := 236) rfl) rfl
set_option maxRecDepth 20000 in
theorem zw_768 : (.methodLink RL (130) yX10_cell : Cond) ∈ zws := zin3 (List.mem_of_getElem? (i := 237) rfl) rfl
set_option maxRecDepth 20000 in
theorem zw_769 : (.instanceMethod yX10_cell : Cond) ∈ zws := zin3 (List.mem_of_getElem? (i := 238) rfl) rfl
set_option maxRecDepth 20000 in
theorem zw_770 : (.selects RX10 yX10_cell yX10_cell : Cond) ∈ zws := zin3 (List.mem_of_getElem? (i := 239) rfl) rfl
set_option maxRecDepth 20000 in
theorem zw_771 : (.code yX10_cell cX10_cell (5) (some .long) : Cond) ∈ zws := zin4 (List.mem_of_getElem? (i := 0) rfl) rfl
set_option maxRecDepth 20000 in
theorem zw_772 : (.methodLink RX10 (323) yX6_isOtherSort : Cond) ∈ zws := zin4 (List.mem_of_getElem? (i := 1) rfl) rfl
set_option maxRecDepth 20000 in
theorem zw_773 : (.methodLink RL (134) yX10_copy : Cond) ∈ zws := zin4 (List.mem_of_getElem? (i := 2) rfl) rfl
set_option maxRecDepth 20000 in
theorem zw_774 : (.instanceMethod yX10_copy : Cond) ∈ zws := zin4 (List.mem_of_getElem? (i := 3) rfl) rfl
set_option maxRecDepth 20000 in
theorem zw_775 : (.selects RX10 yX10_copy yX10_copy : Cond) ∈ zws := zin4 (List.mem_of_getElem? (i := 4) rfl) rfl
set_option maxRecDepth 20000 in
theorem zw_776 : (.code yX10_copy cX10_copy (7) (some .int) : Cond) ∈ zws := zin4 (List.mem_of_getElem? (i := 5) rfl) rfl
set_option maxRecDepth 20000 in
theorem zw_777 : (.methodLink RX10 (327) yX6_faultOfCopy : Cond) ∈ zws := zin4 (List.mem_of_getElem? (i := 6) rfl) rfl
set_option maxRecDepth 20000 in
theorem zw_778 : (.instanceMethod yX6_faultOfCopy : Cond) ∈ zws := zin4 (List.mem_of_getElem? (i := 7) rfl) rfl
set_option maxRecDepth 20000 in
theorem zw_779 : (.selects RX6 yX6_faultOfCopy yX6_faultOfCopy : Cond) ∈ zws := zin4 (List.mem_of_getElem? (i := 8) rfl) rfl
set_option maxRecDepth 20000 in
theorem zw_780 : (.code yX6_faultOfCopy cX6_faultOfCopy (6) (some .int) : Cond) ∈ zws := zin4 (List.mem_of_getElem? (i := 9) rfl) rfl
set_option maxRecDepth 20000 in
theorem zw_781 : (.methodLink RX10 (331) arraycopyName : Cond) ∈ zws := zin4 (List.mem_of_getElem? (i := 10) rfl) rfl
set_option maxRecDepth 20000 in
theorem zw_782 : (.static arraycopyName : Cond) ∈ zws := zin4 (List.mem_of_getElem? (i := 11) rfl) rfl
set_option maxRecDepth 20000 in
theorem zw_783 : (.native arraycopyName : Cond) ∈ zws := zin4 (List.mem_of_getElem? (i := 12) rfl) rfl
set_option maxRecDepth 20000 in
theorem zw_784 : (.methodLink RL (138) yX10_tell : Cond) ∈ zws := zin4 (List.mem_of_getElem? (i := 13) rfl) rfl
set_option maxRecDepth 20000 in
theorem zw_785 : (.instanceMethod yX10_tell : Cond) ∈ zws := zin4 (List.mem_of_getElem? (i := 14) rfl) rfl
set_option maxRecDepth 20000 in
theorem zw_786 : (.selects RX10 yX10_tell yX10_tell : Cond) ∈ zws := zin4 (List.mem_of_getElem? (i := 15) rfl) rfl
set_option maxRecDepth 20000 in
theorem zw_787 : (.code yX10_tell cX10_tell (2) (some .int) : Cond) ∈ zws := zin4 (List.mem_of_getElem? (i := 16) rfl) rfl
set_option maxRecDepth 20000 in
theorem zw_788 : (.methodLink RX10 (337) yX2_told : Cond) ∈ zws := zin4 (List.mem_of_getElem? (i := 17) rfl) rfl
set_option maxRecDepth 20000 in
theorem zw_789 : (.instanceMethod yX2_told : Cond) ∈ zws := zin4 (List.mem_of_getElem? (i := 18) rfl) rfl
set_option maxRecDepth 20000 in
theorem zw_790 : (.selects RX2 yX2_told yX2_told : Cond) ∈ zws := zin4 (List.mem_of_getElem? (i := 19) rfl) rfl
set_option maxRecDepth 20000 in
theorem zw_791 : (.code yX2_told cX2_told (2) (some .int) : Cond) ∈ zws := zin4 (List.mem_of_getElem? (i := 20) rfl) rfl
set_option maxRecDepth 20000 in
theorem zw_792 : (.methodLink RX2 (26) yX2_toldBySworn : Cond) ∈ zws := zin4 (List.mem_of_getElem? (i := 21) rfl) rfl
set_option maxRecDepth 20000 in
theorem zw_794 : (.instanceMethod yX2_toldBySworn : Cond) ∈ zws := zin4 (List.mem_of_getElem? (i := 23) rfl) rfl
set_option maxRecDepth 20000 in
theorem zw_795 : (.code yX2_toldBySworn cX2_toldBySworn (3) (some .int) : Cond) ∈ zws := zin4 (List.mem_of_getElem? (i := 24) rfl) rfl
set_option maxRecDepth 20000 in
theorem zw_796 : (.methodLink RX2 (36) yX2_mark : Cond) ∈ zws := zin4 (List.mem_of_getElem? (i := 25) rfl) rfl
set_option maxRecDepth 20000 in
theorem zw_798 : (.instanceMethod yX2_mark : Cond) ∈ zws := zin4 (List.mem_of_getElem? (i := 27) rfl) rfl
set_option maxRecDepth 20000 in
theorem zw_799 : (.code yX2_mark cX2_mark (2) (none : Option Jvm.ClassFile.FieldType) : Cond) ∈ zws := zin4 (List.mem_of_getElem? (i := 28) rfl) rfl
set_option maxRecDepth 20000 in
theorem zw_800 : (.methodLink RX2 (30) yX2_toldByTrained : Cond) ∈ zws := zin4 (List.mem_of_getElem? (i := 29) rfl) rfl
set_option maxRecDepth 20000 in
theorem zw_802 : (.instanceMethod yX2_toldByTrained : Cond) ∈ zws := zin4 (List.mem_of_getElem? (i := 31) rfl) rfl
set_option maxRecDepth 20000 in
theorem zw_803 : (.code yX2_toldByTrained cX2_toldByTrained (2) (some .int) : Cond) ∈ zws := zin4 (List.mem_of_getElem? (i := 32) rfl) rfl
set_option maxRecDepth 20000 in
theorem zw_804 : (.methodLink RX2 (33) yX2_toldByKin : Cond) ∈ zws := zin4 (List.mem_of_getElem? (i := 33) rfl) rfl
set_option maxRecDepth 20000 in
theorem zw_806 : (.instanceMethod yX2_toldByKin : Cond) ∈ zws := zin4 (List.mem_of_getElem? (i := 35) rfl) rfl
set_option maxRecDepth 20000 in
theorem zw_807 : (.code yX2_toldByKin cX2_toldByKin (2) (some .int) : Cond) ∈ zws := zin4 (List.mem_of_getElem? (i := 36) rfl) rfl
set_option maxRecDepth 20000 in
theorem zw_808 : (.methodLink RL (142) yX10_pay : Cond) ∈ zws := zin4 (List.mem_of_getElem? (i := 37) rfl) rfl
set_option maxRecDepth 20000 in
theorem zw_809 : (.instanceMethod yX10_pay : Cond) ∈ zws := zin4 (List.mem_of_getElem? (i := 38) rfl) rfl
set_option maxRecDepth 20000 in
theorem zw_810 : (.selects RX10 yX10_pay yX10_pay : Cond) ∈ zws := zin4 (List.mem_of_getElem? (i := 39) rfl) rfl
set_option maxRecDepth 20000 in
theorem zw_811 : (.code yX10_pay cX10_pay (2) (some .int) : Cond) ∈ zws := zin4 (List.mem_of_getElem? (i := 40) rfl) rfl
set_option maxRecDepth 20000 in
theorem zw_812 : (.methodLink RX10 (340) yX2_paid : Cond) ∈ zws := zin4 (List.mem_of_getElem? (i := 41) rfl) rfl
set_option maxRecDepth 20000 in
theorem zw_813 : (.instanceMethod yX2_paid : Cond) ∈ zws := zin4 (List.mem_of_getElem? (i := 42) rfl) rfl
set_option maxRecDepth 20000 in
theorem zw_814 : (.selects RX2 yX2_paid yX2_paid : Cond) ∈ zws := zin4 (List.mem_of_getElem? (i := 43) rfl) rfl
set_option maxRecDepth 20000 in
theorem zw_815 : (.code yX2_paid cX2_paid (2) (some .int) : Cond) ∈ zws := zin4 (List.mem_of_getElem? (i := 44) rfl) rfl
set_option maxRecDepth 20000 in
theorem zw_816 : (.methodLink RL (146) yX10_as : Cond) ∈ zws := zin4 (List.mem_of_getElem? (i := 45) rfl) rfl
set_option maxRecDepth 20000 in
theorem zw_817 : (.instanceMethod yX10_as : Cond) ∈ zws := zin4 (List.mem_of_getElem? (i := 46) rfl) rfl
set_option maxRecDepth 20000 in
theorem zw_818 : (.selects RX10 yX10_as yX10_as : Cond) ∈ zws := zin4 (List.mem_of_getElem? (i := 47) rfl) rfl
set_option maxRecDepth 20000 in
theorem zw_819 : (.code yX10_as cX10_as (3) (some .int) : Cond) ∈ zws := zin4 (List.mem_of_getElem? (i := 48) rfl) rfl
set_option maxRecDepth 20000 in
theorem zw_820 : (.methodLink RL (150) yX10_trace : Cond) ∈ zws := zin4 (List.mem_of_getElem? (i := 49) rfl) rfl
set_option maxRecDepth 20000 in
theorem zw_821 : (.instanceMethod yX10_trace : Cond) ∈ zws := zin4 (List.mem_of_getElem? (i := 50) rfl) rfl
set_option maxRecDepth 20000 in
theorem zw_822 : (.selects RX10 yX10_trace yX10_trace : Cond) ∈ zws := zin4 (List.mem_of_getElem? (i := 51) rfl) rfl
set_option maxRecDepth 20000 in
theorem zw_823 : (.code yX10_trace cX10_trace (1) (some .int) : Cond) ∈ zws := zin4 (List.mem_of_getElem? (i := 52) rfl) rfl
set_option maxRecDepth 20000 in
theorem zw_824 : (.methodLink RL (155) yX10_fault : Cond) ∈ zws := zin4 (List.mem_of_getElem? (i := 53) rfl) rfl
set_option maxRecDepth 20000 in
theorem zw_825 : (.instanceMethod yX10_fault : Cond) ∈ zws := zin4 (List.mem_of_getElem? (i := 54) rfl) rfl
set_option maxRecDepth 20000 in
theorem zw_826 : (.selects RX10 yX10_fault yX10_fault : Cond) ∈ zws := zin4 (List.mem_of_getElem? (i := 55) rfl) rfl
set_option maxRecDepth 20000 in
theorem zw_827 : (.code yX10_fault cX10_fault (1) (some .int) : Cond) ∈ zws := zin4 (List.mem_of_getElem? (i := 56) rfl) rfl
set_option maxRecDepth 20000 in
theorem zw_828 : (.methodLink RL (159) yX10_many : Cond) ∈ zws := zin4 (List.mem_of_getElem? (i := 57) rfl) rfl
set_option maxRecDepth 20000 in
theorem zw_829 : (.instanceMethod yX10_many : Cond) ∈ zws := zin4 (List.mem_of_getElem? (i := 58) rfl) rfl
set_option maxRecDepth 20000 in
theorem zw_830 : (.selects RX10 yX10_many yX10_many : Cond) ∈ zws := zin4 (List.mem_of_getElem? (i := 59) rfl) rfl
set_option maxRecDepth 20000 in
theorem zw_831 : (.code yX10_many cX10_many (2) (some .int) : Cond) ∈ zws := zin4 (List.mem_of_getElem? (i := 60) rfl) rfl
set_option maxRecDepth 20000 in
theorem zv_832 : (.classLink RL (10) RX11 : Cond) ∈ lw_tbl := zil4 (List.mem_of_getElem? (i := 61) rfl)
set_option maxRecDepth 20000 in
theorem zv_833 : (.instantiable RX11 (28) : Cond) ∈ lw_tbl := zil4 (List.mem_of_getElem? (i := 62) rfl)
set_option maxRecDepth 20000 in
theorem zw_834 : (.methodLink RL (12) yX11_init : Cond) ∈ zws := zin4 (List.mem_of_getElem? (i := 63) rfl) rfl
set_option maxRecDepth 20000 in
theorem zw_835 : (.instanceMethod yX11_init : Cond) ∈ zws := zin4 (List.mem_of_getElem? (i := 64) rfl) rfl
set_option maxRecDepth 20000 in
theorem zw_836 : (.code yX11_init cX11_init (1) (none : Option Jvm.ClassFile.FieldType) : Cond) ∈ zws := zin4 (List.mem_of_getElem? (i := 65) rfl) rfl
set_option maxRecDepth 20000 in
theorem zw_837 : (.methodLink RX11 (1) objectInit : Cond) ∈ zws := zin4 (List.mem_of_getElem? (i := 66) rfl) rfl
set_option maxRecDepth 20000 in
theorem zw_838 : (.fieldLink RX11 (65) "ToldOverModel" "fault" "I" : Cond) ∈ zws := zin4 (List.mem_of_getElem? (i := 67) rfl) rfl
set_option maxRecDepth 20000 in
theorem zw_839 : (.fieldLink RX11 (230) "ToldOverModel" "trace" "I" : Cond) ∈ zws := zin4 (List.mem_of_getElem? (i := 68) rfl) rfl
set_option maxRecDepth 20000 in
theorem zw_840 : (.fieldLink RX11 (9) "ToldOverModel" "sorts" "[I" : Cond) ∈ zws := zin4 (List.mem_of_getElem? (i := 69) rfl) rfl
set_option maxRecDepth 20000 in
theorem zw_841 : (.fieldLink RX11 (13) "ToldOverModel" "sheetLong" "[I" : Cond) ∈ zws := zin4 (List.mem_of_getElem? (i := 70) rfl) rfl
set_option maxRecDepth 20000 in
theorem zw_842 : (.fieldLink RX11 (16) "ToldOverModel" "cells" "[I" : Cond) ∈ zws := zin4 (List.mem_of_getElem? (i := 71) rfl) rfl
set_option maxRecDepth 20000 in
theorem zw_843 : (.fieldLink RX11 (75) "ToldOverModel" "words" "I" : Cond) ∈ zws := zin4 (List.mem_of_getElem? (i := 72) rfl) rfl
set_option maxRecDepth 20000 in
theorem zw_844 : (.fieldLink RX11 (19) "ToldOverModel" "table" "[I" : Cond) ∈ zws := zin4 (List.mem_of_getElem? (i := 73) rfl) rfl
set_option maxRecDepth 20000 in
theorem zw_845 : (.fieldLink RX11 (78) "ToldOverModel" "at" "I" : Cond) ∈ zws := zin4 (List.mem_of_getElem? (i := 74) rfl) rfl
set_option maxRecDepth 20000 in
theorem zw_846 : (.fieldLink RX11 (99) "ToldOverModel" "readWords" "I" : Cond) ∈ zws := zin4 (List.mem_of_getElem? (i := 75) rfl) rfl
set_option maxRecDepth 20000 in
theorem zw_847 : (.fieldLink RX11 (174) "ToldOverModel" "readPlease" "I" : Cond) ∈ zws := zin4 (List.mem_of_getElem? (i := 76) rfl) rfl
set_option maxRecDepth 20000 in
theorem zw_848 : (.fieldLink RX11 (22) "ToldOverModel" "readTable" "[I" : Cond) ∈ zws := zin4 (List.mem_of_getElem? (i := 77) rfl) rfl
set_option maxRecDepth 20000 in
theorem zw_849 : (.fieldLink RX11 (142) "ToldOverModel" "interpreters" "I" : Cond) ∈ zws := zin4 (List.mem_of_getElem? (i := 78) rfl) rfl
set_option maxRecDepth 20000 in
theorem zw_850 : (.fieldLink RX11 (25) "ToldOverModel" "kinds" "[I" : Cond) ∈ zws := zin4 (List.mem_of_getElem? (i := 79) rfl) rfl
set_option maxRecDepth 20000 in
theorem zw_851 : (.fieldLink RX11 (28) "ToldOverModel" "tired" "[I" : Cond) ∈ zws := zin4 (List.mem_of_getElem? (i := 80) rfl) rfl
set_option maxRecDepth 20000 in
theorem zw_852 : (.fieldLink RX11 (31) "ToldOverModel" "spread" "[J" : Cond) ∈ zws := zin4 (List.mem_of_getElem? (i := 81) rfl) rfl
set_option maxRecDepth 20000 in
theorem zw_853 : (.fieldLink RX11 (35) "ToldOverModel" "spreadOn" "[J" : Cond) ∈ zws := zin4 (List.mem_of_getElem? (i := 82) rfl) rfl
set_option maxRecDepth 20000 in
theorem zw_854 : (.fieldLink RX11 (102) "ToldOverModel" "isWitness" "Z" : Cond) ∈ zws := zin4 (List.mem_of_getElem? (i := 83) rfl) rfl
set_option maxRecDepth 20000 in
theorem zw_855 : (.fieldLink RX11 (106) "ToldOverModel" "please" "I" : Cond) ∈ zws := zin4 (List.mem_of_getElem? (i := 84) rfl) rfl
set_option maxRecDepth 20000 in
theorem zw_856 : (.fieldLink RX11 (38) "ToldOverModel" "speech" "[I" : Cond) ∈ zws := zin4 (List.mem_of_getElem? (i := 85) rfl) rfl
set_option maxRecDepth 20000 in
theorem zw_857 : (.fieldLink RX11 (109) "ToldOverModel" "turns" "I" : Cond) ∈ zws := zin4 (List.mem_of_getElem? (i := 86) rfl) rfl
set_option maxRecDepth 20000 in
theorem zw_858 : (.fieldLink RX11 (41) "ToldOverModel" "turnBy" "[I" : Cond) ∈ zws := zin4 (List.mem_of_getElem? (i := 87) rfl) rfl
set_option maxRecDepth 20000 in
theorem zw_859 : (.fieldLink RX11 (44) "ToldOverModel" "turnWord" "[I" : Cond) ∈ zws := zin4 (List.mem_of_getElem? (i := 88) rfl) rfl
set_option maxRecDepth 20000 in
theorem zw_860 : (.fieldLink RX11 (47) "ToldOverModel" "turnHeard" "[I" : Cond) ∈ zws := zin4 (List.mem_of_getElem? (i := 89) rfl) rfl
set_option maxRecDepth 20000 in
theorem zw_861 : (.fieldLink RX11 (50) "ToldOverModel" "turnStake" "[I" : Cond) ∈ zws := zin4 (List.mem_of_getElem? (i := 90) rfl) rfl
set_option maxRecDepth 20000 in
theorem zw_862 : (.fieldLink RX11 (53) "ToldOverModel" "turnMinutes" "[I" : Cond) ∈ zws := zin4 (List.mem_of_getElem? (i := 91) rfl) rfl
set_option maxRecDepth 20000 in
theorem zw_863 : (.fieldLink RX11 (56) "ToldOverModel" "trues" "[J" : Cond) ∈ zws := zin4 (List.mem_of_getElem? (i := 92) rfl) rfl
set_option maxRecDepth 20000 in
theorem zw_864 : (.fieldLink RX11 (59) "ToldOverModel" "least" "[I" : Cond) ∈ zws := zin4 (List.mem_of_getElem? (i := 93) rfl) rfl
set_option maxRecDepth 20000 in
theorem zw_865 : (.fieldLink RX11 (62) "ToldOverModel" "saidIn" "[I" : Cond) ∈ zws := zin4 (List.mem_of_getElem? (i := 94) rfl) rfl
set_option maxRecDepth 20000 in
theorem zw_923 : (.methodLink RL (17) yX11_tongues : Cond) ∈ zws := zin4 (List.mem_of_getElem? (i := 152) rfl) rfl
set_option maxRecDepth 20000 in
theorem zw_924 : (.instanceMethod yX11_tongues : Cond) ∈ zws := zin4 (List.mem_of_getElem? (i := 153) rfl) rfl
set_option maxRecDepth 20000 in
theorem zw_925 : (.selects RX11 yX11_tongues yX11_tongues : Cond) ∈ zws := zin4 (List.mem_of_getElem? (i := 154) rfl) rfl
set_option maxRecDepth 20000 in
theorem zw_926 : (.code yX11_tongues cX11_tongues (8) (some .int) : Cond) ∈ zws := zin4 (List.mem_of_getElem? (i := 155) rfl) rfl
set_option maxRecDepth 20000 in
theorem zw_927 : (.methodLink RX11 (81) yX11_isSheet : Cond) ∈ zws := zin4 (List.mem_of_getElem? (i := 156) rfl) rfl
set_option maxRecDepth 20000 in
theorem zw_928 : (.static yX11_isSheet : Cond) ∈ zws := zin4 (List.mem_of_getElem? (i := 157) rfl) rfl
set_option maxRecDepth 20000 in
theorem zw_929 : (.code yX11_isSheet cX11_isSheet (1) (some .boolean) : Cond) ∈ zws := zin4 (List.mem_of_getElem? (i := 158) rfl) rfl
set_option maxRecDepth 20000 in
theorem zw_930 : (.methodLink RX11 (71) yX11_within : Cond) ∈ zws := zin4 (List.mem_of_getElem? (i := 159) rfl) rfl
set_option maxRecDepth 20000 in
theorem zw_931 : (.static yX11_within : Cond) ∈ zws := zin4 (List.mem_of_getElem? (i := 160) rfl) rfl
set_option maxRecDepth 20000 in
theorem zw_932 : (.code yX11_within cX11_within (3) (some .boolean) : Cond) ∈ zws := zin4 (List.mem_of_getElem? (i := 161) rfl) rfl
set_option maxRecDepth 20000 in
theorem zw_933 : (.methodLink RX11 (85) yX11_isSort : Cond) ∈ zws := zin4 (List.mem_of_getElem? (i := 162) rfl) rfl
set_option maxRecDepth 20000 in
theorem zw_934 : (.static yX11_isSort : Cond) ∈ zws := zin4 (List.mem_of_getElem? (i := 163) rfl) rfl
set_option maxRecDepth 20000 in
theorem zw_935 : (.code yX11_isSort cX11_isSort (1) (some .boolean) : Cond) ∈ zws := zin4 (List.mem_of_getElem? (i := 164) rfl) rfl
set_option maxRecDepth 20000 in
theorem zw_936 : (.methodLink RX11 (88) yX11_against : Cond) ∈ zws := zin4 (List.mem_of_getElem? (i := 165) rfl) rfl
set_option maxRecDepth 20000 in
theorem zw_938 : (.instanceMethod yX11_against : Cond) ∈ zws := zin4 (List.mem_of_getElem? (i := 167) rfl) rfl
set_option maxRecDepth 20000 in
theorem zw_939 : (.code yX11_against cX11_against (5) (some .int) : Cond) ∈ zws := zin4 (List.mem_of_getElem? (i := 168) rfl) rfl
set_option maxRecDepth 20000 in
theorem zw_940 : (.methodLink RX11 (92) yX11_fails : Cond) ∈ zws := zin4 (List.mem_of_getElem? (i := 169) rfl) rfl
set_option maxRecDepth 20000 in
theorem zw_942 : (.instanceMethod yX11_fails : Cond) ∈ zws := zin4 (List.mem_of_getElem? (i := 171) rfl) rfl
set_option maxRecDepth 20000 in
theorem zw_943 : (.code yX11_fails cX11_fails (2) (some .int) : Cond) ∈ zws := zin4 (List.mem_of_getElem? (i := 172) rfl) rfl
set_option maxRecDepth 20000 in
theorem zw_944 : (.methodLink RX11 (96) yX11_readTongues : Cond) ∈ zws := zin4 (List.mem_of_getElem? (i := 173) rfl) rfl
set_option maxRecDepth 20000 in
theorem zw_946 : (.instanceMethod yX11_readTongues : Cond) ∈ zws := zin4 (List.mem_of_getElem? (i := 175) rfl) rfl
set_option maxRecDepth 20000 in
theorem zw_947 : (.code yX11_readTongues cX11_readTongues (2) (some .boolean) : Cond) ∈ zws := zin4 (List.mem_of_getElem? (i := 176) rfl) rfl
set_option maxRecDepth 20000 in
theorem zw_948 : (.methodLink RX11 (112) yX11_isCode : Cond) ∈ zws := zin4 (List.mem_of_getElem? (i := 177) rfl) rfl
set_option maxRecDepth 20000 in
theorem zw_950 : (.instanceMethod yX11_isCode : Cond) ∈ zws := zin4 (List.mem_of_getElem? (i := 179) rfl) rfl
set_option maxRecDepth 20000 in
theorem zw_951 : (.code yX11_isCode cX11_isCode (3) (some .boolean) : Cond) ∈ zws := zin4 (List.mem_of_getElem? (i := 180) rfl) rfl
set_option maxRecDepth 20000 in
theorem zw_952 : (.methodLink RX11 (116) yX11_digitAt : Cond) ∈ zws := zin4 (List.mem_of_getElem? (i := 181) rfl) rfl
set_option maxRecDepth 20000 in
theorem zw_954 : (.instanceMethod yX11_digitAt : Cond) ∈ zws := zin4 (List.mem_of_getElem? (i := 183) rfl) rfl
set_option maxRecDepth 20000 in
theorem zw_955 : (.code yX11_digitAt cX11_digitAt (3) (some .int) : Cond) ∈ zws := zin4 (List.mem_of_getElem? (i := 184) rfl) rfl
set_option maxRecDepth 20000 in
theorem zw_956 : (.methodLink RX11 (120) yX11_readRows : Cond) ∈ zws := zin4 (List.mem_of_getElem? (i := 185) rfl) rfl
set_option maxRecDepth 20000 in
theorem zw_958 : (.instanceMethod yX11_readRows : Cond) ∈ zws := zin4 (List.mem_of_getElem? (i := 187) rfl) rfl
set_option maxRecDepth 20000 in
theorem zw_959 : (.code yX11_readRows cX11_readRows (8) (some .boolean) : Cond) ∈ zws := zin4 (List.mem_of_getElem? (i := 188) rfl) rfl
set_option maxRecDepth 20000 in
theorem zw_960 : (.methodLink RL (22) yX11_becomes : Cond) ∈ zws := zin4 (List.mem_of_getElem? (i := 189) rfl) rfl
set_option maxRecDepth 20000 in
theorem zw_961 : (.instanceMethod yX11_becomes : Cond) ∈ zws := zin4 (List.mem_of_getElem? (i := 190) rfl) rfl
set_option maxRecDepth 20000 in
theorem zw_962 : (.selects RX11 yX11_becomes yX11_becomes : Cond) ∈ zws := zin4 (List.mem_of_getElem? (i := 191) rfl) rfl
set_option maxRecDepth 20000 in
theorem zw_963 : (.code yX11_becomes cX11_becomes (4) (some .int) : Cond) ∈ zws := zin4 (List.mem_of_getElem? (i := 192) rfl) rfl
set_option maxRecDepth 20000 in
theorem zw_964 : (.methodLink RX11 (123) yX11_isWord : Cond) ∈ zws := zin4 (List.mem_of_getElem? (i := 193) rfl) rfl
set_option maxRecDepth 20000 in
theorem zw_966 : (.instanceMethod yX11_isWord : Cond) ∈ zws := zin4 (List.mem_of_getElem? (i := 195) rfl) rfl
set_option maxRecDepth 20000 in
theorem zw_967 : (.code yX11_isWord cX11_isWord (2) (some .boolean) : Cond) ∈ zws := zin4 (List.mem_of_getElem? (i := 196) rfl) rfl
set_option maxRecDepth 20000 in
theorem zw_968 : (.methodLink RX11 (126) yX11_isEnd : Cond) ∈ zws := zin4 (List.mem_of_getElem? (i := 197) rfl) rfl
set_option maxRecDepth 20000 in
theorem zw_970 : (.instanceMethod yX11_isEnd : Cond) ∈ zws := zin4 (List.mem_of_getElem? (i := 199) rfl) rfl
set_option maxRecDepth 20000 in
theorem zw_971 : (.code yX11_isEnd cX11_isEnd (2) (some .boolean) : Cond) ∈ zws := zin4 (List.mem_of_getElem? (i := 200) rfl) rfl
set_option maxRecDepth 20000 in
theorem zw_972 : (.methodLink RX11 (129) yX11_isWay : Cond) ∈ zws := zin4 (List.mem_of_getElem? (i := 201) rfl) rfl
set_option maxRecDepth 20000 in
theorem zw_973 : (.static yX11_isWay : Cond) ∈ zws := zin4 (List.mem_of_getElem? (i := 202) rfl) rfl
set_option maxRecDepth 20000 in
theorem zw_974 : (.code yX11_isWay cX11_isWay (1) (some .boolean) : Cond) ∈ zws := zin4 (List.mem_of_getElem? (i := 203) rfl) rfl
set_option maxRecDepth 20000 in
theorem zw_975 : (.methodLink RX11 (132) yX11_rowOf : Cond) ∈ zws := zin4 (List.mem_of_getElem? (i := 204) rfl) rfl
set_option maxRecDepth 20000 in
theorem zw_976 : (.static yX11_rowOf : Cond) ∈ zws := zin4 (List.mem_of_getElem? (i := 205) rfl) rfl
set_option maxRecDepth 20000 in
theorem zw_977 : (.code yX11_rowOf cX11_rowOf (2) (some .int) : Cond) ∈ zws := zin4 (List.mem_of_getElem? (i := 206) rfl) rfl
set_option maxRecDepth 20000 in
theorem zw_978 : (.methodLink RX11 (135) yX11_lacks : Cond) ∈ zws := zin4 (List.mem_of_getElem? (i := 207) rfl) rfl
set_option maxRecDepth 20000 in
theorem zw_979 : (.static yX11_lacks : Cond) ∈ zws := zin4 (List.mem_of_getElem? (i := 208) rfl) rfl
set_option maxRecDepth 20000 in
theorem zw_980 : (.code yX11_lacks cX11_lacks (5) (some .int) : Cond) ∈ zws := zin4 (List.mem_of_getElem? (i := 209) rfl) rfl
set_option maxRecDepth 20000 in
theorem zw_981 : (.methodLink RL (27) yX11_meant : Cond) ∈ zws := zin4 (List.mem_of_getElem? (i := 210) rfl) rfl
set_option maxRecDepth 20000 in
theorem zw_982 : (.instanceMethod yX11_meant : Cond) ∈ zws := zin4 (List.mem_of_getElem? (i := 211) rfl) rfl
set_option maxRecDepth 20000 in
theorem zw_983 : (.selects RX11 yX11_meant yX11_meant : Cond) ∈ zws := zin4 (List.mem_of_getElem? (i := 212) rfl) rfl
set_option maxRecDepth 20000 in
theorem zw_984 : (.code yX11_meant cX11_meant (3) (some .int) : Cond) ∈ zws := zin4 (List.mem_of_getElem? (i := 213) rfl) rfl
set_option maxRecDepth 20000 in
theorem zw_985 : (.methodLink RX11 (139) yX11_meantBy : Cond) ∈ zws := zin4 (List.mem_of_getElem? (i := 214) rfl) rfl
set_option maxRecDepth 20000 in
theorem zw_987 : (.instanceMethod yX11_meantBy : Cond) ∈ zws := zin4 (List.mem_of_getElem? (i := 216) rfl) rfl
set_option maxRecDepth 20000 in
theorem zw_988 : (.code yX11_meantBy cX11_meantBy (5) (some .int) : Cond) ∈ zws := zin4 (List.mem_of_getElem? (i := 217) rfl) rfl
set_option maxRecDepth 20000 in
theorem zw_989 : (.methodLink RL (31) yX11_alike : Cond) ∈ zws := zin4 (List.mem_of_getElem? (i := 218) rfl) rfl
set_option maxRecDepth 20000 in
theorem zw_990 : (.instanceMethod yX11_alike : Cond) ∈ zws := zin4 (List.mem_of_getElem? (i := 219) rfl) rfl
set_option maxRecDepth 20000 in
theorem zw_991 : (.selects RX11 yX11_alike yX11_alike : Cond) ∈ zws := zin4 (List.mem_of_getElem? (i := 220) rfl) rfl
set_option maxRecDepth 20000 in
theorem zw_992 : (.code yX11_alike cX11_alike (5) (some .int) : Cond) ∈ zws := zin4 (List.mem_of_getElem? (i := 221) rfl) rfl
set_option maxRecDepth 20000 in
theorem zw_993 : (.methodLink RL (35) yX11_interpreter : Cond) ∈ zws := zin4 (List.mem_of_getElem? (i := 222) rfl) rfl
set_option maxRecDepth 20000 in
theorem zw_994 : (.instanceMethod yX11_interpreter : Cond) ∈ zws := zin4 (List.mem_of_getElem? (i := 223) rfl) rfl
set_option maxRecDepth 20000 in
theorem zw_995 : (.selects RX11 yX11_interpreter yX11_interpreter : Cond) ∈ zws := zin4 (List.mem_of_getElem? (i := 224) rfl) rfl
set_option maxRecDepth 20000 in
theorem zw_996 : (.code yX11_interpreter cX11_interpreter (3) (some .int) : Cond) ∈ zws := zin4 (List.mem_of_getElem? (i := 225) rfl) rfl
set_option maxRecDepth 20000 in
theorem zw_997 : (.methodLink RL (39) yX11_ofInterpreter : Cond) ∈ zws := zin4 (List.mem_of_getElem? (i := 226) rfl) rfl
set_option maxRecDepth 20000 in
theorem zw_998 : (.instanceMethod yX11_ofInterpreter : Cond) ∈ zws := zin4 (List.mem_of_getElem? (i := 227) rfl) rfl
set_option maxRecDepth 20000 in
theorem zw_999 : (.selects RX11 yX11_ofInterpreter yX11_ofInterpreter : Cond) ∈ zws := zin4 (List.mem_of_getElem? (i := 228) rfl) rfl
set_option maxRecDepth 20000 in
theorem zw_1000 : (.code yX11_ofInterpreter cX11_ofInterpreter (3) (some .int) : Cond) ∈ zws := zin4 (List.mem_of_getElem? (i := 229) rfl) rfl
set_option maxRecDepth 20000 in
theorem zw_1001 : (.methodLink RX11 (145) yX11_isInterpreter : Cond) ∈ zws := zin4 (List.mem_of_getElem? (i := 230) rfl) rfl
set_option maxRecDepth 20000 in
theorem zw_1003 : (.instanceMethod yX11_isInterpreter : Cond) ∈ zws := zin4 (List.mem_of_getElem? (i := 232) rfl) rfl
set_option maxRecDepth 20000 in
theorem zw_1004 : (.code yX11_isInterpreter cX11_isInterpreter (2) (some .boolean) : Cond) ∈ zws := zin4 (List.mem_of_getElem? (i := 233) rfl) rfl
set_option maxRecDepth 20000 in
theorem zw_1005 : (.methodLink RL (43) yX11_tire : Cond) ∈ zws := zin4 (List.mem_of_getElem? (i := 234) rfl) rfl
set_option maxRecDepth 20000 in
theorem zw_1006 : (.instanceMethod yX11_tire : Cond) ∈ zws := zin4 (List.mem_of_getElem? (i := 235) rfl) rfl
set_option maxRecDepth 20000 in
theorem zw_1007 : (.selects RX11 yX11_tire yX11_tire : Cond) ∈ zws := zin4 (List.mem_of_getElem? (i := 236) rfl) rfl
set_option maxRecDepth 20000 in
theorem zw_1008 : (.code yX11_tire cX11_tire (4) (some .int) : Cond) ∈ zws := zin4 (List.mem_of_getElem? (i := 237) rfl) rfl
set_option maxRecDepth 20000 in
theorem zw_1009 : (.methodLink RL (47) yX11_carries : Cond) ∈ zws := zin4 (List.mem_of_getElem? (i := 238) rfl) rfl
set_option maxRecDepth 20000 in
theorem zw_1010 : (.instanceMethod yX11_carries : Cond) ∈ zws := zin4 (List.mem_of_getElem? (i := 239) rfl) rfl
set_option maxRecDepth 20000 in
theorem zw_1011 : (.selects RX11 yX11_carries yX11_carries : Cond) ∈ zws := zin5 (List.mem_of_getElem? (i := 0) rfl) rfl
set_option maxRecDepth 20000 in
theorem zw_1012 : (.code yX11_carries cX11_carries (5) (some .int) : Cond) ∈ zws := zin5 (List.mem_of_getElem? (i := 1) rfl) rfl
set_option maxRecDepth 20000 in
theorem zw_1013 : (.methodLink RX11 (151) yX11_carried : Cond) ∈ zws := zin5 (List.mem_of_getElem? (i := 2) rfl) rfl
set_option maxRecDepth 20000 in
theorem zw_1015 : (.instanceMethod yX11_carried : Cond) ∈ zws := zin5 (List.mem_of_getElem? (i := 4) rfl) rfl
set_option maxRecDepth 20000 in
theorem zw_1016 : (.code yX11_carried cX11_carried (6) (some .int) : Cond) ∈ zws := zin5 (List.mem_of_getElem? (i := 5) rfl) rfl
set_option maxRecDepth 20000 in
theorem zw_1017 : (.methodLink RX11 (148) yX11_plainly : Cond) ∈ zws := zin5 (List.mem_of_getElem? (i := 6) rfl) rfl
set_option maxRecDepth 20000 in
theorem zw_1019 : (.instanceMethod yX11_plainly : Cond) ∈ zws := zin5 (List.mem_of_getElem? (i := 8) rfl) rfl
set_option maxRecDepth 20000 in
theorem zw_1020 : (.code yX11_plainly cX11_plainly (10) (some .int) : Cond) ∈ zws := zin5 (List.mem_of_getElem? (i := 9) rfl) rfl
set_option maxRecDepth 20000 in
theorem zw_1021 : (.methodLink RL (51) yX11_returns : Cond) ∈ zws := zin5 (List.mem_of_getElem? (i := 10) rfl) rfl
set_option maxRecDepth 20000 in
theorem zw_1022 : (.instanceMethod yX11_returns : Cond) ∈ zws := zin5 (List.mem_of_getElem? (i := 11) rfl) rfl
set_option maxRecDepth 20000 in
theorem zw_1023 : (.selects RX11 yX11_returns yX11_returns : Cond) ∈ zws := zin5 (List.mem_of_getElem? (i := 12) rfl) rfl
set_option maxRecDepth 20000 in
theorem zw_1024 : (.code yX11_returns cX11_returns (9) (some .int) : Cond) ∈ zws := zin5 (List.mem_of_getElem? (i := 13) rfl) rfl
set_option maxRecDepth 20000 in
theorem zw_1025 : (.methodLink RL (56) yX11_hands : Cond) ∈ zws := zin5 (List.mem_of_getElem? (i := 14) rfl) rfl
set_option maxRecDepth 20000 in
theorem zw_1026 : (.instanceMethod yX11_hands : Cond) ∈ zws := zin5 (List.mem_of_getElem? (i := 15) rfl) rfl
set_option maxRecDepth 20000 in
theorem zw_1027 : (.selects RX11 yX11_hands yX11_hands : Cond) ∈ zws := zin5 (List.mem_of_getElem? (i := 16) rfl) rfl
set_option maxRecDepth 20000 in
theorem zw_1028 : (.code yX11_hands cX11_hands (17) (some .long) : Cond) ∈ zws := zin5 (List.mem_of_getElem? (i := 17) rfl) rfl
set_option maxRecDepth 20000 in
theorem zw_1029 : (.constantLong RX11 (69) (-9223372036854775808) : Cond) ∈ zws := zin5 (List.mem_of_getElem? (i := 18) rfl) rfl
set_option maxRecDepth 20000 in
theorem zw_1030 : (.methodLink RX11 (154) yX11_lost : Cond) ∈ zws := zin5 (List.mem_of_getElem? (i := 19) rfl) rfl
set_option maxRecDepth 20000 in
theorem zw_1032 : (.instanceMethod yX11_lost : Cond) ∈ zws := zin5 (List.mem_of_getElem? (i := 21) rfl) rfl
set_option maxRecDepth 20000 in
theorem zw_1033 : (.code yX11_lost cX11_lost (2) (some .long) : Cond) ∈ zws := zin5 (List.mem_of_getElem? (i := 22) rfl) rfl
set_option maxRecDepth 20000 in
theorem zw_1034 : (.methodLink RX11 (158) yX11_isWhich : Cond) ∈ zws := zin5 (List.mem_of_getElem? (i := 23) rfl) rfl
set_option maxRecDepth 20000 in
theorem zw_1035 : (.static yX11_isWhich : Cond) ∈ zws := zin5 (List.mem_of_getElem? (i := 24) rfl) rfl
set_option maxRecDepth 20000 in
theorem zw_1036 : (.code yX11_isWhich cX11_isWhich (1) (some .boolean) : Cond) ∈ zws := zin5 (List.mem_of_getElem? (i := 25) rfl) rfl
set_option maxRecDepth 20000 in
theorem zw_1037 : (.methodLink RX11 (161) yX11_carryOn : Cond) ∈ zws := zin5 (List.mem_of_getElem? (i := 26) rfl) rfl
set_option maxRecDepth 20000 in
theorem zw_1039 : (.instanceMethod yX11_carryOn : Cond) ∈ zws := zin5 (List.mem_of_getElem? (i := 28) rfl) rfl
set_option maxRecDepth 20000 in
theorem zw_1040 : (.code yX11_carryOn cX11_carryOn (5) (none : Option Jvm.ClassFile.FieldType) : Cond) ∈ zws := zin5 (List.mem_of_getElem? (i := 29) rfl) rfl
set_option maxRecDepth 20000 in
theorem zw_1041 : (.constantLong RX11 (165) (144) : Cond) ∈ zws := zin5 (List.mem_of_getElem? (i := 30) rfl) rfl
set_option maxRecDepth 20000 in
theorem zw_1042 : (.methodLink RX11 (167) yX11_share : Cond) ∈ zws := zin5 (List.mem_of_getElem? (i := 31) rfl) rfl
set_option maxRecDepth 20000 in
theorem zw_1043 : (.static yX11_share : Cond) ∈ zws := zin5 (List.mem_of_getElem? (i := 32) rfl) rfl
set_option maxRecDepth 20000 in
theorem zw_1044 : (.code yX11_share cX11_share (11) (some .long) : Cond) ∈ zws := zin5 (List.mem_of_getElem? (i := 33) rfl) rfl
set_option maxRecDepth 20000 in
theorem zw_1045 : (.methodLink RL (60) yX11_witness : Cond) ∈ zws := zin5 (List.mem_of_getElem? (i := 34) rfl) rfl
set_option maxRecDepth 20000 in
theorem zw_1046 : (.instanceMethod yX11_witness : Cond) ∈ zws := zin5 (List.mem_of_getElem? (i := 35) rfl) rfl
set_option maxRecDepth 20000 in
theorem zw_1047 : (.selects RX11 yX11_witness yX11_witness : Cond) ∈ zws := zin5 (List.mem_of_getElem? (i := 36) rfl) rfl
set_option maxRecDepth 20000 in
theorem zw_1048 : (.code yX11_witness cX11_witness (8) (some .int) : Cond) ∈ zws := zin5 (List.mem_of_getElem? (i := 37) rfl) rfl
set_option maxRecDepth 20000 in
theorem zw_1049 : (.methodLink RX11 (171) yX11_readWitness : Cond) ∈ zws := zin5 (List.mem_of_getElem? (i := 38) rfl) rfl
set_option maxRecDepth 20000 in
theorem zw_1051 : (.instanceMethod yX11_readWitness : Cond) ∈ zws := zin5 (List.mem_of_getElem? (i := 40) rfl) rfl
set_option maxRecDepth 20000 in
theorem zw_1052 : (.code yX11_readWitness cX11_readWitness (2) (some .boolean) : Cond) ∈ zws := zin5 (List.mem_of_getElem? (i := 41) rfl) rfl
set_option maxRecDepth 20000 in
theorem zw_1053 : (.methodLink RL (64) yX11_answers : Cond) ∈ zws := zin5 (List.mem_of_getElem? (i := 42) rfl) rfl
set_option maxRecDepth 20000 in
theorem zw_1054 : (.instanceMethod yX11_answers : Cond) ∈ zws := zin5 (List.mem_of_getElem? (i := 43) rfl) rfl
set_option maxRecDepth 20000 in
theorem zw_1055 : (.selects RX11 yX11_answers yX11_answers : Cond) ∈ zws := zin5 (List.mem_of_getElem? (i := 44) rfl) rfl
set_option maxRecDepth 20000 in
theorem zw_1056 : (.code yX11_answers cX11_answers (3) (some .int) : Cond) ∈ zws := zin5 (List.mem_of_getElem? (i := 45) rfl) rfl
set_option maxRecDepth 20000 in
theorem zw_1057 : (.methodLink RX11 (177) yX11_answered : Cond) ∈ zws := zin5 (List.mem_of_getElem? (i := 46) rfl) rfl
set_option maxRecDepth 20000 in
theorem zw_1059 : (.instanceMethod yX11_answered : Cond) ∈ zws := zin5 (List.mem_of_getElem? (i := 48) rfl) rfl
set_option maxRecDepth 20000 in
theorem zw_1060 : (.code yX11_answered cX11_answered (5) (some .int) : Cond) ∈ zws := zin5 (List.mem_of_getElem? (i := 49) rfl) rfl
set_option maxRecDepth 20000 in
theorem zw_1061 : (.methodLink RL (69) yX11_heard : Cond) ∈ zws := zin5 (List.mem_of_getElem? (i := 50) rfl) rfl
set_option maxRecDepth 20000 in
theorem zw_1062 : (.instanceMethod yX11_heard : Cond) ∈ zws := zin5 (List.mem_of_getElem? (i := 51) rfl) rfl
set_option maxRecDepth 20000 in
theorem zw_1063 : (.selects RX11 yX11_heard yX11_heard : Cond) ∈ zws := zin5 (List.mem_of_getElem? (i := 52) rfl) rfl
set_option maxRecDepth 20000 in
theorem zw_1064 : (.code yX11_heard cX11_heard (7) (some .long) : Cond) ∈ zws := zin5 (List.mem_of_getElem? (i := 53) rfl) rfl
set_option maxRecDepth 20000 in
theorem zw_1065 : (.constant RX11 (183) (2985984) : Cond) ∈ zws := zin5 (List.mem_of_getElem? (i := 54) rfl) rfl
set_option maxRecDepth 20000 in
theorem zw_1066 : (.methodLink RX11 (184) yX11_allWords : Cond) ∈ zws := zin5 (List.mem_of_getElem? (i := 55) rfl) rfl
set_option maxRecDepth 20000 in
theorem zw_1068 : (.instanceMethod yX11_allWords : Cond) ∈ zws := zin5 (List.mem_of_getElem? (i := 57) rfl) rfl
set_option maxRecDepth 20000 in
theorem zw_1069 : (.code yX11_allWords cX11_allWords (1) (some .int) : Cond) ∈ zws := zin5 (List.mem_of_getElem? (i := 58) rfl) rfl
set_option maxRecDepth 20000 in
theorem zw_1070 : (.methodLink RX11 (188) yX11_times : Cond) ∈ zws := zin5 (List.mem_of_getElem? (i := 59) rfl) rfl
set_option maxRecDepth 20000 in
theorem zw_1072 : (.instanceMethod yX11_times : Cond) ∈ zws := zin5 (List.mem_of_getElem? (i := 61) rfl) rfl
set_option maxRecDepth 20000 in
theorem zw_1073 : (.code yX11_times cX11_times (10) (some .int) : Cond) ∈ zws := zin5 (List.mem_of_getElem? (i := 62) rfl) rfl
set_option maxRecDepth 20000 in
theorem zw_1074 : (.methodLink RX11 (180) yX11_has : Cond) ∈ zws := zin5 (List.mem_of_getElem? (i := 63) rfl) rfl
set_option maxRecDepth 20000 in
theorem zw_1075 : (.static yX11_has : Cond) ∈ zws := zin5 (List.mem_of_getElem? (i := 64) rfl) rfl
set_option maxRecDepth 20000 in
theorem zw_1076 : (.code yX11_has cX11_has (2) (some .boolean) : Cond) ∈ zws := zin5 (List.mem_of_getElem? (i := 65) rfl) rfl
set_option maxRecDepth 20000 in
theorem zw_1077 : (.constantLong RX11 (192) (2985984) : Cond) ∈ zws := zin5 (List.mem_of_getElem? (i := 66) rfl) rfl
set_option maxRecDepth 20000 in
theorem zw_1078 : (.methodLink RL (73) yX11_reached : Cond) ∈ zws := zin5 (List.mem_of_getElem? (i := 67) rfl) rfl
set_option maxRecDepth 20000 in
theorem zw_1079 : (.instanceMethod yX11_reached : Cond) ∈ zws := zin5 (List.mem_of_getElem? (i := 68) rfl) rfl
set_option maxRecDepth 20000 in
theorem zw_1080 : (.selects RX11 yX11_reached yX11_reached : Cond) ∈ zws := zin5 (List.mem_of_getElem? (i := 69) rfl) rfl
set_option maxRecDepth 20000 in
theorem zw_1081 : (.code yX11_reached cX11_reached (6) (some .long) : Cond) ∈ zws := zin5 (List.mem_of_getElem? (i := 70) rfl) rfl
set_option maxRecDepth 20000 in
theorem zw_1082 : (.methodLink RX11 (194) yX11_isAsked : Cond) ∈ zws := zin5 (List.mem_of_getElem? (i := 71) rfl) rfl
set_option maxRecDepth 20000 in
theorem zw_1084 : (.instanceMethod yX11_isAsked : Cond) ∈ zws := zin5 (List.mem_of_getElem? (i := 73) rfl) rfl
set_option maxRecDepth 20000 in
theorem zw_1085 : (.code yX11_isAsked cX11_isAsked (4) (some .boolean) : Cond) ∈ zws := zin5 (List.mem_of_getElem? (i := 74) rfl) rfl
set_option maxRecDepth 20000 in
theorem zw_1086 : (.methodLink RL (77) yX11_said : Cond) ∈ zws := zin5 (List.mem_of_getElem? (i := 75) rfl) rfl
set_option maxRecDepth 20000 in
theorem zw_1087 : (.instanceMethod yX11_said : Cond) ∈ zws := zin5 (List.mem_of_getElem? (i := 76) rfl) rfl
set_option maxRecDepth 20000 in
theorem zw_1088 : (.selects RX11 yX11_said yX11_said : Cond) ∈ zws := zin5 (List.mem_of_getElem? (i := 77) rfl) rfl
set_option maxRecDepth 20000 in
theorem zw_1089 : (.code yX11_said cX11_said (6) (some .long) : Cond) ∈ zws := zin5 (List.mem_of_getElem? (i := 78) rfl) rfl
set_option maxRecDepth 20000 in
theorem zw_1090 : (.methodLink RX11 (197) yX11_saidBy : Cond) ∈ zws := zin5 (List.mem_of_getElem? (i := 79) rfl) rfl
set_option maxRecDepth 20000 in
theorem zw_1092 : (.instanceMethod yX11_saidBy : Cond) ∈ zws := zin5 (List.mem_of_getElem? (i := 81) rfl) rfl
set_option maxRecDepth 20000 in
theorem zw_1093 : (.code yX11_saidBy cX11_saidBy (4) (some .int) : Cond) ∈ zws := zin5 (List.mem_of_getElem? (i := 82) rfl) rfl
set_option maxRecDepth 20000 in
theorem zw_1094 : (.methodLink RL (82) yX11_over : Cond) ∈ zws := zin5 (List.mem_of_getElem? (i := 83) rfl) rfl
set_option maxRecDepth 20000 in
theorem zw_1095 : (.instanceMethod yX11_over : Cond) ∈ zws := zin5 (List.mem_of_getElem? (i := 84) rfl) rfl
set_option maxRecDepth 20000 in
theorem zw_1096 : (.selects RX11 yX11_over yX11_over : Cond) ∈ zws := zin5 (List.mem_of_getElem? (i := 85) rfl) rfl
set_option maxRecDepth 20000 in
theorem zw_1097 : (.code yX11_over cX11_over (4) (some .long) : Cond) ∈ zws := zin5 (List.mem_of_getElem? (i := 86) rfl) rfl
set_option maxRecDepth 20000 in
theorem zw_1098 : (.methodLink RX11 (200) yX11_overOf : Cond) ∈ zws := zin5 (List.mem_of_getElem? (i := 87) rfl) rfl
set_option maxRecDepth 20000 in
theorem zw_1100 : (.instanceMethod yX11_overOf : Cond) ∈ zws := zin5 (List.mem_of_getElem? (i := 89) rfl) rfl
set_option maxRecDepth 20000 in
theorem zw_1101 : (.code yX11_overOf cX11_overOf (5) (some .int) : Cond) ∈ zws := zin5 (List.mem_of_getElem? (i := 90) rfl) rfl
set_option maxRecDepth 20000 in
theorem zw_1102 : (.methodLink RL (86) yX11_ask : Cond) ∈ zws := zin5 (List.mem_of_getElem? (i := 91) rfl) rfl
set_option maxRecDepth 20000 in
theorem zw_1103 : (.instanceMethod yX11_ask : Cond) ∈ zws := zin5 (List.mem_of_getElem? (i := 92) rfl) rfl
set_option maxRecDepth 20000 in
theorem zw_1104 : (.selects RX11 yX11_ask yX11_ask : Cond) ∈ zws := zin5 (List.mem_of_getElem? (i := 93) rfl) rfl
set_option maxRecDepth 20000 in
theorem zw_1105 : (.code yX11_ask cX11_ask (6) (some .int) : Cond) ∈ zws := zin5 (List.mem_of_getElem? (i := 94) rfl) rfl
set_option maxRecDepth 20000 in
theorem zw_1106 : (.methodLink RL (91) yX11_turn : Cond) ∈ zws := zin5 (List.mem_of_getElem? (i := 95) rfl) rfl
set_option maxRecDepth 20000 in
theorem zw_1107 : (.instanceMethod yX11_turn : Cond) ∈ zws := zin5 (List.mem_of_getElem? (i := 96) rfl) rfl
set_option maxRecDepth 20000 in
theorem zw_1108 : (.selects RX11 yX11_turn yX11_turn : Cond) ∈ zws := zin5 (List.mem_of_getElem? (i := 97) rfl) rfl
set_option maxRecDepth 20000 in
theorem zw_1109 : (.code yX11_turn cX11_turn (6) (some .int) : Cond) ∈ zws := zin5 (List.mem_of_getElem? (i := 98) rfl) rfl
set_option maxRecDepth 20000 in
theorem zw_1110 : (.methodLink RL (95) yX11_ofTurn : Cond) ∈ zws := zin5 (List.mem_of_getElem? (i := 99) rfl) rfl
set_option maxRecDepth 20000 in
theorem zw_1111 : (.instanceMethod yX11_ofTurn : Cond) ∈ zws := zin5 (List.mem_of_getElem? (i := 100) rfl) rfl
set_option maxRecDepth 20000 in
theorem zw_1112 : (.selects RX11 yX11_ofTurn yX11_ofTurn : Cond) ∈ zws := zin5 (List.mem_of_getElem? (i := 101) rfl) rfl
set_option maxRecDepth 20000 in
theorem zw_1113 : (.code yX11_ofTurn cX11_ofTurn (3) (some .int) : Cond) ∈ zws := zin5 (List.mem_of_getElem? (i := 102) rfl) rfl
set_option maxRecDepth 20000 in
theorem zw_1114 : (.methodLink RX11 (205) yX11_truthOf : Cond) ∈ zws := zin5 (List.mem_of_getElem? (i := 103) rfl) rfl
set_option maxRecDepth 20000 in
theorem zw_1116 : (.instanceMethod yX11_truthOf : Cond) ∈ zws := zin5 (List.mem_of_getElem? (i := 105) rfl) rfl
set_option maxRecDepth 20000 in
theorem zw_1117 : (.code yX11_truthOf cX11_truthOf (5) (some .int) : Cond) ∈ zws := zin5 (List.mem_of_getElem? (i := 106) rfl) rfl
set_option maxRecDepth 20000 in
theorem zw_1118 : (.constantLong RX11 (203) (1000) : Cond) ∈ zws := zin5 (List.mem_of_getElem? (i := 107) rfl) rfl
set_option maxRecDepth 20000 in
theorem zw_1119 : (.methodLink RL (100) yX11_back : Cond) ∈ zws := zin5 (List.mem_of_getElem? (i := 108) rfl) rfl
set_option maxRecDepth 20000 in
theorem zw_1120 : (.instanceMethod yX11_back : Cond) ∈ zws := zin5 (List.mem_of_getElem? (i := 109) rfl) rfl
set_option maxRecDepth 20000 in
theorem zw_1121 : (.selects RX11 yX11_back yX11_back : Cond) ∈ zws := zin5 (List.mem_of_getElem? (i := 110) rfl) rfl
set_option maxRecDepth 20000 in
theorem zw_1122 : (.code yX11_back cX11_back (2) (some .int) : Cond) ∈ zws := zin5 (List.mem_of_getElem? (i := 111) rfl) rfl
set_option maxRecDepth 20000 in
theorem zw_1123 : (.methodLink RL (105) yX11_wrong : Cond) ∈ zws := zin5 (List.mem_of_getElem? (i := 112) rfl) rfl
set_option maxRecDepth 20000 in
theorem zw_1124 : (.instanceMethod yX11_wrong : Cond) ∈ zws := zin5 (List.mem_of_getElem? (i := 113) rfl) rfl
set_option maxRecDepth 20000 in
theorem zw_1125 : (.selects RX11 yX11_wrong yX11_wrong : Cond) ∈ zws := zin5 (List.mem_of_getElem? (i := 114) rfl) rfl
set_option maxRecDepth 20000 in
theorem zw_1126 : (.code yX11_wrong cX11_wrong (9) (some .long) : Cond) ∈ zws := zin5 (List.mem_of_getElem? (i := 115) rfl) rfl
set_option maxRecDepth 20000 in
theorem zw_1127 : (.methodLink RL (109) yX11_again : Cond) ∈ zws := zin5 (List.mem_of_getElem? (i := 116) rfl) rfl
set_option maxRecDepth 20000 in
theorem zw_1128 : (.instanceMethod yX11_again : Cond) ∈ zws := zin5 (List.mem_of_getElem? (i := 117) rfl) rfl
set_option maxRecDepth 20000 in
theorem zw_1129 : (.selects RX11 yX11_again yX11_again : Cond) ∈ zws := zin5 (List.mem_of_getElem? (i := 118) rfl) rfl
set_option maxRecDepth 20000 in
theorem zw_1130 : (.code yX11_again cX11_again (9) (some .int) : Cond) ∈ zws := zin5 (List.mem_of_getElem? (i := 119) rfl) rfl
set_option maxRecDepth 20000 in
theorem zw_1131 : (.methodLink RL (113) yX11_shifts : Cond) ∈ zws := zin5 (List.mem_of_getElem? (i := 120) rfl) rfl
set_option maxRecDepth 20000 in
theorem zw_1132 : (.instanceMethod yX11_shifts : Cond) ∈ zws := zin5 (List.mem_of_getElem? (i := 121) rfl) rfl
set_option maxRecDepth 20000 in
theorem zw_1133 : (.selects RX11 yX11_shifts yX11_shifts : Cond) ∈ zws := zin5 (List.mem_of_getElem? (i := 122) rfl) rfl
set_option maxRecDepth 20000 in
theorem zw_1134 : (.code yX11_shifts cX11_shifts (11) (some .int) : Cond) ∈ zws := zin5 (List.mem_of_getElem? (i := 123) rfl) rfl
set_option maxRecDepth 20000 in
theorem zw_1135 : (.methodLink RX11 (221) yX11_layLeast : Cond) ∈ zws := zin5 (List.mem_of_getElem? (i := 124) rfl) rfl
set_option maxRecDepth 20000 in
theorem zw_1137 : (.instanceMethod yX11_layLeast : Cond) ∈ zws := zin5 (List.mem_of_getElem? (i := 126) rfl) rfl
set_option maxRecDepth 20000 in
theorem zw_1138 : (.code yX11_layLeast cX11_layLeast (9) (none : Option Jvm.ClassFile.FieldType) : Cond) ∈ zws := zin5 (List.mem_of_getElem? (i := 127) rfl) rfl
set_option maxRecDepth 20000 in
theorem zw_1139 : (.methodLink RX11 (214) yX11_spot : Cond) ∈ zws := zin5 (List.mem_of_getElem? (i := 128) rfl) rfl
set_option maxRecDepth 20000 in
theorem zw_1140 : (.static yX11_spot : Cond) ∈ zws := zin5 (List.mem_of_getElem? (i := 129) rfl) rfl
set_option maxRecDepth 20000 in
theorem zw_1141 : (.code yX11_spot cX11_spot (4) (some .int) : Cond) ∈ zws := zin5 (List.mem_of_getElem? (i := 130) rfl) rfl
set_option maxRecDepth 20000 in
theorem zw_1142 : (.methodLink RX11 (217) yX11_costBy : Cond) ∈ zws := zin5 (List.mem_of_getElem? (i := 131) rfl) rfl
set_option maxRecDepth 20000 in
theorem zw_1144 : (.instanceMethod yX11_costBy : Cond) ∈ zws := zin5 (List.mem_of_getElem? (i := 133) rfl) rfl
set_option maxRecDepth 20000 in
theorem zw_1145 : (.code yX11_costBy cX11_costBy (10) (some .int) : Cond) ∈ zws := zin5 (List.mem_of_getElem? (i := 134) rfl) rfl
set_option maxRecDepth 20000 in
theorem zw_1146 : (.methodLink RX11 (208) yX11_more : Cond) ∈ zws := zin5 (List.mem_of_getElem? (i := 135) rfl) rfl
set_option maxRecDepth 20000 in
theorem zw_1147 : (.static yX11_more : Cond) ∈ zws := zin5 (List.mem_of_getElem? (i := 136) rfl) rfl
set_option maxRecDepth 20000 in
theorem zw_1148 : (.code yX11_more cX11_more (1) (some .int) : Cond) ∈ zws := zin5 (List.mem_of_getElem? (i := 137) rfl) rfl
set_option maxRecDepth 20000 in
theorem zw_1149 : (.methodLink RX11 (211) yX11_less : Cond) ∈ zws := zin5 (List.mem_of_getElem? (i := 138) rfl) rfl
set_option maxRecDepth 20000 in
theorem zw_1150 : (.static yX11_less : Cond) ∈ zws := zin5 (List.mem_of_getElem? (i := 139) rfl) rfl
set_option maxRecDepth 20000 in
theorem zw_1151 : (.code yX11_less cX11_less (1) (some .int) : Cond) ∈ zws := zin5 (List.mem_of_getElem? (i := 140) rfl) rfl
set_option maxRecDepth 20000 in
theorem zw_1152 : (.methodLink RL (117) yX11_booth : Cond) ∈ zws := zin5 (List.mem_of_getElem? (i := 141) rfl) rfl
set_option maxRecDepth 20000 in
theorem zw_1153 : (.instanceMethod yX11_booth : Cond) ∈ zws := zin5 (List.mem_of_getElem? (i := 142) rfl) rfl
set_option maxRecDepth 20000 in
theorem zw_1154 : (.selects RX11 yX11_booth yX11_booth : Cond) ∈ zws := zin5 (List.mem_of_getElem? (i := 143) rfl) rfl
set_option maxRecDepth 20000 in
theorem zw_1155 : (.code yX11_booth cX11_booth (12) (some .int) : Cond) ∈ zws := zin5 (List.mem_of_getElem? (i := 144) rfl) rfl
set_option maxRecDepth 20000 in
theorem zw_1156 : (.methodLink RX11 (224) yX11_isOrder : Cond) ∈ zws := zin5 (List.mem_of_getElem? (i := 145) rfl) rfl
set_option maxRecDepth 20000 in
theorem zw_1158 : (.instanceMethod yX11_isOrder : Cond) ∈ zws := zin5 (List.mem_of_getElem? (i := 147) rfl) rfl
set_option maxRecDepth 20000 in
theorem zw_1159 : (.code yX11_isOrder cX11_isOrder (5) (some .boolean) : Cond) ∈ zws := zin5 (List.mem_of_getElem? (i := 148) rfl) rfl
set_option maxRecDepth 20000 in
theorem zw_1160 : (.methodLink RX11 (227) yX11_held : Cond) ∈ zws := zin5 (List.mem_of_getElem? (i := 149) rfl) rfl
set_option maxRecDepth 20000 in
theorem zw_1162 : (.instanceMethod yX11_held : Cond) ∈ zws := zin5 (List.mem_of_getElem? (i := 151) rfl) rfl
set_option maxRecDepth 20000 in
theorem zw_1163 : (.code yX11_held cX11_held (7) (some .int) : Cond) ∈ zws := zin5 (List.mem_of_getElem? (i := 152) rfl) rfl
set_option maxRecDepth 20000 in
theorem zw_1164 : (.methodLink RL (121) yX11_sheet : Cond) ∈ zws := zin5 (List.mem_of_getElem? (i := 153) rfl) rfl
set_option maxRecDepth 20000 in
theorem zw_1165 : (.instanceMethod yX11_sheet : Cond) ∈ zws := zin5 (List.mem_of_getElem? (i := 154) rfl) rfl
set_option maxRecDepth 20000 in
theorem zw_1166 : (.selects RX11 yX11_sheet yX11_sheet : Cond) ∈ zws := zin5 (List.mem_of_getElem? (i := 155) rfl) rfl
set_option maxRecDepth 20000 in
theorem zw_1167 : (.code yX11_sheet cX11_sheet (5) (some .int) : Cond) ∈ zws := zin5 (List.mem_of_getElem? (i := 156) rfl) rfl
set_option maxRecDepth 20000 in
theorem zw_1168 : (.methodLink RL (125) yX11_lose : Cond) ∈ zws := zin5 (List.mem_of_getElem? (i := 157) rfl) rfl
set_option maxRecDepth 20000 in
theorem zw_1169 : (.instanceMethod yX11_lose : Cond) ∈ zws := zin5 (List.mem_of_getElem? (i := 158) rfl) rfl
set_option maxRecDepth 20000 in
theorem zw_1170 : (.selects RX11 yX11_lose yX11_lose : Cond) ∈ zws := zin5 (List.mem_of_getElem? (i := 159) rfl) rfl
set_option maxRecDepth 20000 in
theorem zw_1171 : (.code yX11_lose cX11_lose (3) (some .int) : Cond) ∈ zws := zin5 (List.mem_of_getElem? (i := 160) rfl) rfl
set_option maxRecDepth 20000 in
theorem zw_1172 : (.methodLink RL (129) yX11_put : Cond) ∈ zws := zin5 (List.mem_of_getElem? (i := 161) rfl) rfl
set_option maxRecDepth 20000 in
theorem zw_1173 : (.instanceMethod yX11_put : Cond) ∈ zws := zin5 (List.mem_of_getElem? (i := 162) rfl) rfl
set_option maxRecDepth 20000 in
theorem zw_1174 : (.selects RX11 yX11_put yX11_put : Cond) ∈ zws := zin5 (List.mem_of_getElem? (i := 163) rfl) rfl
set_option maxRecDepth 20000 in
theorem zw_1175 : (.code yX11_put cX11_put (4) (some .int) : Cond) ∈ zws := zin5 (List.mem_of_getElem? (i := 164) rfl) rfl
set_option maxRecDepth 20000 in
theorem zw_1176 : (.methodLink RL (133) yX11_cell : Cond) ∈ zws := zin5 (List.mem_of_getElem? (i := 165) rfl) rfl
set_option maxRecDepth 20000 in
theorem zw_1177 : (.instanceMethod yX11_cell : Cond) ∈ zws := zin5 (List.mem_of_getElem? (i := 166) rfl) rfl
set_option maxRecDepth 20000 in
theorem zw_1178 : (.selects RX11 yX11_cell yX11_cell : Cond) ∈ zws := zin5 (List.mem_of_getElem? (i := 167) rfl) rfl
set_option maxRecDepth 20000 in
theorem zw_1179 : (.code yX11_cell cX11_cell (4) (some .long) : Cond) ∈ zws := zin5 (List.mem_of_getElem? (i := 168) rfl) rfl
set_option maxRecDepth 20000 in
theorem zw_1180 : (.methodLink RL (137) yX11_copy : Cond) ∈ zws := zin5 (List.mem_of_getElem? (i := 169) rfl) rfl
set_option maxRecDepth 20000 in
theorem zw_1181 : (.instanceMethod yX11_copy : Cond) ∈ zws := zin5 (List.mem_of_getElem? (i := 170) rfl) rfl
set_option maxRecDepth 20000 in
theorem zw_1182 : (.selects RX11 yX11_copy yX11_copy : Cond) ∈ zws := zin5 (List.mem_of_getElem? (i := 171) rfl) rfl
set_option maxRecDepth 20000 in
theorem zw_1183 : (.code yX11_copy cX11_copy (10) (some .int) : Cond) ∈ zws := zin5 (List.mem_of_getElem? (i := 172) rfl) rfl
set_option maxRecDepth 20000 in
theorem zw_1184 : (.methodLink RL (141) yX11_tell : Cond) ∈ zws := zin5 (List.mem_of_getElem? (i := 173) rfl) rfl
set_option maxRecDepth 20000 in
theorem zw_1185 : (.instanceMethod yX11_tell : Cond) ∈ zws := zin5 (List.mem_of_getElem? (i := 174) rfl) rfl
set_option maxRecDepth 20000 in
theorem zw_1186 : (.selects RX11 yX11_tell yX11_tell : Cond) ∈ zws := zin5 (List.mem_of_getElem? (i := 175) rfl) rfl
set_option maxRecDepth 20000 in
theorem zw_1187 : (.code yX11_tell cX11_tell (3) (some .int) : Cond) ∈ zws := zin5 (List.mem_of_getElem? (i := 176) rfl) rfl
set_option maxRecDepth 20000 in
theorem zw_1188 : (.methodLink RX11 (233) yX11_begins : Cond) ∈ zws := zin5 (List.mem_of_getElem? (i := 177) rfl) rfl
set_option maxRecDepth 20000 in
theorem zw_1190 : (.instanceMethod yX11_begins : Cond) ∈ zws := zin5 (List.mem_of_getElem? (i := 179) rfl) rfl
set_option maxRecDepth 20000 in
theorem zw_1191 : (.code yX11_begins cX11_begins (2) (none : Option Jvm.ClassFile.FieldType) : Cond) ∈ zws := zin5 (List.mem_of_getElem? (i := 180) rfl) rfl
set_option maxRecDepth 20000 in
theorem zw_1192 : (.methodLink RL (145) yX11_pay : Cond) ∈ zws := zin5 (List.mem_of_getElem? (i := 181) rfl) rfl
set_option maxRecDepth 20000 in
theorem zw_1193 : (.instanceMethod yX11_pay : Cond) ∈ zws := zin5 (List.mem_of_getElem? (i := 182) rfl) rfl
set_option maxRecDepth 20000 in
theorem zw_1194 : (.selects RX11 yX11_pay yX11_pay : Cond) ∈ zws := zin5 (List.mem_of_getElem? (i := 183) rfl) rfl
set_option maxRecDepth 20000 in
theorem zw_1195 : (.code yX11_pay cX11_pay (2) (some .int) : Cond) ∈ zws := zin5 (List.mem_of_getElem? (i := 184) rfl) rfl
set_option maxRecDepth 20000 in
theorem zw_1196 : (.methodLink RL (149) yX11_as : Cond) ∈ zws := zin5 (List.mem_of_getElem? (i := 185) rfl) rfl
set_option maxRecDepth 20000 in
theorem zw_1197 : (.instanceMethod yX11_as : Cond) ∈ zws := zin5 (List.mem_of_getElem? (i := 186) rfl) rfl
set_option maxRecDepth 20000 in
theorem zw_1198 : (.selects RX11 yX11_as yX11_as : Cond) ∈ zws := zin5 (List.mem_of_getElem? (i := 187) rfl) rfl
set_option maxRecDepth 20000 in
theorem zw_1199 : (.code yX11_as cX11_as (3) (some .int) : Cond) ∈ zws := zin5 (List.mem_of_getElem? (i := 188) rfl) rfl
set_option maxRecDepth 20000 in
theorem zw_1200 : (.methodLink RL (154) yX11_trace : Cond) ∈ zws := zin5 (List.mem_of_getElem? (i := 189) rfl) rfl
set_option maxRecDepth 20000 in
theorem zw_1201 : (.instanceMethod yX11_trace : Cond) ∈ zws := zin5 (List.mem_of_getElem? (i := 190) rfl) rfl
set_option maxRecDepth 20000 in
theorem zw_1202 : (.selects RX11 yX11_trace yX11_trace : Cond) ∈ zws := zin5 (List.mem_of_getElem? (i := 191) rfl) rfl
set_option maxRecDepth 20000 in
theorem zw_1203 : (.code yX11_trace cX11_trace (1) (some .int) : Cond) ∈ zws := zin5 (List.mem_of_getElem? (i := 192) rfl) rfl
set_option maxRecDepth 20000 in
theorem zw_1204 : (.methodLink RL (158) yX11_fault : Cond) ∈ zws := zin5 (List.mem_of_getElem? (i := 193) rfl) rfl
set_option maxRecDepth 20000 in
theorem zw_1205 : (.instanceMethod yX11_fault : Cond) ∈ zws := zin5 (List.mem_of_getElem? (i := 194) rfl) rfl
set_option maxRecDepth 20000 in
theorem zw_1206 : (.selects RX11 yX11_fault yX11_fault : Cond) ∈ zws := zin5 (List.mem_of_getElem? (i := 195) rfl) rfl
set_option maxRecDepth 20000 in
theorem zw_1207 : (.code yX11_fault cX11_fault (1) (some .int) : Cond) ∈ zws := zin5 (List.mem_of_getElem? (i := 196) rfl) rfl
set_option maxRecDepth 20000 in
theorem zw_1208 : (.methodLink RL (162) yX11_many : Cond) ∈ zws := zin5 (List.mem_of_getElem? (i := 197) rfl) rfl
set_option maxRecDepth 20000 in
theorem zw_1209 : (.instanceMethod yX11_many : Cond) ∈ zws := zin5 (List.mem_of_getElem? (i := 198) rfl) rfl
set_option maxRecDepth 20000 in
theorem zw_1210 : (.selects RX11 yX11_many yX11_many : Cond) ∈ zws := zin5 (List.mem_of_getElem? (i := 199) rfl) rfl
set_option maxRecDepth 20000 in
theorem zw_1211 : (.code yX11_many cX11_many (2) (some .int) : Cond) ∈ zws := zin5 (List.mem_of_getElem? (i := 200) rfl) rfl
