/-! the methods: names, codes; words -/
abbrev ext0 : List Int := [0, 0, 0, 1, 0, 0, 0, 0, 0, 0, 0, 0, 0]
abbrev ext1 : List Int := [511, 1, 12, 60, 9, 99, 9, 1, 300, 20, 20, 8, 8]
abbrev ext2 : List Int := [124, 38, 60, 61, 62, 43, 45, 42, 47, 37]
abbrev ext3 : List Int := [0, 1, 2, 2, 2, 3, 3, 4, 4, 4]
abbrev ext4 : List Int := [119, 100, 97, 101, 103, 112]
abbrev ext5 : List Int := [-1, 0, 0, 2, 1, 3, 0, 6]
abbrev ext6 : List Int := [1, 20, 0, 0, 0, 0, 70, 81, 10, 0, 30, 41, 0, 0, 0, 80, 11, 0, 0, 40, 0, 60, 0, 0, 2, 0, 0, 0, 50, 61, 0, 0]
def mZ_init : Md := (⟨"WokenByKettle", "<init>", "()V"⟩, prog_1_method_1_code, 4, none)
def mZ_part : Md := (⟨"WokenByKettle", "part", "(II)I"⟩, prog_1_method_2_code, 3, some .int)
def mZ_parts : Md := (⟨"WokenByKettle", "parts", "(III)I"⟩, prog_1_method_3_code, 6, some .int)
def mZ_addFromRow : Md := (⟨"WokenByKettle", "addFromRow", "(IJ)Z"⟩, prog_1_method_4_code, 8, some .boolean)
def mZ_mend : Md := (⟨"WokenByKettle", "mend", "(III)I"⟩, prog_1_method_5_code, 5, some .int)
def mZ_of : Md := (⟨"WokenByKettle", "of", "(II)I"⟩, prog_1_method_6_code, 3, some .int)
def mZ_feed : Md := (⟨"WokenByKettle", "feed", "(I)I"⟩, prog_1_method_7_code, 2, some .int)
def mZ_law : Md := (⟨"WokenByKettle", "law", "()I"⟩, prog_1_method_8_code, 1, some .int)
def mZ_works : Md := (⟨"WokenByKettle", "works", "(I)I"⟩, prog_1_method_9_code, 2, some .int)
def mZ_gone : Md := (⟨"WokenByKettle", "gone", "(II)I"⟩, prog_1_method_10_code, 4, some .int)
def mZ_stuck : Md := (⟨"WokenByKettle", "stuck", "(I)I"⟩, prog_1_method_11_code, 2, some .int)
def mZ_likely : Md := (⟨"WokenByKettle", "likely", "(II)J"⟩, prog_1_method_12_code, 6, some .long)
def mZ_when : Md := (⟨"WokenByKettle", "when", "(I)I"⟩, prog_1_method_13_code, 3, some .int)
def mZ_mean : Md := (⟨"WokenByKettle", "mean", "(I)J"⟩, prog_1_method_14_code, 2, some .long)
def mZ_worth : Md := (⟨"WokenByKettle", "worth", "(I)I"⟩, prog_1_method_15_code, 2, some .int)
def mZ_begin : Md := (⟨"WokenByKettle", "begin", "(I)I"⟩, prog_1_method_16_code, 3, some .int)
def mZ_change : Md := (⟨"WokenByKettle", "change", "(II)I"⟩, prog_1_method_17_code, 3, some .int)
def mZ_fire : Md := (⟨"WokenByKettle", "fire", "(I)J"⟩, prog_1_method_18_code, 2, some .long)
def mZ_failed : Md := (⟨"WokenByKettle", "failed", "(III)J"⟩, prog_1_method_19_code, 4, some .long)
def mZ_look : Md := (⟨"WokenByKettle", "look", "(I)I"⟩, prog_1_method_20_code, 2, some .int)
def mZ_test : Md := (⟨"WokenByKettle", "test", "(I)I"⟩, prog_1_method_21_code, 2, some .int)
def mZ_mending : Md := (⟨"WokenByKettle", "mending", "(II)I"⟩, prog_1_method_22_code, 4, some .int)
def mZ_judge : Md := (⟨"WokenByKettle", "judge", "(I)I"⟩, prog_1_method_23_code, 4, some .int)
def mZ_how : Md := (⟨"WokenByKettle", "how", "(II)I"⟩, prog_1_method_24_code, 3, some .int)
def mZ_whose : Md := (⟨"WokenByKettle", "whose", "(II)I"⟩, prog_1_method_25_code, 6, some .int)
def mZ_drawn : Md := (⟨"WokenByKettle", "drawn", "(III)I"⟩, prog_1_method_26_code, 4, some .int)
def mZ_morning : Md := (⟨"WokenByKettle", "morning", "(I)I"⟩, prog_1_method_27_code, 2, some .int)
def mZ_mended : Md := (⟨"WokenByKettle", "mended", "(I)I"⟩, prog_1_method_28_code, 2, some .int)
def mZ_led : Md := (⟨"WokenByKettle", "led", "(I)I"⟩, prog_1_method_29_code, 2, some .int)
def mZ_image : Md := (⟨"WokenByKettle", "image", "()I"⟩, prog_1_method_30_code, 1, some .int)
def mZ_back : Md := (⟨"WokenByKettle", "back", "()I"⟩, prog_1_method_31_code, 1, some .int)
def mZ_undo : Md := (⟨"WokenByKettle", "undo", "()I"⟩, prog_1_method_32_code, 1, some .int)
def mZ_redo : Md := (⟨"WokenByKettle", "redo", "()I"⟩, prog_1_method_33_code, 1, some .int)
def mZ_body : Md := (⟨"WokenByKettle", "body", "(I)I"⟩, prog_1_method_34_code, 2, some .int)
def mZ_act : Md := (⟨"WokenByKettle", "act", "(III)I"⟩, prog_1_method_35_code, 4, some .int)
def mZ_trace : Md := (⟨"WokenByKettle", "trace", "(I)I"⟩, prog_1_method_36_code, 2, some .int)
def mZ_keep : Md := (⟨"WokenByKettle", "keep", "(II)I"⟩, prog_1_method_37_code, 4, some .int)
def mZ_row : Md := (⟨"WokenByKettle", "row", "(III)I"⟩, prog_1_method_38_code, 4, some .int)
def mZ_put : Md := (⟨"WokenByKettle", "put", "(IIJ)I"⟩, prog_1_method_39_code, 5, some .int)
def mZ_element : Md := (⟨"WokenByKettle", "element", "(II)J"⟩, prog_1_method_40_code, 3, some .long)
def mZ_shift : Md := (⟨"WokenByKettle", "shift", "(IIIII)I"⟩, prog_1_method_41_code, 6, some .int)
def mZ_taken : Md := (⟨"WokenByKettle", "taken", "(II)I"⟩, prog_1_method_42_code, 5, some .int)
def mZ_count : Md := (⟨"WokenByKettle", "count", "(I)I"⟩, prog_1_method_43_code, 2, some .int)
def mZ_isSet : Md := (⟨"WokenByKettle", "isSet", "(I)Z"⟩, prog_1_method_44_code, 1, some .boolean)
def mZ_isSide : Md := (⟨"WokenByKettle", "isSide", "(I)Z"⟩, prog_1_method_45_code, 1, some .boolean)
def mZ_side : Md := (⟨"WokenByKettle", "side", "(JJI)J"⟩, prog_1_method_46_code, 9, some .long)
def mZ_commonDivisor : Md := (⟨"WokenByKettle", "commonDivisor", "(JJ)J"⟩, prog_1_method_47_code, 11, some .long)
def mZ_cut : Md := (⟨"WokenByKettle", "cut", "(JJJ)J"⟩, prog_1_method_48_code, 6, some .long)
def mY_init : Md := (⟨"WokenByKettleModel", "<init>", "()V"⟩, prog_14_method_1_code, 1, none)
def mY_in : Md := (⟨"WokenByKettleModel", "in", "(III)Z"⟩, prog_14_method_3_code, 3, some .boolean)
def mY_isPart : Md := (⟨"WokenByKettleModel", "isPart", "(I)Z"⟩, prog_14_method_4_code, 2, some .boolean)
def mY_arePart : Md := (⟨"WokenByKettleModel", "arePart", "(III)Z"⟩, prog_14_method_5_code, 4, some .boolean)
def mY_addPart : Md := (⟨"WokenByKettleModel", "addPart", "(III)I"⟩, prog_14_method_6_code, 4, some .int)
def mY_part : Md := (⟨"WokenByKettleModel", "part", "(II)I"⟩, prog_14_method_7_code, 3, some .int)
def mY_parts : Md := (⟨"WokenByKettleModel", "parts", "(III)I"⟩, prog_14_method_8_code, 8, some .int)
def mY_valueAt : Md := (⟨"WokenByKettleModel", "valueAt", "(II)I"⟩, prog_14_method_9_code, 3, some .int)
def mY_lays : Md := (⟨"WokenByKettleModel", "lays", "(III)V"⟩, prog_14_method_10_code, 4, none)
def mY_changes : Md := (⟨"WokenByKettleModel", "changes", "(III)I"⟩, prog_14_method_11_code, 6, some .int)
def mY_undo : Md := (⟨"WokenByKettleModel", "undo", "()I"⟩, prog_14_method_12_code, 1, some .int)
def mY_redo : Md := (⟨"WokenByKettleModel", "redo", "()I"⟩, prog_14_method_13_code, 1, some .int)
def mY_isOne : Md := (⟨"WokenByKettleModel", "isOne", "(II)Z"⟩, prog_14_method_14_code, 3, some .boolean)
def mY_mayHave : Md := (⟨"WokenByKettleModel", "mayHave", "(III)Z"⟩, prog_14_method_15_code, 3, some .boolean)
def mY_mend : Md := (⟨"WokenByKettleModel", "mend", "(III)I"⟩, prog_14_method_16_code, 4, some .int)
def mY_of : Md := (⟨"WokenByKettleModel", "of", "(II)I"⟩, prog_14_method_17_code, 3, some .int)
def mY_feed : Md := (⟨"WokenByKettleModel", "feed", "(I)I"⟩, prog_14_method_18_code, 2, some .int)
def mY_looksOn : Md := (⟨"WokenByKettleModel", "looksOn", "()I"⟩, prog_14_method_19_code, 1, some .int)
def mY_wrong : Md := (⟨"WokenByKettleModel", "wrong", "()V"⟩, prog_14_method_20_code, 1, none)
def mY_addStep : Md := (⟨"WokenByKettleModel", "addStep", "(II)V"⟩, prog_14_method_21_code, 3, none)
def mY_nameOf : Md := (⟨"WokenByKettleModel", "nameOf", "(I)I"⟩, prog_14_method_22_code, 1, some .int)
def mY_opens : Md := (⟨"WokenByKettleModel", "opens", "()Z"⟩, prog_14_method_23_code, 1, some .boolean)
def mY_figure : Md := (⟨"WokenByKettleModel", "figure", "()V"⟩, prog_14_method_24_code, 3, none)
def mY_operand : Md := (⟨"WokenByKettleModel", "operand", "()V"⟩, prog_14_method_25_code, 2, none)
def mY_product : Md := (⟨"WokenByKettleModel", "product", "()V"⟩, prog_14_method_26_code, 2, none)
def mY_sum : Md := (⟨"WokenByKettleModel", "sum", "()V"⟩, prog_14_method_27_code, 2, none)
def mY_compared : Md := (⟨"WokenByKettleModel", "compared", "()V"⟩, prog_14_method_28_code, 2, none)
def mY_both : Md := (⟨"WokenByKettleModel", "both", "()V"⟩, prog_14_method_29_code, 1, none)
def mY_either : Md := (⟨"WokenByKettleModel", "either", "()V"⟩, prog_14_method_30_code, 1, none)
def mY_line : Md := (⟨"WokenByKettleModel", "line", "()V"⟩, prog_14_method_31_code, 2, none)
def mY_readText : Md := (⟨"WokenByKettleModel", "readText", "(I)I"⟩, prog_14_method_32_code, 3, some .int)
def mY_twoOf : Md := (⟨"WokenByKettleModel", "twoOf", "(III)I"⟩, prog_14_method_33_code, 3, some .int)
def mY_worked : Md := (⟨"WokenByKettleModel", "worked", "(III)I"⟩, prog_14_method_34_code, 7, some .int)
def mY_gives : Md := (⟨"WokenByKettleModel", "gives", "(I)I"⟩, prog_14_method_35_code, 4, some .int)
def mY_law : Md := (⟨"WokenByKettleModel", "law", "()I"⟩, prog_14_method_36_code, 2, some .int)
def mY_twelfthsOf : Md := (⟨"WokenByKettleModel", "twelfthsOf", "(I)I"⟩, prog_14_method_37_code, 3, some .int)
def mY_works : Md := (⟨"WokenByKettleModel", "works", "(I)I"⟩, prog_14_method_38_code, 2, some .int)
def mY_waitsTill : Md := (⟨"WokenByKettleModel", "waitsTill", "(I)I"⟩, prog_14_method_39_code, 4, some .int)
def mY_goMorning : Md := (⟨"WokenByKettleModel", "goMorning", "(I)V"⟩, prog_14_method_40_code, 5, none)
def mY_endNow : Md := (⟨"WokenByKettleModel", "endNow", "()I"⟩, prog_14_method_41_code, 1, some .int)
def mY_layTwelfths : Md := (⟨"WokenByKettleModel", "layTwelfths", "()V"⟩, prog_14_method_42_code, 2, none)
def mY_oddsOf : Md := (⟨"WokenByKettleModel", "oddsOf", "(I)J"⟩, prog_14_method_43_code, 7, some .long)
def mY_sets : Md := (⟨"WokenByKettleModel", "sets", "()I"⟩, prog_14_method_44_code, 1, some .int)
def mY_whole : Md := (⟨"WokenByKettleModel", "whole", "()J"⟩, prog_14_method_45_code, 4, some .long)
def mY_isSet : Md := (⟨"WokenByKettleModel", "isSet", "(I)Z"⟩, prog_14_method_46_code, 1, some .boolean)
def mY_gone : Md := (⟨"WokenByKettleModel", "gone", "(II)I"⟩, prog_14_method_47_code, 3, some .int)
def mY_stuck : Md := (⟨"WokenByKettleModel", "stuck", "(I)I"⟩, prog_14_method_48_code, 2, some .int)
def mY_lowest : Md := (⟨"WokenByKettleModel", "lowest", "(JJI)J"⟩, prog_14_method_49_code, 11, some .long)
def mY_endsBy : Md := (⟨"WokenByKettleModel", "endsBy", "(I)J"⟩, prog_14_method_50_code, 5, some .long)
def mY_goesOdds : Md := (⟨"WokenByKettleModel", "goesOdds", "(I)J"⟩, prog_14_method_51_code, 5, some .long)
def mY_likely : Md := (⟨"WokenByKettleModel", "likely", "(II)J"⟩, prog_14_method_52_code, 3, some .long)
def mY_when : Md := (⟨"WokenByKettleModel", "when", "(I)I"⟩, prog_14_method_53_code, 5, some .int)
def mY_mean : Md := (⟨"WokenByKettleModel", "mean", "(I)J"⟩, prog_14_method_54_code, 7, some .long)
def mY_findMinutes : Md := (⟨"WokenByKettleModel", "findMinutes", "()V"⟩, prog_14_method_55_code, 2, none)
def mY_worthAt : Md := (⟨"WokenByKettleModel", "worthAt", "(I)I"⟩, prog_14_method_56_code, 7, some .int)
def mY_worth : Md := (⟨"WokenByKettleModel", "worth", "(I)I"⟩, prog_14_method_57_code, 2, some .int)
def mY_begin : Md := (⟨"WokenByKettleModel", "begin", "(I)I"⟩, prog_14_method_58_code, 6, some .int)
def mY_changedBy : Md := (⟨"WokenByKettleModel", "changedBy", "(II)J"⟩, prog_14_method_59_code, 3, some .long)
def mY_change : Md := (⟨"WokenByKettleModel", "change", "(II)I"⟩, prog_14_method_60_code, 12, some .int)
def mY_fire : Md := (⟨"WokenByKettleModel", "fire", "(I)J"⟩, prog_14_method_61_code, 5, some .long)
def mY_burnsNow : Md := (⟨"WokenByKettleModel", "burnsNow", "()Z"⟩, prog_14_method_62_code, 1, some .boolean)
def mY_areSeen : Md := (⟨"WokenByKettleModel", "areSeen", "(I)Z"⟩, prog_14_method_63_code, 1, some .boolean)
def mY_findSo : Md := (⟨"WokenByKettleModel", "findSo", "(I)V"⟩, prog_14_method_64_code, 7, none)
def mY_failed : Md := (⟨"WokenByKettleModel", "failed", "(III)J"⟩, prog_14_method_65_code, 4, some .long)
def mY_look : Md := (⟨"WokenByKettleModel", "look", "(I)I"⟩, prog_14_method_66_code, 6, some .int)
def mY_test : Md := (⟨"WokenByKettleModel", "test", "(I)I"⟩, prog_14_method_67_code, 8, some .int)
def mY_oddsNow : Md := (⟨"WokenByKettleModel", "oddsNow", "()I"⟩, prog_14_method_68_code, 1, some .int)
def mY_goMends : Md := (⟨"WokenByKettleModel", "goMends", "(III)V"⟩, prog_14_method_69_code, 7, none)
def mY_mending : Md := (⟨"WokenByKettleModel", "mending", "(II)I"⟩, prog_14_method_70_code, 3, some .int)
def mY_rowFault : Md := (⟨"WokenByKettleModel", "rowFault", "(I)I"⟩, prog_14_method_71_code, 2, some .int)
def mY_justOdds : Md := (⟨"WokenByKettleModel", "justOdds", "(I)J"⟩, prog_14_method_72_code, 5, some .long)
def mY_judge : Md := (⟨"WokenByKettleModel", "judge", "(I)I"⟩, prog_14_method_73_code, 4, some .int)
def mY_how : Md := (⟨"WokenByKettleModel", "how", "(II)I"⟩, prog_14_method_74_code, 10, some .int)
def mY_productBy : Md := (⟨"WokenByKettleModel", "productBy", "(I)J"⟩, prog_14_method_75_code, 5, some .long)
def mY_whose : Md := (⟨"WokenByKettleModel", "whose", "(II)I"⟩, prog_14_method_76_code, 10, some .int)
def mY_drawn : Md := (⟨"WokenByKettleModel", "drawn", "(III)I"⟩, prog_14_method_77_code, 10, some .int)
def mY_morning : Md := (⟨"WokenByKettleModel", "morning", "(I)I"⟩, prog_14_method_78_code, 3, some .int)
def mY_mended : Md := (⟨"WokenByKettleModel", "mended", "(I)I"⟩, prog_14_method_79_code, 3, some .int)
def mY_led : Md := (⟨"WokenByKettleModel", "led", "(I)I"⟩, prog_14_method_80_code, 2, some .int)
def mY_image : Md := (⟨"WokenByKettleModel", "image", "()I"⟩, prog_14_method_81_code, 2, some .int)
def mY_back : Md := (⟨"WokenByKettleModel", "back", "()I"⟩, prog_14_method_82_code, 2, some .int)
def mY_isBody : Md := (⟨"WokenByKettleModel", "isBody", "(I)Z"⟩, prog_14_method_83_code, 2, some .boolean)
def mY_ran : Md := (⟨"WokenByKettleModel", "ran", "(I)V"⟩, prog_14_method_84_code, 2, none)
def mY_trace : Md := (⟨"WokenByKettleModel", "trace", "(I)I"⟩, prog_14_method_85_code, 2, some .int)
def mY_body : Md := (⟨"WokenByKettleModel", "body", "(I)I"⟩, prog_14_method_86_code, 2, some .int)
def mY_isUnder : Md := (⟨"WokenByKettleModel", "isUnder", "(II)Z"⟩, prog_14_method_87_code, 2, some .boolean)
def mY_plainStarts : Md := (⟨"WokenByKettleModel", "plainStarts", "(II)I"⟩, prog_14_method_88_code, 3, some .int)
def mY_catStarts : Md := (⟨"WokenByKettleModel", "catStarts", "(II)I"⟩, prog_14_method_89_code, 3, some .int)
def mY_starting : Md := (⟨"WokenByKettleModel", "starting", "(II)I"⟩, prog_14_method_90_code, 3, some .int)
def mY_plainTakes : Md := (⟨"WokenByKettleModel", "plainTakes", "(II)I"⟩, prog_14_method_91_code, 3, some .int)
def mY_matchTakes : Md := (⟨"WokenByKettleModel", "matchTakes", "(II)I"⟩, prog_14_method_92_code, 3, some .int)
def mY_taking : Md := (⟨"WokenByKettleModel", "taking", "(II)I"⟩, prog_14_method_93_code, 4, some .int)
def mY_plainFails : Md := (⟨"WokenByKettleModel", "plainFails", "(II)I"⟩, prog_14_method_94_code, 3, some .int)
def mY_leverFails : Md := (⟨"WokenByKettleModel", "leverFails", "(II)I"⟩, prog_14_method_95_code, 3, some .int)
def mY_failing : Md := (⟨"WokenByKettleModel", "failing", "(II)I"⟩, prog_14_method_96_code, 4, some .int)
def mY_plainTells : Md := (⟨"WokenByKettleModel", "plainTells", "(II)I"⟩, prog_14_method_97_code, 4, some .int)
def mY_telling : Md := (⟨"WokenByKettleModel", "telling", "(II)I"⟩, prog_14_method_98_code, 3, some .int)
def mY_act : Md := (⟨"WokenByKettleModel", "act", "(III)I"⟩, prog_14_method_99_code, 4, some .int)
def mY_count : Md := (⟨"WokenByKettleModel", "count", "(I)I"⟩, prog_14_method_100_code, 2, some .int)
def mY_isShelf : Md := (⟨"WokenByKettleModel", "isShelf", "(I)Z"⟩, prog_14_method_101_code, 1, some .boolean)
def mY_keep : Md := (⟨"WokenByKettleModel", "keep", "(II)I"⟩, prog_14_method_102_code, 3, some .int)
def mY_row : Md := (⟨"WokenByKettleModel", "row", "(III)I"⟩, prog_14_method_103_code, 5, some .int)
def mY_whyNoPlace : Md := (⟨"WokenByKettleModel", "whyNoPlace", "(II)I"⟩, prog_14_method_104_code, 3, some .int)
def mY_put : Md := (⟨"WokenByKettleModel", "put", "(IIJ)I"⟩, prog_14_method_105_code, 7, some .int)
def mY_element : Md := (⟨"WokenByKettleModel", "element", "(II)J"⟩, prog_14_method_106_code, 3, some .long)
def mY_shift : Md := (⟨"WokenByKettleModel", "shift", "(IIIII)I"⟩, prog_14_method_107_code, 7, some .int)
def mY_taken : Md := (⟨"WokenByKettleModel", "taken", "(II)I"⟩, prog_14_method_108_code, 3, some .int)
def mA_init : Md := (⟨"WokenByKettle$Acts", "<init>", "()V"⟩, prog_2_method_1_code, 1, none)
def mA_isKind : Md := (⟨"WokenByKettle$Acts", "isKind", "(I)Z"⟩, prog_2_method_2_code, 1, some .boolean)
def mA_isUnder : Md := (⟨"WokenByKettle$Acts", "isUnder", "(II)Z"⟩, prog_2_method_3_code, 4, some .boolean)
def mA_add : Md := (⟨"WokenByKettle$Acts", "add", "(I)I"⟩, prog_2_method_4_code, 2, some .int)
def mA_has : Md := (⟨"WokenByKettle$Acts", "has", "(I)Z"⟩, prog_2_method_5_code, 2, some .boolean)
def mA_kindOf : Md := (⟨"WokenByKettle$Acts", "kindOf", "(I)I"⟩, prog_2_method_6_code, 2, some .int)
def mA_perform : Md := (⟨"WokenByKettle$Acts", "perform", "(III)I"⟩, prog_2_method_7_code, 4, some .int)
def mA_ranAt : Md := (⟨"WokenByKettle$Acts", "ranAt", "(I)I"⟩, prog_2_method_8_code, 2, some .int)
def mA_began : Md := (⟨"WokenByKettle$Acts", "began", "(I)V"⟩, prog_2_method_9_code, 2, none)
def mA_ownerOf : Md := (⟨"WokenByKettle$Acts", "ownerOf", "(II)I"⟩, prog_2_method_10_code, 4, some .int)
def mA_run : Md := (⟨"WokenByKettle$Acts", "run", "(LWokenByKettle$Acts;IIII)I"⟩, prog_2_method_11_code, 10, some .int)
def mC_init : Md := (⟨"WokenByKettle$Chances", "<init>", "(LWokenByKettle$Kitchen;LWokenByKettle$Paths;LWokenByKettle$Thought;)V"⟩, prog_3_method_1_code, 4, none)
def mC_worthOf : Md := (⟨"WokenByKettle$Chances", "worthOf", "(I)I"⟩, prog_3_method_2_code, 11, some .int)
def mC_bestBegin : Md := (⟨"WokenByKettle$Chances", "bestBegin", "()I"⟩, prog_3_method_3_code, 5, some .int)
def mC_bestChange : Md := (⟨"WokenByKettle$Chances", "bestChange", "(IZ)I"⟩, prog_3_method_4_code, 9, some .int)
def mC_oddsChanged : Md := (⟨"WokenByKettle$Chances", "oddsChanged", "(II)J"⟩, prog_3_method_5_code, 5, some .long)
def mC_oddsOfEnd : Md := (⟨"WokenByKettle$Chances", "oddsOfEnd", "(IJJ)J"⟩, prog_3_method_6_code, 9, some .long)
def mC_oddsOfFire : Md := (⟨"WokenByKettle$Chances", "oddsOfFire", "()J"⟩, prog_3_method_7_code, 4, some .long)
def mC_burns : Md := (⟨"WokenByKettle$Chances", "burns", "(LWokenByKettle$Kitchen;I)Z"⟩, prog_3_method_8_code, 4, some .boolean)
def mC_draw : Md := (⟨"WokenByKettle$Chances", "draw", "(IIZ)I"⟩, prog_3_method_9_code, 10, some .int)
def mG_init : Md := (⟨"WokenByKettle$Changes", "<init>", "(LWokenByKettle$Kitchen;)V"⟩, prog_4_method_1_code, 2, none)
def mG_tell : Md := (⟨"WokenByKettle$Changes", "tell", "(III)V"⟩, prog_4_method_2_code, 4, none)
def mG_forgetOldest : Md := (⟨"WokenByKettle$Changes", "forgetOldest", "()V"⟩, prog_4_method_3_code, 1, none)
def mG_takeBack : Md := (⟨"WokenByKettle$Changes", "takeBack", "()I"⟩, prog_4_method_4_code, 1, some .int)
def mG_doAgain : Md := (⟨"WokenByKettle$Changes", "doAgain", "()I"⟩, prog_4_method_5_code, 1, some .int)
def mD_init : Md := (⟨"WokenByKettle$Deeds", "<init>", "(LWokenByKettle$Kitchen;LWokenByKettle$Paths;)V"⟩, prog_5_method_1_code, 3, none)
def mD_live : Md := (⟨"WokenByKettle$Deeds", "live", "(I)I"⟩, prog_5_method_2_code, 3, some .int)
def mD_repair : Md := (⟨"WokenByKettle$Deeds", "repair", "(I)I"⟩, prog_5_method_3_code, 3, some .int)
def mD_ledgerAt : Md := (⟨"WokenByKettle$Deeds", "ledgerAt", "(I)I"⟩, prog_5_method_4_code, 2, some .int)
def mD_keepImage : Md := (⟨"WokenByKettle$Deeds", "keepImage", "()I"⟩, prog_5_method_5_code, 2, some .int)
def mD_layBack : Md := (⟨"WokenByKettle$Deeds", "layBack", "()I"⟩, prog_5_method_6_code, 2, some .int)
def mI_init : Md := (⟨"WokenByKettle$Inquest", "<init>", "(LWokenByKettle$Kitchen;LWokenByKettle$Paths;LWokenByKettle$Thought;)V"⟩, prog_6_method_1_code, 4, none)
def mI_isTold : Md := (⟨"WokenByKettle$Inquest", "isTold", "(I)Z"⟩, prog_6_method_2_code, 1, some .boolean)
def mI_hear : Md := (⟨"WokenByKettle$Inquest", "hear", "(I)V"⟩, prog_6_method_3_code, 2, none)
def mI_oddsSo : Md := (⟨"WokenByKettle$Inquest", "oddsSo", "(I)J"⟩, prog_6_method_4_code, 2, some .long)
def mI_oddsHeard : Md := (⟨"WokenByKettle$Inquest", "oddsHeard", "()J"⟩, prog_6_method_5_code, 4, some .long)
def mI_oddsStuck : Md := (⟨"WokenByKettle$Inquest", "oddsStuck", "(I)J"⟩, prog_6_method_6_code, 5, some .long)
def mI_oddsGone : Md := (⟨"WokenByKettle$Inquest", "oddsGone", "(I)J"⟩, prog_6_method_7_code, 5, some .long)
def mI_likeliestStuck : Md := (⟨"WokenByKettle$Inquest", "likeliestStuck", "()I"⟩, prog_6_method_8_code, 7, some .int)
def mI_bestTest : Md := (⟨"WokenByKettle$Inquest", "bestTest", "()I"⟩, prog_6_method_9_code, 11, some .int)
def mI_open : Md := (⟨"WokenByKettle$Inquest", "open", "(I)V"⟩, prog_6_method_10_code, 2, none)
def mI_read : Md := (⟨"WokenByKettle$Inquest", "read", "(I)V"⟩, prog_6_method_11_code, 7, none)
def mI_bestTwelfths : Md := (⟨"WokenByKettle$Inquest", "bestTwelfths", "()I"⟩, prog_6_method_12_code, 3, some .int)
def mK_init : Md := (⟨"WokenByKettle$Kitchen", "<init>", "()V"⟩, prog_7_method_1_code, 1, none)
def mK_has : Md := (⟨"WokenByKettle$Kitchen", "has", "(I)Z"⟩, prog_7_method_2_code, 2, some .boolean)
def mK_knows : Md := (⟨"WokenByKettle$Kitchen", "knows", "(II)Z"⟩, prog_7_method_3_code, 3, some .boolean)
def mK_fits : Md := (⟨"WokenByKettle$Kitchen", "fits", "(III)Z"⟩, prog_7_method_4_code, 4, some .boolean)
def mK_told : Md := (⟨"WokenByKettle$Kitchen", "told", "(II)I"⟩, prog_7_method_5_code, 3, some .int)
def mK_write : Md := (⟨"WokenByKettle$Kitchen", "write", "(III)V"⟩, prog_7_method_6_code, 4, none)
def mK_isPlace : Md := (⟨"WokenByKettle$Kitchen", "isPlace", "(II)Z"⟩, prog_7_method_7_code, 2, some .boolean)
def mK_add : Md := (⟨"WokenByKettle$Kitchen", "add", "(III)I"⟩, prog_7_method_8_code, 5, some .int)
def mK_twelfths : Md := (⟨"WokenByKettle$Kitchen", "twelfths", "(II)I"⟩, prog_7_method_9_code, 8, some .int)
def mK_ageAll : Md := (⟨"WokenByKettle$Kitchen", "ageAll", "()V"⟩, prog_7_method_10_code, 2, none)
def mL_init : Md := (⟨"WokenByKettle$Law", "<init>", "()V"⟩, prog_8_method_1_code, 1, none)
def mL_append : Md := (⟨"WokenByKettle$Law", "append", "(I)I"⟩, prog_8_method_2_code, 2, some .int)
def mL_isWritten : Md := (⟨"WokenByKettle$Law", "isWritten", "()Z"⟩, prog_8_method_3_code, 1, some .boolean)
def mL_adopt : Md := (⟨"WokenByKettle$Law", "adopt", "()Z"⟩, prog_8_method_4_code, 2, some .boolean)
def mL_readLine : Md := (⟨"WokenByKettle$Law", "readLine", "()V"⟩, prog_8_method_5_code, 1, none)
def mL_expression : Md := (⟨"WokenByKettle$Law", "expression", "(LWokenByKettle$Law;II)V"⟩, prog_8_method_6_code, 5, none)
def mL_single : Md := (⟨"WokenByKettle$Law", "single", "(LWokenByKettle$Law;I)V"⟩, prog_8_method_7_code, 4, none)
def mL_readOperand : Md := (⟨"WokenByKettle$Law", "readOperand", "(I)V"⟩, prog_8_method_8_code, 4, none)
def mL_next : Md := (⟨"WokenByKettle$Law", "next", "()I"⟩, prog_8_method_9_code, 1, some .int)
def mL_accept : Md := (⟨"WokenByKettle$Law", "accept", "(I)V"⟩, prog_8_method_10_code, 2, none)
def mL_signOf : Md := (⟨"WokenByKettle$Law", "signOf", "(I)I"⟩, prog_8_method_11_code, 4, some .int)
def mL_emit : Md := (⟨"WokenByKettle$Law", "emit", "(I)V"⟩, prog_8_method_12_code, 2, none)
def mL_give : Md := (⟨"WokenByKettle$Law", "give", "([I)I"⟩, prog_8_method_13_code, 7, some .int)
def mL_combine : Md := (⟨"WokenByKettle$Law", "combine", "(II)I"⟩, prog_8_method_14_code, 7, some .int)
def mL_valueOf : Md := (⟨"WokenByKettle$Law", "valueOf", "(III)I"⟩, prog_8_method_15_code, 3, some .int)
def mP_init : Md := (⟨"WokenByKettle$Paths", "<init>", "(LWokenByKettle$Kitchen;)V"⟩, prog_9_method_1_code, 2, none)
def mP_follow : Md := (⟨"WokenByKettle$Paths", "follow", "()V"⟩, prog_9_method_2_code, 2, none)
def mP_followOne : Md := (⟨"WokenByKettle$Paths", "followOne", "(I)V"⟩, prog_9_method_3_code, 7, none)
def mP_startOf : Md := (⟨"WokenByKettle$Paths", "startOf", "(II)I"⟩, prog_9_method_4_code, 10, some .int)
def mP_minuteOf : Md := (⟨"WokenByKettle$Paths", "minuteOf", "(II)I"⟩, prog_9_method_5_code, 3, some .int)
def mP_endOf : Md := (⟨"WokenByKettle$Paths", "endOf", "(I)I"⟩, prog_9_method_6_code, 2, some .int)
def mP_goersOf : Md := (⟨"WokenByKettle$Paths", "goersOf", "(I)I"⟩, prog_9_method_7_code, 2, some .int)
def mP_stuckOf : Md := (⟨"WokenByKettle$Paths", "stuckOf", "(I)I"⟩, prog_9_method_8_code, 2, some .int)
def mN_init : Md := (⟨"WokenByKettle$Plan", "<init>", "(LWokenByKettle$Kitchen;LWokenByKettle$Paths;LWokenByKettle$Thought;)V"⟩, prog_10_method_1_code, 4, none)
def mN_bestWay : Md := (⟨"WokenByKettle$Plan", "bestWay", "(I)I"⟩, prog_10_method_2_code, 6, some .int)
def mN_foreseeTwelfths : Md := (⟨"WokenByKettle$Plan", "foreseeTwelfths", "()V"⟩, prog_10_method_3_code, 4, none)
def mN_millionths : Md := (⟨"WokenByKettle$Plan", "millionths", "(II)I"⟩, prog_10_method_4_code, 6, some .int)
def mN_togetherOf : Md := (⟨"WokenByKettle$Plan", "togetherOf", "(II)I"⟩, prog_10_method_5_code, 3, some .int)
def mN_whom : Md := (⟨"WokenByKettle$Plan", "whom", "(III)I"⟩, prog_10_method_6_code, 6, some .int)
def mN_withoutLast : Md := (⟨"WokenByKettle$Plan", "withoutLast", "(I)I"⟩, prog_10_method_7_code, 2, some .int)
def mS_init : Md := (⟨"WokenByKettle$Shelves", "<init>", "()V"⟩, prog_11_method_1_code, 1, none)
def mS_isShelf : Md := (⟨"WokenByKettle$Shelves", "isShelf", "(I)Z"⟩, prog_11_method_2_code, 1, some .boolean)
def mS_refusalOf : Md := (⟨"WokenByKettle$Shelves", "refusalOf", "(II)I"⟩, prog_11_method_3_code, 3, some .int)
def mS_refusalOfBody : Md := (⟨"WokenByKettle$Shelves", "refusalOfBody", "(I)I"⟩, prog_11_method_4_code, 2, some .int)
def mS_refusalOfShorts : Md := (⟨"WokenByKettle$Shelves", "refusalOfShorts", "(I)I"⟩, prog_11_method_5_code, 3, some .int)
def mS_refusalOfPlace : Md := (⟨"WokenByKettle$Shelves", "refusalOfPlace", "(II)I"⟩, prog_11_method_6_code, 4, some .int)
def mS_reaches : Md := (⟨"WokenByKettle$Shelves", "reaches", "(III)Z"⟩, prog_11_method_7_code, 4, some .boolean)
def mS_sizeOf : Md := (⟨"WokenByKettle$Shelves", "sizeOf", "(I)I"⟩, prog_11_method_8_code, 2, some .int)
def mS_cell : Md := (⟨"WokenByKettle$Shelves", "cell", "(II)J"⟩, prog_11_method_9_code, 3, some .long)
def mS_bodyOn : Md := (⟨"WokenByKettle$Shelves", "bodyOn", "(I)I"⟩, prog_11_method_10_code, 2, some .int)
def mS_holdBody : Md := (⟨"WokenByKettle$Shelves", "holdBody", "(II)I"⟩, prog_11_method_11_code, 3, some .int)
def mS_holdRow : Md := (⟨"WokenByKettle$Shelves", "holdRow", "(III)I"⟩, prog_11_method_12_code, 4, some .int)
def mS_write : Md := (⟨"WokenByKettle$Shelves", "write", "(IIJ)I"⟩, prog_11_method_13_code, 6, some .int)
def mS_lowestBits : Md := (⟨"WokenByKettle$Shelves", "lowestBits", "(IJ)J"⟩, prog_11_method_14_code, 3, some .long)
def mS_move : Md := (⟨"WokenByKettle$Shelves", "move", "(IIIII)I"⟩, prog_11_method_15_code, 8, some .int)
def mT_init : Md := (⟨"WokenByKettle$Thought", "<init>", "(LWokenByKettle$Kitchen;LWokenByKettle$Paths;)V"⟩, prog_12_method_1_code, 3, none)
def mT_think : Md := (⟨"WokenByKettle$Thought", "think", "()V"⟩, prog_12_method_2_code, 3, none)
def mT_listEndings : Md := (⟨"WokenByKettle$Thought", "listEndings", "()V"⟩, prog_12_method_3_code, 2, none)
def mT_weigh : Md := (⟨"WokenByKettle$Thought", "weigh", "([J[III)V"⟩, prog_12_method_4_code, 11, none)
def mT_oddsToGo : Md := (⟨"WokenByKettle$Thought", "oddsToGo", "(I)J"⟩, prog_12_method_5_code, 5, some .long)
def mT_oddsBy : Md := (⟨"WokenByKettle$Thought", "oddsBy", "(I)J"⟩, prog_12_method_6_code, 5, some .long)
def mT_oddsIn : Md := (⟨"WokenByKettle$Thought", "oddsIn", "(I)J"⟩, prog_12_method_7_code, 2, some .long)
def mT_minutesTogether : Md := (⟨"WokenByKettle$Thought", "minutesTogether", "()J"⟩, prog_12_method_8_code, 4, some .long)
def mT_soonest : Md := (⟨"WokenByKettle$Thought", "soonest", "()I"⟩, prog_12_method_9_code, 1, some .int)
def mT_latest : Md := (⟨"WokenByKettle$Thought", "latest", "()I"⟩, prog_12_method_10_code, 1, some .int)
def mT_waysTo : Md := (⟨"WokenByKettle$Thought", "waysTo", "(I)I"⟩, prog_12_method_11_code, 4, some .int)
def mT_likeliestWayTo : Md := (⟨"WokenByKettle$Thought", "likeliestWayTo", "(I)I"⟩, prog_12_method_12_code, 6, some .int)
def mW_law : Md := (⟨"WokenByKettleLaw", "law", "([I)Z"⟩, code, 4, some .boolean)
def mJ_bitCount : Md := (⟨"java/lang/Integer", "bitCount", "(I)I"⟩, prog_15_method_49_code, 1, some .int)
def mJ_fill : Md := (⟨"java/util/Arrays", "fill", "([JJ)V"⟩, prog_18_method_101_code, 5, none)
theorem pZ_init : plainFor mZ_init.1 = true := by decide +kernel
theorem oZ_init : CalOk mZ_init 0 := ⟨mT 165 (by decide +kernel) rfl, mT 144 (by decide +kernel) rfl, ⟨by decide, by decide⟩, by decide +kernel, by decide⟩
theorem iZ_init : Cond.instanceMethod mZ_init.1 ∈ Tg := mT 164 (by decide +kernel) rfl
theorem pZ_part : plainFor mZ_part.1 = true := by decide +kernel
theorem oZ_part : CalOk mZ_part 2 := ⟨mT 555 (by decide +kernel) rfl, mT 144 (by decide +kernel) rfl, ⟨by decide, by decide⟩, by decide +kernel, by decide⟩
theorem iZ_part : Cond.instanceMethod mZ_part.1 ∈ Tg := mT 553 (by decide +kernel) rfl
theorem sZ_part : Cond.selects mZ_part.1.cls mZ_part.1 mZ_part.1 ∈ Tg := mT 554 (by decide +kernel) rfl
theorem pZ_parts : plainFor mZ_parts.1 = true := by decide +kernel
theorem oZ_parts : CalOk mZ_parts 3 := ⟨mT 578 (by decide +kernel) rfl, mT 144 (by decide +kernel) rfl, ⟨by decide, by decide⟩, by decide +kernel, by decide⟩
theorem iZ_parts : Cond.instanceMethod mZ_parts.1 ∈ Tg := mT 576 (by decide +kernel) rfl
theorem sZ_parts : Cond.selects mZ_parts.1.cls mZ_parts.1 mZ_parts.1 ∈ Tg := mT 577 (by decide +kernel) rfl
theorem pZ_addFromRow : plainFor mZ_addFromRow.1 = true := by decide +kernel
theorem oZ_addFromRow : CalOk mZ_addFromRow 2 := ⟨mT 594 (by decide +kernel) rfl, mT 144 (by decide +kernel) rfl, ⟨by decide, by decide⟩, by decide +kernel, by decide⟩
theorem iZ_addFromRow : Cond.instanceMethod mZ_addFromRow.1 ∈ Tg := mT 593 (by decide +kernel) rfl
theorem sZ_addFromRow : Cond.selects mZ_addFromRow.1.cls mZ_addFromRow.1 mZ_addFromRow.1 ∈ Tg := mT 5 (by decide +kernel) rfl
theorem pZ_mend : plainFor mZ_mend.1 = true := by decide +kernel
theorem oZ_mend : CalOk mZ_mend 3 := ⟨mT 614 (by decide +kernel) rfl, mT 144 (by decide +kernel) rfl, ⟨by decide, by decide⟩, by decide +kernel, by decide⟩
theorem iZ_mend : Cond.instanceMethod mZ_mend.1 ∈ Tg := mT 612 (by decide +kernel) rfl
theorem sZ_mend : Cond.selects mZ_mend.1.cls mZ_mend.1 mZ_mend.1 ∈ Tg := mT 613 (by decide +kernel) rfl
theorem pZ_of : plainFor mZ_of.1 = true := by decide +kernel
theorem oZ_of : CalOk mZ_of 2 := ⟨mT 644 (by decide +kernel) rfl, mT 144 (by decide +kernel) rfl, ⟨by decide, by decide⟩, by decide +kernel, by decide⟩
theorem iZ_of : Cond.instanceMethod mZ_of.1 ∈ Tg := mT 642 (by decide +kernel) rfl
theorem sZ_of : Cond.selects mZ_of.1.cls mZ_of.1 mZ_of.1 ∈ Tg := mT 643 (by decide +kernel) rfl
theorem pZ_feed : plainFor mZ_feed.1 = true := by decide +kernel
theorem oZ_feed : CalOk mZ_feed 1 := ⟨mT 648 (by decide +kernel) rfl, mT 144 (by decide +kernel) rfl, ⟨by decide, by decide⟩, by decide +kernel, by decide⟩
theorem iZ_feed : Cond.instanceMethod mZ_feed.1 ∈ Tg := mT 646 (by decide +kernel) rfl
theorem sZ_feed : Cond.selects mZ_feed.1.cls mZ_feed.1 mZ_feed.1 ∈ Tg := mT 647 (by decide +kernel) rfl
theorem pZ_law : plainFor mZ_law.1 = true := by decide +kernel
theorem oZ_law : CalOk mZ_law 0 := ⟨mT 656 (by decide +kernel) rfl, mT 144 (by decide +kernel) rfl, ⟨by decide, by decide⟩, by decide +kernel, by decide⟩
theorem iZ_law : Cond.instanceMethod mZ_law.1 ∈ Tg := mT 654 (by decide +kernel) rfl
theorem sZ_law : Cond.selects mZ_law.1.cls mZ_law.1 mZ_law.1 ∈ Tg := mT 655 (by decide +kernel) rfl
theorem pZ_works : plainFor mZ_works.1 = true := by decide +kernel
theorem oZ_works : CalOk mZ_works 1 := ⟨mT 700 (by decide +kernel) rfl, mT 144 (by decide +kernel) rfl, ⟨by decide, by decide⟩, by decide +kernel, by decide⟩
theorem iZ_works : Cond.instanceMethod mZ_works.1 ∈ Tg := mT 698 (by decide +kernel) rfl
theorem sZ_works : Cond.selects mZ_works.1.cls mZ_works.1 mZ_works.1 ∈ Tg := mT 699 (by decide +kernel) rfl
theorem pZ_gone : plainFor mZ_gone.1 = true := by decide +kernel
theorem oZ_gone : CalOk mZ_gone 2 := ⟨mT 733 (by decide +kernel) rfl, mT 144 (by decide +kernel) rfl, ⟨by decide, by decide⟩, by decide +kernel, by decide⟩
theorem iZ_gone : Cond.instanceMethod mZ_gone.1 ∈ Tg := mT 731 (by decide +kernel) rfl
theorem sZ_gone : Cond.selects mZ_gone.1.cls mZ_gone.1 mZ_gone.1 ∈ Tg := mT 732 (by decide +kernel) rfl
theorem pZ_stuck : plainFor mZ_stuck.1 = true := by decide +kernel
theorem oZ_stuck : CalOk mZ_stuck 1 := ⟨mT 762 (by decide +kernel) rfl, mT 144 (by decide +kernel) rfl, ⟨by decide, by decide⟩, by decide +kernel, by decide⟩
theorem iZ_stuck : Cond.instanceMethod mZ_stuck.1 ∈ Tg := mT 760 (by decide +kernel) rfl
theorem sZ_stuck : Cond.selects mZ_stuck.1.cls mZ_stuck.1 mZ_stuck.1 ∈ Tg := mT 761 (by decide +kernel) rfl
theorem pZ_likely : plainFor mZ_likely.1 = true := by decide +kernel
theorem oZ_likely : CalOk mZ_likely 2 := ⟨mT 770 (by decide +kernel) rfl, mT 144 (by decide +kernel) rfl, ⟨by decide, by decide⟩, by decide +kernel, by decide⟩
theorem iZ_likely : Cond.instanceMethod mZ_likely.1 ∈ Tg := mT 768 (by decide +kernel) rfl
theorem sZ_likely : Cond.selects mZ_likely.1.cls mZ_likely.1 mZ_likely.1 ∈ Tg := mT 769 (by decide +kernel) rfl
theorem pZ_when : plainFor mZ_when.1 = true := by decide +kernel
theorem oZ_when : CalOk mZ_when 1 := ⟨mT 810 (by decide +kernel) rfl, mT 144 (by decide +kernel) rfl, ⟨by decide, by decide⟩, by decide +kernel, by decide⟩
theorem iZ_when : Cond.instanceMethod mZ_when.1 ∈ Tg := mT 808 (by decide +kernel) rfl
theorem sZ_when : Cond.selects mZ_when.1.cls mZ_when.1 mZ_when.1 ∈ Tg := mT 809 (by decide +kernel) rfl
theorem pZ_mean : plainFor mZ_mean.1 = true := by decide +kernel
theorem oZ_mean : CalOk mZ_mean 1 := ⟨mT 822 (by decide +kernel) rfl, mT 144 (by decide +kernel) rfl, ⟨by decide, by decide⟩, by decide +kernel, by decide⟩
theorem iZ_mean : Cond.instanceMethod mZ_mean.1 ∈ Tg := mT 820 (by decide +kernel) rfl
theorem sZ_mean : Cond.selects mZ_mean.1.cls mZ_mean.1 mZ_mean.1 ∈ Tg := mT 821 (by decide +kernel) rfl
theorem pZ_worth : plainFor mZ_worth.1 = true := by decide +kernel
theorem oZ_worth : CalOk mZ_worth 1 := ⟨mT 830 (by decide +kernel) rfl, mT 144 (by decide +kernel) rfl, ⟨by decide, by decide⟩, by decide +kernel, by decide⟩
theorem iZ_worth : Cond.instanceMethod mZ_worth.1 ∈ Tg := mT 828 (by decide +kernel) rfl
theorem sZ_worth : Cond.selects mZ_worth.1.cls mZ_worth.1 mZ_worth.1 ∈ Tg := mT 829 (by decide +kernel) rfl
theorem pZ_begin : plainFor mZ_begin.1 = true := by decide +kernel
theorem oZ_begin : CalOk mZ_begin 1 := ⟨mT 845 (by decide +kernel) rfl, mT 144 (by decide +kernel) rfl, ⟨by decide, by decide⟩, by decide +kernel, by decide⟩
theorem iZ_begin : Cond.instanceMethod mZ_begin.1 ∈ Tg := mT 843 (by decide +kernel) rfl
theorem sZ_begin : Cond.selects mZ_begin.1.cls mZ_begin.1 mZ_begin.1 ∈ Tg := mT 844 (by decide +kernel) rfl
theorem pZ_change : plainFor mZ_change.1 = true := by decide +kernel
theorem oZ_change : CalOk mZ_change 2 := ⟨mT 854 (by decide +kernel) rfl, mT 144 (by decide +kernel) rfl, ⟨by decide, by decide⟩, by decide +kernel, by decide⟩
theorem iZ_change : Cond.instanceMethod mZ_change.1 ∈ Tg := mT 852 (by decide +kernel) rfl
theorem sZ_change : Cond.selects mZ_change.1.cls mZ_change.1 mZ_change.1 ∈ Tg := mT 853 (by decide +kernel) rfl
theorem pZ_fire : plainFor mZ_fire.1 = true := by decide +kernel
theorem oZ_fire : CalOk mZ_fire 1 := ⟨mT 874 (by decide +kernel) rfl, mT 144 (by decide +kernel) rfl, ⟨by decide, by decide⟩, by decide +kernel, by decide⟩
theorem iZ_fire : Cond.instanceMethod mZ_fire.1 ∈ Tg := mT 872 (by decide +kernel) rfl
theorem sZ_fire : Cond.selects mZ_fire.1.cls mZ_fire.1 mZ_fire.1 ∈ Tg := mT 873 (by decide +kernel) rfl
theorem pZ_failed : plainFor mZ_failed.1 = true := by decide +kernel
theorem oZ_failed : CalOk mZ_failed 3 := ⟨mT 885 (by decide +kernel) rfl, mT 144 (by decide +kernel) rfl, ⟨by decide, by decide⟩, by decide +kernel, by decide⟩
theorem iZ_failed : Cond.instanceMethod mZ_failed.1 ∈ Tg := mT 883 (by decide +kernel) rfl
theorem sZ_failed : Cond.selects mZ_failed.1.cls mZ_failed.1 mZ_failed.1 ∈ Tg := mT 884 (by decide +kernel) rfl
theorem pZ_look : plainFor mZ_look.1 = true := by decide +kernel
theorem oZ_look : CalOk mZ_look 1 := ⟨mT 909 (by decide +kernel) rfl, mT 144 (by decide +kernel) rfl, ⟨by decide, by decide⟩, by decide +kernel, by decide⟩
theorem iZ_look : Cond.instanceMethod mZ_look.1 ∈ Tg := mT 907 (by decide +kernel) rfl
theorem sZ_look : Cond.selects mZ_look.1.cls mZ_look.1 mZ_look.1 ∈ Tg := mT 908 (by decide +kernel) rfl
theorem pZ_test : plainFor mZ_test.1 = true := by decide +kernel
theorem oZ_test : CalOk mZ_test 1 := ⟨mT 918 (by decide +kernel) rfl, mT 144 (by decide +kernel) rfl, ⟨by decide, by decide⟩, by decide +kernel, by decide⟩
theorem iZ_test : Cond.instanceMethod mZ_test.1 ∈ Tg := mT 916 (by decide +kernel) rfl
theorem sZ_test : Cond.selects mZ_test.1.cls mZ_test.1 mZ_test.1 ∈ Tg := mT 917 (by decide +kernel) rfl
theorem pZ_mending : plainFor mZ_mending.1 = true := by decide +kernel
theorem oZ_mending : CalOk mZ_mending 2 := ⟨mT 935 (by decide +kernel) rfl, mT 144 (by decide +kernel) rfl, ⟨by decide, by decide⟩, by decide +kernel, by decide⟩
theorem iZ_mending : Cond.instanceMethod mZ_mending.1 ∈ Tg := mT 933 (by decide +kernel) rfl
theorem sZ_mending : Cond.selects mZ_mending.1.cls mZ_mending.1 mZ_mending.1 ∈ Tg := mT 934 (by decide +kernel) rfl
theorem pZ_judge : plainFor mZ_judge.1 = true := by decide +kernel
theorem oZ_judge : CalOk mZ_judge 1 := ⟨mT 970 (by decide +kernel) rfl, mT 144 (by decide +kernel) rfl, ⟨by decide, by decide⟩, by decide +kernel, by decide⟩
theorem iZ_judge : Cond.instanceMethod mZ_judge.1 ∈ Tg := mT 968 (by decide +kernel) rfl
theorem sZ_judge : Cond.selects mZ_judge.1.cls mZ_judge.1 mZ_judge.1 ∈ Tg := mT 969 (by decide +kernel) rfl
theorem pZ_how : plainFor mZ_how.1 = true := by decide +kernel
theorem oZ_how : CalOk mZ_how 2 := ⟨mT 979 (by decide +kernel) rfl, mT 144 (by decide +kernel) rfl, ⟨by decide, by decide⟩, by decide +kernel, by decide⟩
theorem iZ_how : Cond.instanceMethod mZ_how.1 ∈ Tg := mT 977 (by decide +kernel) rfl
theorem sZ_how : Cond.selects mZ_how.1.cls mZ_how.1 mZ_how.1 ∈ Tg := mT 978 (by decide +kernel) rfl
theorem pZ_whose : plainFor mZ_whose.1 = true := by decide +kernel
theorem oZ_whose : CalOk mZ_whose 2 := ⟨mT 991 (by decide +kernel) rfl, mT 144 (by decide +kernel) rfl, ⟨by decide, by decide⟩, by decide +kernel, by decide⟩
theorem iZ_whose : Cond.instanceMethod mZ_whose.1 ∈ Tg := mT 989 (by decide +kernel) rfl
theorem sZ_whose : Cond.selects mZ_whose.1.cls mZ_whose.1 mZ_whose.1 ∈ Tg := mT 990 (by decide +kernel) rfl
theorem pZ_drawn : plainFor mZ_drawn.1 = true := by decide +kernel
theorem oZ_drawn : CalOk mZ_drawn 3 := ⟨mT 1011 (by decide +kernel) rfl, mT 144 (by decide +kernel) rfl, ⟨by decide, by decide⟩, by decide +kernel, by decide⟩
theorem iZ_drawn : Cond.instanceMethod mZ_drawn.1 ∈ Tg := mT 1009 (by decide +kernel) rfl
theorem sZ_drawn : Cond.selects mZ_drawn.1.cls mZ_drawn.1 mZ_drawn.1 ∈ Tg := mT 1010 (by decide +kernel) rfl
theorem pZ_morning : plainFor mZ_morning.1 = true := by decide +kernel
theorem oZ_morning : CalOk mZ_morning 1 := ⟨mT 1020 (by decide +kernel) rfl, mT 144 (by decide +kernel) rfl, ⟨by decide, by decide⟩, by decide +kernel, by decide⟩
theorem iZ_morning : Cond.instanceMethod mZ_morning.1 ∈ Tg := mT 1018 (by decide +kernel) rfl
theorem sZ_morning : Cond.selects mZ_morning.1.cls mZ_morning.1 mZ_morning.1 ∈ Tg := mT 1019 (by decide +kernel) rfl
theorem pZ_mended : plainFor mZ_mended.1 = true := by decide +kernel
theorem oZ_mended : CalOk mZ_mended 1 := ⟨mT 1049 (by decide +kernel) rfl, mT 144 (by decide +kernel) rfl, ⟨by decide, by decide⟩, by decide +kernel, by decide⟩
theorem iZ_mended : Cond.instanceMethod mZ_mended.1 ∈ Tg := mT 1047 (by decide +kernel) rfl
theorem sZ_mended : Cond.selects mZ_mended.1.cls mZ_mended.1 mZ_mended.1 ∈ Tg := mT 1048 (by decide +kernel) rfl
theorem pZ_led : plainFor mZ_led.1 = true := by decide +kernel
theorem oZ_led : CalOk mZ_led 1 := ⟨mT 1059 (by decide +kernel) rfl, mT 144 (by decide +kernel) rfl, ⟨by decide, by decide⟩, by decide +kernel, by decide⟩
theorem iZ_led : Cond.instanceMethod mZ_led.1 ∈ Tg := mT 1057 (by decide +kernel) rfl
theorem sZ_led : Cond.selects mZ_led.1.cls mZ_led.1 mZ_led.1 ∈ Tg := mT 1058 (by decide +kernel) rfl
theorem pZ_image : plainFor mZ_image.1 = true := by decide +kernel
theorem oZ_image : CalOk mZ_image 0 := ⟨mT 1067 (by decide +kernel) rfl, mT 144 (by decide +kernel) rfl, ⟨by decide, by decide⟩, by decide +kernel, by decide⟩
theorem iZ_image : Cond.instanceMethod mZ_image.1 ∈ Tg := mT 1065 (by decide +kernel) rfl
theorem sZ_image : Cond.selects mZ_image.1.cls mZ_image.1 mZ_image.1 ∈ Tg := mT 1066 (by decide +kernel) rfl
theorem pZ_back : plainFor mZ_back.1 = true := by decide +kernel
theorem oZ_back : CalOk mZ_back 0 := ⟨mT 1076 (by decide +kernel) rfl, mT 144 (by decide +kernel) rfl, ⟨by decide, by decide⟩, by decide +kernel, by decide⟩
theorem iZ_back : Cond.instanceMethod mZ_back.1 ∈ Tg := mT 1074 (by decide +kernel) rfl
theorem sZ_back : Cond.selects mZ_back.1.cls mZ_back.1 mZ_back.1 ∈ Tg := mT 1075 (by decide +kernel) rfl
theorem pZ_undo : plainFor mZ_undo.1 = true := by decide +kernel
theorem oZ_undo : CalOk mZ_undo 0 := ⟨mT 1084 (by decide +kernel) rfl, mT 144 (by decide +kernel) rfl, ⟨by decide, by decide⟩, by decide +kernel, by decide⟩
theorem iZ_undo : Cond.instanceMethod mZ_undo.1 ∈ Tg := mT 1082 (by decide +kernel) rfl
theorem sZ_undo : Cond.selects mZ_undo.1.cls mZ_undo.1 mZ_undo.1 ∈ Tg := mT 1083 (by decide +kernel) rfl
theorem pZ_redo : plainFor mZ_redo.1 = true := by decide +kernel
theorem oZ_redo : CalOk mZ_redo 0 := ⟨mT 1092 (by decide +kernel) rfl, mT 144 (by decide +kernel) rfl, ⟨by decide, by decide⟩, by decide +kernel, by decide⟩
theorem iZ_redo : Cond.instanceMethod mZ_redo.1 ∈ Tg := mT 1090 (by decide +kernel) rfl
theorem sZ_redo : Cond.selects mZ_redo.1.cls mZ_redo.1 mZ_redo.1 ∈ Tg := mT 1091 (by decide +kernel) rfl
theorem pZ_body : plainFor mZ_body.1 = true := by decide +kernel
theorem oZ_body : CalOk mZ_body 1 := ⟨mT 1100 (by decide +kernel) rfl, mT 144 (by decide +kernel) rfl, ⟨by decide, by decide⟩, by decide +kernel, by decide⟩
theorem iZ_body : Cond.instanceMethod mZ_body.1 ∈ Tg := mT 1098 (by decide +kernel) rfl
theorem sZ_body : Cond.selects mZ_body.1.cls mZ_body.1 mZ_body.1 ∈ Tg := mT 1099 (by decide +kernel) rfl
theorem pZ_act : plainFor mZ_act.1 = true := by decide +kernel
theorem oZ_act : CalOk mZ_act 3 := ⟨mT 1111 (by decide +kernel) rfl, mT 144 (by decide +kernel) rfl, ⟨by decide, by decide⟩, by decide +kernel, by decide⟩
theorem iZ_act : Cond.instanceMethod mZ_act.1 ∈ Tg := mT 1109 (by decide +kernel) rfl
theorem sZ_act : Cond.selects mZ_act.1.cls mZ_act.1 mZ_act.1 ∈ Tg := mT 1110 (by decide +kernel) rfl
theorem pZ_trace : plainFor mZ_trace.1 = true := by decide +kernel
theorem oZ_trace : CalOk mZ_trace 1 := ⟨mT 1137 (by decide +kernel) rfl, mT 144 (by decide +kernel) rfl, ⟨by decide, by decide⟩, by decide +kernel, by decide⟩
theorem iZ_trace : Cond.instanceMethod mZ_trace.1 ∈ Tg := mT 1135 (by decide +kernel) rfl
theorem sZ_trace : Cond.selects mZ_trace.1.cls mZ_trace.1 mZ_trace.1 ∈ Tg := mT 1136 (by decide +kernel) rfl
theorem pZ_keep : plainFor mZ_keep.1 = true := by decide +kernel
theorem oZ_keep : CalOk mZ_keep 2 := ⟨mT 1145 (by decide +kernel) rfl, mT 144 (by decide +kernel) rfl, ⟨by decide, by decide⟩, by decide +kernel, by decide⟩
theorem iZ_keep : Cond.instanceMethod mZ_keep.1 ∈ Tg := mT 1143 (by decide +kernel) rfl
theorem sZ_keep : Cond.selects mZ_keep.1.cls mZ_keep.1 mZ_keep.1 ∈ Tg := mT 1144 (by decide +kernel) rfl
theorem pZ_row : plainFor mZ_row.1 = true := by decide +kernel
theorem oZ_row : CalOk mZ_row 3 := ⟨mT 1154 (by decide +kernel) rfl, mT 144 (by decide +kernel) rfl, ⟨by decide, by decide⟩, by decide +kernel, by decide⟩
theorem iZ_row : Cond.instanceMethod mZ_row.1 ∈ Tg := mT 1152 (by decide +kernel) rfl
theorem sZ_row : Cond.selects mZ_row.1.cls mZ_row.1 mZ_row.1 ∈ Tg := mT 1153 (by decide +kernel) rfl
theorem pZ_put : plainFor mZ_put.1 = true := by decide +kernel
theorem oZ_put : CalOk mZ_put 3 := ⟨mT 1163 (by decide +kernel) rfl, mT 144 (by decide +kernel) rfl, ⟨by decide, by decide⟩, by decide +kernel, by decide⟩
theorem iZ_put : Cond.instanceMethod mZ_put.1 ∈ Tg := mT 1161 (by decide +kernel) rfl
theorem sZ_put : Cond.selects mZ_put.1.cls mZ_put.1 mZ_put.1 ∈ Tg := mT 1162 (by decide +kernel) rfl
theorem pZ_element : plainFor mZ_element.1 = true := by decide +kernel
theorem oZ_element : CalOk mZ_element 2 := ⟨mT 1174 (by decide +kernel) rfl, mT 144 (by decide +kernel) rfl, ⟨by decide, by decide⟩, by decide +kernel, by decide⟩
theorem iZ_element : Cond.instanceMethod mZ_element.1 ∈ Tg := mT 1172 (by decide +kernel) rfl
theorem sZ_element : Cond.selects mZ_element.1.cls mZ_element.1 mZ_element.1 ∈ Tg := mT 1173 (by decide +kernel) rfl
theorem pZ_shift : plainFor mZ_shift.1 = true := by decide +kernel
theorem oZ_shift : CalOk mZ_shift 5 := ⟨mT 1179 (by decide +kernel) rfl, mT 144 (by decide +kernel) rfl, ⟨by decide, by decide⟩, by decide +kernel, by decide⟩
theorem iZ_shift : Cond.instanceMethod mZ_shift.1 ∈ Tg := mT 1177 (by decide +kernel) rfl
theorem sZ_shift : Cond.selects mZ_shift.1.cls mZ_shift.1 mZ_shift.1 ∈ Tg := mT 1178 (by decide +kernel) rfl
theorem pZ_taken : plainFor mZ_taken.1 = true := by decide +kernel
theorem oZ_taken : CalOk mZ_taken 2 := ⟨mT 1188 (by decide +kernel) rfl, mT 144 (by decide +kernel) rfl, ⟨by decide, by decide⟩, by decide +kernel, by decide⟩
theorem iZ_taken : Cond.instanceMethod mZ_taken.1 ∈ Tg := mT 1186 (by decide +kernel) rfl
theorem sZ_taken : Cond.selects mZ_taken.1.cls mZ_taken.1 mZ_taken.1 ∈ Tg := mT 1187 (by decide +kernel) rfl
theorem pZ_count : plainFor mZ_count.1 = true := by decide +kernel
theorem oZ_count : CalOk mZ_count 1 := ⟨mT 1210 (by decide +kernel) rfl, mT 144 (by decide +kernel) rfl, ⟨by decide, by decide⟩, by decide +kernel, by decide⟩
theorem iZ_count : Cond.instanceMethod mZ_count.1 ∈ Tg := mT 1208 (by decide +kernel) rfl
theorem sZ_count : Cond.selects mZ_count.1.cls mZ_count.1 mZ_count.1 ∈ Tg := mT 1209 (by decide +kernel) rfl
theorem pZ_isSet : plainFor mZ_isSet.1 = true := by decide +kernel
theorem oZ_isSet : CalOk mZ_isSet 1 := ⟨mT 736 (by decide +kernel) rfl, mT 144 (by decide +kernel) rfl, ⟨by decide, by decide⟩, by decide +kernel, by decide⟩
theorem iZ_isSet : Cond.static mZ_isSet.1 ∈ Tg := mT 735 (by decide +kernel) rfl
theorem pZ_isSide : plainFor mZ_isSide.1 = true := by decide +kernel
theorem oZ_isSide : CalOk mZ_isSide 1 := ⟨mT 773 (by decide +kernel) rfl, mT 144 (by decide +kernel) rfl, ⟨by decide, by decide⟩, by decide +kernel, by decide⟩
theorem iZ_isSide : Cond.static mZ_isSide.1 ∈ Tg := mT 772 (by decide +kernel) rfl
theorem pZ_side : plainFor mZ_side.1 = true := by decide +kernel
theorem oZ_side : CalOk mZ_side 3 := ⟨mT 803 (by decide +kernel) rfl, mT 144 (by decide +kernel) rfl, ⟨by decide, by decide⟩, by decide +kernel, by decide⟩
theorem iZ_side : Cond.static mZ_side.1 ∈ Tg := mT 802 (by decide +kernel) rfl
theorem pZ_commonDivisor : plainFor mZ_commonDivisor.1 = true := by decide +kernel
theorem oZ_commonDivisor : CalOk mZ_commonDivisor 2 := ⟨mT 806 (by decide +kernel) rfl, mT 144 (by decide +kernel) rfl, ⟨by decide, by decide⟩, by decide +kernel, by decide⟩
theorem iZ_commonDivisor : Cond.static mZ_commonDivisor.1 ∈ Tg := mT 805 (by decide +kernel) rfl
theorem pZ_cut : plainFor mZ_cut.1 = true := by decide +kernel
theorem oZ_cut : CalOk mZ_cut 3 := ⟨mT 841 (by decide +kernel) rfl, mT 144 (by decide +kernel) rfl, ⟨by decide, by decide⟩, by decide +kernel, by decide⟩
theorem iZ_cut : Cond.static mZ_cut.1 ∈ Tg := mT 840 (by decide +kernel) rfl
theorem pY_init : plainFor mY_init.1 = true := by decide +kernel
theorem oY_init : CalOk mY_init 0 := ⟨mT 1215 (by decide +kernel) rfl, mT 156 (by decide +kernel) rfl, ⟨by decide, by decide⟩, by decide +kernel, by decide⟩
theorem iY_init : Cond.instanceMethod mY_init.1 ∈ Tg := mT 1214 (by decide +kernel) rfl
theorem pY_in : plainFor mY_in.1 = true := by decide +kernel
theorem oY_in : CalOk mY_in 3 := ⟨mT 1394 (by decide +kernel) rfl, mT 156 (by decide +kernel) rfl, ⟨by decide, by decide⟩, by decide +kernel, by decide⟩
theorem iY_in : Cond.static mY_in.1 ∈ Tg := mT 1393 (by decide +kernel) rfl
theorem pY_isPart : plainFor mY_isPart.1 = true := by decide +kernel
theorem oY_isPart : CalOk mY_isPart 1 := ⟨mT 1430 (by decide +kernel) rfl, mT 156 (by decide +kernel) rfl, ⟨by decide, by decide⟩, by decide +kernel, by decide⟩
theorem iY_isPart : Cond.instanceMethod mY_isPart.1 ∈ Tg := mT 1429 (by decide +kernel) rfl
theorem sY_isPart : Cond.selects mY_isPart.1.cls mY_isPart.1 mY_isPart.1 ∈ Tg := mT 91 (by decide +kernel) rfl
theorem pY_arePart : plainFor mY_arePart.1 = true := by decide +kernel
theorem oY_arePart : CalOk mY_arePart 3 := ⟨mT 1391 (by decide +kernel) rfl, mT 156 (by decide +kernel) rfl, ⟨by decide, by decide⟩, by decide +kernel, by decide⟩
theorem iY_arePart : Cond.instanceMethod mY_arePart.1 ∈ Tg := mT 1390 (by decide +kernel) rfl
theorem sY_arePart : Cond.selects mY_arePart.1.cls mY_arePart.1 mY_arePart.1 ∈ Tg := mT 87 (by decide +kernel) rfl
theorem pY_addPart : plainFor mY_addPart.1 = true := by decide +kernel
theorem oY_addPart : CalOk mY_addPart 3 := ⟨mT 1398 (by decide +kernel) rfl, mT 156 (by decide +kernel) rfl, ⟨by decide, by decide⟩, by decide +kernel, by decide⟩
theorem iY_addPart : Cond.instanceMethod mY_addPart.1 ∈ Tg := mT 1397 (by decide +kernel) rfl
theorem sY_addPart : Cond.selects mY_addPart.1.cls mY_addPart.1 mY_addPart.1 ∈ Tg := mT 88 (by decide +kernel) rfl
theorem pY_part : plainFor mY_part.1 = true := by decide +kernel
theorem oY_part : CalOk mY_part 2 := ⟨mT 1387 (by decide +kernel) rfl, mT 156 (by decide +kernel) rfl, ⟨by decide, by decide⟩, by decide +kernel, by decide⟩
theorem iY_part : Cond.instanceMethod mY_part.1 ∈ Tg := mT 1385 (by decide +kernel) rfl
theorem sY_part : Cond.selects mY_part.1.cls mY_part.1 mY_part.1 ∈ Tg := mT 1386 (by decide +kernel) rfl
theorem pY_parts : plainFor mY_parts.1 = true := by decide +kernel
theorem oY_parts : CalOk mY_parts 3 := ⟨mT 1402 (by decide +kernel) rfl, mT 156 (by decide +kernel) rfl, ⟨by decide, by decide⟩, by decide +kernel, by decide⟩
theorem iY_parts : Cond.instanceMethod mY_parts.1 ∈ Tg := mT 1400 (by decide +kernel) rfl
theorem sY_parts : Cond.selects mY_parts.1.cls mY_parts.1 mY_parts.1 ∈ Tg := mT 1401 (by decide +kernel) rfl
theorem pY_valueAt : plainFor mY_valueAt.1 = true := by decide +kernel
theorem oY_valueAt : CalOk mY_valueAt 2 := ⟨mT 1441 (by decide +kernel) rfl, mT 156 (by decide +kernel) rfl, ⟨by decide, by decide⟩, by decide +kernel, by decide⟩
theorem iY_valueAt : Cond.instanceMethod mY_valueAt.1 ∈ Tg := mT 1440 (by decide +kernel) rfl
theorem sY_valueAt : Cond.selects mY_valueAt.1.cls mY_valueAt.1 mY_valueAt.1 ∈ Tg := mT 93 (by decide +kernel) rfl
theorem pY_lays : plainFor mY_lays.1 = true := by decide +kernel
theorem oY_lays : CalOk mY_lays 3 := ⟨mT 1414 (by decide +kernel) rfl, mT 156 (by decide +kernel) rfl, ⟨by decide, by decide⟩, by decide +kernel, by decide⟩
theorem iY_lays : Cond.instanceMethod mY_lays.1 ∈ Tg := mT 1413 (by decide +kernel) rfl
theorem sY_lays : Cond.selects mY_lays.1.cls mY_lays.1 mY_lays.1 ∈ Tg := mT 89 (by decide +kernel) rfl
theorem pY_changes : plainFor mY_changes.1 = true := by decide +kernel
theorem oY_changes : CalOk mY_changes 3 := ⟨mT 1437 (by decide +kernel) rfl, mT 156 (by decide +kernel) rfl, ⟨by decide, by decide⟩, by decide +kernel, by decide⟩
theorem iY_changes : Cond.instanceMethod mY_changes.1 ∈ Tg := mT 1436 (by decide +kernel) rfl
theorem sY_changes : Cond.selects mY_changes.1.cls mY_changes.1 mY_changes.1 ∈ Tg := mT 92 (by decide +kernel) rfl
theorem pY_undo : plainFor mY_undo.1 = true := by decide +kernel
theorem oY_undo : CalOk mY_undo 0 := ⟨mT 1410 (by decide +kernel) rfl, mT 156 (by decide +kernel) rfl, ⟨by decide, by decide⟩, by decide +kernel, by decide⟩
theorem iY_undo : Cond.instanceMethod mY_undo.1 ∈ Tg := mT 1408 (by decide +kernel) rfl
theorem sY_undo : Cond.selects mY_undo.1.cls mY_undo.1 mY_undo.1 ∈ Tg := mT 1409 (by decide +kernel) rfl
theorem pY_redo : plainFor mY_redo.1 = true := by decide +kernel
theorem oY_redo : CalOk mY_redo 0 := ⟨mT 1418 (by decide +kernel) rfl, mT 156 (by decide +kernel) rfl, ⟨by decide, by decide⟩, by decide +kernel, by decide⟩
theorem iY_redo : Cond.instanceMethod mY_redo.1 ∈ Tg := mT 1416 (by decide +kernel) rfl
theorem sY_redo : Cond.selects mY_redo.1.cls mY_redo.1 mY_redo.1 ∈ Tg := mT 1417 (by decide +kernel) rfl
theorem pY_isOne : plainFor mY_isOne.1 = true := by decide +kernel
theorem oY_isOne : CalOk mY_isOne 2 := ⟨mT 1426 (by decide +kernel) rfl, mT 156 (by decide +kernel) rfl, ⟨by decide, by decide⟩, by decide +kernel, by decide⟩
theorem iY_isOne : Cond.instanceMethod mY_isOne.1 ∈ Tg := mT 1425 (by decide +kernel) rfl
theorem sY_isOne : Cond.selects mY_isOne.1.cls mY_isOne.1 mY_isOne.1 ∈ Tg := mT 90 (by decide +kernel) rfl
theorem pY_mayHave : plainFor mY_mayHave.1 = true := by decide +kernel
theorem oY_mayHave : CalOk mY_mayHave 3 := ⟨mT 1433 (by decide +kernel) rfl, mT 156 (by decide +kernel) rfl, ⟨by decide, by decide⟩, by decide +kernel, by decide⟩
theorem iY_mayHave : Cond.static mY_mayHave.1 ∈ Tg := mT 1432 (by decide +kernel) rfl
theorem pY_mend : plainFor mY_mend.1 = true := by decide +kernel
theorem oY_mend : CalOk mY_mend 3 := ⟨mT 1422 (by decide +kernel) rfl, mT 156 (by decide +kernel) rfl, ⟨by decide, by decide⟩, by decide +kernel, by decide⟩
theorem iY_mend : Cond.instanceMethod mY_mend.1 ∈ Tg := mT 1420 (by decide +kernel) rfl
theorem sY_mend : Cond.selects mY_mend.1.cls mY_mend.1 mY_mend.1 ∈ Tg := mT 1421 (by decide +kernel) rfl
theorem pY_of : plainFor mY_of.1 = true := by decide +kernel
theorem oY_of : CalOk mY_of 2 := ⟨mT 1445 (by decide +kernel) rfl, mT 156 (by decide +kernel) rfl, ⟨by decide, by decide⟩, by decide +kernel, by decide⟩
theorem iY_of : Cond.instanceMethod mY_of.1 ∈ Tg := mT 1443 (by decide +kernel) rfl
theorem sY_of : Cond.selects mY_of.1.cls mY_of.1 mY_of.1 ∈ Tg := mT 1444 (by decide +kernel) rfl
theorem pY_feed : plainFor mY_feed.1 = true := by decide +kernel
theorem oY_feed : CalOk mY_feed 1 := ⟨mT 1449 (by decide +kernel) rfl, mT 156 (by decide +kernel) rfl, ⟨by decide, by decide⟩, by decide +kernel, by decide⟩
theorem iY_feed : Cond.instanceMethod mY_feed.1 ∈ Tg := mT 1447 (by decide +kernel) rfl
theorem sY_feed : Cond.selects mY_feed.1.cls mY_feed.1 mY_feed.1 ∈ Tg := mT 1448 (by decide +kernel) rfl
theorem pY_looksOn : plainFor mY_looksOn.1 = true := by decide +kernel
theorem oY_looksOn : CalOk mY_looksOn 0 := ⟨mT 1489 (by decide +kernel) rfl, mT 156 (by decide +kernel) rfl, ⟨by decide, by decide⟩, by decide +kernel, by decide⟩
theorem iY_looksOn : Cond.instanceMethod mY_looksOn.1 ∈ Tg := mT 1488 (by decide +kernel) rfl
theorem sY_looksOn : Cond.selects mY_looksOn.1.cls mY_looksOn.1 mY_looksOn.1 ∈ Tg := mT 102 (by decide +kernel) rfl
theorem pY_wrong : plainFor mY_wrong.1 = true := by decide +kernel
theorem oY_wrong : CalOk mY_wrong 0 := ⟨mT 1504 (by decide +kernel) rfl, mT 156 (by decide +kernel) rfl, ⟨by decide, by decide⟩, by decide +kernel, by decide⟩
theorem iY_wrong : Cond.instanceMethod mY_wrong.1 ∈ Tg := mT 1503 (by decide +kernel) rfl
theorem sY_wrong : Cond.selects mY_wrong.1.cls mY_wrong.1 mY_wrong.1 ∈ Tg := mT 105 (by decide +kernel) rfl
theorem pY_addStep : plainFor mY_addStep.1 = true := by decide +kernel
theorem oY_addStep : CalOk mY_addStep 2 := ⟨mT 1496 (by decide +kernel) rfl, mT 156 (by decide +kernel) rfl, ⟨by decide, by decide⟩, by decide +kernel, by decide⟩
theorem iY_addStep : Cond.instanceMethod mY_addStep.1 ∈ Tg := mT 1495 (by decide +kernel) rfl
theorem sY_addStep : Cond.selects mY_addStep.1.cls mY_addStep.1 mY_addStep.1 ∈ Tg := mT 103 (by decide +kernel) rfl
theorem pY_nameOf : plainFor mY_nameOf.1 = true := by decide +kernel
theorem oY_nameOf : CalOk mY_nameOf 1 := ⟨mT 1492 (by decide +kernel) rfl, mT 156 (by decide +kernel) rfl, ⟨by decide, by decide⟩, by decide +kernel, by decide⟩
theorem iY_nameOf : Cond.static mY_nameOf.1 ∈ Tg := mT 1491 (by decide +kernel) rfl
theorem pY_opens : plainFor mY_opens.1 = true := by decide +kernel
theorem oY_opens : CalOk mY_opens 0 := ⟨mT 1500 (by decide +kernel) rfl, mT 156 (by decide +kernel) rfl, ⟨by decide, by decide⟩, by decide +kernel, by decide⟩
theorem iY_opens : Cond.instanceMethod mY_opens.1 ∈ Tg := mT 1499 (by decide +kernel) rfl
theorem sY_opens : Cond.selects mY_opens.1.cls mY_opens.1 mY_opens.1 ∈ Tg := mT 104 (by decide +kernel) rfl
theorem pY_figure : plainFor mY_figure.1 = true := by decide +kernel
theorem oY_figure : CalOk mY_figure 0 := ⟨mT 1508 (by decide +kernel) rfl, mT 156 (by decide +kernel) rfl, ⟨by decide, by decide⟩, by decide +kernel, by decide⟩
theorem iY_figure : Cond.instanceMethod mY_figure.1 ∈ Tg := mT 1507 (by decide +kernel) rfl
theorem sY_figure : Cond.selects mY_figure.1.cls mY_figure.1 mY_figure.1 ∈ Tg := mT 106 (by decide +kernel) rfl
theorem pY_operand : plainFor mY_operand.1 = true := by decide +kernel
theorem oY_operand : CalOk mY_operand 0 := ⟨mT 1485 (by decide +kernel) rfl, mT 156 (by decide +kernel) rfl, ⟨by decide, by decide⟩, by decide +kernel, by decide⟩
theorem iY_operand : Cond.instanceMethod mY_operand.1 ∈ Tg := mT 1484 (by decide +kernel) rfl
theorem sY_operand : Cond.selects mY_operand.1.cls mY_operand.1 mY_operand.1 ∈ Tg := mT 101 (by decide +kernel) rfl
theorem pY_product : plainFor mY_product.1 = true := by decide +kernel
theorem oY_product : CalOk mY_product 0 := ⟨mT 1481 (by decide +kernel) rfl, mT 156 (by decide +kernel) rfl, ⟨by decide, by decide⟩, by decide +kernel, by decide⟩
theorem iY_product : Cond.instanceMethod mY_product.1 ∈ Tg := mT 1480 (by decide +kernel) rfl
theorem sY_product : Cond.selects mY_product.1.cls mY_product.1 mY_product.1 ∈ Tg := mT 100 (by decide +kernel) rfl
theorem pY_sum : plainFor mY_sum.1 = true := by decide +kernel
theorem oY_sum : CalOk mY_sum 0 := ⟨mT 1477 (by decide +kernel) rfl, mT 156 (by decide +kernel) rfl, ⟨by decide, by decide⟩, by decide +kernel, by decide⟩
theorem iY_sum : Cond.instanceMethod mY_sum.1 ∈ Tg := mT 1476 (by decide +kernel) rfl
theorem sY_sum : Cond.selects mY_sum.1.cls mY_sum.1 mY_sum.1 ∈ Tg := mT 99 (by decide +kernel) rfl
theorem pY_compared : plainFor mY_compared.1 = true := by decide +kernel
theorem oY_compared : CalOk mY_compared 0 := ⟨mT 1473 (by decide +kernel) rfl, mT 156 (by decide +kernel) rfl, ⟨by decide, by decide⟩, by decide +kernel, by decide⟩
theorem iY_compared : Cond.instanceMethod mY_compared.1 ∈ Tg := mT 1472 (by decide +kernel) rfl
theorem sY_compared : Cond.selects mY_compared.1.cls mY_compared.1 mY_compared.1 ∈ Tg := mT 98 (by decide +kernel) rfl
theorem pY_both : plainFor mY_both.1 = true := by decide +kernel
theorem oY_both : CalOk mY_both 0 := ⟨mT 1469 (by decide +kernel) rfl, mT 156 (by decide +kernel) rfl, ⟨by decide, by decide⟩, by decide +kernel, by decide⟩
theorem iY_both : Cond.instanceMethod mY_both.1 ∈ Tg := mT 1468 (by decide +kernel) rfl
theorem sY_both : Cond.selects mY_both.1.cls mY_both.1 mY_both.1 ∈ Tg := mT 97 (by decide +kernel) rfl
theorem pY_either : plainFor mY_either.1 = true := by decide +kernel
theorem oY_either : CalOk mY_either 0 := ⟨mT 1465 (by decide +kernel) rfl, mT 156 (by decide +kernel) rfl, ⟨by decide, by decide⟩, by decide +kernel, by decide⟩
theorem iY_either : Cond.instanceMethod mY_either.1 ∈ Tg := mT 1464 (by decide +kernel) rfl
theorem sY_either : Cond.selects mY_either.1.cls mY_either.1 mY_either.1 ∈ Tg := mT 96 (by decide +kernel) rfl
theorem pY_line : plainFor mY_line.1 = true := by decide +kernel
theorem oY_line : CalOk mY_line 0 := ⟨mT 1461 (by decide +kernel) rfl, mT 156 (by decide +kernel) rfl, ⟨by decide, by decide⟩, by decide +kernel, by decide⟩
theorem iY_line : Cond.instanceMethod mY_line.1 ∈ Tg := mT 1460 (by decide +kernel) rfl
theorem sY_line : Cond.selects mY_line.1.cls mY_line.1 mY_line.1 ∈ Tg := mT 95 (by decide +kernel) rfl
theorem pY_readText : plainFor mY_readText.1 = true := by decide +kernel
theorem oY_readText : CalOk mY_readText 1 := ⟨mT 1457 (by decide +kernel) rfl, mT 156 (by decide +kernel) rfl, ⟨by decide, by decide⟩, by decide +kernel, by decide⟩
theorem iY_readText : Cond.instanceMethod mY_readText.1 ∈ Tg := mT 1456 (by decide +kernel) rfl
theorem sY_readText : Cond.selects mY_readText.1.cls mY_readText.1 mY_readText.1 ∈ Tg := mT 94 (by decide +kernel) rfl
theorem pY_twoOf : plainFor mY_twoOf.1 = true := by decide +kernel
theorem oY_twoOf : CalOk mY_twoOf 3 := ⟨mT 1527 (by decide +kernel) rfl, mT 156 (by decide +kernel) rfl, ⟨by decide, by decide⟩, by decide +kernel, by decide⟩
theorem iY_twoOf : Cond.static mY_twoOf.1 ∈ Tg := mT 1526 (by decide +kernel) rfl
theorem pY_worked : plainFor mY_worked.1 = true := by decide +kernel
theorem oY_worked : CalOk mY_worked 3 := ⟨mT 1524 (by decide +kernel) rfl, mT 156 (by decide +kernel) rfl, ⟨by decide, by decide⟩, by decide +kernel, by decide⟩
theorem iY_worked : Cond.instanceMethod mY_worked.1 ∈ Tg := mT 1523 (by decide +kernel) rfl
theorem sY_worked : Cond.selects mY_worked.1.cls mY_worked.1 mY_worked.1 ∈ Tg := mT 109 (by decide +kernel) rfl
theorem pY_gives : plainFor mY_gives.1 = true := by decide +kernel
theorem oY_gives : CalOk mY_gives 1 := ⟨mT 1520 (by decide +kernel) rfl, mT 156 (by decide +kernel) rfl, ⟨by decide, by decide⟩, by decide +kernel, by decide⟩
theorem iY_gives : Cond.instanceMethod mY_gives.1 ∈ Tg := mT 1519 (by decide +kernel) rfl
theorem sY_gives : Cond.selects mY_gives.1.cls mY_gives.1 mY_gives.1 ∈ Tg := mT 108 (by decide +kernel) rfl
theorem pY_law : plainFor mY_law.1 = true := by decide +kernel
theorem oY_law : CalOk mY_law 0 := ⟨mT 1453 (by decide +kernel) rfl, mT 156 (by decide +kernel) rfl, ⟨by decide, by decide⟩, by decide +kernel, by decide⟩
theorem iY_law : Cond.instanceMethod mY_law.1 ∈ Tg := mT 1451 (by decide +kernel) rfl
theorem sY_law : Cond.selects mY_law.1.cls mY_law.1 mY_law.1 ∈ Tg := mT 1452 (by decide +kernel) rfl
theorem pY_twelfthsOf : plainFor mY_twelfthsOf.1 = true := by decide +kernel
theorem oY_twelfthsOf : CalOk mY_twelfthsOf 1 := ⟨mT 1516 (by decide +kernel) rfl, mT 156 (by decide +kernel) rfl, ⟨by decide, by decide⟩, by decide +kernel, by decide⟩
theorem iY_twelfthsOf : Cond.instanceMethod mY_twelfthsOf.1 ∈ Tg := mT 1515 (by decide +kernel) rfl
theorem sY_twelfthsOf : Cond.selects mY_twelfthsOf.1.cls mY_twelfthsOf.1 mY_twelfthsOf.1 ∈ Tg := mT 107 (by decide +kernel) rfl
theorem pY_works : plainFor mY_works.1 = true := by decide +kernel
theorem oY_works : CalOk mY_works 1 := ⟨mT 1512 (by decide +kernel) rfl, mT 156 (by decide +kernel) rfl, ⟨by decide, by decide⟩, by decide +kernel, by decide⟩
theorem iY_works : Cond.instanceMethod mY_works.1 ∈ Tg := mT 1510 (by decide +kernel) rfl
theorem sY_works : Cond.selects mY_works.1.cls mY_works.1 mY_works.1 ∈ Tg := mT 1511 (by decide +kernel) rfl
theorem pY_waitsTill : plainFor mY_waitsTill.1 = true := by decide +kernel
theorem oY_waitsTill : CalOk mY_waitsTill 1 := ⟨mT 1542 (by decide +kernel) rfl, mT 156 (by decide +kernel) rfl, ⟨by decide, by decide⟩, by decide +kernel, by decide⟩
theorem iY_waitsTill : Cond.instanceMethod mY_waitsTill.1 ∈ Tg := mT 1541 (by decide +kernel) rfl
theorem sY_waitsTill : Cond.selects mY_waitsTill.1.cls mY_waitsTill.1 mY_waitsTill.1 ∈ Tg := mT 111 (by decide +kernel) rfl
theorem pY_goMorning : plainFor mY_goMorning.1 = true := by decide +kernel
theorem oY_goMorning : CalOk mY_goMorning 1 := ⟨mT 1538 (by decide +kernel) rfl, mT 156 (by decide +kernel) rfl, ⟨by decide, by decide⟩, by decide +kernel, by decide⟩
theorem iY_goMorning : Cond.instanceMethod mY_goMorning.1 ∈ Tg := mT 1537 (by decide +kernel) rfl
theorem sY_goMorning : Cond.selects mY_goMorning.1.cls mY_goMorning.1 mY_goMorning.1 ∈ Tg := mT 110 (by decide +kernel) rfl
theorem pY_endNow : plainFor mY_endNow.1 = true := by decide +kernel
theorem oY_endNow : CalOk mY_endNow 0 := ⟨mT 1567 (by decide +kernel) rfl, mT 156 (by decide +kernel) rfl, ⟨by decide, by decide⟩, by decide +kernel, by decide⟩
theorem iY_endNow : Cond.instanceMethod mY_endNow.1 ∈ Tg := mT 1566 (by decide +kernel) rfl
theorem sY_endNow : Cond.selects mY_endNow.1.cls mY_endNow.1 mY_endNow.1 ∈ Tg := mT 115 (by decide +kernel) rfl
theorem pY_layTwelfths : plainFor mY_layTwelfths.1 = true := by decide +kernel
theorem oY_layTwelfths : CalOk mY_layTwelfths 0 := ⟨mT 1555 (by decide +kernel) rfl, mT 156 (by decide +kernel) rfl, ⟨by decide, by decide⟩, by decide +kernel, by decide⟩
theorem iY_layTwelfths : Cond.instanceMethod mY_layTwelfths.1 ∈ Tg := mT 1554 (by decide +kernel) rfl
theorem sY_layTwelfths : Cond.selects mY_layTwelfths.1.cls mY_layTwelfths.1 mY_layTwelfths.1 ∈ Tg := mT 112 (by decide +kernel) rfl
theorem pY_oddsOf : plainFor mY_oddsOf.1 = true := by decide +kernel
theorem oY_oddsOf : CalOk mY_oddsOf 1 := ⟨mT 1571 (by decide +kernel) rfl, mT 156 (by decide +kernel) rfl, ⟨by decide, by decide⟩, by decide +kernel, by decide⟩
theorem iY_oddsOf : Cond.instanceMethod mY_oddsOf.1 ∈ Tg := mT 1570 (by decide +kernel) rfl
theorem sY_oddsOf : Cond.selects mY_oddsOf.1.cls mY_oddsOf.1 mY_oddsOf.1 ∈ Tg := mT 116 (by decide +kernel) rfl
theorem pY_sets : plainFor mY_sets.1 = true := by decide +kernel
theorem oY_sets : CalOk mY_sets 0 := ⟨mT 1563 (by decide +kernel) rfl, mT 156 (by decide +kernel) rfl, ⟨by decide, by decide⟩, by decide +kernel, by decide⟩
theorem iY_sets : Cond.instanceMethod mY_sets.1 ∈ Tg := mT 1562 (by decide +kernel) rfl
theorem sY_sets : Cond.selects mY_sets.1.cls mY_sets.1 mY_sets.1 ∈ Tg := mT 114 (by decide +kernel) rfl
theorem pY_whole : plainFor mY_whole.1 = true := by decide +kernel
theorem oY_whole : CalOk mY_whole 0 := ⟨mT 1579 (by decide +kernel) rfl, mT 156 (by decide +kernel) rfl, ⟨by decide, by decide⟩, by decide +kernel, by decide⟩
theorem iY_whole : Cond.instanceMethod mY_whole.1 ∈ Tg := mT 1578 (by decide +kernel) rfl
theorem sY_whole : Cond.selects mY_whole.1.cls mY_whole.1 mY_whole.1 ∈ Tg := mT 118 (by decide +kernel) rfl
theorem pY_isSet : plainFor mY_isSet.1 = true := by decide +kernel
theorem oY_isSet : CalOk mY_isSet 1 := ⟨mT 1534 (by decide +kernel) rfl, mT 156 (by decide +kernel) rfl, ⟨by decide, by decide⟩, by decide +kernel, by decide⟩
theorem iY_isSet : Cond.static mY_isSet.1 ∈ Tg := mT 1533 (by decide +kernel) rfl
theorem pY_gone : plainFor mY_gone.1 = true := by decide +kernel
theorem oY_gone : CalOk mY_gone 2 := ⟨mT 1531 (by decide +kernel) rfl, mT 156 (by decide +kernel) rfl, ⟨by decide, by decide⟩, by decide +kernel, by decide⟩
theorem iY_gone : Cond.instanceMethod mY_gone.1 ∈ Tg := mT 1529 (by decide +kernel) rfl
theorem sY_gone : Cond.selects mY_gone.1.cls mY_gone.1 mY_gone.1 ∈ Tg := mT 1530 (by decide +kernel) rfl
theorem pY_stuck : plainFor mY_stuck.1 = true := by decide +kernel
theorem oY_stuck : CalOk mY_stuck 1 := ⟨mT 1546 (by decide +kernel) rfl, mT 156 (by decide +kernel) rfl, ⟨by decide, by decide⟩, by decide +kernel, by decide⟩
theorem iY_stuck : Cond.instanceMethod mY_stuck.1 ∈ Tg := mT 1544 (by decide +kernel) rfl
theorem sY_stuck : Cond.selects mY_stuck.1.cls mY_stuck.1 mY_stuck.1 ∈ Tg := mT 1545 (by decide +kernel) rfl
theorem pY_lowest : plainFor mY_lowest.1 = true := by decide +kernel
theorem oY_lowest : CalOk mY_lowest 3 := ⟨mT 1583 (by decide +kernel) rfl, mT 156 (by decide +kernel) rfl, ⟨by decide, by decide⟩, by decide +kernel, by decide⟩
theorem iY_lowest : Cond.static mY_lowest.1 ∈ Tg := mT 1582 (by decide +kernel) rfl
theorem pY_endsBy : plainFor mY_endsBy.1 = true := by decide +kernel
theorem oY_endsBy : CalOk mY_endsBy 1 := ⟨mT 1559 (by decide +kernel) rfl, mT 156 (by decide +kernel) rfl, ⟨by decide, by decide⟩, by decide +kernel, by decide⟩
theorem iY_endsBy : Cond.instanceMethod mY_endsBy.1 ∈ Tg := mT 1558 (by decide +kernel) rfl
theorem sY_endsBy : Cond.selects mY_endsBy.1.cls mY_endsBy.1 mY_endsBy.1 ∈ Tg := mT 113 (by decide +kernel) rfl
theorem pY_goesOdds : plainFor mY_goesOdds.1 = true := by decide +kernel
theorem oY_goesOdds : CalOk mY_goesOdds 1 := ⟨mT 1575 (by decide +kernel) rfl, mT 156 (by decide +kernel) rfl, ⟨by decide, by decide⟩, by decide +kernel, by decide⟩
theorem iY_goesOdds : Cond.instanceMethod mY_goesOdds.1 ∈ Tg := mT 1574 (by decide +kernel) rfl
theorem sY_goesOdds : Cond.selects mY_goesOdds.1.cls mY_goesOdds.1 mY_goesOdds.1 ∈ Tg := mT 117 (by decide +kernel) rfl
theorem pY_likely : plainFor mY_likely.1 = true := by decide +kernel
theorem oY_likely : CalOk mY_likely 2 := ⟨mT 1550 (by decide +kernel) rfl, mT 156 (by decide +kernel) rfl, ⟨by decide, by decide⟩, by decide +kernel, by decide⟩
theorem iY_likely : Cond.instanceMethod mY_likely.1 ∈ Tg := mT 1548 (by decide +kernel) rfl
theorem sY_likely : Cond.selects mY_likely.1.cls mY_likely.1 mY_likely.1 ∈ Tg := mT 1549 (by decide +kernel) rfl
theorem pY_when : plainFor mY_when.1 = true := by decide +kernel
theorem oY_when : CalOk mY_when 1 := ⟨mT 1587 (by decide +kernel) rfl, mT 156 (by decide +kernel) rfl, ⟨by decide, by decide⟩, by decide +kernel, by decide⟩
theorem iY_when : Cond.instanceMethod mY_when.1 ∈ Tg := mT 1585 (by decide +kernel) rfl
theorem sY_when : Cond.selects mY_when.1.cls mY_when.1 mY_when.1 ∈ Tg := mT 1586 (by decide +kernel) rfl
theorem pY_mean : plainFor mY_mean.1 = true := by decide +kernel
theorem oY_mean : CalOk mY_mean 1 := ⟨mT 1591 (by decide +kernel) rfl, mT 156 (by decide +kernel) rfl, ⟨by decide, by decide⟩, by decide +kernel, by decide⟩
theorem iY_mean : Cond.instanceMethod mY_mean.1 ∈ Tg := mT 1589 (by decide +kernel) rfl
theorem sY_mean : Cond.selects mY_mean.1.cls mY_mean.1 mY_mean.1 ∈ Tg := mT 1590 (by decide +kernel) rfl
theorem pY_findMinutes : plainFor mY_findMinutes.1 = true := by decide +kernel
theorem oY_findMinutes : CalOk mY_findMinutes 0 := ⟨mT 1600 (by decide +kernel) rfl, mT 156 (by decide +kernel) rfl, ⟨by decide, by decide⟩, by decide +kernel, by decide⟩
theorem iY_findMinutes : Cond.instanceMethod mY_findMinutes.1 ∈ Tg := mT 1599 (by decide +kernel) rfl
theorem sY_findMinutes : Cond.selects mY_findMinutes.1.cls mY_findMinutes.1 mY_findMinutes.1 ∈ Tg := mT 119 (by decide +kernel) rfl
theorem pY_worthAt : plainFor mY_worthAt.1 = true := by decide +kernel
theorem oY_worthAt : CalOk mY_worthAt 1 := ⟨mT 1604 (by decide +kernel) rfl, mT 156 (by decide +kernel) rfl, ⟨by decide, by decide⟩, by decide +kernel, by decide⟩
theorem iY_worthAt : Cond.instanceMethod mY_worthAt.1 ∈ Tg := mT 1603 (by decide +kernel) rfl
theorem sY_worthAt : Cond.selects mY_worthAt.1.cls mY_worthAt.1 mY_worthAt.1 ∈ Tg := mT 120 (by decide +kernel) rfl
theorem pY_worth : plainFor mY_worth.1 = true := by decide +kernel
theorem oY_worth : CalOk mY_worth 1 := ⟨mT 1595 (by decide +kernel) rfl, mT 156 (by decide +kernel) rfl, ⟨by decide, by decide⟩, by decide +kernel, by decide⟩
theorem iY_worth : Cond.instanceMethod mY_worth.1 ∈ Tg := mT 1593 (by decide +kernel) rfl
theorem sY_worth : Cond.selects mY_worth.1.cls mY_worth.1 mY_worth.1 ∈ Tg := mT 1594 (by decide +kernel) rfl
theorem pY_begin : plainFor mY_begin.1 = true := by decide +kernel
theorem oY_begin : CalOk mY_begin 1 := ⟨mT 1609 (by decide +kernel) rfl, mT 156 (by decide +kernel) rfl, ⟨by decide, by decide⟩, by decide +kernel, by decide⟩
theorem iY_begin : Cond.instanceMethod mY_begin.1 ∈ Tg := mT 1607 (by decide +kernel) rfl
theorem sY_begin : Cond.selects mY_begin.1.cls mY_begin.1 mY_begin.1 ∈ Tg := mT 1608 (by decide +kernel) rfl
theorem pY_changedBy : plainFor mY_changedBy.1 = true := by decide +kernel
theorem oY_changedBy : CalOk mY_changedBy 2 := ⟨mT 1617 (by decide +kernel) rfl, mT 156 (by decide +kernel) rfl, ⟨by decide, by decide⟩, by decide +kernel, by decide⟩
theorem iY_changedBy : Cond.instanceMethod mY_changedBy.1 ∈ Tg := mT 1616 (by decide +kernel) rfl
theorem sY_changedBy : Cond.selects mY_changedBy.1.cls mY_changedBy.1 mY_changedBy.1 ∈ Tg := mT 121 (by decide +kernel) rfl
theorem pY_change : plainFor mY_change.1 = true := by decide +kernel
theorem oY_change : CalOk mY_change 2 := ⟨mT 1613 (by decide +kernel) rfl, mT 156 (by decide +kernel) rfl, ⟨by decide, by decide⟩, by decide +kernel, by decide⟩
theorem iY_change : Cond.instanceMethod mY_change.1 ∈ Tg := mT 1611 (by decide +kernel) rfl
theorem sY_change : Cond.selects mY_change.1.cls mY_change.1 mY_change.1 ∈ Tg := mT 1612 (by decide +kernel) rfl
theorem pY_fire : plainFor mY_fire.1 = true := by decide +kernel
theorem oY_fire : CalOk mY_fire 1 := ⟨mT 1622 (by decide +kernel) rfl, mT 156 (by decide +kernel) rfl, ⟨by decide, by decide⟩, by decide +kernel, by decide⟩
theorem iY_fire : Cond.instanceMethod mY_fire.1 ∈ Tg := mT 1620 (by decide +kernel) rfl
theorem sY_fire : Cond.selects mY_fire.1.cls mY_fire.1 mY_fire.1 ∈ Tg := mT 1621 (by decide +kernel) rfl
theorem pY_burnsNow : plainFor mY_burnsNow.1 = true := by decide +kernel
theorem oY_burnsNow : CalOk mY_burnsNow 0 := ⟨mT 1626 (by decide +kernel) rfl, mT 156 (by decide +kernel) rfl, ⟨by decide, by decide⟩, by decide +kernel, by decide⟩
theorem iY_burnsNow : Cond.instanceMethod mY_burnsNow.1 ∈ Tg := mT 1625 (by decide +kernel) rfl
theorem sY_burnsNow : Cond.selects mY_burnsNow.1.cls mY_burnsNow.1 mY_burnsNow.1 ∈ Tg := mT 122 (by decide +kernel) rfl
theorem pY_areSeen : plainFor mY_areSeen.1 = true := by decide +kernel
theorem oY_areSeen : CalOk mY_areSeen 1 := ⟨mT 1633 (by decide +kernel) rfl, mT 156 (by decide +kernel) rfl, ⟨by decide, by decide⟩, by decide +kernel, by decide⟩
theorem iY_areSeen : Cond.static mY_areSeen.1 ∈ Tg := mT 1632 (by decide +kernel) rfl
theorem pY_findSo : plainFor mY_findSo.1 = true := by decide +kernel
theorem oY_findSo : CalOk mY_findSo 1 := ⟨mT 1638 (by decide +kernel) rfl, mT 156 (by decide +kernel) rfl, ⟨by decide, by decide⟩, by decide +kernel, by decide⟩
theorem iY_findSo : Cond.instanceMethod mY_findSo.1 ∈ Tg := mT 1637 (by decide +kernel) rfl
theorem sY_findSo : Cond.selects mY_findSo.1.cls mY_findSo.1 mY_findSo.1 ∈ Tg := mT 123 (by decide +kernel) rfl
theorem pY_failed : plainFor mY_failed.1 = true := by decide +kernel
theorem oY_failed : CalOk mY_failed 3 := ⟨mT 1630 (by decide +kernel) rfl, mT 156 (by decide +kernel) rfl, ⟨by decide, by decide⟩, by decide +kernel, by decide⟩
theorem iY_failed : Cond.instanceMethod mY_failed.1 ∈ Tg := mT 1628 (by decide +kernel) rfl
theorem sY_failed : Cond.selects mY_failed.1.cls mY_failed.1 mY_failed.1 ∈ Tg := mT 1629 (by decide +kernel) rfl
theorem pY_look : plainFor mY_look.1 = true := by decide +kernel
theorem oY_look : CalOk mY_look 1 := ⟨mT 1642 (by decide +kernel) rfl, mT 156 (by decide +kernel) rfl, ⟨by decide, by decide⟩, by decide +kernel, by decide⟩
theorem iY_look : Cond.instanceMethod mY_look.1 ∈ Tg := mT 1640 (by decide +kernel) rfl
theorem sY_look : Cond.selects mY_look.1.cls mY_look.1 mY_look.1 ∈ Tg := mT 1641 (by decide +kernel) rfl
theorem pY_test : plainFor mY_test.1 = true := by decide +kernel
theorem oY_test : CalOk mY_test 1 := ⟨mT 1646 (by decide +kernel) rfl, mT 156 (by decide +kernel) rfl, ⟨by decide, by decide⟩, by decide +kernel, by decide⟩
theorem iY_test : Cond.instanceMethod mY_test.1 ∈ Tg := mT 1644 (by decide +kernel) rfl
theorem sY_test : Cond.selects mY_test.1.cls mY_test.1 mY_test.1 ∈ Tg := mT 1645 (by decide +kernel) rfl
theorem pY_oddsNow : plainFor mY_oddsNow.1 = true := by decide +kernel
theorem oY_oddsNow : CalOk mY_oddsNow 0 := ⟨mT 1658 (by decide +kernel) rfl, mT 156 (by decide +kernel) rfl, ⟨by decide, by decide⟩, by decide +kernel, by decide⟩
theorem iY_oddsNow : Cond.instanceMethod mY_oddsNow.1 ∈ Tg := mT 1657 (by decide +kernel) rfl
theorem sY_oddsNow : Cond.selects mY_oddsNow.1.cls mY_oddsNow.1 mY_oddsNow.1 ∈ Tg := mT 125 (by decide +kernel) rfl
theorem pY_goMends : plainFor mY_goMends.1 = true := by decide +kernel
theorem oY_goMends : CalOk mY_goMends 3 := ⟨mT 1654 (by decide +kernel) rfl, mT 156 (by decide +kernel) rfl, ⟨by decide, by decide⟩, by decide +kernel, by decide⟩
theorem iY_goMends : Cond.instanceMethod mY_goMends.1 ∈ Tg := mT 1653 (by decide +kernel) rfl
theorem sY_goMends : Cond.selects mY_goMends.1.cls mY_goMends.1 mY_goMends.1 ∈ Tg := mT 124 (by decide +kernel) rfl
theorem pY_mending : plainFor mY_mending.1 = true := by decide +kernel
theorem oY_mending : CalOk mY_mending 2 := ⟨mT 1650 (by decide +kernel) rfl, mT 156 (by decide +kernel) rfl, ⟨by decide, by decide⟩, by decide +kernel, by decide⟩
theorem iY_mending : Cond.instanceMethod mY_mending.1 ∈ Tg := mT 1648 (by decide +kernel) rfl
theorem sY_mending : Cond.selects mY_mending.1.cls mY_mending.1 mY_mending.1 ∈ Tg := mT 1649 (by decide +kernel) rfl
theorem pY_rowFault : plainFor mY_rowFault.1 = true := by decide +kernel
theorem oY_rowFault : CalOk mY_rowFault 1 := ⟨mT 1666 (by decide +kernel) rfl, mT 156 (by decide +kernel) rfl, ⟨by decide, by decide⟩, by decide +kernel, by decide⟩
theorem iY_rowFault : Cond.instanceMethod mY_rowFault.1 ∈ Tg := mT 1665 (by decide +kernel) rfl
theorem sY_rowFault : Cond.selects mY_rowFault.1.cls mY_rowFault.1 mY_rowFault.1 ∈ Tg := mT 126 (by decide +kernel) rfl
theorem pY_justOdds : plainFor mY_justOdds.1 = true := by decide +kernel
theorem oY_justOdds : CalOk mY_justOdds 1 := ⟨mT 1670 (by decide +kernel) rfl, mT 156 (by decide +kernel) rfl, ⟨by decide, by decide⟩, by decide +kernel, by decide⟩
theorem iY_justOdds : Cond.instanceMethod mY_justOdds.1 ∈ Tg := mT 1669 (by decide +kernel) rfl
theorem sY_justOdds : Cond.selects mY_justOdds.1.cls mY_justOdds.1 mY_justOdds.1 ∈ Tg := mT 127 (by decide +kernel) rfl
theorem pY_judge : plainFor mY_judge.1 = true := by decide +kernel
theorem oY_judge : CalOk mY_judge 1 := ⟨mT 1662 (by decide +kernel) rfl, mT 156 (by decide +kernel) rfl, ⟨by decide, by decide⟩, by decide +kernel, by decide⟩
theorem iY_judge : Cond.instanceMethod mY_judge.1 ∈ Tg := mT 1660 (by decide +kernel) rfl
theorem sY_judge : Cond.selects mY_judge.1.cls mY_judge.1 mY_judge.1 ∈ Tg := mT 1661 (by decide +kernel) rfl
theorem pY_how : plainFor mY_how.1 = true := by decide +kernel
theorem oY_how : CalOk mY_how 2 := ⟨mT 1674 (by decide +kernel) rfl, mT 156 (by decide +kernel) rfl, ⟨by decide, by decide⟩, by decide +kernel, by decide⟩
theorem iY_how : Cond.instanceMethod mY_how.1 ∈ Tg := mT 1672 (by decide +kernel) rfl
theorem sY_how : Cond.selects mY_how.1.cls mY_how.1 mY_how.1 ∈ Tg := mT 1673 (by decide +kernel) rfl
theorem pY_productBy : plainFor mY_productBy.1 = true := by decide +kernel
theorem oY_productBy : CalOk mY_productBy 1 := ⟨mT 1683 (by decide +kernel) rfl, mT 156 (by decide +kernel) rfl, ⟨by decide, by decide⟩, by decide +kernel, by decide⟩
theorem iY_productBy : Cond.instanceMethod mY_productBy.1 ∈ Tg := mT 1682 (by decide +kernel) rfl
theorem sY_productBy : Cond.selects mY_productBy.1.cls mY_productBy.1 mY_productBy.1 ∈ Tg := mT 128 (by decide +kernel) rfl
theorem pY_whose : plainFor mY_whose.1 = true := by decide +kernel
theorem oY_whose : CalOk mY_whose 2 := ⟨mT 1678 (by decide +kernel) rfl, mT 156 (by decide +kernel) rfl, ⟨by decide, by decide⟩, by decide +kernel, by decide⟩
theorem iY_whose : Cond.instanceMethod mY_whose.1 ∈ Tg := mT 1676 (by decide +kernel) rfl
theorem sY_whose : Cond.selects mY_whose.1.cls mY_whose.1 mY_whose.1 ∈ Tg := mT 1677 (by decide +kernel) rfl
theorem pY_drawn : plainFor mY_drawn.1 = true := by decide +kernel
theorem oY_drawn : CalOk mY_drawn 3 := ⟨mT 1688 (by decide +kernel) rfl, mT 156 (by decide +kernel) rfl, ⟨by decide, by decide⟩, by decide +kernel, by decide⟩
theorem iY_drawn : Cond.instanceMethod mY_drawn.1 ∈ Tg := mT 1686 (by decide +kernel) rfl
theorem sY_drawn : Cond.selects mY_drawn.1.cls mY_drawn.1 mY_drawn.1 ∈ Tg := mT 1687 (by decide +kernel) rfl
theorem pY_morning : plainFor mY_morning.1 = true := by decide +kernel
theorem oY_morning : CalOk mY_morning 1 := ⟨mT 1693 (by decide +kernel) rfl, mT 156 (by decide +kernel) rfl, ⟨by decide, by decide⟩, by decide +kernel, by decide⟩
theorem iY_morning : Cond.instanceMethod mY_morning.1 ∈ Tg := mT 1691 (by decide +kernel) rfl
theorem sY_morning : Cond.selects mY_morning.1.cls mY_morning.1 mY_morning.1 ∈ Tg := mT 1692 (by decide +kernel) rfl
theorem pY_mended : plainFor mY_mended.1 = true := by decide +kernel
theorem oY_mended : CalOk mY_mended 1 := ⟨mT 1697 (by decide +kernel) rfl, mT 156 (by decide +kernel) rfl, ⟨by decide, by decide⟩, by decide +kernel, by decide⟩
theorem iY_mended : Cond.instanceMethod mY_mended.1 ∈ Tg := mT 1695 (by decide +kernel) rfl
theorem sY_mended : Cond.selects mY_mended.1.cls mY_mended.1 mY_mended.1 ∈ Tg := mT 1696 (by decide +kernel) rfl
theorem pY_led : plainFor mY_led.1 = true := by decide +kernel
theorem oY_led : CalOk mY_led 1 := ⟨mT 1701 (by decide +kernel) rfl, mT 156 (by decide +kernel) rfl, ⟨by decide, by decide⟩, by decide +kernel, by decide⟩
theorem iY_led : Cond.instanceMethod mY_led.1 ∈ Tg := mT 1699 (by decide +kernel) rfl
theorem sY_led : Cond.selects mY_led.1.cls mY_led.1 mY_led.1 ∈ Tg := mT 1700 (by decide +kernel) rfl
theorem pY_image : plainFor mY_image.1 = true := by decide +kernel
theorem oY_image : CalOk mY_image 0 := ⟨mT 1705 (by decide +kernel) rfl, mT 156 (by decide +kernel) rfl, ⟨by decide, by decide⟩, by decide +kernel, by decide⟩
theorem iY_image : Cond.instanceMethod mY_image.1 ∈ Tg := mT 1703 (by decide +kernel) rfl
theorem sY_image : Cond.selects mY_image.1.cls mY_image.1 mY_image.1 ∈ Tg := mT 1704 (by decide +kernel) rfl
theorem pY_back : plainFor mY_back.1 = true := by decide +kernel
theorem oY_back : CalOk mY_back 0 := ⟨mT 1709 (by decide +kernel) rfl, mT 156 (by decide +kernel) rfl, ⟨by decide, by decide⟩, by decide +kernel, by decide⟩
theorem iY_back : Cond.instanceMethod mY_back.1 ∈ Tg := mT 1707 (by decide +kernel) rfl
theorem sY_back : Cond.selects mY_back.1.cls mY_back.1 mY_back.1 ∈ Tg := mT 1708 (by decide +kernel) rfl
theorem pY_isBody : plainFor mY_isBody.1 = true := by decide +kernel
theorem oY_isBody : CalOk mY_isBody 1 := ⟨mT 1725 (by decide +kernel) rfl, mT 156 (by decide +kernel) rfl, ⟨by decide, by decide⟩, by decide +kernel, by decide⟩
theorem iY_isBody : Cond.instanceMethod mY_isBody.1 ∈ Tg := mT 1724 (by decide +kernel) rfl
theorem sY_isBody : Cond.selects mY_isBody.1.cls mY_isBody.1 mY_isBody.1 ∈ Tg := mT 129 (by decide +kernel) rfl
theorem pY_ran : plainFor mY_ran.1 = true := by decide +kernel
theorem oY_ran : CalOk mY_ran 1 := ⟨mT 1736 (by decide +kernel) rfl, mT 156 (by decide +kernel) rfl, ⟨by decide, by decide⟩, by decide +kernel, by decide⟩
theorem iY_ran : Cond.instanceMethod mY_ran.1 ∈ Tg := mT 1735 (by decide +kernel) rfl
theorem sY_ran : Cond.selects mY_ran.1.cls mY_ran.1 mY_ran.1 ∈ Tg := mT 131 (by decide +kernel) rfl
theorem pY_trace : plainFor mY_trace.1 = true := by decide +kernel
theorem oY_trace : CalOk mY_trace 1 := ⟨mT 1713 (by decide +kernel) rfl, mT 156 (by decide +kernel) rfl, ⟨by decide, by decide⟩, by decide +kernel, by decide⟩
theorem iY_trace : Cond.instanceMethod mY_trace.1 ∈ Tg := mT 1711 (by decide +kernel) rfl
theorem sY_trace : Cond.selects mY_trace.1.cls mY_trace.1 mY_trace.1 ∈ Tg := mT 1712 (by decide +kernel) rfl
theorem pY_body : plainFor mY_body.1 = true := by decide +kernel
theorem oY_body : CalOk mY_body 1 := ⟨mT 1717 (by decide +kernel) rfl, mT 156 (by decide +kernel) rfl, ⟨by decide, by decide⟩, by decide +kernel, by decide⟩
theorem iY_body : Cond.instanceMethod mY_body.1 ∈ Tg := mT 1715 (by decide +kernel) rfl
theorem sY_body : Cond.selects mY_body.1.cls mY_body.1 mY_body.1 ∈ Tg := mT 1716 (by decide +kernel) rfl
theorem pY_isUnder : plainFor mY_isUnder.1 = true := by decide +kernel
theorem oY_isUnder : CalOk mY_isUnder 2 := ⟨mT 1732 (by decide +kernel) rfl, mT 156 (by decide +kernel) rfl, ⟨by decide, by decide⟩, by decide +kernel, by decide⟩
theorem iY_isUnder : Cond.static mY_isUnder.1 ∈ Tg := mT 1731 (by decide +kernel) rfl
theorem pY_plainStarts : plainFor mY_plainStarts.1 = true := by decide +kernel
theorem oY_plainStarts : CalOk mY_plainStarts 2 := ⟨mT 1740 (by decide +kernel) rfl, mT 156 (by decide +kernel) rfl, ⟨by decide, by decide⟩, by decide +kernel, by decide⟩
theorem iY_plainStarts : Cond.instanceMethod mY_plainStarts.1 ∈ Tg := mT 1739 (by decide +kernel) rfl
theorem sY_plainStarts : Cond.selects mY_plainStarts.1.cls mY_plainStarts.1 mY_plainStarts.1 ∈ Tg := mT 132 (by decide +kernel) rfl
theorem pY_catStarts : plainFor mY_catStarts.1 = true := by decide +kernel
theorem oY_catStarts : CalOk mY_catStarts 2 := ⟨mT 1744 (by decide +kernel) rfl, mT 156 (by decide +kernel) rfl, ⟨by decide, by decide⟩, by decide +kernel, by decide⟩
theorem iY_catStarts : Cond.instanceMethod mY_catStarts.1 ∈ Tg := mT 1743 (by decide +kernel) rfl
theorem sY_catStarts : Cond.selects mY_catStarts.1.cls mY_catStarts.1 mY_catStarts.1 ∈ Tg := mT 133 (by decide +kernel) rfl
theorem pY_starting : plainFor mY_starting.1 = true := by decide +kernel
theorem oY_starting : CalOk mY_starting 2 := ⟨mT 1729 (by decide +kernel) rfl, mT 156 (by decide +kernel) rfl, ⟨by decide, by decide⟩, by decide +kernel, by decide⟩
theorem iY_starting : Cond.instanceMethod mY_starting.1 ∈ Tg := mT 1728 (by decide +kernel) rfl
theorem sY_starting : Cond.selects mY_starting.1.cls mY_starting.1 mY_starting.1 ∈ Tg := mT 130 (by decide +kernel) rfl
theorem pY_plainTakes : plainFor mY_plainTakes.1 = true := by decide +kernel
theorem oY_plainTakes : CalOk mY_plainTakes 2 := ⟨mT 1756 (by decide +kernel) rfl, mT 156 (by decide +kernel) rfl, ⟨by decide, by decide⟩, by decide +kernel, by decide⟩
theorem iY_plainTakes : Cond.instanceMethod mY_plainTakes.1 ∈ Tg := mT 1755 (by decide +kernel) rfl
theorem sY_plainTakes : Cond.selects mY_plainTakes.1.cls mY_plainTakes.1 mY_plainTakes.1 ∈ Tg := mT 136 (by decide +kernel) rfl
theorem pY_matchTakes : plainFor mY_matchTakes.1 = true := by decide +kernel
theorem oY_matchTakes : CalOk mY_matchTakes 2 := ⟨mT 1752 (by decide +kernel) rfl, mT 156 (by decide +kernel) rfl, ⟨by decide, by decide⟩, by decide +kernel, by decide⟩
theorem iY_matchTakes : Cond.instanceMethod mY_matchTakes.1 ∈ Tg := mT 1751 (by decide +kernel) rfl
theorem sY_matchTakes : Cond.selects mY_matchTakes.1.cls mY_matchTakes.1 mY_matchTakes.1 ∈ Tg := mT 135 (by decide +kernel) rfl
theorem pY_taking : plainFor mY_taking.1 = true := by decide +kernel
theorem oY_taking : CalOk mY_taking 2 := ⟨mT 1748 (by decide +kernel) rfl, mT 156 (by decide +kernel) rfl, ⟨by decide, by decide⟩, by decide +kernel, by decide⟩
theorem iY_taking : Cond.instanceMethod mY_taking.1 ∈ Tg := mT 1747 (by decide +kernel) rfl
theorem sY_taking : Cond.selects mY_taking.1.cls mY_taking.1 mY_taking.1 ∈ Tg := mT 134 (by decide +kernel) rfl
theorem pY_plainFails : plainFor mY_plainFails.1 = true := by decide +kernel
theorem oY_plainFails : CalOk mY_plainFails 2 := ⟨mT 1768 (by decide +kernel) rfl, mT 156 (by decide +kernel) rfl, ⟨by decide, by decide⟩, by decide +kernel, by decide⟩
theorem iY_plainFails : Cond.instanceMethod mY_plainFails.1 ∈ Tg := mT 1767 (by decide +kernel) rfl
theorem sY_plainFails : Cond.selects mY_plainFails.1.cls mY_plainFails.1 mY_plainFails.1 ∈ Tg := mT 139 (by decide +kernel) rfl
theorem pY_leverFails : plainFor mY_leverFails.1 = true := by decide +kernel
theorem oY_leverFails : CalOk mY_leverFails 2 := ⟨mT 1764 (by decide +kernel) rfl, mT 156 (by decide +kernel) rfl, ⟨by decide, by decide⟩, by decide +kernel, by decide⟩
theorem iY_leverFails : Cond.instanceMethod mY_leverFails.1 ∈ Tg := mT 1763 (by decide +kernel) rfl
theorem sY_leverFails : Cond.selects mY_leverFails.1.cls mY_leverFails.1 mY_leverFails.1 ∈ Tg := mT 138 (by decide +kernel) rfl
theorem pY_failing : plainFor mY_failing.1 = true := by decide +kernel
theorem oY_failing : CalOk mY_failing 2 := ⟨mT 1760 (by decide +kernel) rfl, mT 156 (by decide +kernel) rfl, ⟨by decide, by decide⟩, by decide +kernel, by decide⟩
theorem iY_failing : Cond.instanceMethod mY_failing.1 ∈ Tg := mT 1759 (by decide +kernel) rfl
theorem sY_failing : Cond.selects mY_failing.1.cls mY_failing.1 mY_failing.1 ∈ Tg := mT 137 (by decide +kernel) rfl
theorem pY_plainTells : plainFor mY_plainTells.1 = true := by decide +kernel
theorem oY_plainTells : CalOk mY_plainTells 2 := ⟨mT 1776 (by decide +kernel) rfl, mT 156 (by decide +kernel) rfl, ⟨by decide, by decide⟩, by decide +kernel, by decide⟩
theorem iY_plainTells : Cond.instanceMethod mY_plainTells.1 ∈ Tg := mT 1775 (by decide +kernel) rfl
theorem sY_plainTells : Cond.selects mY_plainTells.1.cls mY_plainTells.1 mY_plainTells.1 ∈ Tg := mT 141 (by decide +kernel) rfl
theorem pY_telling : plainFor mY_telling.1 = true := by decide +kernel
theorem oY_telling : CalOk mY_telling 2 := ⟨mT 1772 (by decide +kernel) rfl, mT 156 (by decide +kernel) rfl, ⟨by decide, by decide⟩, by decide +kernel, by decide⟩
theorem iY_telling : Cond.instanceMethod mY_telling.1 ∈ Tg := mT 1771 (by decide +kernel) rfl
theorem sY_telling : Cond.selects mY_telling.1.cls mY_telling.1 mY_telling.1 ∈ Tg := mT 140 (by decide +kernel) rfl
theorem pY_act : plainFor mY_act.1 = true := by decide +kernel
theorem oY_act : CalOk mY_act 3 := ⟨mT 1721 (by decide +kernel) rfl, mT 156 (by decide +kernel) rfl, ⟨by decide, by decide⟩, by decide +kernel, by decide⟩
theorem iY_act : Cond.instanceMethod mY_act.1 ∈ Tg := mT 1719 (by decide +kernel) rfl
theorem sY_act : Cond.selects mY_act.1.cls mY_act.1 mY_act.1 ∈ Tg := mT 1720 (by decide +kernel) rfl
theorem pY_count : plainFor mY_count.1 = true := by decide +kernel
theorem oY_count : CalOk mY_count 1 := ⟨mT 1780 (by decide +kernel) rfl, mT 156 (by decide +kernel) rfl, ⟨by decide, by decide⟩, by decide +kernel, by decide⟩
theorem iY_count : Cond.instanceMethod mY_count.1 ∈ Tg := mT 1778 (by decide +kernel) rfl
theorem sY_count : Cond.selects mY_count.1.cls mY_count.1 mY_count.1 ∈ Tg := mT 1779 (by decide +kernel) rfl
theorem pY_isShelf : plainFor mY_isShelf.1 = true := by decide +kernel
theorem oY_isShelf : CalOk mY_isShelf 1 := ⟨mT 1405 (by decide +kernel) rfl, mT 156 (by decide +kernel) rfl, ⟨by decide, by decide⟩, by decide +kernel, by decide⟩
theorem iY_isShelf : Cond.static mY_isShelf.1 ∈ Tg := mT 1404 (by decide +kernel) rfl
theorem pY_keep : plainFor mY_keep.1 = true := by decide +kernel
theorem oY_keep : CalOk mY_keep 2 := ⟨mT 1784 (by decide +kernel) rfl, mT 156 (by decide +kernel) rfl, ⟨by decide, by decide⟩, by decide +kernel, by decide⟩
theorem iY_keep : Cond.instanceMethod mY_keep.1 ∈ Tg := mT 1782 (by decide +kernel) rfl
theorem sY_keep : Cond.selects mY_keep.1.cls mY_keep.1 mY_keep.1 ∈ Tg := mT 1783 (by decide +kernel) rfl
theorem pY_row : plainFor mY_row.1 = true := by decide +kernel
theorem oY_row : CalOk mY_row 3 := ⟨mT 1788 (by decide +kernel) rfl, mT 156 (by decide +kernel) rfl, ⟨by decide, by decide⟩, by decide +kernel, by decide⟩
theorem iY_row : Cond.instanceMethod mY_row.1 ∈ Tg := mT 1786 (by decide +kernel) rfl
theorem sY_row : Cond.selects mY_row.1.cls mY_row.1 mY_row.1 ∈ Tg := mT 1787 (by decide +kernel) rfl
theorem pY_whyNoPlace : plainFor mY_whyNoPlace.1 = true := by decide +kernel
theorem oY_whyNoPlace : CalOk mY_whyNoPlace 2 := ⟨mT 1796 (by decide +kernel) rfl, mT 156 (by decide +kernel) rfl, ⟨by decide, by decide⟩, by decide +kernel, by decide⟩
theorem iY_whyNoPlace : Cond.instanceMethod mY_whyNoPlace.1 ∈ Tg := mT 1795 (by decide +kernel) rfl
theorem sY_whyNoPlace : Cond.selects mY_whyNoPlace.1.cls mY_whyNoPlace.1 mY_whyNoPlace.1 ∈ Tg := mT 142 (by decide +kernel) rfl
theorem pY_put : plainFor mY_put.1 = true := by decide +kernel
theorem oY_put : CalOk mY_put 3 := ⟨mT 1792 (by decide +kernel) rfl, mT 156 (by decide +kernel) rfl, ⟨by decide, by decide⟩, by decide +kernel, by decide⟩
theorem iY_put : Cond.instanceMethod mY_put.1 ∈ Tg := mT 1790 (by decide +kernel) rfl
theorem sY_put : Cond.selects mY_put.1.cls mY_put.1 mY_put.1 ∈ Tg := mT 1791 (by decide +kernel) rfl
theorem pY_element : plainFor mY_element.1 = true := by decide +kernel
theorem oY_element : CalOk mY_element 2 := ⟨mT 1800 (by decide +kernel) rfl, mT 156 (by decide +kernel) rfl, ⟨by decide, by decide⟩, by decide +kernel, by decide⟩
theorem iY_element : Cond.instanceMethod mY_element.1 ∈ Tg := mT 1798 (by decide +kernel) rfl
theorem sY_element : Cond.selects mY_element.1.cls mY_element.1 mY_element.1 ∈ Tg := mT 1799 (by decide +kernel) rfl
theorem pY_shift : plainFor mY_shift.1 = true := by decide +kernel
theorem oY_shift : CalOk mY_shift 5 := ⟨mT 1804 (by decide +kernel) rfl, mT 156 (by decide +kernel) rfl, ⟨by decide, by decide⟩, by decide +kernel, by decide⟩
theorem iY_shift : Cond.instanceMethod mY_shift.1 ∈ Tg := mT 1802 (by decide +kernel) rfl
theorem sY_shift : Cond.selects mY_shift.1.cls mY_shift.1 mY_shift.1 ∈ Tg := mT 1803 (by decide +kernel) rfl
theorem pY_taken : plainFor mY_taken.1 = true := by decide +kernel
theorem oY_taken : CalOk mY_taken 2 := ⟨mT 1808 (by decide +kernel) rfl, mT 156 (by decide +kernel) rfl, ⟨by decide, by decide⟩, by decide +kernel, by decide⟩
theorem iY_taken : Cond.instanceMethod mY_taken.1 ∈ Tg := mT 1806 (by decide +kernel) rfl
theorem sY_taken : Cond.selects mY_taken.1.cls mY_taken.1 mY_taken.1 ∈ Tg := mT 1807 (by decide +kernel) rfl
theorem pA_init : plainFor mA_init.1 = true := by decide +kernel
theorem oA_init : CalOk mA_init 0 := ⟨mT 474 (by decide +kernel) rfl, mT 154 (by decide +kernel) rfl, ⟨by decide, by decide⟩, by decide +kernel, by decide⟩
theorem iA_init : Cond.instanceMethod mA_init.1 ∈ Tg := mT 473 (by decide +kernel) rfl
theorem pA_isKind : plainFor mA_isKind.1 = true := by decide +kernel
theorem oA_isKind : CalOk mA_isKind 1 := ⟨mT 1107 (by decide +kernel) rfl, mT 154 (by decide +kernel) rfl, ⟨by decide, by decide⟩, by decide +kernel, by decide⟩
theorem iA_isKind : Cond.static mA_isKind.1 ∈ Tg := mT 1106 (by decide +kernel) rfl
theorem pA_isUnder : plainFor mA_isUnder.1 = true := by decide +kernel
theorem oA_isUnder : CalOk mA_isUnder 2 := ⟨mT 1206 (by decide +kernel) rfl, mT 154 (by decide +kernel) rfl, ⟨by decide, by decide⟩, by decide +kernel, by decide⟩
theorem iA_isUnder : Cond.static mA_isUnder.1 ∈ Tg := mT 1205 (by decide +kernel) rfl
theorem pA_add : plainFor mA_add.1 = true := by decide +kernel
theorem oA_add : CalOk mA_add 1 := ⟨mT 1104 (by decide +kernel) rfl, mT 154 (by decide +kernel) rfl, ⟨by decide, by decide⟩, by decide +kernel, by decide⟩
theorem iA_add : Cond.instanceMethod mA_add.1 ∈ Tg := mT 1103 (by decide +kernel) rfl
theorem sA_add : Cond.selects mA_add.1.cls mA_add.1 mA_add.1 ∈ Tg := mT 75 (by decide +kernel) rfl
theorem pA_has : plainFor mA_has.1 = true := by decide +kernel
theorem oA_has : CalOk mA_has 1 := ⟨mT 1119 (by decide +kernel) rfl, mT 154 (by decide +kernel) rfl, ⟨by decide, by decide⟩, by decide +kernel, by decide⟩
theorem iA_has : Cond.instanceMethod mA_has.1 ∈ Tg := mT 1118 (by decide +kernel) rfl
theorem sA_has : Cond.selects mA_has.1.cls mA_has.1 mA_has.1 ∈ Tg := mT 77 (by decide +kernel) rfl
theorem pA_kindOf : plainFor mA_kindOf.1 = true := by decide +kernel
theorem oA_kindOf : CalOk mA_kindOf 1 := ⟨mT 1203 (by decide +kernel) rfl, mT 154 (by decide +kernel) rfl, ⟨by decide, by decide⟩, by decide +kernel, by decide⟩
theorem iA_kindOf : Cond.instanceMethod mA_kindOf.1 ∈ Tg := mT 1202 (by decide +kernel) rfl
theorem sA_kindOf : Cond.selects mA_kindOf.1.cls mA_kindOf.1 mA_kindOf.1 ∈ Tg := mT 86 (by decide +kernel) rfl
theorem pA_perform : plainFor mA_perform.1 = true := by decide +kernel
theorem oA_perform : CalOk mA_perform 3 := ⟨mT 1115 (by decide +kernel) rfl, mT 154 (by decide +kernel) rfl, ⟨by decide, by decide⟩, by decide +kernel, by decide⟩
theorem iA_perform : Cond.instanceMethod mA_perform.1 ∈ Tg := mT 1114 (by decide +kernel) rfl
theorem sA_perform : Cond.selects mA_perform.1.cls mA_perform.1 mA_perform.1 ∈ Tg := mT 76 (by decide +kernel) rfl
theorem pA_ranAt : plainFor mA_ranAt.1 = true := by decide +kernel
theorem oA_ranAt : CalOk mA_ranAt 1 := ⟨mT 1141 (by decide +kernel) rfl, mT 154 (by decide +kernel) rfl, ⟨by decide, by decide⟩, by decide +kernel, by decide⟩
theorem iA_ranAt : Cond.instanceMethod mA_ranAt.1 ∈ Tg := mT 1140 (by decide +kernel) rfl
theorem sA_ranAt : Cond.selects mA_ranAt.1.cls mA_ranAt.1 mA_ranAt.1 ∈ Tg := mT 79 (by decide +kernel) rfl
theorem pA_began : plainFor mA_began.1 = true := by decide +kernel
theorem oA_began : CalOk mA_began 1 := ⟨mT 1133 (by decide +kernel) rfl, mT 154 (by decide +kernel) rfl, ⟨by decide, by decide⟩, by decide +kernel, by decide⟩
theorem iA_began : Cond.instanceMethod mA_began.1 ∈ Tg := mT 1132 (by decide +kernel) rfl
theorem sA_began : Cond.selects mA_began.1.cls mA_began.1 mA_began.1 ∈ Tg := mT 78 (by decide +kernel) rfl
theorem pA_ownerOf : plainFor mA_ownerOf.1 = true := by decide +kernel
theorem oA_ownerOf : CalOk mA_ownerOf 2 := ⟨mT 1125 (by decide +kernel) rfl, mT 154 (by decide +kernel) rfl, ⟨by decide, by decide⟩, by decide +kernel, by decide⟩
theorem iA_ownerOf : Cond.static mA_ownerOf.1 ∈ Tg := mT 1124 (by decide +kernel) rfl
theorem pA_run : plainFor mA_run.1 = true := by decide +kernel
theorem oA_run : CalOk mA_run 5 := ⟨mT 1122 (by decide +kernel) rfl, mT 154 (by decide +kernel) rfl, ⟨by decide, by decide⟩, by decide +kernel, by decide⟩
theorem iA_run : Cond.static mA_run.1 ∈ Tg := mT 1121 (by decide +kernel) rfl
theorem pC_init : plainFor mC_init.1 = true := by decide +kernel
theorem oC_init : CalOk mC_init 3 := ⟨mT 335 (by decide +kernel) rfl, mT 149 (by decide +kernel) rfl, ⟨by decide, by decide⟩, by decide +kernel, by decide⟩
theorem iC_init : Cond.instanceMethod mC_init.1 ∈ Tg := mT 334 (by decide +kernel) rfl
theorem pC_worthOf : plainFor mC_worthOf.1 = true := by decide +kernel
theorem oC_worthOf : CalOk mC_worthOf 1 := ⟨mT 835 (by decide +kernel) rfl, mT 149 (by decide +kernel) rfl, ⟨by decide, by decide⟩, by decide +kernel, by decide⟩
theorem iC_worthOf : Cond.instanceMethod mC_worthOf.1 ∈ Tg := mT 834 (by decide +kernel) rfl
theorem sC_worthOf : Cond.selects mC_worthOf.1.cls mC_worthOf.1 mC_worthOf.1 ∈ Tg := mT 39 (by decide +kernel) rfl
theorem pC_bestBegin : plainFor mC_bestBegin.1 = true := by decide +kernel
theorem oC_bestBegin : CalOk mC_bestBegin 0 := ⟨mT 849 (by decide +kernel) rfl, mT 149 (by decide +kernel) rfl, ⟨by decide, by decide⟩, by decide +kernel, by decide⟩
theorem iC_bestBegin : Cond.instanceMethod mC_bestBegin.1 ∈ Tg := mT 848 (by decide +kernel) rfl
theorem sC_bestBegin : Cond.selects mC_bestBegin.1.cls mC_bestBegin.1 mC_bestBegin.1 ∈ Tg := mT 40 (by decide +kernel) rfl
theorem pC_bestChange : plainFor mC_bestChange.1 = true := by decide +kernel
theorem oC_bestChange : CalOk mC_bestChange 2 := ⟨mT 858 (by decide +kernel) rfl, mT 149 (by decide +kernel) rfl, ⟨by decide, by decide⟩, by decide +kernel, by decide⟩
theorem iC_bestChange : Cond.instanceMethod mC_bestChange.1 ∈ Tg := mT 857 (by decide +kernel) rfl
theorem sC_bestChange : Cond.selects mC_bestChange.1.cls mC_bestChange.1 mC_bestChange.1 ∈ Tg := mT 41 (by decide +kernel) rfl
theorem pC_oddsChanged : plainFor mC_oddsChanged.1 = true := by decide +kernel
theorem oC_oddsChanged : CalOk mC_oddsChanged 2 := ⟨mT 863 (by decide +kernel) rfl, mT 149 (by decide +kernel) rfl, ⟨by decide, by decide⟩, by decide +kernel, by decide⟩
theorem iC_oddsChanged : Cond.instanceMethod mC_oddsChanged.1 ∈ Tg := mT 862 (by decide +kernel) rfl
theorem sC_oddsChanged : Cond.selects mC_oddsChanged.1.cls mC_oddsChanged.1 mC_oddsChanged.1 ∈ Tg := mT 42 (by decide +kernel) rfl
theorem pC_oddsOfEnd : plainFor mC_oddsOfEnd.1 = true := by decide +kernel
theorem oC_oddsOfEnd : CalOk mC_oddsOfEnd 3 := ⟨mT 867 (by decide +kernel) rfl, mT 149 (by decide +kernel) rfl, ⟨by decide, by decide⟩, by decide +kernel, by decide⟩
theorem iC_oddsOfEnd : Cond.instanceMethod mC_oddsOfEnd.1 ∈ Tg := mT 866 (by decide +kernel) rfl
theorem sC_oddsOfEnd : Cond.selects mC_oddsOfEnd.1.cls mC_oddsOfEnd.1 mC_oddsOfEnd.1 ∈ Tg := mT 43 (by decide +kernel) rfl
theorem pC_oddsOfFire : plainFor mC_oddsOfFire.1 = true := by decide +kernel
theorem oC_oddsOfFire : CalOk mC_oddsOfFire 0 := ⟨mT 878 (by decide +kernel) rfl, mT 149 (by decide +kernel) rfl, ⟨by decide, by decide⟩, by decide +kernel, by decide⟩
theorem iC_oddsOfFire : Cond.instanceMethod mC_oddsOfFire.1 ∈ Tg := mT 877 (by decide +kernel) rfl
theorem sC_oddsOfFire : Cond.selects mC_oddsOfFire.1.cls mC_oddsOfFire.1 mC_oddsOfFire.1 ∈ Tg := mT 44 (by decide +kernel) rfl
theorem pC_burns : plainFor mC_burns.1 = true := by decide +kernel
theorem oC_burns : CalOk mC_burns 2 := ⟨mT 881 (by decide +kernel) rfl, mT 149 (by decide +kernel) rfl, ⟨by decide, by decide⟩, by decide +kernel, by decide⟩
theorem iC_burns : Cond.static mC_burns.1 ∈ Tg := mT 880 (by decide +kernel) rfl
theorem pC_draw : plainFor mC_draw.1 = true := by decide +kernel
theorem oC_draw : CalOk mC_draw 3 := ⟨mT 1015 (by decide +kernel) rfl, mT 149 (by decide +kernel) rfl, ⟨by decide, by decide⟩, by decide +kernel, by decide⟩
theorem iC_draw : Cond.instanceMethod mC_draw.1 ∈ Tg := mT 1014 (by decide +kernel) rfl
theorem sC_draw : Cond.selects mC_draw.1.cls mC_draw.1 mC_draw.1 ∈ Tg := mT 64 (by decide +kernel) rfl
theorem pG_init : plainFor mG_init.1 = true := by decide +kernel
theorem oG_init : CalOk mG_init 1 := ⟨mT 445 (by decide +kernel) rfl, mT 153 (by decide +kernel) rfl, ⟨by decide, by decide⟩, by decide +kernel, by decide⟩
theorem iG_init : Cond.instanceMethod mG_init.1 ∈ Tg := mT 444 (by decide +kernel) rfl
theorem pG_tell : plainFor mG_tell.1 = true := by decide +kernel
theorem oG_tell : CalOk mG_tell 3 := ⟨mT 631 (by decide +kernel) rfl, mT 153 (by decide +kernel) rfl, ⟨by decide, by decide⟩, by decide +kernel, by decide⟩
theorem iG_tell : Cond.instanceMethod mG_tell.1 ∈ Tg := mT 630 (by decide +kernel) rfl
theorem sG_tell : Cond.selects mG_tell.1.cls mG_tell.1 mG_tell.1 ∈ Tg := mT 13 (by decide +kernel) rfl
theorem pG_forgetOldest : plainFor mG_forgetOldest.1 = true := by decide +kernel
theorem oG_forgetOldest : CalOk mG_forgetOldest 0 := ⟨mT 635 (by decide +kernel) rfl, mT 153 (by decide +kernel) rfl, ⟨by decide, by decide⟩, by decide +kernel, by decide⟩
theorem iG_forgetOldest : Cond.instanceMethod mG_forgetOldest.1 ∈ Tg := mT 634 (by decide +kernel) rfl
theorem sG_forgetOldest : Cond.selects mG_forgetOldest.1.cls mG_forgetOldest.1 mG_forgetOldest.1 ∈ Tg := mT 14 (by decide +kernel) rfl
theorem pG_takeBack : plainFor mG_takeBack.1 = true := by decide +kernel
theorem oG_takeBack : CalOk mG_takeBack 0 := ⟨mT 1088 (by decide +kernel) rfl, mT 153 (by decide +kernel) rfl, ⟨by decide, by decide⟩, by decide +kernel, by decide⟩
theorem iG_takeBack : Cond.instanceMethod mG_takeBack.1 ∈ Tg := mT 1087 (by decide +kernel) rfl
theorem sG_takeBack : Cond.selects mG_takeBack.1.cls mG_takeBack.1 mG_takeBack.1 ∈ Tg := mT 73 (by decide +kernel) rfl
theorem pG_doAgain : plainFor mG_doAgain.1 = true := by decide +kernel
theorem oG_doAgain : CalOk mG_doAgain 0 := ⟨mT 1096 (by decide +kernel) rfl, mT 153 (by decide +kernel) rfl, ⟨by decide, by decide⟩, by decide +kernel, by decide⟩
theorem iG_doAgain : Cond.instanceMethod mG_doAgain.1 ∈ Tg := mT 1095 (by decide +kernel) rfl
theorem sG_doAgain : Cond.selects mG_doAgain.1.cls mG_doAgain.1 mG_doAgain.1 ∈ Tg := mT 74 (by decide +kernel) rfl
theorem pD_init : plainFor mD_init.1 = true := by decide +kernel
theorem oD_init : CalOk mD_init 2 := ⟨mT 417 (by decide +kernel) rfl, mT 152 (by decide +kernel) rfl, ⟨by decide, by decide⟩, by decide +kernel, by decide⟩
theorem iD_init : Cond.instanceMethod mD_init.1 ∈ Tg := mT 416 (by decide +kernel) rfl
theorem pD_live : plainFor mD_live.1 = true := by decide +kernel
theorem oD_live : CalOk mD_live 1 := ⟨mT 1024 (by decide +kernel) rfl, mT 152 (by decide +kernel) rfl, ⟨by decide, by decide⟩, by decide +kernel, by decide⟩
theorem iD_live : Cond.instanceMethod mD_live.1 ∈ Tg := mT 1023 (by decide +kernel) rfl
theorem sD_live : Cond.selects mD_live.1.cls mD_live.1 mD_live.1 ∈ Tg := mT 65 (by decide +kernel) rfl
theorem pD_repair : plainFor mD_repair.1 = true := by decide +kernel
theorem oD_repair : CalOk mD_repair 1 := ⟨mT 1053 (by decide +kernel) rfl, mT 152 (by decide +kernel) rfl, ⟨by decide, by decide⟩, by decide +kernel, by decide⟩
theorem iD_repair : Cond.instanceMethod mD_repair.1 ∈ Tg := mT 1052 (by decide +kernel) rfl
theorem sD_repair : Cond.selects mD_repair.1.cls mD_repair.1 mD_repair.1 ∈ Tg := mT 69 (by decide +kernel) rfl
theorem pD_ledgerAt : plainFor mD_ledgerAt.1 = true := by decide +kernel
theorem oD_ledgerAt : CalOk mD_ledgerAt 1 := ⟨mT 1063 (by decide +kernel) rfl, mT 152 (by decide +kernel) rfl, ⟨by decide, by decide⟩, by decide +kernel, by decide⟩
theorem iD_ledgerAt : Cond.instanceMethod mD_ledgerAt.1 ∈ Tg := mT 1062 (by decide +kernel) rfl
theorem sD_ledgerAt : Cond.selects mD_ledgerAt.1.cls mD_ledgerAt.1 mD_ledgerAt.1 ∈ Tg := mT 70 (by decide +kernel) rfl
theorem pD_keepImage : plainFor mD_keepImage.1 = true := by decide +kernel
theorem oD_keepImage : CalOk mD_keepImage 0 := ⟨mT 1071 (by decide +kernel) rfl, mT 152 (by decide +kernel) rfl, ⟨by decide, by decide⟩, by decide +kernel, by decide⟩
theorem iD_keepImage : Cond.instanceMethod mD_keepImage.1 ∈ Tg := mT 1070 (by decide +kernel) rfl
theorem sD_keepImage : Cond.selects mD_keepImage.1.cls mD_keepImage.1 mD_keepImage.1 ∈ Tg := mT 71 (by decide +kernel) rfl
theorem pD_layBack : plainFor mD_layBack.1 = true := by decide +kernel
theorem oD_layBack : CalOk mD_layBack 0 := ⟨mT 1080 (by decide +kernel) rfl, mT 152 (by decide +kernel) rfl, ⟨by decide, by decide⟩, by decide +kernel, by decide⟩
theorem iD_layBack : Cond.instanceMethod mD_layBack.1 ∈ Tg := mT 1079 (by decide +kernel) rfl
theorem sD_layBack : Cond.selects mD_layBack.1.cls mD_layBack.1 mD_layBack.1 ∈ Tg := mT 72 (by decide +kernel) rfl
theorem pI_init : plainFor mI_init.1 = true := by decide +kernel
theorem oI_init : CalOk mI_init 3 := ⟨mT 354 (by decide +kernel) rfl, mT 150 (by decide +kernel) rfl, ⟨by decide, by decide⟩, by decide +kernel, by decide⟩
theorem iI_init : Cond.instanceMethod mI_init.1 ∈ Tg := mT 353 (by decide +kernel) rfl
theorem pI_isTold : plainFor mI_isTold.1 = true := by decide +kernel
theorem oI_isTold : CalOk mI_isTold 1 := ⟨mT 888 (by decide +kernel) rfl, mT 150 (by decide +kernel) rfl, ⟨by decide, by decide⟩, by decide +kernel, by decide⟩
theorem iI_isTold : Cond.static mI_isTold.1 ∈ Tg := mT 887 (by decide +kernel) rfl
theorem pI_hear : plainFor mI_hear.1 = true := by decide +kernel
theorem oI_hear : CalOk mI_hear 1 := ⟨mT 893 (by decide +kernel) rfl, mT 150 (by decide +kernel) rfl, ⟨by decide, by decide⟩, by decide +kernel, by decide⟩
theorem iI_hear : Cond.instanceMethod mI_hear.1 ∈ Tg := mT 892 (by decide +kernel) rfl
theorem sI_hear : Cond.selects mI_hear.1.cls mI_hear.1 mI_hear.1 ∈ Tg := mT 45 (by decide +kernel) rfl
theorem pI_oddsSo : plainFor mI_oddsSo.1 = true := by decide +kernel
theorem oI_oddsSo : CalOk mI_oddsSo 1 := ⟨mT 901 (by decide +kernel) rfl, mT 150 (by decide +kernel) rfl, ⟨by decide, by decide⟩, by decide +kernel, by decide⟩
theorem iI_oddsSo : Cond.instanceMethod mI_oddsSo.1 ∈ Tg := mT 900 (by decide +kernel) rfl
theorem sI_oddsSo : Cond.selects mI_oddsSo.1.cls mI_oddsSo.1 mI_oddsSo.1 ∈ Tg := mT 47 (by decide +kernel) rfl
theorem pI_oddsHeard : plainFor mI_oddsHeard.1 = true := by decide +kernel
theorem oI_oddsHeard : CalOk mI_oddsHeard 0 := ⟨mT 905 (by decide +kernel) rfl, mT 150 (by decide +kernel) rfl, ⟨by decide, by decide⟩, by decide +kernel, by decide⟩
theorem iI_oddsHeard : Cond.instanceMethod mI_oddsHeard.1 ∈ Tg := mT 904 (by decide +kernel) rfl
theorem sI_oddsHeard : Cond.selects mI_oddsHeard.1.cls mI_oddsHeard.1 mI_oddsHeard.1 ∈ Tg := mT 48 (by decide +kernel) rfl
theorem pI_oddsStuck : plainFor mI_oddsStuck.1 = true := by decide +kernel
theorem oI_oddsStuck : CalOk mI_oddsStuck 1 := ⟨mT 897 (by decide +kernel) rfl, mT 150 (by decide +kernel) rfl, ⟨by decide, by decide⟩, by decide +kernel, by decide⟩
theorem iI_oddsStuck : Cond.instanceMethod mI_oddsStuck.1 ∈ Tg := mT 896 (by decide +kernel) rfl
theorem sI_oddsStuck : Cond.selects mI_oddsStuck.1.cls mI_oddsStuck.1 mI_oddsStuck.1 ∈ Tg := mT 46 (by decide +kernel) rfl
theorem pI_oddsGone : plainFor mI_oddsGone.1 = true := by decide +kernel
theorem oI_oddsGone : CalOk mI_oddsGone 1 := ⟨mT 928 (by decide +kernel) rfl, mT 150 (by decide +kernel) rfl, ⟨by decide, by decide⟩, by decide +kernel, by decide⟩
theorem iI_oddsGone : Cond.instanceMethod mI_oddsGone.1 ∈ Tg := mT 927 (by decide +kernel) rfl
theorem sI_oddsGone : Cond.selects mI_oddsGone.1.cls mI_oddsGone.1 mI_oddsGone.1 ∈ Tg := mT 51 (by decide +kernel) rfl
theorem pI_likeliestStuck : plainFor mI_likeliestStuck.1 = true := by decide +kernel
theorem oI_likeliestStuck : CalOk mI_likeliestStuck 0 := ⟨mT 913 (by decide +kernel) rfl, mT 150 (by decide +kernel) rfl, ⟨by decide, by decide⟩, by decide +kernel, by decide⟩
theorem iI_likeliestStuck : Cond.instanceMethod mI_likeliestStuck.1 ∈ Tg := mT 912 (by decide +kernel) rfl
theorem sI_likeliestStuck : Cond.selects mI_likeliestStuck.1.cls mI_likeliestStuck.1 mI_likeliestStuck.1 ∈ Tg := mT 49 (by decide +kernel) rfl
theorem pI_bestTest : plainFor mI_bestTest.1 = true := by decide +kernel
theorem oI_bestTest : CalOk mI_bestTest 0 := ⟨mT 922 (by decide +kernel) rfl, mT 150 (by decide +kernel) rfl, ⟨by decide, by decide⟩, by decide +kernel, by decide⟩
theorem iI_bestTest : Cond.instanceMethod mI_bestTest.1 ∈ Tg := mT 921 (by decide +kernel) rfl
theorem sI_bestTest : Cond.selects mI_bestTest.1.cls mI_bestTest.1 mI_bestTest.1 ∈ Tg := mT 50 (by decide +kernel) rfl
theorem pI_open : plainFor mI_open.1 = true := by decide +kernel
theorem oI_open : CalOk mI_open 1 := ⟨mT 995 (by decide +kernel) rfl, mT 150 (by decide +kernel) rfl, ⟨by decide, by decide⟩, by decide +kernel, by decide⟩
theorem iI_open : Cond.instanceMethod mI_open.1 ∈ Tg := mT 994 (by decide +kernel) rfl
theorem sI_open : Cond.selects mI_open.1.cls mI_open.1 mI_open.1 ∈ Tg := mT 61 (by decide +kernel) rfl
theorem pI_read : plainFor mI_read.1 = true := by decide +kernel
theorem oI_read : CalOk mI_read 1 := ⟨mT 1001 (by decide +kernel) rfl, mT 150 (by decide +kernel) rfl, ⟨by decide, by decide⟩, by decide +kernel, by decide⟩
theorem iI_read : Cond.instanceMethod mI_read.1 ∈ Tg := mT 1000 (by decide +kernel) rfl
theorem sI_read : Cond.selects mI_read.1.cls mI_read.1 mI_read.1 ∈ Tg := mT 62 (by decide +kernel) rfl
theorem pI_bestTwelfths : plainFor mI_bestTwelfths.1 = true := by decide +kernel
theorem oI_bestTwelfths : CalOk mI_bestTwelfths 0 := ⟨mT 1007 (by decide +kernel) rfl, mT 150 (by decide +kernel) rfl, ⟨by decide, by decide⟩, by decide +kernel, by decide⟩
theorem iI_bestTwelfths : Cond.instanceMethod mI_bestTwelfths.1 ∈ Tg := mT 1006 (by decide +kernel) rfl
theorem sI_bestTwelfths : Cond.selects mI_bestTwelfths.1.cls mI_bestTwelfths.1 mI_bestTwelfths.1 ∈ Tg := mT 63 (by decide +kernel) rfl
theorem pK_init : plainFor mK_init.1 = true := by decide +kernel
theorem oK_init : CalOk mK_init 0 := ⟨mT 173 (by decide +kernel) rfl, mT 145 (by decide +kernel) rfl, ⟨by decide, by decide⟩, by decide +kernel, by decide⟩
theorem iK_init : Cond.instanceMethod mK_init.1 ∈ Tg := mT 172 (by decide +kernel) rfl
theorem pK_has : plainFor mK_has.1 = true := by decide +kernel
theorem oK_has : CalOk mK_has 1 := ⟨mT 622 (by decide +kernel) rfl, mT 145 (by decide +kernel) rfl, ⟨by decide, by decide⟩, by decide +kernel, by decide⟩
theorem iK_has : Cond.instanceMethod mK_has.1 ∈ Tg := mT 621 (by decide +kernel) rfl
theorem sK_has : Cond.selects mK_has.1.cls mK_has.1 mK_has.1 ∈ Tg := mT 11 (by decide +kernel) rfl
theorem pK_knows : plainFor mK_knows.1 = true := by decide +kernel
theorem oK_knows : CalOk mK_knows 2 := ⟨mT 618 (by decide +kernel) rfl, mT 145 (by decide +kernel) rfl, ⟨by decide, by decide⟩, by decide +kernel, by decide⟩
theorem iK_knows : Cond.instanceMethod mK_knows.1 ∈ Tg := mT 617 (by decide +kernel) rfl
theorem sK_knows : Cond.selects mK_knows.1.cls mK_knows.1 mK_knows.1 ∈ Tg := mT 10 (by decide +kernel) rfl
theorem pK_fits : plainFor mK_fits.1 = true := by decide +kernel
theorem oK_fits : CalOk mK_fits 3 := ⟨mT 563 (by decide +kernel) rfl, mT 145 (by decide +kernel) rfl, ⟨by decide, by decide⟩, by decide +kernel, by decide⟩
theorem iK_fits : Cond.instanceMethod mK_fits.1 ∈ Tg := mT 562 (by decide +kernel) rfl
theorem sK_fits : Cond.selects mK_fits.1.cls mK_fits.1 mK_fits.1 ∈ Tg := mT 1 (by decide +kernel) rfl
theorem pK_told : plainFor mK_told.1 = true := by decide +kernel
theorem oK_told : CalOk mK_told 2 := ⟨mT 627 (by decide +kernel) rfl, mT 145 (by decide +kernel) rfl, ⟨by decide, by decide⟩, by decide +kernel, by decide⟩
theorem iK_told : Cond.instanceMethod mK_told.1 ∈ Tg := mT 626 (by decide +kernel) rfl
theorem sK_told : Cond.selects mK_told.1.cls mK_told.1 mK_told.1 ∈ Tg := mT 12 (by decide +kernel) rfl
theorem pK_write : plainFor mK_write.1 = true := by decide +kernel
theorem oK_write : CalOk mK_write 3 := ⟨mT 571 (by decide +kernel) rfl, mT 145 (by decide +kernel) rfl, ⟨by decide, by decide⟩, by decide +kernel, by decide⟩
theorem iK_write : Cond.instanceMethod mK_write.1 ∈ Tg := mT 570 (by decide +kernel) rfl
theorem sK_write : Cond.selects mK_write.1.cls mK_write.1 mK_write.1 ∈ Tg := mT 2 (by decide +kernel) rfl
theorem pK_isPlace : plainFor mK_isPlace.1 = true := by decide +kernel
theorem oK_isPlace : CalOk mK_isPlace 2 := ⟨mT 574 (by decide +kernel) rfl, mT 145 (by decide +kernel) rfl, ⟨by decide, by decide⟩, by decide +kernel, by decide⟩
theorem iK_isPlace : Cond.static mK_isPlace.1 ∈ Tg := mT 573 (by decide +kernel) rfl
theorem pK_add : plainFor mK_add.1 = true := by decide +kernel
theorem oK_add : CalOk mK_add 3 := ⟨mT 559 (by decide +kernel) rfl, mT 145 (by decide +kernel) rfl, ⟨by decide, by decide⟩, by decide +kernel, by decide⟩
theorem iK_add : Cond.instanceMethod mK_add.1 ∈ Tg := mT 558 (by decide +kernel) rfl
theorem sK_add : Cond.selects mK_add.1.cls mK_add.1 mK_add.1 ∈ Tg := mT 0 (by decide +kernel) rfl
theorem pK_twelfths : plainFor mK_twelfths.1 = true := by decide +kernel
theorem oK_twelfths : CalOk mK_twelfths 2 := ⟨mT 705 (by decide +kernel) rfl, mT 145 (by decide +kernel) rfl, ⟨by decide, by decide⟩, by decide +kernel, by decide⟩
theorem iK_twelfths : Cond.instanceMethod mK_twelfths.1 ∈ Tg := mT 704 (by decide +kernel) rfl
theorem sK_twelfths : Cond.selects mK_twelfths.1.cls mK_twelfths.1 mK_twelfths.1 ∈ Tg := mT 23 (by decide +kernel) rfl
theorem pK_ageAll : plainFor mK_ageAll.1 = true := by decide +kernel
theorem oK_ageAll : CalOk mK_ageAll 0 := ⟨mT 1045 (by decide +kernel) rfl, mT 145 (by decide +kernel) rfl, ⟨by decide, by decide⟩, by decide +kernel, by decide⟩
theorem iK_ageAll : Cond.instanceMethod mK_ageAll.1 ∈ Tg := mT 1044 (by decide +kernel) rfl
theorem sK_ageAll : Cond.selects mK_ageAll.1.cls mK_ageAll.1 mK_ageAll.1 ∈ Tg := mT 68 (by decide +kernel) rfl
theorem pL_init : plainFor mL_init.1 = true := by decide +kernel
theorem oL_init : CalOk mL_init 0 := ⟨mT 181 (by decide +kernel) rfl, mT 146 (by decide +kernel) rfl, ⟨by decide, by decide⟩, by decide +kernel, by decide⟩
theorem iL_init : Cond.instanceMethod mL_init.1 ∈ Tg := mT 180 (by decide +kernel) rfl
theorem pL_append : plainFor mL_append.1 = true := by decide +kernel
theorem oL_append : CalOk mL_append 1 := ⟨mT 652 (by decide +kernel) rfl, mT 146 (by decide +kernel) rfl, ⟨by decide, by decide⟩, by decide +kernel, by decide⟩
theorem iL_append : Cond.instanceMethod mL_append.1 ∈ Tg := mT 651 (by decide +kernel) rfl
theorem sL_append : Cond.selects mL_append.1.cls mL_append.1 mL_append.1 ∈ Tg := mT 15 (by decide +kernel) rfl
theorem pL_isWritten : plainFor mL_isWritten.1 = true := by decide +kernel
theorem oL_isWritten : CalOk mL_isWritten 0 := ⟨mT 710 (by decide +kernel) rfl, mT 146 (by decide +kernel) rfl, ⟨by decide, by decide⟩, by decide +kernel, by decide⟩
theorem iL_isWritten : Cond.instanceMethod mL_isWritten.1 ∈ Tg := mT 709 (by decide +kernel) rfl
theorem sL_isWritten : Cond.selects mL_isWritten.1.cls mL_isWritten.1 mL_isWritten.1 ∈ Tg := mT 24 (by decide +kernel) rfl
theorem pL_adopt : plainFor mL_adopt.1 = true := by decide +kernel
theorem oL_adopt : CalOk mL_adopt 0 := ⟨mT 660 (by decide +kernel) rfl, mT 146 (by decide +kernel) rfl, ⟨by decide, by decide⟩, by decide +kernel, by decide⟩
theorem iL_adopt : Cond.instanceMethod mL_adopt.1 ∈ Tg := mT 659 (by decide +kernel) rfl
theorem sL_adopt : Cond.selects mL_adopt.1.cls mL_adopt.1 mL_adopt.1 ∈ Tg := mT 16 (by decide +kernel) rfl
theorem pL_readLine : plainFor mL_readLine.1 = true := by decide +kernel
theorem oL_readLine : CalOk mL_readLine 0 := ⟨mT 664 (by decide +kernel) rfl, mT 146 (by decide +kernel) rfl, ⟨by decide, by decide⟩, by decide +kernel, by decide⟩
theorem iL_readLine : Cond.instanceMethod mL_readLine.1 ∈ Tg := mT 663 (by decide +kernel) rfl
theorem sL_readLine : Cond.selects mL_readLine.1.cls mL_readLine.1 mL_readLine.1 ∈ Tg := mT 17 (by decide +kernel) rfl
theorem pL_expression : plainFor mL_expression.1 = true := by decide +kernel
theorem oL_expression : CalOk mL_expression 3 := ⟨mT 667 (by decide +kernel) rfl, mT 146 (by decide +kernel) rfl, ⟨by decide, by decide⟩, by decide +kernel, by decide⟩
theorem iL_expression : Cond.static mL_expression.1 ∈ Tg := mT 666 (by decide +kernel) rfl
theorem pL_single : plainFor mL_single.1 = true := by decide +kernel
theorem oL_single : CalOk mL_single 2 := ⟨mT 670 (by decide +kernel) rfl, mT 146 (by decide +kernel) rfl, ⟨by decide, by decide⟩, by decide +kernel, by decide⟩
theorem iL_single : Cond.static mL_single.1 ∈ Tg := mT 669 (by decide +kernel) rfl
theorem pL_readOperand : plainFor mL_readOperand.1 = true := by decide +kernel
theorem oL_readOperand : CalOk mL_readOperand 1 := ⟨mT 678 (by decide +kernel) rfl, mT 146 (by decide +kernel) rfl, ⟨by decide, by decide⟩, by decide +kernel, by decide⟩
theorem iL_readOperand : Cond.instanceMethod mL_readOperand.1 ∈ Tg := mT 677 (by decide +kernel) rfl
theorem sL_readOperand : Cond.selects mL_readOperand.1.cls mL_readOperand.1 mL_readOperand.1 ∈ Tg := mT 19 (by decide +kernel) rfl
theorem pL_next : plainFor mL_next.1 = true := by decide +kernel
theorem oL_next : CalOk mL_next 0 := ⟨mT 674 (by decide +kernel) rfl, mT 146 (by decide +kernel) rfl, ⟨by decide, by decide⟩, by decide +kernel, by decide⟩
theorem iL_next : Cond.instanceMethod mL_next.1 ∈ Tg := mT 673 (by decide +kernel) rfl
theorem sL_next : Cond.selects mL_next.1.cls mL_next.1 mL_next.1 ∈ Tg := mT 18 (by decide +kernel) rfl
theorem pL_accept : plainFor mL_accept.1 = true := by decide +kernel
theorem oL_accept : CalOk mL_accept 1 := ⟨mT 688 (by decide +kernel) rfl, mT 146 (by decide +kernel) rfl, ⟨by decide, by decide⟩, by decide +kernel, by decide⟩
theorem iL_accept : Cond.instanceMethod mL_accept.1 ∈ Tg := mT 687 (by decide +kernel) rfl
theorem sL_accept : Cond.selects mL_accept.1.cls mL_accept.1 mL_accept.1 ∈ Tg := mT 21 (by decide +kernel) rfl
theorem pL_signOf : plainFor mL_signOf.1 = true := by decide +kernel
theorem oL_signOf : CalOk mL_signOf 1 := ⟨mT 692 (by decide +kernel) rfl, mT 146 (by decide +kernel) rfl, ⟨by decide, by decide⟩, by decide +kernel, by decide⟩
theorem iL_signOf : Cond.instanceMethod mL_signOf.1 ∈ Tg := mT 691 (by decide +kernel) rfl
theorem sL_signOf : Cond.selects mL_signOf.1.cls mL_signOf.1 mL_signOf.1 ∈ Tg := mT 22 (by decide +kernel) rfl
theorem pL_emit : plainFor mL_emit.1 = true := by decide +kernel
theorem oL_emit : CalOk mL_emit 1 := ⟨mT 684 (by decide +kernel) rfl, mT 146 (by decide +kernel) rfl, ⟨by decide, by decide⟩, by decide +kernel, by decide⟩
theorem iL_emit : Cond.instanceMethod mL_emit.1 ∈ Tg := mT 683 (by decide +kernel) rfl
theorem sL_emit : Cond.selects mL_emit.1.cls mL_emit.1 mL_emit.1 ∈ Tg := mT 20 (by decide +kernel) rfl
theorem pL_give : plainFor mL_give.1 = true := by decide +kernel
theorem oL_give : CalOk mL_give 1 := ⟨mT 714 (by decide +kernel) rfl, mT 146 (by decide +kernel) rfl, ⟨by decide, by decide⟩, by decide +kernel, by decide⟩
theorem iL_give : Cond.instanceMethod mL_give.1 ∈ Tg := mT 713 (by decide +kernel) rfl
theorem sL_give : Cond.selects mL_give.1.cls mL_give.1 mL_give.1 ∈ Tg := mT 25 (by decide +kernel) rfl
theorem pL_combine : plainFor mL_combine.1 = true := by decide +kernel
theorem oL_combine : CalOk mL_combine 2 := ⟨mT 724 (by decide +kernel) rfl, mT 146 (by decide +kernel) rfl, ⟨by decide, by decide⟩, by decide +kernel, by decide⟩
theorem iL_combine : Cond.instanceMethod mL_combine.1 ∈ Tg := mT 723 (by decide +kernel) rfl
theorem sL_combine : Cond.selects mL_combine.1.cls mL_combine.1 mL_combine.1 ∈ Tg := mT 26 (by decide +kernel) rfl
theorem pL_valueOf : plainFor mL_valueOf.1 = true := by decide +kernel
theorem oL_valueOf : CalOk mL_valueOf 3 := ⟨mT 727 (by decide +kernel) rfl, mT 146 (by decide +kernel) rfl, ⟨by decide, by decide⟩, by decide +kernel, by decide⟩
theorem iL_valueOf : Cond.static mL_valueOf.1 ∈ Tg := mT 726 (by decide +kernel) rfl
theorem pP_init : plainFor mP_init.1 = true := by decide +kernel
theorem oP_init : CalOk mP_init 1 := ⟨mT 248 (by decide +kernel) rfl, mT 147 (by decide +kernel) rfl, ⟨by decide, by decide⟩, by decide +kernel, by decide⟩
theorem iP_init : Cond.instanceMethod mP_init.1 ∈ Tg := mT 247 (by decide +kernel) rfl
theorem pP_follow : plainFor mP_follow.1 = true := by decide +kernel
theorem oP_follow : CalOk mP_follow 0 := ⟨mT 740 (by decide +kernel) rfl, mT 147 (by decide +kernel) rfl, ⟨by decide, by decide⟩, by decide +kernel, by decide⟩
theorem iP_follow : Cond.instanceMethod mP_follow.1 ∈ Tg := mT 739 (by decide +kernel) rfl
theorem sP_follow : Cond.selects mP_follow.1.cls mP_follow.1 mP_follow.1 ∈ Tg := mT 27 (by decide +kernel) rfl
theorem pP_followOne : plainFor mP_followOne.1 = true := by decide +kernel
theorem oP_followOne : CalOk mP_followOne 1 := ⟨mT 744 (by decide +kernel) rfl, mT 147 (by decide +kernel) rfl, ⟨by decide, by decide⟩, by decide +kernel, by decide⟩
theorem iP_followOne : Cond.instanceMethod mP_followOne.1 ∈ Tg := mT 743 (by decide +kernel) rfl
theorem sP_followOne : Cond.selects mP_followOne.1.cls mP_followOne.1 mP_followOne.1 ∈ Tg := mT 28 (by decide +kernel) rfl
theorem pP_startOf : plainFor mP_startOf.1 = true := by decide +kernel
theorem oP_startOf : CalOk mP_startOf 2 := ⟨mT 749 (by decide +kernel) rfl, mT 147 (by decide +kernel) rfl, ⟨by decide, by decide⟩, by decide +kernel, by decide⟩
theorem iP_startOf : Cond.instanceMethod mP_startOf.1 ∈ Tg := mT 748 (by decide +kernel) rfl
theorem sP_startOf : Cond.selects mP_startOf.1.cls mP_startOf.1 mP_startOf.1 ∈ Tg := mT 29 (by decide +kernel) rfl
theorem pP_minuteOf : plainFor mP_minuteOf.1 = true := by decide +kernel
theorem oP_minuteOf : CalOk mP_minuteOf 2 := ⟨mT 754 (by decide +kernel) rfl, mT 147 (by decide +kernel) rfl, ⟨by decide, by decide⟩, by decide +kernel, by decide⟩
theorem iP_minuteOf : Cond.instanceMethod mP_minuteOf.1 ∈ Tg := mT 753 (by decide +kernel) rfl
theorem sP_minuteOf : Cond.selects mP_minuteOf.1.cls mP_minuteOf.1 mP_minuteOf.1 ∈ Tg := mT 30 (by decide +kernel) rfl
theorem pP_endOf : plainFor mP_endOf.1 = true := by decide +kernel
theorem oP_endOf : CalOk mP_endOf 1 := ⟨mT 1029 (by decide +kernel) rfl, mT 147 (by decide +kernel) rfl, ⟨by decide, by decide⟩, by decide +kernel, by decide⟩
theorem iP_endOf : Cond.instanceMethod mP_endOf.1 ∈ Tg := mT 1028 (by decide +kernel) rfl
theorem sP_endOf : Cond.selects mP_endOf.1.cls mP_endOf.1 mP_endOf.1 ∈ Tg := mT 66 (by decide +kernel) rfl
theorem pP_goersOf : plainFor mP_goersOf.1 = true := by decide +kernel
theorem oP_goersOf : CalOk mP_goersOf 1 := ⟨mT 1040 (by decide +kernel) rfl, mT 147 (by decide +kernel) rfl, ⟨by decide, by decide⟩, by decide +kernel, by decide⟩
theorem iP_goersOf : Cond.instanceMethod mP_goersOf.1 ∈ Tg := mT 1039 (by decide +kernel) rfl
theorem sP_goersOf : Cond.selects mP_goersOf.1.cls mP_goersOf.1 mP_goersOf.1 ∈ Tg := mT 67 (by decide +kernel) rfl
theorem pP_stuckOf : plainFor mP_stuckOf.1 = true := by decide +kernel
theorem oP_stuckOf : CalOk mP_stuckOf 1 := ⟨mT 766 (by decide +kernel) rfl, mT 147 (by decide +kernel) rfl, ⟨by decide, by decide⟩, by decide +kernel, by decide⟩
theorem iP_stuckOf : Cond.instanceMethod mP_stuckOf.1 ∈ Tg := mT 765 (by decide +kernel) rfl
theorem sP_stuckOf : Cond.selects mP_stuckOf.1.cls mP_stuckOf.1 mP_stuckOf.1 ∈ Tg := mT 31 (by decide +kernel) rfl
theorem pN_init : plainFor mN_init.1 = true := by decide +kernel
theorem oN_init : CalOk mN_init 3 := ⟨mT 385 (by decide +kernel) rfl, mT 151 (by decide +kernel) rfl, ⟨by decide, by decide⟩, by decide +kernel, by decide⟩
theorem iN_init : Cond.instanceMethod mN_init.1 ∈ Tg := mT 384 (by decide +kernel) rfl
theorem pN_bestWay : plainFor mN_bestWay.1 = true := by decide +kernel
theorem oN_bestWay : CalOk mN_bestWay 1 := ⟨mT 939 (by decide +kernel) rfl, mT 151 (by decide +kernel) rfl, ⟨by decide, by decide⟩, by decide +kernel, by decide⟩
theorem iN_bestWay : Cond.instanceMethod mN_bestWay.1 ∈ Tg := mT 938 (by decide +kernel) rfl
theorem sN_bestWay : Cond.selects mN_bestWay.1.cls mN_bestWay.1 mN_bestWay.1 ∈ Tg := mT 52 (by decide +kernel) rfl
theorem pN_foreseeTwelfths : plainFor mN_foreseeTwelfths.1 = true := by decide +kernel
theorem oN_foreseeTwelfths : CalOk mN_foreseeTwelfths 0 := ⟨mT 943 (by decide +kernel) rfl, mT 151 (by decide +kernel) rfl, ⟨by decide, by decide⟩, by decide +kernel, by decide⟩
theorem iN_foreseeTwelfths : Cond.instanceMethod mN_foreseeTwelfths.1 ∈ Tg := mT 942 (by decide +kernel) rfl
theorem sN_foreseeTwelfths : Cond.selects mN_foreseeTwelfths.1.cls mN_foreseeTwelfths.1 mN_foreseeTwelfths.1 ∈ Tg := mT 53 (by decide +kernel) rfl
theorem pN_millionths : plainFor mN_millionths.1 = true := by decide +kernel
theorem oN_millionths : CalOk mN_millionths 2 := ⟨mT 954 (by decide +kernel) rfl, mT 151 (by decide +kernel) rfl, ⟨by decide, by decide⟩, by decide +kernel, by decide⟩
theorem iN_millionths : Cond.instanceMethod mN_millionths.1 ∈ Tg := mT 953 (by decide +kernel) rfl
theorem sN_millionths : Cond.selects mN_millionths.1.cls mN_millionths.1 mN_millionths.1 ∈ Tg := mT 55 (by decide +kernel) rfl
theorem pN_togetherOf : plainFor mN_togetherOf.1 = true := by decide +kernel
theorem oN_togetherOf : CalOk mN_togetherOf 2 := ⟨mT 965 (by decide +kernel) rfl, mT 151 (by decide +kernel) rfl, ⟨by decide, by decide⟩, by decide +kernel, by decide⟩
theorem iN_togetherOf : Cond.instanceMethod mN_togetherOf.1 ∈ Tg := mT 964 (by decide +kernel) rfl
theorem sN_togetherOf : Cond.selects mN_togetherOf.1.cls mN_togetherOf.1 mN_togetherOf.1 ∈ Tg := mT 57 (by decide +kernel) rfl
theorem pN_whom : plainFor mN_whom.1 = true := by decide +kernel
theorem oN_whom : CalOk mN_whom 3 := ⟨mT 958 (by decide +kernel) rfl, mT 151 (by decide +kernel) rfl, ⟨by decide, by decide⟩, by decide +kernel, by decide⟩
theorem iN_whom : Cond.instanceMethod mN_whom.1 ∈ Tg := mT 957 (by decide +kernel) rfl
theorem sN_whom : Cond.selects mN_whom.1.cls mN_whom.1 mN_whom.1 ∈ Tg := mT 56 (by decide +kernel) rfl
theorem pN_withoutLast : plainFor mN_withoutLast.1 = true := by decide +kernel
theorem oN_withoutLast : CalOk mN_withoutLast 1 := ⟨mT 950 (by decide +kernel) rfl, mT 151 (by decide +kernel) rfl, ⟨by decide, by decide⟩, by decide +kernel, by decide⟩
theorem iN_withoutLast : Cond.instanceMethod mN_withoutLast.1 ∈ Tg := mT 949 (by decide +kernel) rfl
theorem sN_withoutLast : Cond.selects mN_withoutLast.1.cls mN_withoutLast.1 mN_withoutLast.1 ∈ Tg := mT 54 (by decide +kernel) rfl
theorem pS_init : plainFor mS_init.1 = true := by decide +kernel
theorem oS_init : CalOk mS_init 0 := ⟨mT 501 (by decide +kernel) rfl, mT 155 (by decide +kernel) rfl, ⟨by decide, by decide⟩, by decide +kernel, by decide⟩
theorem iS_init : Cond.instanceMethod mS_init.1 ∈ Tg := mT 500 (by decide +kernel) rfl
theorem pS_isShelf : plainFor mS_isShelf.1 = true := by decide +kernel
theorem oS_isShelf : CalOk mS_isShelf 1 := ⟨mT 589 (by decide +kernel) rfl, mT 155 (by decide +kernel) rfl, ⟨by decide, by decide⟩, by decide +kernel, by decide⟩
theorem iS_isShelf : Cond.static mS_isShelf.1 ∈ Tg := mT 588 (by decide +kernel) rfl
theorem pS_refusalOf : plainFor mS_refusalOf.1 = true := by decide +kernel
theorem oS_refusalOf : CalOk mS_refusalOf 2 := ⟨mT 586 (by decide +kernel) rfl, mT 155 (by decide +kernel) rfl, ⟨by decide, by decide⟩, by decide +kernel, by decide⟩
theorem iS_refusalOf : Cond.instanceMethod mS_refusalOf.1 ∈ Tg := mT 585 (by decide +kernel) rfl
theorem sS_refusalOf : Cond.selects mS_refusalOf.1.cls mS_refusalOf.1 mS_refusalOf.1 ∈ Tg := mT 4 (by decide +kernel) rfl
theorem pS_refusalOfBody : plainFor mS_refusalOfBody.1 = true := by decide +kernel
theorem oS_refusalOfBody : CalOk mS_refusalOfBody 1 := ⟨mT 1194 (by decide +kernel) rfl, mT 155 (by decide +kernel) rfl, ⟨by decide, by decide⟩, by decide +kernel, by decide⟩
theorem iS_refusalOfBody : Cond.instanceMethod mS_refusalOfBody.1 ∈ Tg := mT 1193 (by decide +kernel) rfl
theorem sS_refusalOfBody : Cond.selects mS_refusalOfBody.1.cls mS_refusalOfBody.1 mS_refusalOfBody.1 ∈ Tg := mT 84 (by decide +kernel) rfl
theorem pS_refusalOfShorts : plainFor mS_refusalOfShorts.1 = true := by decide +kernel
theorem oS_refusalOfShorts : CalOk mS_refusalOfShorts 1 := ⟨mT 582 (by decide +kernel) rfl, mT 155 (by decide +kernel) rfl, ⟨by decide, by decide⟩, by decide +kernel, by decide⟩
theorem iS_refusalOfShorts : Cond.instanceMethod mS_refusalOfShorts.1 ∈ Tg := mT 581 (by decide +kernel) rfl
theorem sS_refusalOfShorts : Cond.selects mS_refusalOfShorts.1.cls mS_refusalOfShorts.1 mS_refusalOfShorts.1 ∈ Tg := mT 3 (by decide +kernel) rfl
theorem pS_refusalOfPlace : plainFor mS_refusalOfPlace.1 = true := by decide +kernel
theorem oS_refusalOfPlace : CalOk mS_refusalOfPlace 2 := ⟨mT 606 (by decide +kernel) rfl, mT 155 (by decide +kernel) rfl, ⟨by decide, by decide⟩, by decide +kernel, by decide⟩
theorem iS_refusalOfPlace : Cond.instanceMethod mS_refusalOfPlace.1 ∈ Tg := mT 605 (by decide +kernel) rfl
theorem sS_refusalOfPlace : Cond.selects mS_refusalOfPlace.1.cls mS_refusalOfPlace.1 mS_refusalOfPlace.1 ∈ Tg := mT 8 (by decide +kernel) rfl
theorem pS_reaches : plainFor mS_reaches.1 = true := by decide +kernel
theorem oS_reaches : CalOk mS_reaches 3 := ⟨mT 610 (by decide +kernel) rfl, mT 155 (by decide +kernel) rfl, ⟨by decide, by decide⟩, by decide +kernel, by decide⟩
theorem iS_reaches : Cond.instanceMethod mS_reaches.1 ∈ Tg := mT 609 (by decide +kernel) rfl
theorem sS_reaches : Cond.selects mS_reaches.1.cls mS_reaches.1 mS_reaches.1 ∈ Tg := mT 9 (by decide +kernel) rfl
theorem pS_sizeOf : plainFor mS_sizeOf.1 = true := by decide +kernel
theorem oS_sizeOf : CalOk mS_sizeOf 1 := ⟨mT 598 (by decide +kernel) rfl, mT 155 (by decide +kernel) rfl, ⟨by decide, by decide⟩, by decide +kernel, by decide⟩
theorem iS_sizeOf : Cond.instanceMethod mS_sizeOf.1 ∈ Tg := mT 597 (by decide +kernel) rfl
theorem sS_sizeOf : Cond.selects mS_sizeOf.1.cls mS_sizeOf.1 mS_sizeOf.1 ∈ Tg := mT 6 (by decide +kernel) rfl
theorem pS_cell : plainFor mS_cell.1 = true := by decide +kernel
theorem oS_cell : CalOk mS_cell 2 := ⟨mT 602 (by decide +kernel) rfl, mT 155 (by decide +kernel) rfl, ⟨by decide, by decide⟩, by decide +kernel, by decide⟩
theorem iS_cell : Cond.instanceMethod mS_cell.1 ∈ Tg := mT 601 (by decide +kernel) rfl
theorem sS_cell : Cond.selects mS_cell.1.cls mS_cell.1 mS_cell.1 ∈ Tg := mT 7 (by decide +kernel) rfl
theorem pS_bodyOn : plainFor mS_bodyOn.1 = true := by decide +kernel
theorem oS_bodyOn : CalOk mS_bodyOn 1 := ⟨mT 1198 (by decide +kernel) rfl, mT 155 (by decide +kernel) rfl, ⟨by decide, by decide⟩, by decide +kernel, by decide⟩
theorem iS_bodyOn : Cond.instanceMethod mS_bodyOn.1 ∈ Tg := mT 1197 (by decide +kernel) rfl
theorem sS_bodyOn : Cond.selects mS_bodyOn.1.cls mS_bodyOn.1 mS_bodyOn.1 ∈ Tg := mT 85 (by decide +kernel) rfl
theorem pS_holdBody : plainFor mS_holdBody.1 = true := by decide +kernel
theorem oS_holdBody : CalOk mS_holdBody 2 := ⟨mT 1150 (by decide +kernel) rfl, mT 155 (by decide +kernel) rfl, ⟨by decide, by decide⟩, by decide +kernel, by decide⟩
theorem iS_holdBody : Cond.instanceMethod mS_holdBody.1 ∈ Tg := mT 1149 (by decide +kernel) rfl
theorem sS_holdBody : Cond.selects mS_holdBody.1.cls mS_holdBody.1 mS_holdBody.1 ∈ Tg := mT 80 (by decide +kernel) rfl
theorem pS_holdRow : plainFor mS_holdRow.1 = true := by decide +kernel
theorem oS_holdRow : CalOk mS_holdRow 3 := ⟨mT 1158 (by decide +kernel) rfl, mT 155 (by decide +kernel) rfl, ⟨by decide, by decide⟩, by decide +kernel, by decide⟩
theorem iS_holdRow : Cond.instanceMethod mS_holdRow.1 ∈ Tg := mT 1157 (by decide +kernel) rfl
theorem sS_holdRow : Cond.selects mS_holdRow.1.cls mS_holdRow.1 mS_holdRow.1 ∈ Tg := mT 81 (by decide +kernel) rfl
theorem pS_write : plainFor mS_write.1 = true := by decide +kernel
theorem oS_write : CalOk mS_write 3 := ⟨mT 1167 (by decide +kernel) rfl, mT 155 (by decide +kernel) rfl, ⟨by decide, by decide⟩, by decide +kernel, by decide⟩
theorem iS_write : Cond.instanceMethod mS_write.1 ∈ Tg := mT 1166 (by decide +kernel) rfl
theorem sS_write : Cond.selects mS_write.1.cls mS_write.1 mS_write.1 ∈ Tg := mT 82 (by decide +kernel) rfl
theorem pS_lowestBits : plainFor mS_lowestBits.1 = true := by decide +kernel
theorem oS_lowestBits : CalOk mS_lowestBits 2 := ⟨mT 1170 (by decide +kernel) rfl, mT 155 (by decide +kernel) rfl, ⟨by decide, by decide⟩, by decide +kernel, by decide⟩
theorem iS_lowestBits : Cond.static mS_lowestBits.1 ∈ Tg := mT 1169 (by decide +kernel) rfl
theorem pS_move : plainFor mS_move.1 = true := by decide +kernel
theorem oS_move : CalOk mS_move 5 := ⟨mT 1183 (by decide +kernel) rfl, mT 155 (by decide +kernel) rfl, ⟨by decide, by decide⟩, by decide +kernel, by decide⟩
theorem iS_move : Cond.instanceMethod mS_move.1 ∈ Tg := mT 1182 (by decide +kernel) rfl
theorem sS_move : Cond.selects mS_move.1.cls mS_move.1 mS_move.1 ∈ Tg := mT 83 (by decide +kernel) rfl
theorem pT_init : plainFor mT_init.1 = true := by decide +kernel
theorem oT_init : CalOk mT_init 2 := ⟨mT 289 (by decide +kernel) rfl, mT 148 (by decide +kernel) rfl, ⟨by decide, by decide⟩, by decide +kernel, by decide⟩
theorem iT_init : Cond.instanceMethod mT_init.1 ∈ Tg := mT 288 (by decide +kernel) rfl
theorem pT_think : plainFor mT_think.1 = true := by decide +kernel
theorem oT_think : CalOk mT_think 0 := ⟨mT 778 (by decide +kernel) rfl, mT 148 (by decide +kernel) rfl, ⟨by decide, by decide⟩, by decide +kernel, by decide⟩
theorem iT_think : Cond.instanceMethod mT_think.1 ∈ Tg := mT 777 (by decide +kernel) rfl
theorem sT_think : Cond.selects mT_think.1.cls mT_think.1 mT_think.1 ∈ Tg := mT 32 (by decide +kernel) rfl
theorem pT_listEndings : plainFor mT_listEndings.1 = true := by decide +kernel
theorem oT_listEndings : CalOk mT_listEndings 0 := ⟨mT 792 (by decide +kernel) rfl, mT 148 (by decide +kernel) rfl, ⟨by decide, by decide⟩, by decide +kernel, by decide⟩
theorem iT_listEndings : Cond.instanceMethod mT_listEndings.1 ∈ Tg := mT 791 (by decide +kernel) rfl
theorem sT_listEndings : Cond.selects mT_listEndings.1.cls mT_listEndings.1 mT_listEndings.1 ∈ Tg := mT 33 (by decide +kernel) rfl
theorem pT_weigh : plainFor mT_weigh.1 = true := by decide +kernel
theorem oT_weigh : CalOk mT_weigh 4 := ⟨mT 785 (by decide +kernel) rfl, mT 148 (by decide +kernel) rfl, ⟨by decide, by decide⟩, by decide +kernel, by decide⟩
theorem iT_weigh : Cond.static mT_weigh.1 ∈ Tg := mT 784 (by decide +kernel) rfl
theorem pT_oddsToGo : plainFor mT_oddsToGo.1 = true := by decide +kernel
theorem oT_oddsToGo : CalOk mT_oddsToGo 1 := ⟨mT 796 (by decide +kernel) rfl, mT 148 (by decide +kernel) rfl, ⟨by decide, by decide⟩, by decide +kernel, by decide⟩
theorem iT_oddsToGo : Cond.instanceMethod mT_oddsToGo.1 ∈ Tg := mT 795 (by decide +kernel) rfl
theorem sT_oddsToGo : Cond.selects mT_oddsToGo.1.cls mT_oddsToGo.1 mT_oddsToGo.1 ∈ Tg := mT 34 (by decide +kernel) rfl
theorem pT_oddsBy : plainFor mT_oddsBy.1 = true := by decide +kernel
theorem oT_oddsBy : CalOk mT_oddsBy 1 := ⟨mT 800 (by decide +kernel) rfl, mT 148 (by decide +kernel) rfl, ⟨by decide, by decide⟩, by decide +kernel, by decide⟩
theorem iT_oddsBy : Cond.instanceMethod mT_oddsBy.1 ∈ Tg := mT 799 (by decide +kernel) rfl
theorem sT_oddsBy : Cond.selects mT_oddsBy.1.cls mT_oddsBy.1 mT_oddsBy.1 ∈ Tg := mT 35 (by decide +kernel) rfl
theorem pT_oddsIn : plainFor mT_oddsIn.1 = true := by decide +kernel
theorem oT_oddsIn : CalOk mT_oddsIn 1 := ⟨mT 974 (by decide +kernel) rfl, mT 148 (by decide +kernel) rfl, ⟨by decide, by decide⟩, by decide +kernel, by decide⟩
theorem iT_oddsIn : Cond.instanceMethod mT_oddsIn.1 ∈ Tg := mT 973 (by decide +kernel) rfl
theorem sT_oddsIn : Cond.selects mT_oddsIn.1.cls mT_oddsIn.1 mT_oddsIn.1 ∈ Tg := mT 58 (by decide +kernel) rfl
theorem pT_minutesTogether : plainFor mT_minutesTogether.1 = true := by decide +kernel
theorem oT_minutesTogether : CalOk mT_minutesTogether 0 := ⟨mT 826 (by decide +kernel) rfl, mT 148 (by decide +kernel) rfl, ⟨by decide, by decide⟩, by decide +kernel, by decide⟩
theorem iT_minutesTogether : Cond.instanceMethod mT_minutesTogether.1 ∈ Tg := mT 825 (by decide +kernel) rfl
theorem sT_minutesTogether : Cond.selects mT_minutesTogether.1.cls mT_minutesTogether.1 mT_minutesTogether.1 ∈ Tg := mT 38 (by decide +kernel) rfl
theorem pT_soonest : plainFor mT_soonest.1 = true := by decide +kernel
theorem oT_soonest : CalOk mT_soonest 0 := ⟨mT 814 (by decide +kernel) rfl, mT 148 (by decide +kernel) rfl, ⟨by decide, by decide⟩, by decide +kernel, by decide⟩
theorem iT_soonest : Cond.instanceMethod mT_soonest.1 ∈ Tg := mT 813 (by decide +kernel) rfl
theorem sT_soonest : Cond.selects mT_soonest.1.cls mT_soonest.1 mT_soonest.1 ∈ Tg := mT 36 (by decide +kernel) rfl
theorem pT_latest : plainFor mT_latest.1 = true := by decide +kernel
theorem oT_latest : CalOk mT_latest 0 := ⟨mT 818 (by decide +kernel) rfl, mT 148 (by decide +kernel) rfl, ⟨by decide, by decide⟩, by decide +kernel, by decide⟩
theorem iT_latest : Cond.instanceMethod mT_latest.1 ∈ Tg := mT 817 (by decide +kernel) rfl
theorem sT_latest : Cond.selects mT_latest.1.cls mT_latest.1 mT_latest.1 ∈ Tg := mT 37 (by decide +kernel) rfl
theorem pT_waysTo : plainFor mT_waysTo.1 = true := by decide +kernel
theorem oT_waysTo : CalOk mT_waysTo 1 := ⟨mT 983 (by decide +kernel) rfl, mT 148 (by decide +kernel) rfl, ⟨by decide, by decide⟩, by decide +kernel, by decide⟩
theorem iT_waysTo : Cond.instanceMethod mT_waysTo.1 ∈ Tg := mT 982 (by decide +kernel) rfl
theorem sT_waysTo : Cond.selects mT_waysTo.1.cls mT_waysTo.1 mT_waysTo.1 ∈ Tg := mT 59 (by decide +kernel) rfl
theorem pT_likeliestWayTo : plainFor mT_likeliestWayTo.1 = true := by decide +kernel
theorem oT_likeliestWayTo : CalOk mT_likeliestWayTo 1 := ⟨mT 987 (by decide +kernel) rfl, mT 148 (by decide +kernel) rfl, ⟨by decide, by decide⟩, by decide +kernel, by decide⟩
theorem iT_likeliestWayTo : Cond.instanceMethod mT_likeliestWayTo.1 ∈ Tg := mT 986 (by decide +kernel) rfl
theorem sT_likeliestWayTo : Cond.selects mT_likeliestWayTo.1.cls mT_likeliestWayTo.1 mT_likeliestWayTo.1 ∈ Tg := mT 60 (by decide +kernel) rfl
theorem pW_law : plainFor mW_law.1 = true := by decide +kernel
theorem pJ_bitCount : plainFor mJ_bitCount.1 = true := by decide +kernel
theorem oJ_bitCount : CalOk mJ_bitCount 1 := ⟨mT 1033 (by decide +kernel) rfl, mT 160 (by decide +kernel) rfl, ⟨by decide, by decide⟩, by decide +kernel, by decide⟩
theorem iJ_bitCount : Cond.static mJ_bitCount.1 ∈ Tg := mT 1032 (by decide +kernel) rfl
theorem pJ_fill : plainFor mJ_fill.1 = true := by decide +kernel
theorem oJ_fill : CalOk mJ_fill 2 := ⟨mT 788 (by decide +kernel) rfl, mT 159 (by decide +kernel) rfl, ⟨by decide, by decide⟩, by decide +kernel, by decide⟩
theorem iJ_fill : Cond.static mJ_fill.1 ∈ Tg := mT 787 (by decide +kernel) rfl
theorem kS_max : Cond.static Lib.Math.max.name ∈ Tg := mT 719 (by decide +kernel) rfl
theorem kS_min : Cond.static Lib.Math.min.name ∈ Tg := mT 716 (by decide +kernel) rfl
theorem kS_maxl : Cond.static Lib.MathLoose.max_long.x ∈ Tg := mT 930 (by decide +kernel) rfl
theorem kC_max : Cond.code Lib.Math.max.name Lib.Math.max.code 2 (some .int) ∈ Tg := mT 720 (by decide +kernel) rfl
theorem kC_min : Cond.code Lib.Math.min.name Lib.Math.min.code 2 (some .int) ∈ Tg := mT 717 (by decide +kernel) rfl
theorem kC_maxl : Cond.code Lib.MathLoose.max_long.x Lib.MathLoose.max_long.code 4 (some .long) ∈ Tg := mT 931 (by decide +kernel) rfl
theorem kMathI : Cond.initialized "java/lang/Math" ∈ Tg := mT 158 (by decide +kernel) rfl
theorem kSysI : Cond.initialized "java/lang/System" ∈ Tg := mT 157 (by decide +kernel) rfl
theorem kCpN : Cond.native arraycopyName ∈ Tg := mT 638 (by decide +kernel) rfl
theorem kCpS : Cond.static arraycopyName ∈ Tg := mT 637 (by decide +kernel) rfl
theorem fL_18 : FG "WokenByKettle$Law" 18 2 2 := ⟨("WokenByKettle$Law", kTL, 9), rfl, by decide, rfl, Or.inl (mT 185 (by decide +kernel) rfl)⟩
theorem pfL_18 : FP "WokenByKettle$Law" 18 2 2 := ⟨fL_18, ("WokenByKettle$Law", kTL, 9), rfl, rfl⟩
theorem fL_21 : FG "WokenByKettle$Law" 21 2 3 := ⟨("WokenByKettle$Law", kTL, 9), rfl, by decide, rfl, Or.inl (mT 186 (by decide +kernel) rfl)⟩
theorem pfL_21 : FP "WokenByKettle$Law" 21 2 3 := ⟨fL_21, ("WokenByKettle$Law", kTL, 9), rfl, rfl⟩
theorem fL_28 : FG "WokenByKettle$Law" 28 2 5 := ⟨("WokenByKettle$Law", kTL, 9), rfl, by decide, rfl, Or.inl (mT 189 (by decide +kernel) rfl)⟩
theorem pfL_28 : FP "WokenByKettle$Law" 28 2 5 := ⟨fL_28, ("WokenByKettle$Law", kTL, 9), rfl, rfl⟩
theorem fL_34 : FG "WokenByKettle$Law" 34 2 6 := ⟨("WokenByKettle$Law", kTL, 9), rfl, by decide, rfl, Or.inl (mT 190 (by decide +kernel) rfl)⟩
theorem kJ_265 : Cond.constant "java/lang/Integer" 265 (Int32.ofInt 1431655765) ∈ Tg := mT 1034 (by decide +kernel) rfl
theorem kJ_266 : Cond.constant "java/lang/Integer" 266 (Int32.ofInt 858993459) ∈ Tg := mT 1035 (by decide +kernel) rfl
theorem kJ_267 : Cond.constant "java/lang/Integer" 267 (Int32.ofInt 252645135) ∈ Tg := mT 1036 (by decide +kernel) rfl
theorem yS_29 : Lk "WokenByKettle$Shelves" 29 mS_isShelf.1 := Or.inl (mT 587 (by decide +kernel) rfl)
theorem fS_11 : FG "WokenByKettle$Shelves" 11 11 0 := ⟨("WokenByKettle$Shelves", kTS, 5), rfl, by decide, rfl, Or.inl (mT 505 (by decide +kernel) rfl)⟩
theorem yS_33 : Lk "WokenByKettle$Shelves" 33 mS_refusalOf.1 := Or.inl (mT 583 (by decide +kernel) rfl)
theorem fS_18 : FG "WokenByKettle$Shelves" 18 11 2 := ⟨("WokenByKettle$Shelves", kTS, 5), rfl, by decide, rfl, Or.inl (mT 507 (by decide +kernel) rfl)⟩
theorem yS_37 : Lk "WokenByKettle$Shelves" 37 mS_reaches.1 := Or.inl (mT 607 (by decide +kernel) rfl)
theorem fS_21 : FG "WokenByKettle$Shelves" 21 11 3 := ⟨("WokenByKettle$Shelves", kTS, 5), rfl, by decide, rfl, Or.inl (mT 508 (by decide +kernel) rfl)⟩
theorem yS_41 : Lk "WokenByKettle$Shelves" 41 mS_refusalOfPlace.1 := Or.inl (mT 603 (by decide +kernel) rfl)
theorem fS_26 : FG "WokenByKettle$Shelves" 26 11 4 := ⟨("WokenByKettle$Shelves", kTS, 5), rfl, by decide, rfl, Or.inl (mT 509 (by decide +kernel) rfl)⟩
theorem yS_44 : Lk "WokenByKettle$Shelves" 44 mS_refusalOfBody.1 := Or.inl (mT 1199 (by decide +kernel) rfl)
theorem fS_15 : FG "WokenByKettle$Shelves" 15 11 1 := ⟨("WokenByKettle$Shelves", kTS, 5), rfl, by decide, rfl, Or.inl (mT 506 (by decide +kernel) rfl)⟩
theorem yS_48 : Lk "WokenByKettle$Shelves" 48 mJ_fill.1 := Or.inl (mT 1159 (by decide +kernel) rfl)
theorem yS_54 : Lk "WokenByKettle$Shelves" 54 mS_lowestBits.1 := Or.inl (mT 1168 (by decide +kernel) rfl)
theorem yS_58 : Cond.methodLink "WokenByKettle$Shelves" 58 arraycopyName ∈ Tg := mT 1184 (by decide +kernel) rfl
theorem yA_18 : Lk "WokenByKettle$Acts" 18 mA_isKind.1 := Or.inl (mT 1105 (by decide +kernel) rfl)
theorem vA_22 : Cond.fieldLink "WokenByKettle$Acts" 22 "WokenByKettle$Acts" "ABOVE" "[I" ∈ Tg := mT 1128 (by decide +kernel) rfl
theorem fA_25 : FG "WokenByKettle$Acts" 25 10 2 := ⟨("WokenByKettle$Acts", kTA, 6), rfl, by decide, rfl, Or.inl (mT 478 (by decide +kernel) rfl)⟩
theorem fA_11 : FG "WokenByKettle$Acts" 11 10 0 := ⟨("WokenByKettle$Acts", kTA, 6), rfl, by decide, rfl, Or.inl (mT 476 (by decide +kernel) rfl)⟩
theorem pfA_25 : FP "WokenByKettle$Acts" 25 10 2 := ⟨fA_25, ("WokenByKettle$Acts", kTA, 6), rfl, rfl⟩
theorem yA_29 : Lk "WokenByKettle$Acts" 29 mA_has.1 := Or.inl (mT 1116 (by decide +kernel) rfl)
theorem fA_32 : FG "WokenByKettle$Acts" 32 10 3 := ⟨("WokenByKettle$Acts", kTA, 6), rfl, by decide, rfl, Or.inl (mT 480 (by decide +kernel) rfl)⟩
theorem pfA_32 : FP "WokenByKettle$Acts" 32 10 3 := ⟨fA_32, ("WokenByKettle$Acts", kTA, 6), rfl, rfl⟩
theorem fA_35 : FG "WokenByKettle$Acts" 35 10 4 := ⟨("WokenByKettle$Acts", kTA, 6), rfl, by decide, rfl, Or.inl (mT 482 (by decide +kernel) rfl)⟩
theorem pfA_35 : FP "WokenByKettle$Acts" 35 10 4 := ⟨fA_35, ("WokenByKettle$Acts", kTA, 6), rfl, rfl⟩
theorem fA_38 : FG "WokenByKettle$Acts" 38 10 5 := ⟨("WokenByKettle$Acts", kTA, 6), rfl, by decide, rfl, Or.inl (mT 483 (by decide +kernel) rfl)⟩
theorem pfA_38 : FP "WokenByKettle$Acts" 38 10 5 := ⟨fA_38, ("WokenByKettle$Acts", kTA, 6), rfl, rfl⟩
theorem yA_41 : Lk "WokenByKettle$Acts" 41 mA_run.1 := Or.inl (mT 1120 (by decide +kernel) rfl)
theorem fA_15 : FG "WokenByKettle$Acts" 15 10 1 := ⟨("WokenByKettle$Acts", kTA, 6), rfl, by decide, rfl, Or.inl (mT 477 (by decide +kernel) rfl)⟩
theorem vA_45 : Cond.fieldLink "WokenByKettle$Acts" 45 "WokenByKettle$Acts" "OWN_BODY" "[I" ∈ Tg := mT 1126 (by decide +kernel) rfl
theorem yA_48 : Lk "WokenByKettle$Acts" 48 mA_ownerOf.1 := Or.inl (mT 1123 (by decide +kernel) rfl)
theorem yA_52 : Lk "WokenByKettle$Acts" 52 mA_began.1 := Or.inl (mT 1130 (by decide +kernel) rfl)
theorem fL_24 : FG "WokenByKettle$Law" 24 2 4 := ⟨("WokenByKettle$Law", kTL, 9), rfl, by decide, rfl, Or.inl (mT 187 (by decide +kernel) rfl)⟩
theorem fL_11 : FG "WokenByKettle$Law" 11 2 0 := ⟨("WokenByKettle$Law", kTL, 9), rfl, by decide, rfl, Or.inl (mT 183 (by decide +kernel) rfl)⟩
theorem pfL_24 : FP "WokenByKettle$Law" 24 2 4 := ⟨fL_24, ("WokenByKettle$Law", kTL, 9), rfl, rfl⟩
theorem fL_31 : FG "WokenByKettle$Law" 31 2 7 := ⟨("WokenByKettle$Law", kTL, 9), rfl, by decide, rfl, Or.inl (mT 191 (by decide +kernel) rfl)⟩
theorem pfL_31 : FP "WokenByKettle$Law" 31 2 7 := ⟨fL_31, ("WokenByKettle$Law", kTL, 9), rfl, rfl⟩
theorem pfL_34 : FP "WokenByKettle$Law" 34 2 6 := ⟨fL_34, ("WokenByKettle$Law", kTL, 9), rfl, rfl⟩
theorem fL_37 : FG "WokenByKettle$Law" 37 2 8 := ⟨("WokenByKettle$Law", kTL, 9), rfl, by decide, rfl, Or.inl (mT 193 (by decide +kernel) rfl)⟩
theorem pfL_37 : FP "WokenByKettle$Law" 37 2 8 := ⟨fL_37, ("WokenByKettle$Law", kTL, 9), rfl, rfl⟩
theorem yL_41 : Lk "WokenByKettle$Law" 41 mL_readLine.1 := Or.inl (mT 661 (by decide +kernel) rfl)
theorem yL_44 : Lk "WokenByKettle$Law" 44 mL_accept.1 := Or.inl (mT 685 (by decide +kernel) rfl)
theorem yL_48 : Lk "WokenByKettle$Law" 48 mL_expression.1 := Or.inl (mT 665 (by decide +kernel) rfl)
theorem yL_52 : Lk "WokenByKettle$Law" 52 mL_next.1 := Or.inl (mT 671 (by decide +kernel) rfl)
theorem yL_56 : Lk "WokenByKettle$Law" 56 mL_emit.1 := Or.inl (mT 681 (by decide +kernel) rfl)
theorem yL_59 : Lk "WokenByKettle$Law" 59 mL_single.1 := Or.inl (mT 668 (by decide +kernel) rfl)
theorem yL_63 : Lk "WokenByKettle$Law" 63 mL_signOf.1 := Or.inl (mT 689 (by decide +kernel) rfl)
theorem yL_67 : Lk "WokenByKettle$Law" 67 mL_readOperand.1 := Or.inl (mT 675 (by decide +kernel) rfl)
theorem vL_70 : Cond.fieldLink "WokenByKettle$Law" 70 "WokenByKettle$Law" "NAMES" "[C" ∈ Tg := mT 679 (by decide +kernel) rfl
theorem vL_74 : Cond.fieldLink "WokenByKettle$Law" 74 "WokenByKettle$Law" "SIGNS" "[C" ∈ Tg := mT 693 (by decide +kernel) rfl
theorem vL_77 : Cond.fieldLink "WokenByKettle$Law" 77 "WokenByKettle$Law" "LEVEL_OF_SIGN" "[I" ∈ Tg := mT 695 (by decide +kernel) rfl
theorem fL_15 : FG "WokenByKettle$Law" 15 2 1 := ⟨("WokenByKettle$Law", kTL, 9), rfl, by decide, rfl, Or.inl (mT 184 (by decide +kernel) rfl)⟩
theorem yL_80 : Cond.methodLink "WokenByKettle$Law" 80 Lib.Math.min.name ∈ Tg := mT 715 (by decide +kernel) rfl
theorem yL_86 : Cond.methodLink "WokenByKettle$Law" 86 Lib.Math.max.name ∈ Tg := mT 718 (by decide +kernel) rfl
theorem yL_89 : Lk "WokenByKettle$Law" 89 mL_combine.1 := Or.inl (mT 721 (by decide +kernel) rfl)
theorem yL_92 : Lk "WokenByKettle$Law" 92 mL_valueOf.1 := Or.inl (mT 725 (by decide +kernel) rfl)
theorem fG_28 : FG "WokenByKettle$Changes" 28 9 5 := ⟨("WokenByKettle$Changes", kTG, 7), rfl, by decide, rfl, Or.inl (mT 452 (by decide +kernel) rfl)⟩
theorem fG_11 : FG "WokenByKettle$Changes" 11 9 1 := ⟨("WokenByKettle$Changes", kTG, 7), rfl, by decide, rfl, Or.inl (mT 448 (by decide +kernel) rfl)⟩
theorem fG_15 : FG "WokenByKettle$Changes" 15 9 2 := ⟨("WokenByKettle$Changes", kTG, 7), rfl, by decide, rfl, Or.inl (mT 449 (by decide +kernel) rfl)⟩
theorem fG_18 : FG "WokenByKettle$Changes" 18 9 3 := ⟨("WokenByKettle$Changes", kTG, 7), rfl, by decide, rfl, Or.inl (mT 450 (by decide +kernel) rfl)⟩
theorem fG_24 : FG "WokenByKettle$Changes" 24 9 0 := ⟨("WokenByKettle$Changes", kTG, 7), rfl, by decide, rfl, Or.inl (mT 447 (by decide +kernel) rfl)⟩
theorem yG_35 : Lk "WokenByKettle$Changes" 35 mK_told.1 := Or.inr ⟨"WokenByKettle", mN 496 (by decide +kernel) rfl⟩
theorem fG_21 : FG "WokenByKettle$Changes" 21 9 4 := ⟨("WokenByKettle$Changes", kTG, 7), rfl, by decide, rfl, Or.inl (mT 451 (by decide +kernel) rfl)⟩
theorem yG_41 : Lk "WokenByKettle$Changes" 41 mK_write.1 := Or.inr ⟨"WokenByKettle", mN 497 (by decide +kernel) rfl⟩
theorem pfG_28 : FP "WokenByKettle$Changes" 28 9 5 := ⟨fG_28, ("WokenByKettle$Changes", kTG, 7), rfl, rfl⟩
theorem fG_45 : FG "WokenByKettle$Changes" 45 9 6 := ⟨("WokenByKettle$Changes", kTG, 7), rfl, by decide, rfl, Or.inl (mT 454 (by decide +kernel) rfl)⟩
theorem pfG_45 : FP "WokenByKettle$Changes" 45 9 6 := ⟨fG_45, ("WokenByKettle$Changes", kTG, 7), rfl, rfl⟩
theorem yG_32 : Lk "WokenByKettle$Changes" 32 mG_forgetOldest.1 := Or.inl (mT 632 (by decide +kernel) rfl)
theorem yG_48 : Cond.methodLink "WokenByKettle$Changes" 48 arraycopyName ∈ Tg := mT 636 (by decide +kernel) rfl
theorem fK_27 : FG "WokenByKettle$Kitchen" 27 1 3 := ⟨("WokenByKettle$Kitchen", kTK, 6), rfl, by decide, rfl, Or.inl (mT 219 (by decide +kernel) rfl)⟩
theorem yK_31 : Lk "WokenByKettle$Kitchen" 31 mK_has.1 := Or.inl (mT 619 (by decide +kernel) rfl)
theorem vK_35 : Cond.fieldLink "WokenByKettle$Kitchen" 35 "WokenByKettle$Kitchen" "LEAST" "[I" ∈ Tg := mT 564 (by decide +kernel) rfl
theorem vK_38 : Cond.fieldLink "WokenByKettle$Kitchen" 38 "WokenByKettle$Kitchen" "GREATEST" "[I" ∈ Tg := mT 566 (by decide +kernel) rfl
theorem yK_41 : Lk "WokenByKettle$Kitchen" 41 mK_isPlace.1 := Or.inl (mT 572 (by decide +kernel) rfl)
theorem fK_13 : FG "WokenByKettle$Kitchen" 13 1 0 := ⟨("WokenByKettle$Kitchen", kTK, 6), rfl, by decide, rfl, Or.inl (mT 214 (by decide +kernel) rfl)⟩
theorem fK_45 : FG "WokenByKettle$Kitchen" 45 1 4 := ⟨("WokenByKettle$Kitchen", kTK, 6), rfl, by decide, rfl, Or.inl (mT 227 (by decide +kernel) rfl)⟩
theorem pfK_45 : FP "WokenByKettle$Kitchen" 45 1 4 := ⟨fK_45, ("WokenByKettle$Kitchen", kTK, 6), rfl, rfl⟩
theorem fK_48 : FG "WokenByKettle$Kitchen" 48 1 5 := ⟨("WokenByKettle$Kitchen", kTK, 6), rfl, by decide, rfl, Or.inl (mT 230 (by decide +kernel) rfl)⟩
theorem pfK_48 : FP "WokenByKettle$Kitchen" 48 1 5 := ⟨fK_48, ("WokenByKettle$Kitchen", kTK, 6), rfl, rfl⟩
theorem yK_51 : Lk "WokenByKettle$Kitchen" 51 mK_fits.1 := Or.inl (mT 560 (by decide +kernel) rfl)
theorem pfK_27 : FP "WokenByKettle$Kitchen" 27 1 3 := ⟨fK_27, ("WokenByKettle$Kitchen", kTK, 6), rfl, rfl⟩
theorem yK_55 : Lk "WokenByKettle$Kitchen" 55 mK_write.1 := Or.inl (mT 568 (by decide +kernel) rfl)
theorem yK_59 : Lk "WokenByKettle$Kitchen" 59 mK_told.1 := Or.inl (mT 706 (by decide +kernel) rfl)
theorem fK_23 : FG "WokenByKettle$Kitchen" 23 1 2 := ⟨("WokenByKettle$Kitchen", kTK, 6), rfl, by decide, rfl, Or.inl (mT 216 (by decide +kernel) rfl)⟩
theorem yK_63 : Lk "WokenByKettle$Kitchen" 63 mL_isWritten.1 := Or.inr ⟨"WokenByKettle", mN 564 (by decide +kernel) rfl⟩
theorem yK_71 : Cond.methodLink "WokenByKettle$Kitchen" 71 Lib.Math.min.name ∈ Tg := mT 728 (by decide +kernel) rfl
theorem yK_76 : Cond.methodLink "WokenByKettle$Kitchen" 76 Lib.Math.max.name ∈ Tg := mT 729 (by decide +kernel) rfl
theorem fK_16 : FG "WokenByKettle$Kitchen" 16 1 1 := ⟨("WokenByKettle$Kitchen", kTK, 6), rfl, by decide, rfl, Or.inl (mT 215 (by decide +kernel) rfl)⟩
theorem yK_67 : Lk "WokenByKettle$Kitchen" 67 mL_give.1 := Or.inr ⟨"WokenByKettle", mN 568 (by decide +kernel) rfl⟩
theorem fD_25 : FG "WokenByKettle$Deeds" 25 8 1 := ⟨("WokenByKettle$Deeds", kTD, 7), rfl, by decide, rfl, Or.inl (mT 420 (by decide +kernel) rfl)⟩
theorem yD_29 : Lk "WokenByKettle$Deeds" 29 mP_follow.1 := Or.inr ⟨"WokenByKettle", mN 882 (by decide +kernel) rfl⟩
theorem yD_34 : Lk "WokenByKettle$Deeds" 34 mP_endOf.1 := Or.inr ⟨"WokenByKettle", mN 883 (by decide +kernel) rfl⟩
theorem fD_11 : FG "WokenByKettle$Deeds" 11 8 2 := ⟨("WokenByKettle$Deeds", kTD, 7), rfl, by decide, rfl, Or.inl (mT 421 (by decide +kernel) rfl)⟩
theorem yD_38 : Lk "WokenByKettle$Deeds" 38 mP_stuckOf.1 := Or.inr ⟨"WokenByKettle", mN 887 (by decide +kernel) rfl⟩
theorem yD_41 : Lk "WokenByKettle$Deeds" 41 mJ_bitCount.1 := Or.inl (mT 1031 (by decide +kernel) rfl)
theorem fD_21 : FG "WokenByKettle$Deeds" 21 8 0 := ⟨("WokenByKettle$Deeds", kTD, 7), rfl, by decide, rfl, Or.inl (mT 419 (by decide +kernel) rfl)⟩
theorem yD_46 : Lk "WokenByKettle$Deeds" 46 mP_goersOf.1 := Or.inr ⟨"WokenByKettle", mN 894 (by decide +kernel) rfl⟩
theorem yD_49 : Lk "WokenByKettle$Deeds" 49 mC_burns.1 := Or.inr ⟨"WokenByKettle", mN 898 (by decide +kernel) rfl⟩
theorem yD_55 : Lk "WokenByKettle$Deeds" 55 mK_ageAll.1 := Or.inr ⟨"WokenByKettle", mN 899 (by decide +kernel) rfl⟩
theorem yD_60 : Lk "WokenByKettle$Deeds" 60 mK_told.1 := Or.inr ⟨"WokenByKettle", mN 911 (by decide +kernel) rfl⟩
theorem yD_64 : Lk "WokenByKettle$Deeds" 64 mK_write.1 := Or.inr ⟨"WokenByKettle", mN 912 (by decide +kernel) rfl⟩
theorem fD_68 : FG "WokenByKettle$Deeds" 68 8 6 := ⟨("WokenByKettle$Deeds", kTD, 7), rfl, by decide, rfl, Or.inl (mT 425 (by decide +kernel) rfl)⟩
theorem pfD_68 : FP "WokenByKettle$Deeds" 68 8 6 := ⟨fD_68, ("WokenByKettle$Deeds", kTD, 7), rfl, rfl⟩
theorem fD_72 : FG "WokenByKettle$Deeds" 72 1 3 := ⟨("WokenByKettle$Kitchen", kTK, 6), rfl, by decide, rfl, Or.inr ⟨"WokenByKettle", mN 80 (by decide +kernel) rfl⟩⟩
theorem fD_76 : FG "WokenByKettle$Deeds" 76 8 5 := ⟨("WokenByKettle$Deeds", kTD, 7), rfl, by decide, rfl, Or.inl (mT 424 (by decide +kernel) rfl)⟩
theorem pfD_76 : FP "WokenByKettle$Deeds" 76 8 5 := ⟨fD_76, ("WokenByKettle$Deeds", kTD, 7), rfl, rfl⟩
theorem fD_15 : FG "WokenByKettle$Deeds" 15 8 3 := ⟨("WokenByKettle$Deeds", kTD, 7), rfl, by decide, rfl, Or.inl (mT 422 (by decide +kernel) rfl)⟩
theorem yD_79 : Cond.methodLink "WokenByKettle$Deeds" 79 arraycopyName ∈ Tg := mT 1072 (by decide +kernel) rfl
theorem fD_18 : FG "WokenByKettle$Deeds" 18 8 4 := ⟨("WokenByKettle$Deeds", kTD, 7), rfl, by decide, rfl, Or.inl (mT 423 (by decide +kernel) rfl)⟩
theorem fP_30 : FG "WokenByKettle$Paths" 30 3 6 := ⟨("WokenByKettle$Paths", kTP, 7), rfl, by decide, rfl, Or.inl (mT 269 (by decide +kernel) rfl)⟩
theorem fP_33 : FG "WokenByKettle$Paths" 33 3 0 := ⟨("WokenByKettle$Paths", kTP, 7), rfl, by decide, rfl, Or.inl (mT 251 (by decide +kernel) rfl)⟩
theorem fP_37 : FG "WokenByKettle$Paths" 37 1 5 := ⟨("WokenByKettle$Kitchen", kTK, 6), rfl, by decide, rfl, Or.inr ⟨"WokenByKettle", mN 86 (by decide +kernel) rfl⟩⟩
theorem pfP_30 : FP "WokenByKettle$Paths" 30 3 6 := ⟨fP_30, ("WokenByKettle$Paths", kTP, 7), rfl, rfl⟩
theorem fP_42 : FG "WokenByKettle$Paths" 42 1 3 := ⟨("WokenByKettle$Kitchen", kTK, 6), rfl, by decide, rfl, Or.inr ⟨"WokenByKettle", mN 77 (by decide +kernel) rfl⟩⟩
theorem fP_26 : FG "WokenByKettle$Paths" 26 3 5 := ⟨("WokenByKettle$Paths", kTP, 7), rfl, by decide, rfl, Or.inl (mT 264 (by decide +kernel) rfl)⟩
theorem pfP_26 : FP "WokenByKettle$Paths" 26 3 5 := ⟨fP_26, ("WokenByKettle$Paths", kTP, 7), rfl, rfl⟩
theorem fP_16 : FG "WokenByKettle$Paths" 16 3 2 := ⟨("WokenByKettle$Paths", kTP, 7), rfl, by decide, rfl, Or.inl (mT 253 (by decide +kernel) rfl)⟩
theorem fP_20 : FG "WokenByKettle$Paths" 20 3 3 := ⟨("WokenByKettle$Paths", kTP, 7), rfl, by decide, rfl, Or.inl (mT 257 (by decide +kernel) rfl)⟩
theorem yP_45 : Lk "WokenByKettle$Paths" 45 mP_followOne.1 := Or.inl (mT 741 (by decide +kernel) rfl)
theorem fP_23 : FG "WokenByKettle$Paths" 23 3 4 := ⟨("WokenByKettle$Paths", kTP, 7), rfl, by decide, rfl, Or.inl (mT 259 (by decide +kernel) rfl)⟩
theorem yP_49 : Lk "WokenByKettle$Paths" 49 mP_minuteOf.1 := Or.inl (mT 751 (by decide +kernel) rfl)
theorem yP_53 : Lk "WokenByKettle$Paths" 53 mK_told.1 := Or.inr ⟨"WokenByKettle", mN 602 (by decide +kernel) rfl⟩
theorem yP_56 : Lk "WokenByKettle$Paths" 56 mP_startOf.1 := Or.inl (mT 746 (by decide +kernel) rfl)
theorem fP_11 : FG "WokenByKettle$Paths" 11 3 1 := ⟨("WokenByKettle$Paths", kTP, 7), rfl, by decide, rfl, Or.inl (mT 252 (by decide +kernel) rfl)⟩
theorem kP_61 : Cond.constant "WokenByKettle$Paths" 61 (Int32.ofInt 2147483647) ∈ Tg := mT 750 (by decide +kernel) rfl
theorem yP_62 : Cond.methodLink "WokenByKettle$Paths" 62 Lib.Math.min.name ∈ Tg := mT 756 (by decide +kernel) rfl
theorem yP_67 : Cond.methodLink "WokenByKettle$Paths" 67 Lib.Math.max.name ∈ Tg := mT 757 (by decide +kernel) rfl
theorem yP_70 : Lk "WokenByKettle$Paths" 70 mK_has.1 := Or.inr ⟨"WokenByKettle", mN 612 (by decide +kernel) rfl⟩
theorem fT_29 : FG "WokenByKettle$Thought" 29 4 8 := ⟨("WokenByKettle$Thought", kTT, 9), rfl, by decide, rfl, Or.inl (mT 310 (by decide +kernel) rfl)⟩
theorem fT_33 : FG "WokenByKettle$Thought" 33 4 0 := ⟨("WokenByKettle$Thought", kTT, 9), rfl, by decide, rfl, Or.inl (mT 291 (by decide +kernel) rfl)⟩
theorem fT_41 : FG "WokenByKettle$Thought" 41 1 4 := ⟨("WokenByKettle$Kitchen", kTK, 6), rfl, by decide, rfl, Or.inr ⟨"WokenByKettle", mN 83 (by decide +kernel) rfl⟩⟩
theorem pfT_29 : FP "WokenByKettle$Thought" 29 4 8 := ⟨fT_29, ("WokenByKettle$Thought", kTT, 9), rfl, rfl⟩
theorem fT_37 : FG "WokenByKettle$Thought" 37 4 1 := ⟨("WokenByKettle$Thought", kTT, 9), rfl, by decide, rfl, Or.inl (mT 292 (by decide +kernel) rfl)⟩
theorem yT_46 : Lk "WokenByKettle$Thought" 46 mP_follow.1 := Or.inr ⟨"WokenByKettle", mN 636 (by decide +kernel) rfl⟩
theorem fT_25 : FG "WokenByKettle$Thought" 25 4 7 := ⟨("WokenByKettle$Thought", kTT, 9), rfl, by decide, rfl, Or.inl (mT 305 (by decide +kernel) rfl)⟩
theorem pfT_25 : FP "WokenByKettle$Thought" 25 4 7 := ⟨fT_25, ("WokenByKettle$Thought", kTT, 9), rfl, rfl⟩
theorem fT_51 : FG "WokenByKettle$Thought" 51 1 3 := ⟨("WokenByKettle$Kitchen", kTK, 6), rfl, by decide, rfl, Or.inr ⟨"WokenByKettle", mN 78 (by decide +kernel) rfl⟩⟩
theorem fT_15 : FG "WokenByKettle$Thought" 15 4 3 := ⟨("WokenByKettle$Thought", kTT, 9), rfl, by decide, rfl, Or.inl (mT 296 (by decide +kernel) rfl)⟩
theorem fT_9 : FG "WokenByKettle$Thought" 9 4 2 := ⟨("WokenByKettle$Thought", kTT, 9), rfl, by decide, rfl, Or.inl (mT 293 (by decide +kernel) rfl)⟩
theorem yT_62 : Lk "WokenByKettle$Thought" 62 mT_weigh.1 := Or.inl (mT 783 (by decide +kernel) rfl)
theorem fT_19 : FG "WokenByKettle$Thought" 19 4 4 := ⟨("WokenByKettle$Thought", kTT, 9), rfl, by decide, rfl, Or.inl (mT 299 (by decide +kernel) rfl)⟩
theorem yT_66 : Lk "WokenByKettle$Thought" 66 mJ_fill.1 := Or.inl (mT 786 (by decide +kernel) rfl)
theorem yT_54 : Lk "WokenByKettle$Thought" 54 mK_told.1 := Or.inr ⟨"WokenByKettle", mN 637 (by decide +kernel) rfl⟩
theorem yT_58 : Lk "WokenByKettle$Thought" 58 mK_twelfths.1 := Or.inr ⟨"WokenByKettle", mN 638 (by decide +kernel) rfl⟩
theorem kT_60 : Cond.constantLong "WokenByKettle$Thought" 60 (Int64.ofInt 12) ∈ Tg := mT 782 (by decide +kernel) rfl
theorem fT_72 : FG "WokenByKettle$Thought" 72 3 5 := ⟨("WokenByKettle$Paths", kTP, 7), rfl, by decide, rfl, Or.inr ⟨"WokenByKettle", mN 122 (by decide +kernel) rfl⟩⟩
theorem yT_78 : Lk "WokenByKettle$Thought" 78 mT_listEndings.1 := Or.inl (mT 789 (by decide +kernel) rfl)
theorem fT_75 : FG "WokenByKettle$Thought" 75 3 4 := ⟨("WokenByKettle$Paths", kTP, 7), rfl, by decide, rfl, Or.inr ⟨"WokenByKettle", mN 117 (by decide +kernel) rfl⟩⟩
theorem fT_81 : FG "WokenByKettle$Thought" 81 4 6 := ⟨("WokenByKettle$Thought", kTT, 9), rfl, by decide, rfl, Or.inl (mT 304 (by decide +kernel) rfl)⟩
theorem pfT_81 : FP "WokenByKettle$Thought" 81 4 6 := ⟨fT_81, ("WokenByKettle$Thought", kTT, 9), rfl, rfl⟩
theorem fT_22 : FG "WokenByKettle$Thought" 22 4 5 := ⟨("WokenByKettle$Thought", kTT, 9), rfl, by decide, rfl, Or.inl (mT 301 (by decide +kernel) rfl)⟩
theorem fT_84 : FG "WokenByKettle$Thought" 84 3 2 := ⟨("WokenByKettle$Paths", kTP, 7), rfl, by decide, rfl, Or.inr ⟨"WokenByKettle", mN 112 (by decide +kernel) rfl⟩⟩
theorem yT_87 : Lk "WokenByKettle$Thought" 87 mT_oddsBy.1 := Or.inl (mT 975 (by decide +kernel) rfl)
theorem fC_15 : FG "WokenByKettle$Chances" 15 5 0 := ⟨("WokenByKettle$Chances", kTC, 4), rfl, by decide, rfl, Or.inl (mT 337 (by decide +kernel) rfl)⟩
theorem yC_29 : Lk "WokenByKettle$Chances" 29 mK_told.1 := Or.inr ⟨"WokenByKettle", mN 693 (by decide +kernel) rfl⟩
theorem fC_23 : FG "WokenByKettle$Chances" 23 5 2 := ⟨("WokenByKettle$Chances", kTC, 4), rfl, by decide, rfl, Or.inl (mT 339 (by decide +kernel) rfl)⟩
theorem fC_33 : FG "WokenByKettle$Chances" 33 4 6 := ⟨("WokenByKettle$Thought", kTT, 9), rfl, by decide, rfl, Or.inr ⟨"WokenByKettle", mN 160 (by decide +kernel) rfl⟩⟩
theorem kC_51 : Cond.constantLong "WokenByKettle$Chances" 51 (Int64.ofInt 1000) ∈ Tg := mT 838 (by decide +kernel) rfl
theorem fC_53 : FG "WokenByKettle$Chances" 53 4 7 := ⟨("WokenByKettle$Thought", kTT, 9), rfl, by decide, rfl, Or.inr ⟨"WokenByKettle", mN 163 (by decide +kernel) rfl⟩⟩
theorem yC_57 : Lk "WokenByKettle$Chances" 57 mZ_cut.1 := Or.inr ⟨"WokenByKettle", mN 696 (by decide +kernel) rfl⟩
theorem fC_39 : FG "WokenByKettle$Chances" 39 4 5 := ⟨("WokenByKettle$Thought", kTT, 9), rfl, by decide, rfl, Or.inr ⟨"WokenByKettle", mN 159 (by decide +kernel) rfl⟩⟩
theorem fC_43 : FG "WokenByKettle$Chances" 43 4 4 := ⟨("WokenByKettle$Thought", kTT, 9), rfl, by decide, rfl, Or.inr ⟨"WokenByKettle", mN 157 (by decide +kernel) rfl⟩⟩
theorem yC_46 : Cond.methodLink "WokenByKettle$Chances" 46 Lib.Math.max.name ∈ Tg := mT 837 (by decide +kernel) rfl
theorem yC_61 : Lk "WokenByKettle$Chances" 61 mC_worthOf.1 := Or.inl (mT 850 (by decide +kernel) rfl)
theorem kC_65 : Cond.constantLong "WokenByKettle$Chances" 65 (Int64.ofInt (-1)) ∈ Tg := mT 859 (by decide +kernel) rfl
theorem fC_67 : FG "WokenByKettle$Chances" 67 1 3 := ⟨("WokenByKettle$Kitchen", kTK, 6), rfl, by decide, rfl, Or.inr ⟨"WokenByKettle", mN 79 (by decide +kernel) rfl⟩⟩
theorem kC_76 : Cond.constantLong "WokenByKettle$Chances" 76 (Int64.ofInt 1000000) ∈ Tg := mT 870 (by decide +kernel) rfl
theorem kC_74 : Cond.constantLong "WokenByKettle$Chances" 74 (Int64.ofInt 12) ∈ Tg := mT 869 (by decide +kernel) rfl
theorem yC_70 : Lk "WokenByKettle$Chances" 70 mC_oddsChanged.1 := Or.inl (mT 860 (by decide +kernel) rfl)
theorem fC_78 : FG "WokenByKettle$Chances" 78 4 2 := ⟨("WokenByKettle$Thought", kTT, 9), rfl, by decide, rfl, Or.inr ⟨"WokenByKettle", mN 151 (by decide +kernel) rfl⟩⟩
theorem yC_81 : Lk "WokenByKettle$Chances" 81 mC_oddsOfEnd.1 := Or.inl (mT 864 (by decide +kernel) rfl)
theorem fC_9 : FG "WokenByKettle$Chances" 9 5 3 := ⟨("WokenByKettle$Chances", kTC, 4), rfl, by decide, rfl, Or.inl (mT 340 (by decide +kernel) rfl)⟩
theorem yC_85 : Lk "WokenByKettle$Chances" 85 mT_weigh.1 := Or.inr ⟨"WokenByKettle", mN 725 (by decide +kernel) rfl⟩
theorem fC_19 : FG "WokenByKettle$Chances" 19 5 1 := ⟨("WokenByKettle$Chances", kTC, 4), rfl, by decide, rfl, Or.inl (mT 338 (by decide +kernel) rfl)⟩
theorem fC_89 : FG "WokenByKettle$Chances" 89 3 5 := ⟨("WokenByKettle$Paths", kTP, 7), rfl, by decide, rfl, Or.inr ⟨"WokenByKettle", mN 125 (by decide +kernel) rfl⟩⟩
theorem fC_94 : FG "WokenByKettle$Chances" 94 3 4 := ⟨("WokenByKettle$Paths", kTP, 7), rfl, by decide, rfl, Or.inr ⟨"WokenByKettle", mN 119 (by decide +kernel) rfl⟩⟩
theorem fC_97 : FG "WokenByKettle$Chances" 97 3 2 := ⟨("WokenByKettle$Paths", kTP, 7), rfl, by decide, rfl, Or.inr ⟨"WokenByKettle", mN 113 (by decide +kernel) rfl⟩⟩
theorem yC_100 : Lk "WokenByKettle$Chances" 100 mC_burns.1 := Or.inl (mT 879 (by decide +kernel) rfl)
theorem fC_104 : FG "WokenByKettle$Chances" 104 4 3 := ⟨("WokenByKettle$Thought", kTT, 9), rfl, by decide, rfl, Or.inr ⟨"WokenByKettle", mN 155 (by decide +kernel) rfl⟩⟩
theorem kC_107 : Cond.constant "WokenByKettle$Chances" 107 (Int32.ofInt 1103515245) ∈ Tg := mT 1016 (by decide +kernel) rfl
theorem kI_30 : Cond.constant "WokenByKettle$Inquest" 30 (Int32.ofInt 262144) ∈ Tg := mT 889 (by decide +kernel) rfl
theorem fI_22 : FG "WokenByKettle$Inquest" 22 6 1 := ⟨("WokenByKettle$Inquest", kTI, 8), rfl, by decide, rfl, Or.inl (mT 357 (by decide +kernel) rfl)⟩
theorem fI_31 : FG "WokenByKettle$Inquest" 31 3 5 := ⟨("WokenByKettle$Paths", kTP, 7), rfl, by decide, rfl, Or.inr ⟨"WokenByKettle", mN 123 (by decide +kernel) rfl⟩⟩
theorem fI_37 : FG "WokenByKettle$Inquest" 37 6 5 := ⟨("WokenByKettle$Inquest", kTI, 8), rfl, by decide, rfl, Or.inl (mT 361 (by decide +kernel) rfl)⟩
theorem pfI_37 : FP "WokenByKettle$Inquest" 37 6 5 := ⟨fI_37, ("WokenByKettle$Inquest", kTI, 8), rfl, rfl⟩
theorem fI_40 : FG "WokenByKettle$Inquest" 40 6 6 := ⟨("WokenByKettle$Inquest", kTI, 8), rfl, by decide, rfl, Or.inl (mT 362 (by decide +kernel) rfl)⟩
theorem pfI_40 : FP "WokenByKettle$Inquest" 40 6 6 := ⟨fI_40, ("WokenByKettle$Inquest", kTI, 8), rfl, rfl⟩
theorem fI_43 : FG "WokenByKettle$Inquest" 43 3 2 := ⟨("WokenByKettle$Paths", kTP, 7), rfl, by decide, rfl, Or.inr ⟨"WokenByKettle", mN 111 (by decide +kernel) rfl⟩⟩
theorem fI_26 : FG "WokenByKettle$Inquest" 26 6 2 := ⟨("WokenByKettle$Inquest", kTI, 8), rfl, by decide, rfl, Or.inl (mT 358 (by decide +kernel) rfl)⟩
theorem fI_47 : FG "WokenByKettle$Inquest" 47 4 3 := ⟨("WokenByKettle$Thought", kTT, 9), rfl, by decide, rfl, Or.inr ⟨"WokenByKettle", mN 154 (by decide +kernel) rfl⟩⟩
theorem yI_52 : Lk "WokenByKettle$Inquest" 52 mI_oddsSo.1 := Or.inl (mT 898 (by decide +kernel) rfl)
theorem fI_56 : FG "WokenByKettle$Inquest" 56 3 3 := ⟨("WokenByKettle$Paths", kTP, 7), rfl, by decide, rfl, Or.inr ⟨"WokenByKettle", mN 115 (by decide +kernel) rfl⟩⟩
theorem fI_18 : FG "WokenByKettle$Inquest" 18 6 0 := ⟨("WokenByKettle$Inquest", kTI, 8), rfl, by decide, rfl, Or.inl (mT 356 (by decide +kernel) rfl)⟩
theorem fI_59 : FG "WokenByKettle$Inquest" 59 1 3 := ⟨("WokenByKettle$Kitchen", kTK, 6), rfl, by decide, rfl, Or.inr ⟨"WokenByKettle", mN 81 (by decide +kernel) rfl⟩⟩
theorem yI_64 : Lk "WokenByKettle$Inquest" 64 mI_oddsStuck.1 := Or.inl (mT 914 (by decide +kernel) rfl)
theorem yI_67 : Lk "WokenByKettle$Inquest" 67 mI_oddsHeard.1 := Or.inl (mT 923 (by decide +kernel) rfl)
theorem kI_73 : Cond.constantLong "WokenByKettle$Inquest" 73 (Int64.ofInt 9223372036854775807) ∈ Tg := mT 924 (by decide +kernel) rfl
theorem yI_75 : Lk "WokenByKettle$Inquest" 75 mI_oddsGone.1 := Or.inl (mT 925 (by decide +kernel) rfl)
theorem yI_78 : Cond.methodLink "WokenByKettle$Inquest" 78 Lib.MathLoose.max_long.x ∈ Tg := mT 929 (by decide +kernel) rfl
theorem fI_84 : FG "WokenByKettle$Inquest" 84 6 7 := ⟨("WokenByKettle$Inquest", kTI, 8), rfl, by decide, rfl, Or.inl (mT 363 (by decide +kernel) rfl)⟩
theorem pfI_84 : FP "WokenByKettle$Inquest" 84 6 7 := ⟨fI_84, ("WokenByKettle$Inquest", kTI, 8), rfl, rfl⟩
theorem fI_9 : FG "WokenByKettle$Inquest" 9 6 3 := ⟨("WokenByKettle$Inquest", kTI, 8), rfl, by decide, rfl, Or.inl (mT 359 (by decide +kernel) rfl)⟩
theorem fI_87 : FG "WokenByKettle$Inquest" 87 4 2 := ⟨("WokenByKettle$Thought", kTT, 9), rfl, by decide, rfl, Or.inr ⟨"WokenByKettle", mN 152 (by decide +kernel) rfl⟩⟩
theorem yI_90 : Lk "WokenByKettle$Inquest" 90 mT_weigh.1 := Or.inr ⟨"WokenByKettle", mN 853 (by decide +kernel) rfl⟩
theorem fI_15 : FG "WokenByKettle$Inquest" 15 6 4 := ⟨("WokenByKettle$Inquest", kTI, 8), rfl, by decide, rfl, Or.inl (mT 360 (by decide +kernel) rfl)⟩
theorem yI_94 : Lk "WokenByKettle$Inquest" 94 mJ_fill.1 := Or.inl (mT 997 (by decide +kernel) rfl)
theorem fI_100 : FG "WokenByKettle$Inquest" 100 3 4 := ⟨("WokenByKettle$Paths", kTP, 7), rfl, by decide, rfl, Or.inr ⟨"WokenByKettle", mN 120 (by decide +kernel) rfl⟩⟩
theorem kI_103 : Cond.constantLong "WokenByKettle$Inquest" 103 (Int64.ofInt 100) ∈ Tg := mT 1002 (by decide +kernel) rfl
theorem fI_105 : FG "WokenByKettle$Inquest" 105 4 7 := ⟨("WokenByKettle$Thought", kTT, 9), rfl, by decide, rfl, Or.inr ⟨"WokenByKettle", mN 165 (by decide +kernel) rfl⟩⟩
theorem yI_109 : Lk "WokenByKettle$Inquest" 109 mZ_cut.1 := Or.inr ⟨"WokenByKettle", mN 860 (by decide +kernel) rfl⟩
theorem fN_31 : FG "WokenByKettle$Plan" 31 7 0 := ⟨("WokenByKettle$Plan", kTN, 8), rfl, by decide, rfl, Or.inl (mT 388 (by decide +kernel) rfl)⟩
theorem fN_43 : FG "WokenByKettle$Plan" 43 1 3 := ⟨("WokenByKettle$Kitchen", kTK, 6), rfl, by decide, rfl, Or.inr ⟨"WokenByKettle", mN 75 (by decide +kernel) rfl⟩⟩
theorem fN_27 : FG "WokenByKettle$Plan" 27 7 7 := ⟨("WokenByKettle$Plan", kTN, 8), rfl, by decide, rfl, Or.inl (mT 395 (by decide +kernel) rfl)⟩
theorem pfN_27 : FP "WokenByKettle$Plan" 27 7 7 := ⟨fN_27, ("WokenByKettle$Plan", kTN, 8), rfl, rfl⟩
theorem yN_48 : Lk "WokenByKettle$Plan" 48 mN_foreseeTwelfths.1 := Or.inl (mT 940 (by decide +kernel) rfl)
theorem fN_13 : FG "WokenByKettle$Plan" 13 7 3 := ⟨("WokenByKettle$Plan", kTN, 8), rfl, by decide, rfl, Or.inl (mT 391 (by decide +kernel) rfl)⟩
theorem yN_51 : Lk "WokenByKettle$Plan" 51 mN_withoutLast.1 := Or.inl (mT 947 (by decide +kernel) rfl)
theorem yN_55 : Lk "WokenByKettle$Plan" 55 mN_millionths.1 := Or.inl (mT 951 (by decide +kernel) rfl)
theorem yN_59 : Lk "WokenByKettle$Plan" 59 mK_told.1 := Or.inr ⟨"WokenByKettle", mN 801 (by decide +kernel) rfl⟩
theorem fN_16 : FG "WokenByKettle$Plan" 16 7 4 := ⟨("WokenByKettle$Plan", kTN, 8), rfl, by decide, rfl, Or.inl (mT 392 (by decide +kernel) rfl)⟩
theorem yN_62 : Lk "WokenByKettle$Plan" 62 mK_twelfths.1 := Or.inr ⟨"WokenByKettle", mN 802 (by decide +kernel) rfl⟩
theorem yN_64 : Cond.methodLink "WokenByKettle$Plan" 64 Lib.Math.min.name ∈ Tg := mT 946 (by decide +kernel) rfl
theorem fN_19 : FG "WokenByKettle$Plan" 19 7 5 := ⟨("WokenByKettle$Plan", kTN, 8), rfl, by decide, rfl, Or.inl (mT 393 (by decide +kernel) rfl)⟩
theorem fN_23 : FG "WokenByKettle$Plan" 23 7 6 := ⟨("WokenByKettle$Plan", kTN, 8), rfl, by decide, rfl, Or.inl (mT 394 (by decide +kernel) rfl)⟩
theorem yN_73 : Lk "WokenByKettle$Plan" 73 mT_weigh.1 := Or.inr ⟨"WokenByKettle", mN 816 (by decide +kernel) rfl⟩
theorem yN_69 : Lk "WokenByKettle$Plan" 69 mN_whom.1 := Or.inl (mT 955 (by decide +kernel) rfl)
theorem fN_35 : FG "WokenByKettle$Plan" 35 7 1 := ⟨("WokenByKettle$Plan", kTN, 8), rfl, by decide, rfl, Or.inl (mT 389 (by decide +kernel) rfl)⟩
theorem fN_79 : FG "WokenByKettle$Plan" 79 3 5 := ⟨("WokenByKettle$Paths", kTP, 7), rfl, by decide, rfl, Or.inr ⟨"WokenByKettle", mN 124 (by decide +kernel) rfl⟩⟩
theorem kN_87 : Cond.constantLong "WokenByKettle$Plan" 87 (Int64.ofInt 1000000) ∈ Tg := mT 960 (by decide +kernel) rfl
theorem fN_39 : FG "WokenByKettle$Plan" 39 7 2 := ⟨("WokenByKettle$Plan", kTN, 8), rfl, by decide, rfl, Or.inl (mT 390 (by decide +kernel) rfl)⟩
theorem fN_89 : FG "WokenByKettle$Plan" 89 4 7 := ⟨("WokenByKettle$Thought", kTT, 9), rfl, by decide, rfl, Or.inr ⟨"WokenByKettle", mN 164 (by decide +kernel) rfl⟩⟩
theorem yN_93 : Lk "WokenByKettle$Plan" 93 mZ_cut.1 := Or.inr ⟨"WokenByKettle", mN 818 (by decide +kernel) rfl⟩
theorem fN_84 : FG "WokenByKettle$Plan" 84 3 4 := ⟨("WokenByKettle$Paths", kTP, 7), rfl, by decide, rfl, Or.inr ⟨"WokenByKettle", mN 118 (by decide +kernel) rfl⟩⟩
theorem fZ_20 : FG "WokenByKettle" 20 0 0 := ⟨("WokenByKettle", kTZ, 10), rfl, by decide, rfl, Or.inl (mT 521 (by decide +kernel) rfl)⟩
theorem yZ_85 : Lk "WokenByKettle" 85 mK_add.1 := Or.inr ⟨"WokenByKettle", mN 413 (by decide +kernel) rfl⟩
theorem fZ_81 : FG "WokenByKettle" 81 0 9 := ⟨("WokenByKettle", kTZ, 10), rfl, by decide, rfl, Or.inl (mT 530 (by decide +kernel) rfl)⟩
theorem yZ_89 : Lk "WokenByKettle" 89 mS_refusalOfShorts.1 := Or.inr ⟨"WokenByKettle", mN 436 (by decide +kernel) rfl⟩
theorem kZ_93 : Cond.constantLong "WokenByKettle" 93 (Int64.ofInt 3) ∈ Tg := mT 590 (by decide +kernel) rfl
theorem yZ_95 : Lk "WokenByKettle" 95 mZ_addFromRow.1 := Or.inl (mT 591 (by decide +kernel) rfl)
theorem yZ_99 : Lk "WokenByKettle" 99 mS_sizeOf.1 := Or.inr ⟨"WokenByKettle", mN 452 (by decide +kernel) rfl⟩
theorem yZ_102 : Lk "WokenByKettle" 102 mS_cell.1 := Or.inr ⟨"WokenByKettle", mN 456 (by decide +kernel) rfl⟩
theorem yZ_106 : Lk "WokenByKettle" 106 mK_knows.1 := Or.inr ⟨"WokenByKettle", mN 472 (by decide +kernel) rfl⟩
theorem yZ_110 : Lk "WokenByKettle" 110 mK_fits.1 := Or.inr ⟨"WokenByKettle", mN 480 (by decide +kernel) rfl⟩
theorem yZ_114 : Lk "WokenByKettle" 114 mK_told.1 := Or.inr ⟨"WokenByKettle", mN 481 (by decide +kernel) rfl⟩
theorem fZ_67 : FG "WokenByKettle" 67 0 7 := ⟨("WokenByKettle", kTZ, 10), rfl, by decide, rfl, Or.inl (mT 528 (by decide +kernel) rfl)⟩
theorem yZ_118 : Lk "WokenByKettle" 118 mG_tell.1 := Or.inr ⟨"WokenByKettle", mN 485 (by decide +kernel) rfl⟩
theorem fZ_122 : FG "WokenByKettle" 122 1 2 := ⟨("WokenByKettle$Kitchen", kTK, 6), rfl, by decide, rfl, Or.inr ⟨"WokenByKettle", mN 74 (by decide +kernel) rfl⟩⟩
theorem yZ_126 : Lk "WokenByKettle" 126 mL_append.1 := Or.inr ⟨"WokenByKettle", mN 506 (by decide +kernel) rfl⟩
theorem yZ_131 : Lk "WokenByKettle" 131 mL_adopt.1 := Or.inr ⟨"WokenByKettle", mN 514 (by decide +kernel) rfl⟩
theorem fZ_139 : FG "WokenByKettle" 139 1 4 := ⟨("WokenByKettle$Kitchen", kTK, 6), rfl, by decide, rfl, Or.inr ⟨"WokenByKettle", mN 85 (by decide +kernel) rfl⟩⟩
theorem pfZ_139 : FP "WokenByKettle" 139 1 4 := ⟨fZ_139, ("WokenByKettle$Kitchen", kTK, 6), rfl, rfl⟩
theorem fZ_135 : FG "WokenByKettle" 135 2 7 := ⟨("WokenByKettle$Law", kTL, 9), rfl, by decide, rfl, Or.inr ⟨"WokenByKettle", mN 49 (by decide +kernel) rfl⟩⟩
theorem yZ_142 : Lk "WokenByKettle" 142 mK_has.1 := Or.inr ⟨"WokenByKettle", mN 558 (by decide +kernel) rfl⟩
theorem yZ_146 : Lk "WokenByKettle" 146 mK_twelfths.1 := Or.inr ⟨"WokenByKettle", mN 559 (by decide +kernel) rfl⟩
theorem yZ_149 : Lk "WokenByKettle" 149 mZ_isSet.1 := Or.inl (mT 734 (by decide +kernel) rfl)
theorem fZ_26 : FG "WokenByKettle" 26 0 1 := ⟨("WokenByKettle", kTZ, 10), rfl, by decide, rfl, Or.inl (mT 522 (by decide +kernel) rfl)⟩
theorem yZ_152 : Lk "WokenByKettle" 152 mP_follow.1 := Or.inr ⟨"WokenByKettle", mN 594 (by decide +kernel) rfl⟩
theorem yZ_155 : Lk "WokenByKettle" 155 mP_minuteOf.1 := Or.inr ⟨"WokenByKettle", mN 615 (by decide +kernel) rfl⟩
theorem yZ_158 : Lk "WokenByKettle" 158 mP_stuckOf.1 := Or.inr ⟨"WokenByKettle", mN 620 (by decide +kernel) rfl⟩
theorem yZ_161 : Lk "WokenByKettle" 161 mZ_isSide.1 := Or.inl (mT 771 (by decide +kernel) rfl)
theorem kZ_166 : Cond.constantLong "WokenByKettle" 166 (Int64.ofInt (-9223372036854775808)) ∈ Tg := mT 774 (by decide +kernel) rfl
theorem fZ_30 : FG "WokenByKettle" 30 0 2 := ⟨("WokenByKettle", kTZ, 10), rfl, by decide, rfl, Or.inl (mT 523 (by decide +kernel) rfl)⟩
theorem yZ_168 : Lk "WokenByKettle" 168 mT_think.1 := Or.inr ⟨"WokenByKettle", mN 632 (by decide +kernel) rfl⟩
theorem yZ_175 : Lk "WokenByKettle" 175 mT_oddsBy.1 := Or.inr ⟨"WokenByKettle", mN 654 (by decide +kernel) rfl⟩
theorem fZ_178 : FG "WokenByKettle" 178 4 7 := ⟨("WokenByKettle$Thought", kTT, 9), rfl, by decide, rfl, Or.inr ⟨"WokenByKettle", mN 166 (by decide +kernel) rfl⟩⟩
theorem yZ_182 : Lk "WokenByKettle" 182 mZ_side.1 := Or.inl (mT 801 (by decide +kernel) rfl)
theorem yZ_171 : Lk "WokenByKettle" 171 mT_oddsToGo.1 := Or.inr ⟨"WokenByKettle", mN 650 (by decide +kernel) rfl⟩
theorem yZ_190 : Lk "WokenByKettle" 190 mT_latest.1 := Or.inr ⟨"WokenByKettle", mN 672 (by decide +kernel) rfl⟩
theorem yZ_186 : Lk "WokenByKettle" 186 mT_soonest.1 := Or.inr ⟨"WokenByKettle", mN 668 (by decide +kernel) rfl⟩
theorem yZ_193 : Lk "WokenByKettle" 193 mT_minutesTogether.1 := Or.inr ⟨"WokenByKettle", mN 680 (by decide +kernel) rfl⟩
theorem kZ_197 : Cond.constant "WokenByKettle" 197 (Int32.ofInt (-2000000000)) ∈ Tg := mT 831 (by decide +kernel) rfl
theorem fZ_39 : FG "WokenByKettle" 39 0 3 := ⟨("WokenByKettle", kTZ, 10), rfl, by decide, rfl, Or.inl (mT 524 (by decide +kernel) rfl)⟩
theorem yZ_198 : Lk "WokenByKettle" 198 mC_worthOf.1 := Or.inr ⟨"WokenByKettle", mN 689 (by decide +kernel) rfl⟩
theorem yZ_201 : Lk "WokenByKettle" 201 mC_bestBegin.1 := Or.inr ⟨"WokenByKettle", mN 703 (by decide +kernel) rfl⟩
theorem fZ_204 : FG "WokenByKettle" 204 1 3 := ⟨("WokenByKettle$Kitchen", kTK, 6), rfl, by decide, rfl, Or.inr ⟨"WokenByKettle", mN 82 (by decide +kernel) rfl⟩⟩
theorem yZ_207 : Lk "WokenByKettle" 207 mC_bestChange.1 := Or.inr ⟨"WokenByKettle", mN 712 (by decide +kernel) rfl⟩
theorem yZ_211 : Lk "WokenByKettle" 211 mC_oddsOfFire.1 := Or.inr ⟨"WokenByKettle", mN 732 (by decide +kernel) rfl⟩
theorem yZ_214 : Lk "WokenByKettle" 214 mI_isTold.1 := Or.inr ⟨"WokenByKettle", mN 743 (by decide +kernel) rfl⟩
theorem fZ_46 : FG "WokenByKettle" 46 0 4 := ⟨("WokenByKettle", kTZ, 10), rfl, by decide, rfl, Or.inl (mT 525 (by decide +kernel) rfl)⟩
theorem yZ_217 : Lk "WokenByKettle" 217 mI_hear.1 := Or.inr ⟨"WokenByKettle", mN 747 (by decide +kernel) rfl⟩
theorem yZ_221 : Lk "WokenByKettle" 221 mI_oddsStuck.1 := Or.inr ⟨"WokenByKettle", mN 751 (by decide +kernel) rfl⟩
theorem yZ_224 : Lk "WokenByKettle" 224 mI_oddsHeard.1 := Or.inr ⟨"WokenByKettle", mN 759 (by decide +kernel) rfl⟩
theorem yZ_227 : Lk "WokenByKettle" 227 mI_likeliestStuck.1 := Or.inr ⟨"WokenByKettle", mN 767 (by decide +kernel) rfl⟩
theorem yZ_230 : Lk "WokenByKettle" 230 mI_bestTest.1 := Or.inr ⟨"WokenByKettle", mN 776 (by decide +kernel) rfl⟩
theorem fZ_53 : FG "WokenByKettle" 53 0 5 := ⟨("WokenByKettle", kTZ, 10), rfl, by decide, rfl, Or.inl (mT 526 (by decide +kernel) rfl)⟩
theorem yZ_233 : Lk "WokenByKettle" 233 mN_bestWay.1 := Or.inr ⟨"WokenByKettle", mN 793 (by decide +kernel) rfl⟩
theorem yZ_239 : Lk "WokenByKettle" 239 mN_whom.1 := Or.inr ⟨"WokenByKettle", mN 823 (by decide +kernel) rfl⟩
theorem yZ_236 : Lk "WokenByKettle" 236 mN_togetherOf.1 := Or.inr ⟨"WokenByKettle", mN 819 (by decide +kernel) rfl⟩
theorem yZ_242 : Lk "WokenByKettle" 242 mT_oddsIn.1 := Or.inr ⟨"WokenByKettle", mN 828 (by decide +kernel) rfl⟩
theorem yZ_248 : Lk "WokenByKettle" 248 mT_likeliestWayTo.1 := Or.inr ⟨"WokenByKettle", mN 841 (by decide +kernel) rfl⟩
theorem yZ_245 : Lk "WokenByKettle" 245 mT_waysTo.1 := Or.inr ⟨"WokenByKettle", mN 837 (by decide +kernel) rfl⟩
theorem yZ_251 : Lk "WokenByKettle" 251 mI_open.1 := Or.inr ⟨"WokenByKettle", mN 849 (by decide +kernel) rfl⟩
theorem yZ_257 : Lk "WokenByKettle" 257 mI_bestTwelfths.1 := Or.inr ⟨"WokenByKettle", mN 861 (by decide +kernel) rfl⟩
theorem yZ_254 : Lk "WokenByKettle" 254 mI_read.1 := Or.inr ⟨"WokenByKettle", mN 855 (by decide +kernel) rfl⟩
theorem yZ_260 : Lk "WokenByKettle" 260 mC_draw.1 := Or.inr ⟨"WokenByKettle", mN 869 (by decide +kernel) rfl⟩
theorem fZ_60 : FG "WokenByKettle" 60 0 6 := ⟨("WokenByKettle", kTZ, 10), rfl, by decide, rfl, Or.inl (mT 527 (by decide +kernel) rfl)⟩
theorem yZ_264 : Lk "WokenByKettle" 264 mD_live.1 := Or.inr ⟨"WokenByKettle", mN 878 (by decide +kernel) rfl⟩
theorem yZ_267 : Lk "WokenByKettle" 267 mD_repair.1 := Or.inr ⟨"WokenByKettle", mN 907 (by decide +kernel) rfl⟩
theorem yZ_270 : Lk "WokenByKettle" 270 mD_ledgerAt.1 := Or.inr ⟨"WokenByKettle", mN 917 (by decide +kernel) rfl⟩
theorem yZ_273 : Lk "WokenByKettle" 273 mD_keepImage.1 := Or.inr ⟨"WokenByKettle", mN 925 (by decide +kernel) rfl⟩
theorem yZ_276 : Lk "WokenByKettle" 276 mD_layBack.1 := Or.inr ⟨"WokenByKettle", mN 934 (by decide +kernel) rfl⟩
theorem yZ_279 : Lk "WokenByKettle" 279 mG_takeBack.1 := Or.inr ⟨"WokenByKettle", mN 942 (by decide +kernel) rfl⟩
theorem yZ_282 : Lk "WokenByKettle" 282 mG_doAgain.1 := Or.inr ⟨"WokenByKettle", mN 950 (by decide +kernel) rfl⟩
theorem fZ_74 : FG "WokenByKettle" 74 0 8 := ⟨("WokenByKettle", kTZ, 10), rfl, by decide, rfl, Or.inl (mT 529 (by decide +kernel) rfl)⟩
theorem yZ_285 : Lk "WokenByKettle" 285 mA_add.1 := Or.inr ⟨"WokenByKettle", mN 958 (by decide +kernel) rfl⟩
theorem yZ_287 : Lk "WokenByKettle" 287 mA_perform.1 := Or.inr ⟨"WokenByKettle", mN 969 (by decide +kernel) rfl⟩
theorem yZ_290 : Lk "WokenByKettle" 290 mA_ranAt.1 := Or.inr ⟨"WokenByKettle", mN 995 (by decide +kernel) rfl⟩
theorem yZ_294 : Lk "WokenByKettle" 294 mS_holdBody.1 := Or.inr ⟨"WokenByKettle", mN 1004 (by decide +kernel) rfl⟩
theorem yZ_293 : Lk "WokenByKettle" 293 mA_has.1 := Or.inr ⟨"WokenByKettle", mN 1003 (by decide +kernel) rfl⟩
theorem yZ_297 : Lk "WokenByKettle" 297 mS_holdRow.1 := Or.inr ⟨"WokenByKettle", mN 1012 (by decide +kernel) rfl⟩
theorem yZ_300 : Lk "WokenByKettle" 300 mS_write.1 := Or.inr ⟨"WokenByKettle", mN 1021 (by decide +kernel) rfl⟩
theorem yZ_304 : Lk "WokenByKettle" 304 mS_refusalOfPlace.1 := Or.inr ⟨"WokenByKettle", mN 1032 (by decide +kernel) rfl⟩
theorem yZ_307 : Lk "WokenByKettle" 307 mS_move.1 := Or.inr ⟨"WokenByKettle", mN 1037 (by decide +kernel) rfl⟩
theorem yZ_311 : Lk "WokenByKettle" 311 mS_isShelf.1 := Or.inr ⟨"WokenByKettle", mN 1046 (by decide +kernel) rfl⟩
theorem yZ_314 : Lk "WokenByKettle" 314 mA_isKind.1 := Or.inr ⟨"WokenByKettle", mN 1047 (by decide +kernel) rfl⟩
theorem yZ_317 : Lk "WokenByKettle" 317 mS_refusalOfBody.1 := Or.inr ⟨"WokenByKettle", mN 1048 (by decide +kernel) rfl⟩
theorem yZ_320 : Lk "WokenByKettle" 320 mS_bodyOn.1 := Or.inr ⟨"WokenByKettle", mN 1052 (by decide +kernel) rfl⟩
theorem yZ_323 : Lk "WokenByKettle" 323 mA_kindOf.1 := Or.inr ⟨"WokenByKettle", mN 1057 (by decide +kernel) rfl⟩
theorem yZ_326 : Lk "WokenByKettle" 326 mA_isUnder.1 := Or.inr ⟨"WokenByKettle", mN 1061 (by decide +kernel) rfl⟩
theorem fZ_329 : FG "WokenByKettle" 329 2 4 := ⟨("WokenByKettle$Law", kTL, 9), rfl, by decide, rfl, Or.inr ⟨"WokenByKettle", mN 45 (by decide +kernel) rfl⟩⟩
theorem fZ_332 : FG "WokenByKettle" 332 9 5 := ⟨("WokenByKettle$Changes", kTG, 7), rfl, by decide, rfl, Or.inr ⟨"WokenByKettle", mN 310 (by decide +kernel) rfl⟩⟩
theorem fZ_335 : FG "WokenByKettle" 335 10 2 := ⟨("WokenByKettle$Acts", kTA, 6), rfl, by decide, rfl, Or.inr ⟨"WokenByKettle", mN 336 (by decide +kernel) rfl⟩⟩
theorem fZ_338 : FG "WokenByKettle" 338 10 3 := ⟨("WokenByKettle$Acts", kTA, 6), rfl, by decide, rfl, Or.inr ⟨"WokenByKettle", mN 338 (by decide +kernel) rfl⟩⟩
theorem yZ_341 : Lk "WokenByKettle" 341 mZ_commonDivisor.1 := Or.inl (mT 804 (by decide +kernel) rfl)
theorem fY_130 : FG "WokenByKettleModel" 130 12 1 := ⟨("WokenByKettleModel", kTY, 55), rfl, by decide, rfl, Or.inl (mT 1217 (by decide +kernel) rfl)⟩
theorem yY_133 : Lk "WokenByKettleModel" 133 mY_in.1 := Or.inl (mT 1392 (by decide +kernel) rfl)
theorem fY_9 : FG "WokenByKettleModel" 9 12 2 := ⟨("WokenByKettleModel", kTY, 55), rfl, by decide, rfl, Or.inl (mT 1218 (by decide +kernel) rfl)⟩
theorem fY_15 : FG "WokenByKettleModel" 15 12 3 := ⟨("WokenByKettleModel", kTY, 55), rfl, by decide, rfl, Or.inl (mT 1219 (by decide +kernel) rfl)⟩
theorem fY_18 : FG "WokenByKettleModel" 18 12 4 := ⟨("WokenByKettleModel", kTY, 55), rfl, by decide, rfl, Or.inl (mT 1220 (by decide +kernel) rfl)⟩
theorem fY_21 : FG "WokenByKettleModel" 21 12 5 := ⟨("WokenByKettleModel", kTY, 55), rfl, by decide, rfl, Or.inl (mT 1221 (by decide +kernel) rfl)⟩
theorem fY_24 : FG "WokenByKettleModel" 24 12 6 := ⟨("WokenByKettleModel", kTY, 55), rfl, by decide, rfl, Or.inl (mT 1222 (by decide +kernel) rfl)⟩
theorem fY_27 : FG "WokenByKettleModel" 27 12 7 := ⟨("WokenByKettleModel", kTY, 55), rfl, by decide, rfl, Or.inl (mT 1223 (by decide +kernel) rfl)⟩
theorem pfY_130 : FP "WokenByKettleModel" 130 12 1 := ⟨fY_130, ("WokenByKettleModel", kTY, 55), rfl, rfl⟩
theorem yY_137 : Lk "WokenByKettleModel" 137 mY_arePart.1 := Or.inl (mT 1388 (by decide +kernel) rfl)
theorem yY_140 : Lk "WokenByKettleModel" 140 mY_addPart.1 := Or.inl (mT 1395 (by decide +kernel) rfl)
theorem yY_144 : Lk "WokenByKettleModel" 144 mY_isShelf.1 := Or.inl (mT 1403 (by decide +kernel) rfl)
theorem fY_115 : FG "WokenByKettleModel" 115 12 51 := ⟨("WokenByKettleModel", kTY, 55), rfl, by decide, rfl, Or.inl (mT 1267 (by decide +kernel) rfl)⟩
theorem kY_148 : Cond.constantLong "WokenByKettleModel" 148 (Int64.ofInt 2) ∈ Tg := mT 1406 (by decide +kernel) rfl
theorem fY_118 : FG "WokenByKettleModel" 118 12 52 := ⟨("WokenByKettleModel", kTY, 55), rfl, by decide, rfl, Or.inl (mT 1268 (by decide +kernel) rfl)⟩
theorem fY_121 : FG "WokenByKettleModel" 121 12 53 := ⟨("WokenByKettleModel", kTY, 55), rfl, by decide, rfl, Or.inl (mT 1269 (by decide +kernel) rfl)⟩
theorem fY_30 : FG "WokenByKettleModel" 30 12 8 := ⟨("WokenByKettleModel", kTY, 55), rfl, by decide, rfl, Or.inl (mT 1224 (by decide +kernel) rfl)⟩
theorem yY_150 : Lk "WokenByKettleModel" 150 mY_valueAt.1 := Or.inl (mT 1438 (by decide +kernel) rfl)
theorem fY_154 : FG "WokenByKettleModel" 154 12 10 := ⟨("WokenByKettleModel", kTY, 55), rfl, by decide, rfl, Or.inl (mT 1226 (by decide +kernel) rfl)⟩
theorem pfY_154 : FP "WokenByKettleModel" 154 12 10 := ⟨fY_154, ("WokenByKettleModel", kTY, 55), rfl, rfl⟩
theorem fY_157 : FG "WokenByKettleModel" 157 12 9 := ⟨("WokenByKettleModel", kTY, 55), rfl, by decide, rfl, Or.inl (mT 1225 (by decide +kernel) rfl)⟩
theorem fY_33 : FG "WokenByKettleModel" 33 12 11 := ⟨("WokenByKettleModel", kTY, 55), rfl, by decide, rfl, Or.inl (mT 1227 (by decide +kernel) rfl)⟩
theorem fY_36 : FG "WokenByKettleModel" 36 12 12 := ⟨("WokenByKettleModel", kTY, 55), rfl, by decide, rfl, Or.inl (mT 1228 (by decide +kernel) rfl)⟩
theorem fY_39 : FG "WokenByKettleModel" 39 12 13 := ⟨("WokenByKettleModel", kTY, 55), rfl, by decide, rfl, Or.inl (mT 1229 (by decide +kernel) rfl)⟩
theorem fY_42 : FG "WokenByKettleModel" 42 12 14 := ⟨("WokenByKettleModel", kTY, 55), rfl, by decide, rfl, Or.inl (mT 1230 (by decide +kernel) rfl)⟩
theorem pfY_157 : FP "WokenByKettleModel" 157 12 9 := ⟨fY_157, ("WokenByKettleModel", kTY, 55), rfl, rfl⟩
theorem yY_160 : Lk "WokenByKettleModel" 160 mY_lays.1 := Or.inl (mT 1411 (by decide +kernel) rfl)
theorem yY_164 : Lk "WokenByKettleModel" 164 mY_isPart.1 := Or.inl (mT 1427 (by decide +kernel) rfl)
theorem yY_167 : Lk "WokenByKettleModel" 167 mY_isOne.1 := Or.inl (mT 1423 (by decide +kernel) rfl)
theorem yY_171 : Lk "WokenByKettleModel" 171 mY_mayHave.1 := Or.inl (mT 1431 (by decide +kernel) rfl)
theorem yY_174 : Lk "WokenByKettleModel" 174 mY_changes.1 := Or.inl (mT 1434 (by decide +kernel) rfl)
theorem fY_177 : FG "WokenByKettleModel" 177 12 16 := ⟨("WokenByKettleModel", kTY, 55), rfl, by decide, rfl, Or.inl (mT 1232 (by decide +kernel) rfl)⟩
theorem fY_45 : FG "WokenByKettleModel" 45 12 15 := ⟨("WokenByKettleModel", kTY, 55), rfl, by decide, rfl, Or.inl (mT 1231 (by decide +kernel) rfl)⟩
theorem pfY_177 : FP "WokenByKettleModel" 177 12 16 := ⟨fY_177, ("WokenByKettleModel", kTY, 55), rfl, rfl⟩
theorem fY_180 : FG "WokenByKettleModel" 180 12 17 := ⟨("WokenByKettleModel", kTY, 55), rfl, by decide, rfl, Or.inl (mT 1233 (by decide +kernel) rfl)⟩
theorem fY_183 : FG "WokenByKettleModel" 183 12 18 := ⟨("WokenByKettleModel", kTY, 55), rfl, by decide, rfl, Or.inl (mT 1234 (by decide +kernel) rfl)⟩
theorem pfY_183 : FP "WokenByKettleModel" 183 12 18 := ⟨fY_183, ("WokenByKettleModel", kTY, 55), rfl, rfl⟩
theorem fY_49 : FG "WokenByKettleModel" 49 12 21 := ⟨("WokenByKettleModel", kTY, 55), rfl, by decide, rfl, Or.inl (mT 1237 (by decide +kernel) rfl)⟩
theorem fY_186 : FG "WokenByKettleModel" 186 12 20 := ⟨("WokenByKettleModel", kTY, 55), rfl, by decide, rfl, Or.inl (mT 1236 (by decide +kernel) rfl)⟩
theorem fY_52 : FG "WokenByKettleModel" 52 12 22 := ⟨("WokenByKettleModel", kTY, 55), rfl, by decide, rfl, Or.inl (mT 1238 (by decide +kernel) rfl)⟩
theorem pfY_186 : FP "WokenByKettleModel" 186 12 20 := ⟨fY_186, ("WokenByKettleModel", kTY, 55), rfl, rfl⟩
theorem fY_189 : FG "WokenByKettleModel" 189 12 19 := ⟨("WokenByKettleModel", kTY, 55), rfl, by decide, rfl, Or.inl (mT 1235 (by decide +kernel) rfl)⟩
theorem pfY_189 : FP "WokenByKettleModel" 189 12 19 := ⟨fY_189, ("WokenByKettleModel", kTY, 55), rfl, rfl⟩
theorem pfY_180 : FP "WokenByKettleModel" 180 12 17 := ⟨fY_180, ("WokenByKettleModel", kTY, 55), rfl, rfl⟩
theorem yY_192 : Lk "WokenByKettleModel" 192 mY_wrong.1 := Or.inl (mT 1501 (by decide +kernel) rfl)
theorem yY_199 : Lk "WokenByKettleModel" 199 mY_addStep.1 := Or.inl (mT 1493 (by decide +kernel) rfl)
theorem yY_195 : Lk "WokenByKettleModel" 195 mY_looksOn.1 := Or.inl (mT 1486 (by decide +kernel) rfl)
theorem yY_203 : Lk "WokenByKettleModel" 203 mY_nameOf.1 := Or.inl (mT 1490 (by decide +kernel) rfl)
theorem yY_207 : Lk "WokenByKettleModel" 207 mY_opens.1 := Or.inl (mT 1497 (by decide +kernel) rfl)
theorem yY_211 : Lk "WokenByKettleModel" 211 mY_operand.1 := Or.inl (mT 1482 (by decide +kernel) rfl)
theorem yY_217 : Lk "WokenByKettleModel" 217 mY_figure.1 := Or.inl (mT 1505 (by decide +kernel) rfl)
theorem yY_214 : Lk "WokenByKettleModel" 214 mY_either.1 := Or.inl (mT 1462 (by decide +kernel) rfl)
theorem yY_220 : Lk "WokenByKettleModel" 220 mY_product.1 := Or.inl (mT 1478 (by decide +kernel) rfl)
theorem yY_223 : Lk "WokenByKettleModel" 223 mY_sum.1 := Or.inl (mT 1474 (by decide +kernel) rfl)
theorem yY_226 : Lk "WokenByKettleModel" 226 mY_compared.1 := Or.inl (mT 1470 (by decide +kernel) rfl)
theorem yY_229 : Lk "WokenByKettleModel" 229 mY_both.1 := Or.inl (mT 1466 (by decide +kernel) rfl)
theorem fY_55 : FG "WokenByKettleModel" 55 12 23 := ⟨("WokenByKettleModel", kTY, 55), rfl, by decide, rfl, Or.inl (mT 1239 (by decide +kernel) rfl)⟩
theorem fY_58 : FG "WokenByKettleModel" 58 12 24 := ⟨("WokenByKettleModel", kTY, 55), rfl, by decide, rfl, Or.inl (mT 1240 (by decide +kernel) rfl)⟩
theorem fY_62 : FG "WokenByKettleModel" 62 12 25 := ⟨("WokenByKettleModel", kTY, 55), rfl, by decide, rfl, Or.inl (mT 1241 (by decide +kernel) rfl)⟩
theorem yY_232 : Lk "WokenByKettleModel" 232 mY_line.1 := Or.inl (mT 1458 (by decide +kernel) rfl)
theorem fY_68 : FG "WokenByKettleModel" 68 12 27 := ⟨("WokenByKettleModel", kTY, 55), rfl, by decide, rfl, Or.inl (mT 1243 (by decide +kernel) rfl)⟩
theorem fY_65 : FG "WokenByKettleModel" 65 12 26 := ⟨("WokenByKettleModel", kTY, 55), rfl, by decide, rfl, Or.inl (mT 1242 (by decide +kernel) rfl)⟩
theorem yY_235 : Lk "WokenByKettleModel" 235 mY_twoOf.1 := Or.inl (mT 1525 (by decide +kernel) rfl)
theorem yY_238 : Lk "WokenByKettleModel" 238 mY_worked.1 := Or.inl (mT 1521 (by decide +kernel) rfl)
theorem yY_241 : Lk "WokenByKettleModel" 241 mY_readText.1 := Or.inl (mT 1454 (by decide +kernel) rfl)
theorem fY_244 : FG "WokenByKettleModel" 244 12 28 := ⟨("WokenByKettleModel", kTY, 55), rfl, by decide, rfl, Or.inl (mT 1244 (by decide +kernel) rfl)⟩
theorem pfY_244 : FP "WokenByKettleModel" 244 12 28 := ⟨fY_244, ("WokenByKettleModel", kTY, 55), rfl, rfl⟩
theorem yY_248 : Lk "WokenByKettleModel" 248 mY_gives.1 := Or.inl (mT 1517 (by decide +kernel) rfl)
theorem yY_251 : Lk "WokenByKettleModel" 251 mY_twelfthsOf.1 := Or.inl (mT 1513 (by decide +kernel) rfl)
theorem fY_71 : FG "WokenByKettleModel" 71 12 29 := ⟨("WokenByKettleModel", kTY, 55), rfl, by decide, rfl, Or.inl (mT 1245 (by decide +kernel) rfl)⟩
theorem fY_254 : FG "WokenByKettleModel" 254 12 30 := ⟨("WokenByKettleModel", kTY, 55), rfl, by decide, rfl, Or.inl (mT 1246 (by decide +kernel) rfl)⟩
theorem pfY_254 : FP "WokenByKettleModel" 254 12 30 := ⟨fY_254, ("WokenByKettleModel", kTY, 55), rfl, rfl⟩
theorem fY_257 : FG "WokenByKettleModel" 257 12 31 := ⟨("WokenByKettleModel", kTY, 55), rfl, by decide, rfl, Or.inl (mT 1247 (by decide +kernel) rfl)⟩
theorem pfY_257 : FP "WokenByKettleModel" 257 12 31 := ⟨fY_257, ("WokenByKettleModel", kTY, 55), rfl, rfl⟩
theorem yY_260 : Lk "WokenByKettleModel" 260 mY_waitsTill.1 := Or.inl (mT 1539 (by decide +kernel) rfl)
theorem fY_74 : FG "WokenByKettleModel" 74 12 32 := ⟨("WokenByKettleModel", kTY, 55), rfl, by decide, rfl, Or.inl (mT 1248 (by decide +kernel) rfl)⟩
theorem fY_77 : FG "WokenByKettleModel" 77 12 33 := ⟨("WokenByKettleModel", kTY, 55), rfl, by decide, rfl, Or.inl (mT 1249 (by decide +kernel) rfl)⟩
theorem kY_263 : Cond.constantLong "WokenByKettleModel" 263 (Int64.ofInt 12) ∈ Tg := mT 1580 (by decide +kernel) rfl
theorem yY_265 : Lk "WokenByKettleModel" 265 mY_isSet.1 := Or.inl (mT 1532 (by decide +kernel) rfl)
theorem yY_268 : Lk "WokenByKettleModel" 268 mY_goMorning.1 := Or.inl (mT 1535 (by decide +kernel) rfl)
theorem yY_272 : Lk "WokenByKettleModel" 272 mY_sets.1 := Or.inl (mT 1560 (by decide +kernel) rfl)
theorem yY_275 : Lk "WokenByKettleModel" 275 mY_endNow.1 := Or.inl (mT 1564 (by decide +kernel) rfl)
theorem yY_278 : Lk "WokenByKettleModel" 278 mY_oddsOf.1 := Or.inl (mT 1568 (by decide +kernel) rfl)
theorem kY_282 : Cond.constantLong "WokenByKettleModel" 282 (Int64.ofInt (-9223372036854775808)) ∈ Tg := mT 1551 (by decide +kernel) rfl
theorem yY_284 : Lk "WokenByKettleModel" 284 mY_layTwelfths.1 := Or.inl (mT 1552 (by decide +kernel) rfl)
theorem yY_290 : Lk "WokenByKettleModel" 290 mY_goesOdds.1 := Or.inl (mT 1572 (by decide +kernel) rfl)
theorem yY_293 : Lk "WokenByKettleModel" 293 mY_whole.1 := Or.inl (mT 1576 (by decide +kernel) rfl)
theorem yY_297 : Lk "WokenByKettleModel" 297 mY_lowest.1 := Or.inl (mT 1581 (by decide +kernel) rfl)
theorem yY_287 : Lk "WokenByKettleModel" 287 mY_endsBy.1 := Or.inl (mT 1556 (by decide +kernel) rfl)
theorem fY_81 : FG "WokenByKettleModel" 81 12 34 := ⟨("WokenByKettleModel", kTY, 55), rfl, by decide, rfl, Or.inl (mT 1250 (by decide +kernel) rfl)⟩
theorem kY_301 : Cond.constantLong "WokenByKettleModel" 301 (Int64.ofInt 1000) ∈ Tg := mT 1605 (by decide +kernel) rfl
theorem yY_304 : Lk "WokenByKettleModel" 304 mY_findMinutes.1 := Or.inl (mT 1597 (by decide +kernel) rfl)
theorem yY_307 : Lk "WokenByKettleModel" 307 mY_worthAt.1 := Or.inl (mT 1601 (by decide +kernel) rfl)
theorem kY_303 : Cond.constant "WokenByKettleModel" 303 (Int32.ofInt (-2000000000)) ∈ Tg := mT 1596 (by decide +kernel) rfl
theorem pfY_77 : FP "WokenByKettleModel" 77 12 33 := ⟨fY_77, ("WokenByKettleModel", kTY, 55), rfl, rfl⟩
theorem yY_310 : Lk "WokenByKettleModel" 310 mY_changedBy.1 := Or.inl (mT 1614 (by decide +kernel) rfl)
theorem kY_314 : Cond.constantLong "WokenByKettleModel" 314 (Int64.ofInt 1000000) ∈ Tg := mT 1618 (by decide +kernel) rfl
theorem yY_316 : Lk "WokenByKettleModel" 316 mY_burnsNow.1 := Or.inl (mT 1623 (by decide +kernel) rfl)
theorem kY_319 : Cond.constant "WokenByKettleModel" 319 (Int32.ofInt 262143) ∈ Tg := mT 1634 (by decide +kernel) rfl
theorem fY_320 : FG "WokenByKettleModel" 320 12 35 := ⟨("WokenByKettleModel", kTY, 55), rfl, by decide, rfl, Or.inl (mT 1251 (by decide +kernel) rfl)⟩
theorem pfY_320 : FP "WokenByKettleModel" 320 12 35 := ⟨fY_320, ("WokenByKettleModel", kTY, 55), rfl, rfl⟩
theorem fY_85 : FG "WokenByKettleModel" 85 12 36 := ⟨("WokenByKettleModel", kTY, 55), rfl, by decide, rfl, Or.inl (mT 1252 (by decide +kernel) rfl)⟩
theorem fY_88 : FG "WokenByKettleModel" 88 12 37 := ⟨("WokenByKettleModel", kTY, 55), rfl, by decide, rfl, Or.inl (mT 1253 (by decide +kernel) rfl)⟩
theorem yY_324 : Lk "WokenByKettleModel" 324 mY_areSeen.1 := Or.inl (mT 1631 (by decide +kernel) rfl)
theorem yY_327 : Lk "WokenByKettleModel" 327 mY_findSo.1 := Or.inl (mT 1635 (by decide +kernel) rfl)
theorem fY_330 : FG "WokenByKettleModel" 330 12 40 := ⟨("WokenByKettleModel", kTY, 55), rfl, by decide, rfl, Or.inl (mT 1256 (by decide +kernel) rfl)⟩
theorem pfY_330 : FP "WokenByKettleModel" 330 12 40 := ⟨fY_330, ("WokenByKettleModel", kTY, 55), rfl, rfl⟩
theorem fY_94 : FG "WokenByKettleModel" 94 12 39 := ⟨("WokenByKettleModel", kTY, 55), rfl, by decide, rfl, Or.inl (mT 1255 (by decide +kernel) rfl)⟩
theorem fY_91 : FG "WokenByKettleModel" 91 12 38 := ⟨("WokenByKettleModel", kTY, 55), rfl, by decide, rfl, Or.inl (mT 1254 (by decide +kernel) rfl)⟩
theorem fY_97 : FG "WokenByKettleModel" 97 12 41 := ⟨("WokenByKettleModel", kTY, 55), rfl, by decide, rfl, Or.inl (mT 1257 (by decide +kernel) rfl)⟩
theorem yY_333 : Lk "WokenByKettleModel" 333 mY_oddsNow.1 := Or.inl (mT 1655 (by decide +kernel) rfl)
theorem yY_336 : Lk "WokenByKettleModel" 336 mY_goMends.1 := Or.inl (mT 1651 (by decide +kernel) rfl)
theorem yY_339 : Lk "WokenByKettleModel" 339 mY_rowFault.1 := Or.inl (mT 1663 (by decide +kernel) rfl)
theorem yY_342 : Lk "WokenByKettleModel" 342 mY_justOdds.1 := Or.inl (mT 1667 (by decide +kernel) rfl)
theorem kY_345 : Cond.constantLong "WokenByKettleModel" 345 (Int64.ofInt 100) ∈ Tg := mT 1684 (by decide +kernel) rfl
theorem kY_347 : Cond.constantLong "WokenByKettleModel" 347 (Int64.ofInt (-1)) ∈ Tg := mT 1679 (by decide +kernel) rfl
theorem yY_349 : Lk "WokenByKettleModel" 349 mY_productBy.1 := Or.inl (mT 1680 (by decide +kernel) rfl)
theorem kY_352 : Cond.constant "WokenByKettleModel" 352 (Int32.ofInt 1103515245) ∈ Tg := mT 1689 (by decide +kernel) rfl
theorem fY_100 : FG "WokenByKettleModel" 100 12 42 := ⟨("WokenByKettleModel", kTY, 55), rfl, by decide, rfl, Or.inl (mT 1258 (by decide +kernel) rfl)⟩
theorem fY_353 : FG "WokenByKettleModel" 353 12 43 := ⟨("WokenByKettleModel", kTY, 55), rfl, by decide, rfl, Or.inl (mT 1259 (by decide +kernel) rfl)⟩
theorem pfY_353 : FP "WokenByKettleModel" 353 12 43 := ⟨fY_353, ("WokenByKettleModel", kTY, 55), rfl, rfl⟩
theorem fY_356 : FG "WokenByKettleModel" 356 12 44 := ⟨("WokenByKettleModel", kTY, 55), rfl, by decide, rfl, Or.inl (mT 1260 (by decide +kernel) rfl)⟩
theorem pfY_356 : FP "WokenByKettleModel" 356 12 44 := ⟨fY_356, ("WokenByKettleModel", kTY, 55), rfl, rfl⟩
theorem fY_103 : FG "WokenByKettleModel" 103 12 45 := ⟨("WokenByKettleModel", kTY, 55), rfl, by decide, rfl, Or.inl (mT 1261 (by decide +kernel) rfl)⟩
theorem fY_106 : FG "WokenByKettleModel" 106 12 46 := ⟨("WokenByKettleModel", kTY, 55), rfl, by decide, rfl, Or.inl (mT 1262 (by decide +kernel) rfl)⟩
theorem fY_359 : FG "WokenByKettleModel" 359 12 47 := ⟨("WokenByKettleModel", kTY, 55), rfl, by decide, rfl, Or.inl (mT 1263 (by decide +kernel) rfl)⟩
theorem fY_362 : FG "WokenByKettleModel" 362 12 49 := ⟨("WokenByKettleModel", kTY, 55), rfl, by decide, rfl, Or.inl (mT 1265 (by decide +kernel) rfl)⟩
theorem pfY_362 : FP "WokenByKettleModel" 362 12 49 := ⟨fY_362, ("WokenByKettleModel", kTY, 55), rfl, rfl⟩
theorem fY_112 : FG "WokenByKettleModel" 112 12 50 := ⟨("WokenByKettleModel", kTY, 55), rfl, by decide, rfl, Or.inl (mT 1266 (by decide +kernel) rfl)⟩
theorem fY_109 : FG "WokenByKettleModel" 109 12 48 := ⟨("WokenByKettleModel", kTY, 55), rfl, by decide, rfl, Or.inl (mT 1264 (by decide +kernel) rfl)⟩
theorem pfY_359 : FP "WokenByKettleModel" 359 12 47 := ⟨fY_359, ("WokenByKettleModel", kTY, 55), rfl, rfl⟩
theorem yY_365 : Lk "WokenByKettleModel" 365 mY_ran.1 := Or.inl (mT 1733 (by decide +kernel) rfl)
theorem yY_368 : Lk "WokenByKettleModel" 368 mY_plainStarts.1 := Or.inl (mT 1737 (by decide +kernel) rfl)
theorem yY_371 : Lk "WokenByKettleModel" 371 mY_isUnder.1 := Or.inl (mT 1730 (by decide +kernel) rfl)
theorem yY_374 : Lk "WokenByKettleModel" 374 mY_catStarts.1 := Or.inl (mT 1741 (by decide +kernel) rfl)
theorem yY_377 : Lk "WokenByKettleModel" 377 mY_starting.1 := Or.inl (mT 1726 (by decide +kernel) rfl)
theorem yY_380 : Lk "WokenByKettleModel" 380 mY_plainTakes.1 := Or.inl (mT 1753 (by decide +kernel) rfl)
theorem yY_383 : Lk "WokenByKettleModel" 383 mY_matchTakes.1 := Or.inl (mT 1749 (by decide +kernel) rfl)
theorem yY_386 : Lk "WokenByKettleModel" 386 mY_failing.1 := Or.inl (mT 1757 (by decide +kernel) rfl)
theorem yY_389 : Lk "WokenByKettleModel" 389 mY_plainFails.1 := Or.inl (mT 1765 (by decide +kernel) rfl)
theorem yY_392 : Lk "WokenByKettleModel" 392 mY_leverFails.1 := Or.inl (mT 1761 (by decide +kernel) rfl)
theorem yY_395 : Lk "WokenByKettleModel" 395 mY_taking.1 := Or.inl (mT 1745 (by decide +kernel) rfl)
theorem yY_398 : Lk "WokenByKettleModel" 398 mY_plainTells.1 := Or.inl (mT 1773 (by decide +kernel) rfl)
theorem yY_401 : Lk "WokenByKettleModel" 401 mY_isBody.1 := Or.inl (mT 1722 (by decide +kernel) rfl)
theorem yY_404 : Lk "WokenByKettleModel" 404 mY_telling.1 := Or.inl (mT 1769 (by decide +kernel) rfl)
theorem yY_407 : Lk "WokenByKettleModel" 407 mY_whyNoPlace.1 := Or.inl (mT 1793 (by decide +kernel) rfl)
theorem fY_124 : FG "WokenByKettleModel" 124 12 54 := ⟨("WokenByKettleModel", kTY, 55), rfl, by decide, rfl, Or.inl (mT 1270 (by decide +kernel) rfl)⟩
