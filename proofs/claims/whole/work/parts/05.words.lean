theorem fl_X3_9 : Cond.fieldLink "CalledStalls$Shelf" 9 "CalledStalls$Shelf" "items" "[[I" ∈ TB := tb_in (i := 103) (by decide +kernel) rfl
theorem fl_X3_14 : Cond.fieldLink "CalledStalls$Shelf" 14 "CalledStalls$Shelf" "sizes" "[I" ∈ TB := tb_in (i := 104) (by decide +kernel) rfl
theorem fl_X1_53 : Cond.fieldLink "CalledStalls$Script" 53 "CalledStalls$Script" "promptCount" "I" ∈ TB := tb_in (i := 118) (by decide +kernel) rfl
theorem fl_X1_27 : Cond.fieldLink "CalledStalls$Script" 27 "CalledStalls$Script" "sceneCount" "I" ∈ TB := tb_in (i := 119) (by decide +kernel) rfl
theorem fl_X1_31 : Cond.fieldLink "CalledStalls$Script" 31 "CalledStalls$Script" "sitterCount" "I" ∈ TB := tb_in (i := 123) (by decide +kernel) rfl
theorem fl_X1_9 : Cond.fieldLink "CalledStalls$Script" 9 "CalledStalls$Script" "lineCount" "[I" ∈ TB := tb_in (i := 127) (by decide +kernel) rfl
theorem fl_X1_15 : Cond.fieldLink "CalledStalls$Script" 15 "CalledStalls$Script" "kind" "[I" ∈ TB := tb_in (i := 129) (by decide +kernel) rfl
theorem fl_X1_18 : Cond.fieldLink "CalledStalls$Script" 18 "CalledStalls$Script" "seat" "[I" ∈ TB := tb_in (i := 132) (by decide +kernel) rfl
theorem fl_X1_21 : Cond.fieldLink "CalledStalls$Script" 21 "CalledStalls$Script" "memory" "[I" ∈ TB := tb_in (i := 134) (by decide +kernel) rfl
theorem fl_X1_24 : Cond.fieldLink "CalledStalls$Script" 24 "CalledStalls$Script" "fright" "[I" ∈ TB := tb_in (i := 137) (by decide +kernel) rfl
theorem fl_X1_34 : Cond.fieldLink "CalledStalls$Script" 34 "CalledStalls$Script" "takenSeats" "I" ∈ TB := tb_in (i := 140) (by decide +kernel) rfl
theorem fl_X1_37 : Cond.fieldLink "CalledStalls$Script" 37 "CalledStalls$Script" "claqueBits" "I" ∈ TB := tb_in (i := 141) (by decide +kernel) rfl
theorem fl_X0_18 : Cond.fieldLink "CalledStalls$Night" 18 "CalledStalls$Night" "script" "LCalledStalls$Script;" ∈ TB := tb_in (i := 169) (by decide +kernel) rfl
theorem fl_X0_9 : Cond.fieldLink "CalledStalls$Night" 9 "CalledStalls$Night" "seat" "[I" ∈ TB := tb_in (i := 171) (by decide +kernel) rfl
theorem fl_X0_15 : Cond.fieldLink "CalledStalls$Night" 15 "CalledStalls$Night" "deeds" "[I" ∈ TB := tb_in (i := 172) (by decide +kernel) rfl
theorem fl_X0_31 : Cond.fieldLink "CalledStalls$Night" 31 "CalledStalls$Night" "deedCount" "I" ∈ TB := tb_in (i := 174) (by decide +kernel) rfl
theorem fl_X0_35 : Cond.fieldLink "CalledStalls$Night" 35 "CalledStalls$Night" "scene" "I" ∈ TB := tb_in (i := 176) (by decide +kernel) rfl
theorem fl_X0_38 : Cond.fieldLink "CalledStalls$Night" 38 "CalledStalls$Night" "called" "I" ∈ TB := tb_in (i := 179) (by decide +kernel) rfl
theorem fl_X0_44 : Cond.fieldLink "CalledStalls$Night" 44 "CalledStalls$Night" "promptsLeft" "I" ∈ TB := tb_in (i := 182) (by decide +kernel) rfl
theorem fl_X0_47 : Cond.fieldLink "CalledStalls$Night" 47 "CalledStalls$Night" "shame" "I" ∈ TB := tb_in (i := 185) (by decide +kernel) rfl
theorem fl_X0_50 : Cond.fieldLink "CalledStalls$Night" 50 "CalledStalls$Night" "clapping" "I" ∈ TB := tb_in (i := 187) (by decide +kernel) rfl
theorem fl_X0_53 : Cond.fieldLink "CalledStalls$Night" 53 "CalledStalls$Night" "carriedCount" "I" ∈ TB := tb_in (i := 190) (by decide +kernel) rfl
theorem fl_X2_23 : Cond.fieldLink "CalledStalls$Search" 23 "CalledStalls$Search" "night" "LCalledStalls$Night;" ∈ TB := tb_in (i := 220) (by decide +kernel) rfl
theorem fl_X2_33 : Cond.fieldLink "CalledStalls$Search" 33 "CalledStalls$Search" "script" "LCalledStalls$Script;" ∈ TB := tb_in (i := 221) (by decide +kernel) rfl
theorem fl_X2_9 : Cond.fieldLink "CalledStalls$Search" 9 "CalledStalls$Search" "path" "[I" ∈ TB := tb_in (i := 222) (by decide +kernel) rfl
theorem fl_X2_15 : Cond.fieldLink "CalledStalls$Search" 15 "CalledStalls$Search" "bestPlan" "[I" ∈ TB := tb_in (i := 223) (by decide +kernel) rfl
theorem fl_X2_20 : Cond.fieldLink "CalledStalls$Search" 20 "CalledStalls$Search" "planCount" "[[I" ∈ TB := tb_in (i := 224) (by decide +kernel) rfl
theorem fl_X2_34 : Cond.fieldLink "CalledStalls$Search" 34 "CalledStalls$Search" "allowed" "I" ∈ TB := tb_in (i := 225) (by decide +kernel) rfl
theorem fl_X2_96 : Cond.fieldLink "CalledStalls$Search" 96 "CalledStalls$Search" "most" "I" ∈ TB := tb_in (i := 226) (by decide +kernel) rfl
theorem fl_X2_115 : Cond.fieldLink "CalledStalls$Search" 115 "CalledStalls$Search" "fewestGone" "I" ∈ TB := tb_in (i := 227) (by decide +kernel) rfl
theorem fl_X2_130 : Cond.fieldLink "CalledStalls$Search" 130 "CalledStalls$Search" "firstCalled" "I" ∈ TB := tb_in (i := 229) (by decide +kernel) rfl
theorem fl_X2_71 : Cond.fieldLink "CalledStalls$Search" 71 "CalledStalls$Search" "applauseBehind" "I" ∈ TB := tb_in (i := 231) (by decide +kernel) rfl
theorem fl_X2_137 : Cond.fieldLink "CalledStalls$Search" 137 "CalledStalls$Search" "wanted" "I" ∈ TB := tb_in (i := 233) (by decide +kernel) rfl
theorem fl_X2_140 : Cond.fieldLink "CalledStalls$Search" 140 "CalledStalls$Search" "wayCount" "J" ∈ TB := tb_in (i := 234) (by decide +kernel) rfl
theorem fl_X2_144 : Cond.fieldLink "CalledStalls$Search" 144 "CalledStalls$Search" "calledInAll" "I" ∈ TB := tb_in (i := 236) (by decide +kernel) rfl
theorem fl_X2_157 : Cond.fieldLink "CalledStalls$Search" 157 "CalledStalls$Search" "draws" "J" ∈ TB := tb_in (i := 238) (by decide +kernel) rfl
theorem fl_X2_160 : Cond.fieldLink "CalledStalls$Search" 160 "CalledStalls$Search" "drawsCarried" "J" ∈ TB := tb_in (i := 240) (by decide +kernel) rfl
theorem fl_X2_163 : Cond.fieldLink "CalledStalls$Search" 163 "CalledStalls$Search" "drawsApplause" "J" ∈ TB := tb_in (i := 242) (by decide +kernel) rfl
theorem fl_X4_14 : Cond.fieldLink "CalledStalls" 14 "CalledStalls" "rowShelf" "LCalledStalls$Shelf;" ∈ TB := tb_in (i := 277) (by decide +kernel) rfl
theorem fl_X4_18 : Cond.fieldLink "CalledStalls" 18 "CalledStalls" "textShelf" "LCalledStalls$Shelf;" ∈ TB := tb_in (i := 278) (by decide +kernel) rfl
theorem fl_X4_21 : Cond.fieldLink "CalledStalls" 21 "CalledStalls" "keptShelf" "LCalledStalls$Shelf;" ∈ TB := tb_in (i := 279) (by decide +kernel) rfl
theorem fl_X4_27 : Cond.fieldLink "CalledStalls" 27 "CalledStalls" "draft" "LCalledStalls$Script;" ∈ TB := tb_in (i := 280) (by decide +kernel) rfl
theorem fl_X4_31 : Cond.fieldLink "CalledStalls" 31 "CalledStalls" "script" "LCalledStalls$Script;" ∈ TB := tb_in (i := 281) (by decide +kernel) rfl
theorem fl_X4_39 : Cond.fieldLink "CalledStalls" 39 "CalledStalls" "night" "LCalledStalls$Night;" ∈ TB := tb_in (i := 282) (by decide +kernel) rfl
theorem fl_X4_48 : Cond.fieldLink "CalledStalls" 48 "CalledStalls" "search" "LCalledStalls$Search;" ∈ TB := tb_in (i := 283) (by decide +kernel) rfl
theorem fl_X4_52 : Cond.fieldLink "CalledStalls" 52 "CalledStalls" "foundTimes" "[I" ∈ TB := tb_in (i := 284) (by decide +kernel) rfl
theorem fl_X4_292 : Cond.fieldLink "CalledStalls" 292 "CalledStalls" "lastFinding" "I" ∈ TB := tb_in (i := 285) (by decide +kernel) rfl
theorem fl_X4_280 : Cond.fieldLink "CalledStalls" 280 "CalledStalls" "lastTold" "I" ∈ TB := tb_in (i := 286) (by decide +kernel) rfl
theorem fl_X4_283 : Cond.fieldLink "CalledStalls" 283 "CalledStalls" "upperTold" "J" ∈ TB := tb_in (i := 287) (by decide +kernel) rfl
theorem fl_X4_56 : Cond.fieldLink "CalledStalls" 56 "CalledStalls" "lowerTold" "J" ∈ TB := tb_in (i := 288) (by decide +kernel) rfl
theorem fl_X1_73 : Cond.fieldLink "CalledStalls$Script" 73 "CalledStalls$Script" "LETTERS" "[C" ∈ TB := tb_in (i := 436) (by decide +kernel) rfl
theorem fl_X5_7 : Cond.fieldLink "CalledStallsModel" 7 "CalledStallsModel" "row" "[I" ∈ TB := tb_in (i := 843) (by decide +kernel) rfl
theorem fl_X5_160 : Cond.fieldLink "CalledStallsModel" 160 "CalledStallsModel" "scenes" "I" ∈ TB := tb_in (i := 844) (by decide +kernel) rfl
theorem fl_X5_13 : Cond.fieldLink "CalledStallsModel" 13 "CalledStallsModel" "lines" "[I" ∈ TB := tb_in (i := 845) (by decide +kernel) rfl
theorem fl_X5_163 : Cond.fieldLink "CalledStallsModel" 163 "CalledStallsModel" "sitters" "I" ∈ TB := tb_in (i := 846) (by decide +kernel) rfl
theorem fl_X5_16 : Cond.fieldLink "CalledStallsModel" 16 "CalledStallsModel" "kinds" "[I" ∈ TB := tb_in (i := 847) (by decide +kernel) rfl
theorem fl_X5_19 : Cond.fieldLink "CalledStallsModel" 19 "CalledStallsModel" "memories" "[I" ∈ TB := tb_in (i := 848) (by decide +kernel) rfl
theorem fl_X5_22 : Cond.fieldLink "CalledStallsModel" 22 "CalledStallsModel" "frights" "[I" ∈ TB := tb_in (i := 849) (by decide +kernel) rfl
theorem fl_X5_25 : Cond.fieldLink "CalledStallsModel" 25 "CalledStallsModel" "sizes" "[I" ∈ TB := tb_in (i := 850) (by decide +kernel) rfl
theorem fl_X5_28 : Cond.fieldLink "CalledStallsModel" 28 "CalledStallsModel" "items" "[I" ∈ TB := tb_in (i := 851) (by decide +kernel) rfl
theorem fl_X5_31 : Cond.fieldLink "CalledStallsModel" 31 "CalledStallsModel" "lengths" "[I" ∈ TB := tb_in (i := 852) (by decide +kernel) rfl
theorem fl_X5_34 : Cond.fieldLink "CalledStallsModel" 34 "CalledStallsModel" "bytes" "[I" ∈ TB := tb_in (i := 853) (by decide +kernel) rfl
theorem fl_X5_72 : Cond.fieldLink "CalledStallsModel" 72 "CalledStallsModel" "asked" "I" ∈ TB := tb_in (i := 854) (by decide +kernel) rfl
theorem fl_X5_270 : Cond.fieldLink "CalledStallsModel" 270 "CalledStallsModel" "upper" "J" ∈ TB := tb_in (i := 855) (by decide +kernel) rfl
theorem fl_X5_37 : Cond.fieldLink "CalledStallsModel" 37 "CalledStallsModel" "lower" "J" ∈ TB := tb_in (i := 856) (by decide +kernel) rfl
theorem fl_X5_68 : Cond.fieldLink "CalledStallsModel" 68 "CalledStallsModel" "finding" "I" ∈ TB := tb_in (i := 857) (by decide +kernel) rfl
theorem fl_X5_41 : Cond.fieldLink "CalledStallsModel" 41 "CalledStallsModel" "findings" "[I" ∈ TB := tb_in (i := 858) (by decide +kernel) rfl
theorem fl_X5_109 : Cond.fieldLink "CalledStallsModel" 109 "CalledStallsModel" "from" "I" ∈ TB := tb_in (i := 859) (by decide +kernel) rfl
theorem fl_X5_112 : Cond.fieldLink "CalledStallsModel" 112 "CalledStallsModel" "place" "I" ∈ TB := tb_in (i := 860) (by decide +kernel) rfl
theorem fl_X5_115 : Cond.fieldLink "CalledStallsModel" 115 "CalledStallsModel" "end" "I" ∈ TB := tb_in (i := 861) (by decide +kernel) rfl
theorem fl_X5_132 : Cond.fieldLink "CalledStallsModel" 132 "CalledStallsModel" "readPrompts" "I" ∈ TB := tb_in (i := 862) (by decide +kernel) rfl
theorem fl_X5_44 : Cond.fieldLink "CalledStallsModel" 44 "CalledStallsModel" "readLines" "[I" ∈ TB := tb_in (i := 863) (by decide +kernel) rfl
theorem fl_X5_135 : Cond.fieldLink "CalledStallsModel" 135 "CalledStallsModel" "readScenes" "I" ∈ TB := tb_in (i := 864) (by decide +kernel) rfl
theorem fl_X5_47 : Cond.fieldLink "CalledStallsModel" 47 "CalledStallsModel" "readSitters" "[I" ∈ TB := tb_in (i := 865) (by decide +kernel) rfl
theorem fl_X5_141 : Cond.fieldLink "CalledStallsModel" 141 "CalledStallsModel" "readMany" "I" ∈ TB := tb_in (i := 866) (by decide +kernel) rfl
theorem fl_X5_144 : Cond.fieldLink "CalledStallsModel" 144 "CalledStallsModel" "readSeats" "I" ∈ TB := tb_in (i := 867) (by decide +kernel) rfl
theorem fl_X5_50 : Cond.fieldLink "CalledStallsModel" 50 "CalledStallsModel" "planPrompts" "[I" ∈ TB := tb_in (i := 868) (by decide +kernel) rfl
theorem fl_X5_53 : Cond.fieldLink "CalledStallsModel" 53 "CalledStallsModel" "planApplause" "[I" ∈ TB := tb_in (i := 869) (by decide +kernel) rfl
theorem fl_X5_56 : Cond.fieldLink "CalledStallsModel" 56 "CalledStallsModel" "planCarried" "[I" ∈ TB := tb_in (i := 870) (by decide +kernel) rfl
theorem fl_X5_59 : Cond.fieldLink "CalledStallsModel" 59 "CalledStallsModel" "planCalled" "[I" ∈ TB := tb_in (i := 871) (by decide +kernel) rfl
theorem fl_X5_62 : Cond.fieldLink "CalledStallsModel" 62 "CalledStallsModel" "choices" "[I" ∈ TB := tb_in (i := 872) (by decide +kernel) rfl
theorem fl_X5_245 : Cond.fieldLink "CalledStallsModel" 245 "CalledStallsModel" "planMany" "I" ∈ TB := tb_in (i := 873) (by decide +kernel) rfl
theorem fl_X5_248 : Cond.fieldLink "CalledStallsModel" 248 "CalledStallsModel" "isBegun" "Z" ∈ TB := tb_in (i := 874) (by decide +kernel) rfl
theorem fl_X5_65 : Cond.fieldLink "CalledStallsModel" 65 "CalledStallsModel" "bests" "[I" ∈ TB := tb_in (i := 875) (by decide +kernel) rfl
theorem fn_X0_41 : Cond.fieldLinkNest "CalledStalls$Night" 41 "CalledStalls$Script" "promptCount" "I" "CalledStalls" ∈ NS := ns_in (i := 117) (by decide +kernel) rfl
theorem fn_X2_48 : Cond.fieldLinkNest "CalledStalls$Search" 48 "CalledStalls$Script" "sceneCount" "I" "CalledStalls" ∈ NS := ns_in (i := 120) (by decide +kernel) rfl
theorem fn_X0_72 : Cond.fieldLinkNest "CalledStalls$Night" 72 "CalledStalls$Script" "sceneCount" "I" "CalledStalls" ∈ NS := ns_in (i := 121) (by decide +kernel) rfl
theorem fn_X4_134 : Cond.fieldLinkNest "CalledStalls" 134 "CalledStalls$Script" "sceneCount" "I" "CalledStalls" ∈ NS := ns_in (i := 122) (by decide +kernel) rfl
theorem fn_X0_75 : Cond.fieldLinkNest "CalledStalls$Night" 75 "CalledStalls$Script" "sitterCount" "I" "CalledStalls" ∈ NS := ns_in (i := 124) (by decide +kernel) rfl
theorem fn_X2_109 : Cond.fieldLinkNest "CalledStalls$Search" 109 "CalledStalls$Script" "sitterCount" "I" "CalledStalls" ∈ NS := ns_in (i := 125) (by decide +kernel) rfl
theorem fn_X4_114 : Cond.fieldLinkNest "CalledStalls" 114 "CalledStalls$Script" "sitterCount" "I" "CalledStalls" ∈ NS := ns_in (i := 126) (by decide +kernel) rfl
theorem fn_X4_137 : Cond.fieldLinkNest "CalledStalls" 137 "CalledStalls$Script" "lineCount" "[I" "CalledStalls" ∈ NS := ns_in (i := 128) (by decide +kernel) rfl
theorem fn_X0_78 : Cond.fieldLinkNest "CalledStalls$Night" 78 "CalledStalls$Script" "kind" "[I" "CalledStalls" ∈ NS := ns_in (i := 130) (by decide +kernel) rfl
theorem fn_X4_124 : Cond.fieldLinkNest "CalledStalls" 124 "CalledStalls$Script" "kind" "[I" "CalledStalls" ∈ NS := ns_in (i := 131) (by decide +kernel) rfl
theorem fn_X0_22 : Cond.fieldLinkNest "CalledStalls$Night" 22 "CalledStalls$Script" "seat" "[I" "CalledStalls" ∈ NS := ns_in (i := 133) (by decide +kernel) rfl
theorem fn_X0_96 : Cond.fieldLinkNest "CalledStalls$Night" 96 "CalledStalls$Script" "memory" "[I" "CalledStalls" ∈ NS := ns_in (i := 135) (by decide +kernel) rfl
theorem fn_X4_242 : Cond.fieldLinkNest "CalledStalls" 242 "CalledStalls$Script" "memory" "[I" "CalledStalls" ∈ NS := ns_in (i := 136) (by decide +kernel) rfl
theorem fn_X0_99 : Cond.fieldLinkNest "CalledStalls$Night" 99 "CalledStalls$Script" "fright" "[I" "CalledStalls" ∈ NS := ns_in (i := 138) (by decide +kernel) rfl
theorem fn_X4_249 : Cond.fieldLinkNest "CalledStalls" 249 "CalledStalls$Script" "fright" "[I" "CalledStalls" ∈ NS := ns_in (i := 139) (by decide +kernel) rfl
theorem fn_X2_27 : Cond.fieldLinkNest "CalledStalls$Search" 27 "CalledStalls$Night" "script" "LCalledStalls$Script;" "CalledStalls" ∈ NS := ns_in (i := 170) (by decide +kernel) rfl
theorem fn_X4_173 : Cond.fieldLinkNest "CalledStalls" 173 "CalledStalls$Night" "deeds" "[I" "CalledStalls" ∈ NS := ns_in (i := 173) (by decide +kernel) rfl
theorem fn_X4_150 : Cond.fieldLinkNest "CalledStalls" 150 "CalledStalls$Night" "deedCount" "I" "CalledStalls" ∈ NS := ns_in (i := 175) (by decide +kernel) rfl
theorem fn_X2_82 : Cond.fieldLinkNest "CalledStalls$Search" 82 "CalledStalls$Night" "scene" "I" "CalledStalls" ∈ NS := ns_in (i := 177) (by decide +kernel) rfl
theorem fn_X4_162 : Cond.fieldLinkNest "CalledStalls" 162 "CalledStalls$Night" "scene" "I" "CalledStalls" ∈ NS := ns_in (i := 178) (by decide +kernel) rfl
theorem fn_X2_62 : Cond.fieldLinkNest "CalledStalls$Search" 62 "CalledStalls$Night" "called" "I" "CalledStalls" ∈ NS := ns_in (i := 180) (by decide +kernel) rfl
theorem fn_X4_236 : Cond.fieldLinkNest "CalledStalls" 236 "CalledStalls$Night" "called" "I" "CalledStalls" ∈ NS := ns_in (i := 181) (by decide +kernel) rfl
theorem fn_X2_65 : Cond.fieldLinkNest "CalledStalls$Search" 65 "CalledStalls$Night" "promptsLeft" "I" "CalledStalls" ∈ NS := ns_in (i := 183) (by decide +kernel) rfl
theorem fn_X4_318 : Cond.fieldLinkNest "CalledStalls" 318 "CalledStalls$Night" "promptsLeft" "I" "CalledStalls" ∈ NS := ns_in (i := 184) (by decide +kernel) rfl
theorem fn_X4_321 : Cond.fieldLinkNest "CalledStalls" 321 "CalledStalls$Night" "shame" "I" "CalledStalls" ∈ NS := ns_in (i := 186) (by decide +kernel) rfl
theorem fn_X2_68 : Cond.fieldLinkNest "CalledStalls$Search" 68 "CalledStalls$Night" "clapping" "I" "CalledStalls" ∈ NS := ns_in (i := 188) (by decide +kernel) rfl
theorem fn_X4_289 : Cond.fieldLinkNest "CalledStalls" 289 "CalledStalls$Night" "clapping" "I" "CalledStalls" ∈ NS := ns_in (i := 189) (by decide +kernel) rfl
theorem fn_X4_156 : Cond.fieldLinkNest "CalledStalls" 156 "CalledStalls$Night" "carriedCount" "I" "CalledStalls" ∈ NS := ns_in (i := 191) (by decide +kernel) rfl
theorem fn_X4_197 : Cond.fieldLinkNest "CalledStalls" 197 "CalledStalls$Search" "fewestGone" "I" "CalledStalls" ∈ NS := ns_in (i := 228) (by decide +kernel) rfl
theorem fn_X4_203 : Cond.fieldLinkNest "CalledStalls" 203 "CalledStalls$Search" "firstCalled" "I" "CalledStalls" ∈ NS := ns_in (i := 230) (by decide +kernel) rfl
theorem fn_X4_182 : Cond.fieldLinkNest "CalledStalls" 182 "CalledStalls$Search" "applauseBehind" "I" "CalledStalls" ∈ NS := ns_in (i := 232) (by decide +kernel) rfl
theorem fn_X4_209 : Cond.fieldLinkNest "CalledStalls" 209 "CalledStalls$Search" "wayCount" "J" "CalledStalls" ∈ NS := ns_in (i := 235) (by decide +kernel) rfl
theorem fn_X4_216 : Cond.fieldLinkNest "CalledStalls" 216 "CalledStalls$Search" "calledInAll" "I" "CalledStalls" ∈ NS := ns_in (i := 237) (by decide +kernel) rfl
theorem fn_X4_264 : Cond.fieldLinkNest "CalledStalls" 264 "CalledStalls$Search" "draws" "J" "CalledStalls" ∈ NS := ns_in (i := 239) (by decide +kernel) rfl
theorem fn_X4_261 : Cond.fieldLinkNest "CalledStalls" 261 "CalledStalls$Search" "drawsCarried" "J" "CalledStalls" ∈ NS := ns_in (i := 241) (by decide +kernel) rfl
theorem fn_X4_267 : Cond.fieldLinkNest "CalledStalls" 267 "CalledStalls$Search" "drawsApplause" "J" "CalledStalls" ∈ NS := ns_in (i := 243) (by decide +kernel) rfl
theorem ml_L_9 : Cond.methodLink "CalledStallsLaw" 9 yX4_init ∈ TB := tb_in (i := 86) (by decide +kernel) rfl
theorem ml_X4_11 : Cond.methodLink "CalledStalls" 11 yX3_init ∈ TB := tb_in (i := 94) (by decide +kernel) rfl
theorem ml_X3_18 : Cond.methodLink "CalledStalls$Shelf" 18 yJ7_fill_53178 ∈ TB := tb_in (i := 100) (by decide +kernel) rfl
theorem ml_X4_36 : Cond.methodLink "CalledStalls" 36 yX0_init ∈ TB := tb_in (i := 165) (by decide +kernel) rfl
theorem ml_X4_45 : Cond.methodLink "CalledStalls" 45 yX2_init ∈ TB := tb_in (i := 215) (by decide +kernel) rfl
theorem ml_L_13 : Cond.methodLink "CalledStallsLaw" 13 yX4_row ∈ TB := tb_in (i := 314) (by decide +kernel) rfl
theorem ml_X4_60 : Cond.methodLink "CalledStalls" 60 yX3_isPlace ∈ TB := tb_in (i := 318) (by decide +kernel) rfl
theorem ml_X4_64 : Cond.methodLink "CalledStalls" 64 yX4_refuse ∈ TB := tb_in (i := 322) (by decide +kernel) rfl
theorem ml_X4_68 : Cond.methodLink "CalledStalls" 68 yX3_make ∈ TB := tb_in (i := 326) (by decide +kernel) rfl
theorem ml_X3_28 : Cond.methodLink "CalledStalls$Shelf" 28 yX3_isPlace ∈ TB := tb_in (i := 330) (by decide +kernel) rfl
theorem ml_L_18 : Cond.methodLink "CalledStallsLaw" 18 yX4_lay ∈ TB := tb_in (i := 331) (by decide +kernel) rfl
theorem ml_X4_72 : Cond.methodLink "CalledStalls" 72 yX4_refusalOfItem ∈ TB := tb_in (i := 335) (by decide +kernel) rfl
theorem ml_X4_86 : Cond.methodLink "CalledStalls" 86 yX4_refusalOfPlace ∈ TB := tb_in (i := 339) (by decide +kernel) rfl
theorem ml_X4_94 : Cond.methodLink "CalledStalls" 94 yX3_has ∈ TB := tb_in (i := 343) (by decide +kernel) rfl
theorem ml_X3_24 : Cond.methodLink "CalledStalls$Shelf" 24 yX3_size ∈ TB := tb_in (i := 347) (by decide +kernel) rfl
theorem ml_X4_312 : Cond.methodLink "CalledStalls" 312 yX3_holds ∈ TB := tb_in (i := 351) (by decide +kernel) rfl
theorem ml_X4_76 : Cond.methodLink "CalledStalls" 76 yX3_get ∈ TB := tb_in (i := 355) (by decide +kernel) rfl
theorem ml_X3_32 : Cond.methodLink "CalledStalls$Shelf" 32 yX3_holds ∈ TB := tb_in (i := 359) (by decide +kernel) rfl
theorem ml_X4_80 : Cond.methodLink "CalledStalls" 80 yX3_set ∈ TB := tb_in (i := 360) (by decide +kernel) rfl
theorem ml_X4_83 : Cond.methodLink "CalledStalls" 83 yX4_tell ∈ TB := tb_in (i := 364) (by decide +kernel) rfl
theorem ml_L_23 : Cond.methodLink "CalledStallsLaw" 23 yX4_at ∈ TB := tb_in (i := 368) (by decide +kernel) rfl
theorem ml_L_27 : Cond.methodLink "CalledStallsLaw" 27 yX4_tear ∈ TB := tb_in (i := 372) (by decide +kernel) rfl
theorem ml_X4_90 : Cond.methodLink "CalledStalls" 90 yX3_drop ∈ TB := tb_in (i := 376) (by decide +kernel) rfl
theorem ml_L_32 : Cond.methodLink "CalledStallsLaw" 32 yX4_copy ∈ TB := tb_in (i := 380) (by decide +kernel) rfl
theorem ml_X4_97 : Cond.methodLink "CalledStalls" 97 yX3_holdsPart ∈ TB := tb_in (i := 384) (by decide +kernel) rfl
theorem ml_X4_101 : Cond.methodLink "CalledStalls" 101 yX3_copyPart ∈ TB := tb_in (i := 388) (by decide +kernel) rfl
theorem ml_X3_36 : Cond.methodLink "CalledStalls$Shelf" 36 yX3_holdsPart ∈ TB := tb_in (i := 392) (by decide +kernel) rfl
theorem ml_L_37 : Cond.methodLink "CalledStallsLaw" 37 yX4_mean ∈ TB := tb_in (i := 396) (by decide +kernel) rfl
theorem ml_X4_105 : Cond.methodLink "CalledStalls" 105 yX3_size ∈ TB := tb_in (i := 400) (by decide +kernel) rfl
theorem ml_L_41 : Cond.methodLink "CalledStallsLaw" 41 yX4_text ∈ TB := tb_in (i := 401) (by decide +kernel) rfl
theorem ml_L_45 : Cond.methodLink "CalledStallsLaw" 45 yX4_put ∈ TB := tb_in (i := 405) (by decide +kernel) rfl
theorem ml_L_49 : Cond.methodLink "CalledStallsLaw" 49 yX4_fault ∈ TB := tb_in (i := 409) (by decide +kernel) rfl
theorem ml_X4_108 : Cond.methodLink "CalledStalls" 108 yX1_read ∈ TB := tb_in (i := 413) (by decide +kernel) rfl
theorem ml_X1_40 : Cond.methodLink "CalledStalls$Script" 40 yX1_pastBlanks ∈ TB := tb_in (i := 417) (by decide +kernel) rfl
theorem ml_X1_59 : Cond.methodLink "CalledStalls$Script" 59 yX3_size ∈ TB := tb_in (i := 420) (by decide +kernel) rfl
theorem ml_X1_44 : Cond.methodLink "CalledStalls$Script" 44 yX3_get ∈ TB := tb_in (i := 421) (by decide +kernel) rfl
theorem ml_X1_50 : Cond.methodLink "CalledStalls$Script" 50 yX1_figureAt ∈ TB := tb_in (i := 422) (by decide +kernel) rfl
theorem ml_X1_56 : Cond.methodLink "CalledStalls$Script" 56 yX1_readLines ∈ TB := tb_in (i := 425) (by decide +kernel) rfl
theorem ml_X1_63 : Cond.methodLink "CalledStalls$Script" 63 yX1_readSitter ∈ TB := tb_in (i := 429) (by decide +kernel) rfl
theorem ml_X1_66 : Cond.methodLink "CalledStalls$Script" 66 yX1_kindAt ∈ TB := tb_in (i := 433) (by decide +kernel) rfl
theorem ml_L_53 : Cond.methodLink "CalledStallsLaw" 53 yX4_house ∈ TB := tb_in (i := 441) (by decide +kernel) rfl
theorem ml_X4_111 : Cond.methodLink "CalledStalls" 111 yX0_begin ∈ TB := tb_in (i := 445) (by decide +kernel) rfl
theorem ml_L_57 : Cond.methodLink "CalledStallsLaw" 57 yX4_sitter ∈ TB := tb_in (i := 450) (by decide +kernel) rfl
theorem ml_X4_118 : Cond.methodLink "CalledStalls" 118 yX1_isSitter ∈ TB := tb_in (i := 454) (by decide +kernel) rfl
theorem ml_X4_121 : Cond.methodLink "CalledStalls" 121 yX0_whatOfSitter ∈ TB := tb_in (i := 458) (by decide +kernel) rfl
theorem ml_X0_68 : Cond.methodLink "CalledStalls$Night" 68 yX1_isSitter ∈ TB := tb_in (i := 462) (by decide +kernel) rfl
theorem ml_X4_225 : Cond.methodLink "CalledStalls" 225 yJ9_max_7cf53 ∈ TB := tb_in (i := 466) (by decide +kernel) rfl
theorem ml_X4_127 : Cond.methodLink "CalledStalls" 127 yX4_isOfKind ∈ TB := tb_in (i := 469) (by decide +kernel) rfl
theorem ml_X0_106 : Cond.methodLink "CalledStalls$Night" 106 yX0_saysNow ∈ TB := tb_in (i := 472) (by decide +kernel) rfl
theorem ml_X0_112 : Cond.methodLink "CalledStalls$Night" 112 yX1_otherClaques ∈ TB := tb_in (i := 476) (by decide +kernel) rfl
theorem ml_X1_80 : Cond.methodLink "CalledStalls$Script" 80 yJ6_bitCount_0f7a4 ∈ TB := tb_in (i := 480) (by decide +kernel) rfl
theorem ml_X4_334 : Cond.methodLink "CalledStalls" 334 yX4_fears ∈ TB := tb_in (i := 489) (by decide +kernel) rfl
theorem ml_X0_109 : Cond.methodLink "CalledStalls$Night" 109 yX0_free ∈ TB := tb_in (i := 491) (by decide +kernel) rfl
theorem ml_X0_85 : Cond.methodLink "CalledStalls$Night" 85 yX0_allowed ∈ TB := tb_in (i := 495) (by decide +kernel) rfl
theorem ml_L_61 : Cond.methodLink "CalledStallsLaw" 61 yX4_mark ∈ TB := tb_in (i := 502) (by decide +kernel) rfl
theorem ml_X4_131 : Cond.methodLink "CalledStalls" 131 yX0_markOf ∈ TB := tb_in (i := 506) (by decide +kernel) rfl
theorem ml_X0_120 : Cond.methodLink "CalledStalls$Night" 120 yX0_scenesWithoutPrompt ∈ TB := tb_in (i := 510) (by decide +kernel) rfl
theorem ml_X0_64 : Cond.methodLink "CalledStalls$Night" 64 yX1_lacking ∈ TB := tb_in (i := 514) (by decide +kernel) rfl
theorem ml_X1_85 : Cond.methodLink "CalledStalls$Script" 85 yX1_isSitter ∈ TB := tb_in (i := 518) (by decide +kernel) rfl
theorem ml_X1_89 : Cond.methodLink "CalledStalls$Script" 89 yX1_otherClaques ∈ TB := tb_in (i := 519) (by decide +kernel) rfl
theorem ml_X1_96 : Cond.methodLink "CalledStalls$Script" 96 yJ9_max_7cf53 ∈ TB := tb_in (i := 521) (by decide +kernel) rfl
theorem ml_X0_123 : Cond.methodLink "CalledStalls$Night" 123 yX0_othersInEvenSeats ∈ TB := tb_in (i := 522) (by decide +kernel) rfl
theorem ml_X0_126 : Cond.methodLink "CalledStalls$Night" 126 yJ9_max_7cf53 ∈ TB := tb_in (i := 526) (by decide +kernel) rfl
theorem ml_L_65 : Cond.methodLink "CalledStallsLaw" 65 yX4_lines ∈ TB := tb_in (i := 527) (by decide +kernel) rfl
theorem ml_L_69 : Cond.methodLink "CalledStallsLaw" 69 yX4_call ∈ TB := tb_in (i := 531) (by decide +kernel) rfl
theorem ml_X4_140 : Cond.methodLink "CalledStalls" 140 yX0_scenesYet ∈ TB := tb_in (i := 535) (by decide +kernel) rfl
theorem ml_X4_144 : Cond.methodLink "CalledStalls" 144 yX0_free ∈ TB := tb_in (i := 539) (by decide +kernel) rfl
theorem ml_X4_147 : Cond.methodLink "CalledStalls" 147 yX4_isIn ∈ TB := tb_in (i := 540) (by decide +kernel) rfl
theorem ml_X4_153 : Cond.methodLink "CalledStalls" 153 yX0_lackingNow ∈ TB := tb_in (i := 541) (by decide +kernel) rfl
theorem ml_X4_159 : Cond.methodLink "CalledStalls" 159 yX0_perform ∈ TB := tb_in (i := 545) (by decide +kernel) rfl
theorem ml_X0_56 : Cond.methodLink "CalledStalls$Night" 56 yX0_exchange ∈ TB := tb_in (i := 549) (by decide +kernel) rfl
theorem ml_X0_60 : Cond.methodLink "CalledStalls$Night" 60 yX0_playScene ∈ TB := tb_in (i := 553) (by decide +kernel) rfl
theorem ml_L_73 : Cond.methodLink "CalledStallsLaw" 73 yX4_cut ∈ TB := tb_in (i := 557) (by decide +kernel) rfl
theorem ml_L_78 : Cond.methodLink "CalledStallsLaw" 78 yX4_change ∈ TB := tb_in (i := 561) (by decide +kernel) rfl
theorem ml_X4_165 : Cond.methodLink "CalledStalls" 165 yX0_deedOfChange ∈ TB := tb_in (i := 565) (by decide +kernel) rfl
theorem ml_X4_168 : Cond.methodLink "CalledStalls" 168 yJ6_bitCount_0f7a4 ∈ TB := tb_in (i := 568) (by decide +kernel) rfl
theorem ml_L_82 : Cond.methodLink "CalledStallsLaw" 82 yX4_undo ∈ TB := tb_in (i := 569) (by decide +kernel) rfl
theorem ml_L_86 : Cond.methodLink "CalledStallsLaw" 86 yX4_keep ∈ TB := tb_in (i := 573) (by decide +kernel) rfl
theorem ml_L_90 : Cond.methodLink "CalledStallsLaw" 90 yX4_on ∈ TB := tb_in (i := 577) (by decide +kernel) rfl
theorem ml_L_94 : Cond.methodLink "CalledStallsLaw" 94 yX4_can ∈ TB := tb_in (i := 581) (by decide +kernel) rfl
theorem ml_L_98 : Cond.methodLink "CalledStallsLaw" 98 yX4_play ∈ TB := tb_in (i := 585) (by decide +kernel) rfl
theorem ml_X4_176 : Cond.methodLink "CalledStalls" 176 yX4_isPlan ∈ TB := tb_in (i := 589) (by decide +kernel) rfl
theorem ml_X4_179 : Cond.methodLink "CalledStalls" 179 yX2_playPlan ∈ TB := tb_in (i := 593) (by decide +kernel) rfl
theorem ml_X2_74 : Cond.methodLink "CalledStalls$Search" 74 yX3_size ∈ TB := tb_in (i := 597) (by decide +kernel) rfl
theorem ml_X2_79 : Cond.methodLink "CalledStalls$Search" 79 yX3_get ∈ TB := tb_in (i := 598) (by decide +kernel) rfl
theorem ml_X2_85 : Cond.methodLink "CalledStalls$Search" 85 yX1_lacking ∈ TB := tb_in (i := 599) (by decide +kernel) rfl
theorem ml_X2_89 : Cond.methodLink "CalledStalls$Search" 89 yX2_clappingBehind ∈ TB := tb_in (i := 600) (by decide +kernel) rfl
theorem ml_X2_93 : Cond.methodLink "CalledStalls$Search" 93 yX2_promptsBehind ∈ TB := tb_in (i := 603) (by decide +kernel) rfl
theorem ml_L_102 : Cond.methodLink "CalledStallsLaw" 102 yX4_best ∈ TB := tb_in (i := 606) (by decide +kernel) rfl
theorem ml_X4_185 : Cond.methodLink "CalledStalls" 185 yX0_allowed ∈ TB := tb_in (i := 610) (by decide +kernel) rfl
theorem ml_X4_188 : Cond.methodLink "CalledStalls" 188 yX2_findMost ∈ TB := tb_in (i := 611) (by decide +kernel) rfl
theorem ml_X2_99 : Cond.methodLink "CalledStalls$Search" 99 yX2_seekMost ∈ TB := tb_in (i := 615) (by decide +kernel) rfl
theorem ml_X2_103 : Cond.methodLink "CalledStalls$Search" 103 yJ9_max_7cf53 ∈ TB := tb_in (i := 619) (by decide +kernel) rfl
theorem ml_X2_106 : Cond.methodLink "CalledStalls$Search" 106 yX2_hope ∈ TB := tb_in (i := 620) (by decide +kernel) rfl
theorem ml_X2_53 : Cond.methodLink "CalledStalls$Search" 53 yX2_freeCount ∈ TB := tb_in (i := 624) (by decide +kernel) rfl
theorem ml_X2_42 : Cond.methodLink "CalledStalls$Search" 42 yJ6_bitCount_0f7a4 ∈ TB := tb_in (i := 628) (by decide +kernel) rfl
theorem ml_X2_56 : Cond.methodLink "CalledStalls$Search" 56 yJ9_min_7cf53 ∈ TB := tb_in (i := 629) (by decide +kernel) rfl
theorem ml_X2_112 : Cond.methodLink "CalledStalls$Search" 112 yX2_isFree ∈ TB := tb_in (i := 632) (by decide +kernel) rfl
theorem ml_X4_191 : Cond.methodLink "CalledStalls" 191 yX2_findFirstOfMost ∈ TB := tb_in (i := 637) (by decide +kernel) rfl
theorem ml_X2_118 : Cond.methodLink "CalledStalls$Search" 118 yX2_seekBest ∈ TB := tb_in (i := 641) (by decide +kernel) rfl
theorem ml_X4_194 : Cond.methodLink "CalledStalls" 194 yX2_choiceFor ∈ TB := tb_in (i := 646) (by decide +kernel) rfl
theorem ml_L_106 : Cond.methodLink "CalledStallsLaw" 106 yX4_least ∈ TB := tb_in (i := 650) (by decide +kernel) rfl
theorem ml_X4_200 : Cond.methodLink "CalledStalls" 200 yX2_findLeast ∈ TB := tb_in (i := 654) (by decide +kernel) rfl
theorem ml_X2_127 : Cond.methodLink "CalledStalls$Search" 127 yX0_allowed ∈ TB := tb_in (i := 658) (by decide +kernel) rfl
theorem ml_X2_133 : Cond.methodLink "CalledStalls$Search" 133 yX2_seekLeast ∈ TB := tb_in (i := 659) (by decide +kernel) rfl
theorem ml_L_110 : Cond.methodLink "CalledStallsLaw" 110 yX4_ways ∈ TB := tb_in (i := 663) (by decide +kernel) rfl
theorem ml_X4_206 : Cond.methodLink "CalledStalls" 206 yX2_findWays ∈ TB := tb_in (i := 667) (by decide +kernel) rfl
theorem ml_X2_147 : Cond.methodLink "CalledStalls$Search" 147 yX2_seekWays ∈ TB := tb_in (i := 671) (by decide +kernel) rfl
theorem ml_X2_150 : Cond.methodLink "CalledStalls$Search" 150 yX2_plansFor ∈ TB := tb_in (i := 675) (by decide +kernel) rfl
theorem ml_X4_212 : Cond.methodLink "CalledStalls" 212 yX4_tellFraction ∈ TB := tb_in (i := 679) (by decide +kernel) rfl
theorem ml_X4_305 : Cond.methodLink "CalledStalls" 305 yJ9_abs_067f4 ∈ TB := tb_in (i := 683) (by decide +kernel) rfl
theorem ml_X4_308 : Cond.methodLink "CalledStalls" 308 yX4_greatestDivisor ∈ TB := tb_in (i := 686) (by decide +kernel) rfl
theorem ml_L_114 : Cond.methodLink "CalledStallsLaw" 114 yX4_seats ∈ TB := tb_in (i := 689) (by decide +kernel) rfl
theorem ml_X4_219 : Cond.methodLink "CalledStalls" 219 yX0_allowedIfChanged ∈ TB := tb_in (i := 693) (by decide +kernel) rfl
theorem ml_L_118 : Cond.methodLink "CalledStallsLaw" 118 yX4_beside ∈ TB := tb_in (i := 697) (by decide +kernel) rfl
theorem ml_X4_222 : Cond.methodLink "CalledStalls" 222 yX0_takenSeats ∈ TB := tb_in (i := 701) (by decide +kernel) rfl
theorem ml_X0_89 : Cond.methodLink "CalledStalls$Night" 89 yX0_takenSeatsWithout ∈ TB := tb_in (i := 705) (by decide +kernel) rfl
theorem ml_L_122 : Cond.methodLink "CalledStallsLaw" 122 yX4_apart ∈ TB := tb_in (i := 709) (by decide +kernel) rfl
theorem ml_X4_230 : Cond.methodLink "CalledStalls" 230 yX0_takenSeatsWithout ∈ TB := tb_in (i := 713) (by decide +kernel) rfl
theorem ml_L_126 : Cond.methodLink "CalledStallsLaw" 126 yX4_frights ∈ TB := tb_in (i := 714) (by decide +kernel) rfl
theorem ml_X4_233 : Cond.methodLink "CalledStalls" 233 yX4_refusalOfNotices ∈ TB := tb_in (i := 718) (by decide +kernel) rfl
theorem ml_X4_315 : Cond.methodLink "CalledStalls" 315 yX4_areNotices ∈ TB := tb_in (i := 722) (by decide +kernel) rfl
theorem ml_X4_239 : Cond.methodLink "CalledStalls" 239 yX1_otherClaques ∈ TB := tb_in (i := 726) (by decide +kernel) rfl
theorem ml_X4_245 : Cond.methodLink "CalledStalls" 245 yX4_fitsNotices ∈ TB := tb_in (i := 727) (by decide +kernel) rfl
theorem ml_X4_330 : Cond.methodLink "CalledStalls" 330 yX4_says ∈ TB := tb_in (i := 731) (by decide +kernel) rfl
theorem ml_L_130 : Cond.methodLink "CalledStallsLaw" 130 yX4_kinds ∈ TB := tb_in (i := 732) (by decide +kernel) rfl
theorem ml_L_134 : Cond.methodLink "CalledStallsLaw" 134 yX4_whom ∈ TB := tb_in (i := 736) (by decide +kernel) rfl
theorem ml_L_138 : Cond.methodLink "CalledStallsLaw" 138 yX4_duel ∈ TB := tb_in (i := 740) (by decide +kernel) rfl
theorem ml_X4_252 : Cond.methodLink "CalledStalls" 252 yJ9_min_7cf53 ∈ TB := tb_in (i := 744) (by decide +kernel) rfl
theorem ml_X4_255 : Cond.methodLink "CalledStalls" 255 yX2_findDuel ∈ TB := tb_in (i := 745) (by decide +kernel) rfl
theorem ml_X2_153 : Cond.methodLink "CalledStalls$Search" 153 yX2_duelFrom ∈ TB := tb_in (i := 749) (by decide +kernel) rfl
theorem ml_L_142 : Cond.methodLink "CalledStallsLaw" 142 yX4_odds ∈ TB := tb_in (i := 753) (by decide +kernel) rfl
theorem ml_X4_258 : Cond.methodLink "CalledStalls" 258 yX2_findDraws ∈ TB := tb_in (i := 757) (by decide +kernel) rfl
theorem ml_X2_166 : Cond.methodLink "CalledStalls$Search" 166 yX2_seekDraws ∈ TB := tb_in (i := 761) (by decide +kernel) rfl
theorem ml_L_146 : Cond.methodLink "CalledStallsLaw" 146 yX4_mid ∈ TB := tb_in (i := 765) (by decide +kernel) rfl
theorem ml_L_150 : Cond.methodLink "CalledStallsLaw" 150 yX4_lots ∈ TB := tb_in (i := 769) (by decide +kernel) rfl
theorem ml_X4_277 : Cond.methodLink "CalledStalls" 277 yX4_drawn ∈ TB := tb_in (i := 777) (by decide +kernel) rfl
theorem ml_X4_338 : Cond.methodLink "CalledStalls" 338 yJ9_floorMod_7cf53 ∈ TB := tb_in (i := 780) (by decide +kernel) rfl
theorem ml_L_154 : Cond.methodLink "CalledStallsLaw" 154 yX4_asked ∈ TB := tb_in (i := 783) (by decide +kernel) rfl
theorem ml_L_158 : Cond.methodLink "CalledStallsLaw" 158 yX4_upper ∈ TB := tb_in (i := 787) (by decide +kernel) rfl
theorem ml_L_163 : Cond.methodLink "CalledStallsLaw" 163 yX4_lower ∈ TB := tb_in (i := 791) (by decide +kernel) rfl
theorem ml_L_167 : Cond.methodLink "CalledStallsLaw" 167 yX4_count ∈ TB := tb_in (i := 795) (by decide +kernel) rfl
theorem ml_X4_286 : Cond.methodLink "CalledStalls" 286 yX4_countOf ∈ TB := tb_in (i := 799) (by decide +kernel) rfl
theorem ml_X4_324 : Cond.methodLink "CalledStalls" 324 yX1_clerkCount ∈ TB := tb_in (i := 803) (by decide +kernel) rfl
theorem ml_X4_327 : Cond.methodLink "CalledStalls" 327 yX3_thereCount ∈ TB := tb_in (i := 808) (by decide +kernel) rfl
theorem ml_X3_46 : Cond.methodLink "CalledStalls$Shelf" 46 yX3_has ∈ TB := tb_in (i := 812) (by decide +kernel) rfl
theorem ml_L_171 : Cond.methodLink "CalledStallsLaw" 171 yX4_applause ∈ TB := tb_in (i := 813) (by decide +kernel) rfl
theorem ml_L_175 : Cond.methodLink "CalledStallsLaw" 175 yX4_finding ∈ TB := tb_in (i := 817) (by decide +kernel) rfl
theorem ml_L_179 : Cond.methodLink "CalledStallsLaw" 179 yX4_findings ∈ TB := tb_in (i := 821) (by decide +kernel) rfl
theorem ml_L_183 : Cond.methodLink "CalledStallsLaw" 183 yX4_digest ∈ TB := tb_in (i := 825) (by decide +kernel) rfl
theorem ml_X4_301 : Cond.methodLink "CalledStalls" 301 yX3_digestFrom ∈ TB := tb_in (i := 832) (by decide +kernel) rfl
theorem ml_L_12 : Cond.methodLink "CalledStallsLaw" 12 yX5_init ∈ TB := tb_in (i := 839) (by decide +kernel) rfl
theorem ml_L_17 : Cond.methodLink "CalledStallsLaw" 17 yX5_row ∈ TB := tb_in (i := 943) (by decide +kernel) rfl
theorem ml_X5_83 : Cond.methodLink "CalledStallsModel" 83 yX5_isRow ∈ TB := tb_in (i := 947) (by decide +kernel) rfl
theorem ml_X5_77 : Cond.methodLink "CalledStallsModel" 77 yX5_in ∈ TB := tb_in (i := 951) (by decide +kernel) rfl
theorem ml_X5_87 : Cond.methodLink "CalledStallsModel" 87 yX5_find ∈ TB := tb_in (i := 954) (by decide +kernel) rfl
theorem ml_X5_91 : Cond.methodLink "CalledStallsModel" 91 yX5_makeRow ∈ TB := tb_in (i := 958) (by decide +kernel) rfl
theorem ml_L_22 : Cond.methodLink "CalledStallsLaw" 22 yX5_lay ∈ TB := tb_in (i := 962) (by decide +kernel) rfl
theorem ml_X5_95 : Cond.methodLink "CalledStallsModel" 95 yX5_refused ∈ TB := tb_in (i := 966) (by decide +kernel) rfl
theorem ml_X5_99 : Cond.methodLink "CalledStallsModel" 99 yX5_tell ∈ TB := tb_in (i := 970) (by decide +kernel) rfl
theorem ml_L_26 : Cond.methodLink "CalledStallsLaw" 26 yX5_at ∈ TB := tb_in (i := 974) (by decide +kernel) rfl
theorem ml_L_31 : Cond.methodLink "CalledStallsLaw" 31 yX5_tear ∈ TB := tb_in (i := 978) (by decide +kernel) rfl
theorem ml_L_36 : Cond.methodLink "CalledStallsLaw" 36 yX5_copy ∈ TB := tb_in (i := 982) (by decide +kernel) rfl
theorem ml_X5_102 : Cond.methodLink "CalledStallsModel" 102 yX5_isSpan ∈ TB := tb_in (i := 986) (by decide +kernel) rfl
theorem ml_L_40 : Cond.methodLink "CalledStallsLaw" 40 yX5_mean ∈ TB := tb_in (i := 990) (by decide +kernel) rfl
theorem ml_L_44 : Cond.methodLink "CalledStallsLaw" 44 yX5_text ∈ TB := tb_in (i := 994) (by decide +kernel) rfl
theorem ml_X5_106 : Cond.methodLink "CalledStallsModel" 106 yX5_isText ∈ TB := tb_in (i := 998) (by decide +kernel) rfl
theorem ml_L_48 : Cond.methodLink "CalledStallsLaw" 48 yX5_put ∈ TB := tb_in (i := 1002) (by decide +kernel) rfl
theorem ml_L_52 : Cond.methodLink "CalledStallsLaw" 52 yX5_fault ∈ TB := tb_in (i := 1006) (by decide +kernel) rfl
theorem ml_X5_157 : Cond.methodLink "CalledStallsModel" 157 yX5_faultOf ∈ TB := tb_in (i := 1010) (by decide +kernel) rfl
theorem ml_X5_150 : Cond.methodLink "CalledStallsModel" 150 yX5_readsPlay ∈ TB := tb_in (i := 1014) (by decide +kernel) rfl
theorem ml_X5_126 : Cond.methodLink "CalledStallsModel" 126 yX5_skip ∈ TB := tb_in (i := 1018) (by decide +kernel) rfl
theorem ml_X5_118 : Cond.methodLink "CalledStallsModel" 118 yX5_here ∈ TB := tb_in (i := 1022) (by decide +kernel) rfl
theorem ml_X5_129 : Cond.methodLink "CalledStallsModel" 129 yX5_figure ∈ TB := tb_in (i := 1026) (by decide +kernel) rfl
theorem ml_X5_122 : Cond.methodLink "CalledStallsModel" 122 yX5_isFigure ∈ TB := tb_in (i := 1030) (by decide +kernel) rfl
theorem ml_X5_154 : Cond.methodLink "CalledStallsModel" 154 yX5_readsSitter ∈ TB := tb_in (i := 1034) (by decide +kernel) rfl
theorem ml_X5_138 : Cond.methodLink "CalledStallsModel" 138 yX5_kindOfLetter ∈ TB := tb_in (i := 1038) (by decide +kernel) rfl
theorem ml_X5_147 : Cond.methodLink "CalledStallsModel" 147 yX5_has ∈ TB := tb_in (i := 1041) (by decide +kernel) rfl
theorem ml_L_56 : Cond.methodLink "CalledStallsLaw" 56 yX5_house ∈ TB := tb_in (i := 1044) (by decide +kernel) rfl
theorem ml_L_60 : Cond.methodLink "CalledStallsLaw" 60 yX5_sitter ∈ TB := tb_in (i := 1048) (by decide +kernel) rfl
theorem ml_X5_198 : Cond.methodLink "CalledStallsModel" 198 yX5_isSitter ∈ TB := tb_in (i := 1052) (by decide +kernel) rfl
theorem ml_X5_203 : Cond.methodLink "CalledStallsModel" 203 yX5_toldOf ∈ TB := tb_in (i := 1057) (by decide +kernel) rfl
theorem ml_X5_172 : Cond.methodLink "CalledStallsModel" 172 yX5_fearsBy ∈ TB := tb_in (i := 1061) (by decide +kernel) rfl
theorem ml_X5_169 : Cond.methodLink "CalledStallsModel" 169 yX5_atLeast ∈ TB := tb_in (i := 1064) (by decide +kernel) rfl
theorem ml_X5_166 : Cond.methodLink "CalledStallsModel" 166 yX5_isUncle ∈ TB := tb_in (i := 1067) (by decide +kernel) rfl
theorem ml_X5_192 : Cond.methodLink "CalledStallsModel" 192 yX5_saysNow ∈ TB := tb_in (i := 1070) (by decide +kernel) rfl
theorem ml_X5_189 : Cond.methodLink "CalledStallsModel" 189 yX5_saysOf ∈ TB := tb_in (i := 1074) (by decide +kernel) rfl
theorem ml_X5_179 : Cond.methodLink "CalledStallsModel" 179 yX5_claques ∈ TB := tb_in (i := 1078) (by decide +kernel) rfl
theorem ml_X5_182 : Cond.methodLink "CalledStallsModel" 182 yX5_saysBy ∈ TB := tb_in (i := 1082) (by decide +kernel) rfl
theorem ml_X5_176 : Cond.methodLink "CalledStallsModel" 176 yX5_isClerk ∈ TB := tb_in (i := 1085) (by decide +kernel) rfl
theorem ml_X5_195 : Cond.methodLink "CalledStallsModel" 195 yX5_mayCall ∈ TB := tb_in (i := 1088) (by decide +kernel) rfl
theorem ml_X5_186 : Cond.methodLink "CalledStallsModel" 186 yX5_canSit ∈ TB := tb_in (i := 1092) (by decide +kernel) rfl
theorem ml_L_64 : Cond.methodLink "CalledStallsLaw" 64 yX5_mark ∈ TB := tb_in (i := 1096) (by decide +kernel) rfl
theorem ml_X5_206 : Cond.methodLink "CalledStallsModel" 206 yX5_isOf ∈ TB := tb_in (i := 1100) (by decide +kernel) rfl
theorem ml_X5_209 : Cond.methodLink "CalledStallsModel" 209 yX5_easyScenes ∈ TB := tb_in (i := 1104) (by decide +kernel) rfl
theorem ml_X5_212 : Cond.methodLink "CalledStallsModel" 212 yX5_evenOthers ∈ TB := tb_in (i := 1108) (by decide +kernel) rfl
theorem ml_L_68 : Cond.methodLink "CalledStallsLaw" 68 yX5_lines ∈ TB := tb_in (i := 1112) (by decide +kernel) rfl
theorem ml_L_72 : Cond.methodLink "CalledStallsLaw" 72 yX5_call ∈ TB := tb_in (i := 1116) (by decide +kernel) rfl
theorem ml_X5_222 : Cond.methodLink "CalledStallsModel" 222 yX5_isOver ∈ TB := tb_in (i := 1120) (by decide +kernel) rfl
theorem ml_X5_218 : Cond.methodLink "CalledStallsModel" 218 yX5_lacking ∈ TB := tb_in (i := 1124) (by decide +kernel) rfl
theorem ml_X5_225 : Cond.methodLink "CalledStallsModel" 225 yX5_doCall ∈ TB := tb_in (i := 1128) (by decide +kernel) rfl
theorem ml_X5_215 : Cond.methodLink "CalledStallsModel" 215 yX5_keepPast ∈ TB := tb_in (i := 1132) (by decide +kernel) rfl
theorem ml_L_77 : Cond.methodLink "CalledStallsLaw" 77 yX5_cut ∈ TB := tb_in (i := 1136) (by decide +kernel) rfl
theorem ml_X5_228 : Cond.methodLink "CalledStallsModel" 228 yX5_doCut ∈ TB := tb_in (i := 1140) (by decide +kernel) rfl
theorem ml_L_81 : Cond.methodLink "CalledStallsLaw" 81 yX5_change ∈ TB := tb_in (i := 1144) (by decide +kernel) rfl
theorem ml_X5_231 : Cond.methodLink "CalledStallsModel" 231 yX5_swapSeats ∈ TB := tb_in (i := 1148) (by decide +kernel) rfl
theorem ml_X5_234 : Cond.methodLink "CalledStallsModel" 234 yX5_canBits ∈ TB := tb_in (i := 1152) (by decide +kernel) rfl
theorem ml_X5_237 : Cond.methodLink "CalledStallsModel" 237 yX5_bits ∈ TB := tb_in (i := 1156) (by decide +kernel) rfl
theorem ml_L_85 : Cond.methodLink "CalledStallsLaw" 85 yX5_undo ∈ TB := tb_in (i := 1159) (by decide +kernel) rfl
theorem ml_L_89 : Cond.methodLink "CalledStallsLaw" 89 yX5_keep ∈ TB := tb_in (i := 1163) (by decide +kernel) rfl
theorem ml_X5_242 : Cond.methodLink "CalledStallsModel" 242 yX5_copyHouse ∈ TB := tb_in (i := 1168) (by decide +kernel) rfl
theorem ml_L_93 : Cond.methodLink "CalledStallsLaw" 93 yX5_on ∈ TB := tb_in (i := 1172) (by decide +kernel) rfl
theorem ml_L_97 : Cond.methodLink "CalledStallsLaw" 97 yX5_can ∈ TB := tb_in (i := 1176) (by decide +kernel) rfl
theorem ml_L_101 : Cond.methodLink "CalledStallsLaw" 101 yX5_play ∈ TB := tb_in (i := 1180) (by decide +kernel) rfl
theorem ml_X5_262 : Cond.methodLink "CalledStallsModel" 262 yX5_noPlan ∈ TB := tb_in (i := 1184) (by decide +kernel) rfl
theorem ml_X5_258 : Cond.methodLink "CalledStallsModel" 258 yX5_beginPlans ∈ TB := tb_in (i := 1188) (by decide +kernel) rfl
theorem ml_X5_255 : Cond.methodLink "CalledStallsModel" 255 yX5_choose ∈ TB := tb_in (i := 1192) (by decide +kernel) rfl
theorem ml_L_105 : Cond.methodLink "CalledStallsLaw" 105 yX5_best ∈ TB := tb_in (i := 1196) (by decide +kernel) rfl
theorem ml_X5_265 : Cond.methodLink "CalledStallsModel" 265 yX5_nextPlan ∈ TB := tb_in (i := 1200) (by decide +kernel) rfl
theorem ml_X5_252 : Cond.methodLink "CalledStallsModel" 252 yX5_nextChoice ∈ TB := tb_in (i := 1204) (by decide +kernel) rfl
theorem ml_L_109 : Cond.methodLink "CalledStallsLaw" 109 yX5_least ∈ TB := tb_in (i := 1208) (by decide +kernel) rfl
theorem ml_L_113 : Cond.methodLink "CalledStallsLaw" 113 yX5_ways ∈ TB := tb_in (i := 1212) (by decide +kernel) rfl
theorem ml_L_117 : Cond.methodLink "CalledStallsLaw" 117 yX5_seats ∈ TB := tb_in (i := 1217) (by decide +kernel) rfl
theorem ml_X5_273 : Cond.methodLink "CalledStallsModel" 273 yX5_mostCarried ∈ TB := tb_in (i := 1221) (by decide +kernel) rfl
theorem ml_L_121 : Cond.methodLink "CalledStallsLaw" 121 yX5_beside ∈ TB := tb_in (i := 1225) (by decide +kernel) rfl
theorem ml_X5_276 : Cond.methodLink "CalledStallsModel" 276 yX5_seatsOf ∈ TB := tb_in (i := 1229) (by decide +kernel) rfl
theorem ml_L_125 : Cond.methodLink "CalledStallsLaw" 125 yX5_apart ∈ TB := tb_in (i := 1233) (by decide +kernel) rfl
theorem ml_L_129 : Cond.methodLink "CalledStallsLaw" 129 yX5_frights ∈ TB := tb_in (i := 1237) (by decide +kernel) rfl
theorem ml_X5_285 : Cond.methodLink "CalledStallsModel" 285 yX5_noNotices ∈ TB := tb_in (i := 1241) (by decide +kernel) rfl
theorem ml_X5_288 : Cond.methodLink "CalledStallsModel" 288 yX5_isNoticed ∈ TB := tb_in (i := 1248) (by decide +kernel) rfl
theorem ml_L_133 : Cond.methodLink "CalledStallsLaw" 133 yX5_kinds ∈ TB := tb_in (i := 1252) (by decide +kernel) rfl
theorem ml_L_137 : Cond.methodLink "CalledStallsLaw" 137 yX5_whom ∈ TB := tb_in (i := 1256) (by decide +kernel) rfl
theorem ml_L_141 : Cond.methodLink "CalledStallsLaw" 141 yX5_duel ∈ TB := tb_in (i := 1260) (by decide +kernel) rfl
theorem ml_X5_294 : Cond.methodLink "CalledStallsModel" 294 yX5_beginTurn ∈ TB := tb_in (i := 1265) (by decide +kernel) rfl
theorem ml_X5_297 : Cond.methodLink "CalledStallsModel" 297 yX5_take ∈ TB := tb_in (i := 1269) (by decide +kernel) rfl
theorem ml_L_145 : Cond.methodLink "CalledStallsLaw" 145 yX5_odds ∈ TB := tb_in (i := 1273) (by decide +kernel) rfl
theorem ml_X5_304 : Cond.methodLink "CalledStallsModel" 304 yX5_isDrawn ∈ TB := tb_in (i := 1277) (by decide +kernel) rfl
theorem ml_X5_307 : Cond.methodLink "CalledStallsModel" 307 yX5_tellParts ∈ TB := tb_in (i := 1281) (by decide +kernel) rfl
theorem ml_X5_300 : Cond.methodLink "CalledStallsModel" 300 yX5_divisor ∈ TB := tb_in (i := 1285) (by decide +kernel) rfl
theorem ml_L_149 : Cond.methodLink "CalledStallsLaw" 149 yX5_mid ∈ TB := tb_in (i := 1288) (by decide +kernel) rfl
theorem ml_L_153 : Cond.methodLink "CalledStallsLaw" 153 yX5_lots ∈ TB := tb_in (i := 1292) (by decide +kernel) rfl
theorem ml_X5_319 : Cond.methodLink "CalledStallsModel" 319 yX5_nth ∈ TB := tb_in (i := 1300) (by decide +kernel) rfl
theorem ml_L_157 : Cond.methodLink "CalledStallsLaw" 157 yX5_asked ∈ TB := tb_in (i := 1303) (by decide +kernel) rfl
theorem ml_L_162 : Cond.methodLink "CalledStallsLaw" 162 yX5_upper ∈ TB := tb_in (i := 1307) (by decide +kernel) rfl
theorem ml_L_166 : Cond.methodLink "CalledStallsLaw" 166 yX5_lower ∈ TB := tb_in (i := 1311) (by decide +kernel) rfl
theorem ml_L_170 : Cond.methodLink "CalledStallsLaw" 170 yX5_count ∈ TB := tb_in (i := 1315) (by decide +kernel) rfl
theorem ml_X5_330 : Cond.methodLink "CalledStallsModel" 330 yX5_countOf ∈ TB := tb_in (i := 1320) (by decide +kernel) rfl
theorem ml_X5_322 : Cond.methodLink "CalledStallsModel" 322 yX5_clerks ∈ TB := tb_in (i := 1324) (by decide +kernel) rfl
theorem ml_X5_325 : Cond.methodLink "CalledStallsModel" 325 yX5_thereOf ∈ TB := tb_in (i := 1328) (by decide +kernel) rfl
theorem ml_L_174 : Cond.methodLink "CalledStallsLaw" 174 yX5_applause ∈ TB := tb_in (i := 1332) (by decide +kernel) rfl
theorem ml_L_178 : Cond.methodLink "CalledStallsLaw" 178 yX5_finding ∈ TB := tb_in (i := 1336) (by decide +kernel) rfl
theorem ml_L_182 : Cond.methodLink "CalledStallsLaw" 182 yX5_findings ∈ TB := tb_in (i := 1340) (by decide +kernel) rfl
theorem ml_L_186 : Cond.methodLink "CalledStallsLaw" 186 yX5_digest ∈ TB := tb_in (i := 1344) (by decide +kernel) rfl
theorem ml_X5_337 : Cond.methodLink "CalledStallsModel" 337 yX5_applause ∈ TB := tb_in (i := 1350) (by decide +kernel) rfl
theorem mn_X4_26 : Cond.methodLinkNest "CalledStalls" 26 yX1_init "CalledStalls" ∈ NS := ns_in (i := 113) (by decide +kernel) rfl
theorem mn_X1_69 : Cond.methodLinkNest "CalledStalls$Script" 69 yX4_isIn "CalledStalls" ∈ NS := ns_in (i := 438) (by decide +kernel) rfl
theorem mn_X0_102 : Cond.methodLinkNest "CalledStalls$Night" 102 yX4_fears "CalledStalls" ∈ NS := ns_in (i := 463) (by decide +kernel) rfl
theorem mn_X0_116 : Cond.methodLinkNest "CalledStalls$Night" 116 yX4_says "CalledStalls" ∈ NS := ns_in (i := 486) (by decide +kernel) rfl
theorem mn_X0_93 : Cond.methodLinkNest "CalledStalls$Night" 93 yX4_isIn "CalledStalls" ∈ NS := ns_in (i := 490) (by decide +kernel) rfl
theorem mn_X0_81 : Cond.methodLinkNest "CalledStalls$Night" 81 yX4_isCallableFrom "CalledStalls" ∈ NS := ns_in (i := 499) (by decide +kernel) rfl
theorem mn_X1_92 : Cond.methodLinkNest "CalledStalls$Script" 92 yX4_says "CalledStalls" ∈ NS := ns_in (i := 520) (by decide +kernel) rfl
theorem mn_X2_38 : Cond.methodLinkNest "CalledStalls$Search" 38 yX4_isIn "CalledStalls" ∈ NS := ns_in (i := 636) (by decide +kernel) rfl
theorem mn_X1_77 : Cond.methodLinkNest "CalledStalls$Script" 77 yX4_isOfKind "CalledStalls" ∈ NS := ns_in (i := 807) (by decide +kernel) rfl
theorem kc_J6_265 : Cond.constant "java/lang/Integer" 265 (1431655765) ∈ TB := tb_in (i := 483) (by decide +kernel) rfl
theorem kc_J6_266 : Cond.constant "java/lang/Integer" 266 (858993459) ∈ TB := tb_in (i := 484) (by decide +kernel) rfl
theorem kc_J6_267 : Cond.constant "java/lang/Integer" 267 (252645135) ∈ TB := tb_in (i := 485) (by decide +kernel) rfl
theorem kc_X4_270 : Cond.constant "CalledStalls" 270 (2147483647) ∈ TB := tb_in (i := 773) (by decide +kernel) rfl
theorem kl_X4_271 : Cond.constantLong "CalledStalls" 271 (48271) ∈ TB := tb_in (i := 774) (by decide +kernel) rfl
theorem kl_X4_273 : Cond.constantLong "CalledStalls" 273 (2147483647) ∈ TB := tb_in (i := 775) (by decide +kernel) rfl
theorem kl_X4_275 : Cond.constantLong "CalledStalls" 275 (8) ∈ TB := tb_in (i := 776) (by decide +kernel) rfl
theorem kl_X4_295 : Cond.constantLong "CalledStalls" 295 (17) ∈ TB := tb_in (i := 829) (by decide +kernel) rfl
theorem kl_X4_297 : Cond.constantLong "CalledStalls" 297 (31) ∈ TB := tb_in (i := 830) (by decide +kernel) rfl
theorem kl_X4_299 : Cond.constantLong "CalledStalls" 299 (1000) ∈ TB := tb_in (i := 831) (by decide +kernel) rfl
theorem kl_X3_49 : Cond.constantLong "CalledStalls$Shelf" 49 (31) ∈ TB := tb_in (i := 836) (by decide +kernel) rfl
theorem kl_X5_75 : Cond.constantLong "CalledStallsModel" 75 (5) ∈ TB := tb_in (i := 950) (by decide +kernel) rfl
theorem kl_X5_81 : Cond.constantLong "CalledStallsModel" 81 (3) ∈ TB := tb_in (i := 1001) (by decide +kernel) rfl
theorem kl_X5_201 : Cond.constantLong "CalledStallsModel" 201 (7) ∈ TB := tb_in (i := 1056) (by decide +kernel) rfl
theorem kl_X5_240 : Cond.constantLong "CalledStallsModel" 240 (2) ∈ TB := tb_in (i := 1167) (by decide +kernel) rfl
theorem kl_X5_268 : Cond.constantLong "CalledStallsModel" 268 (6) ∈ TB := tb_in (i := 1216) (by decide +kernel) rfl
theorem kl_X5_279 : Cond.constantLong "CalledStallsModel" 279 (9) ∈ TB := tb_in (i := 1245) (by decide +kernel) rfl
theorem kl_X5_281 : Cond.constantLong "CalledStallsModel" 281 (-9) ∈ TB := tb_in (i := 1246) (by decide +kernel) rfl
theorem kl_X5_283 : Cond.constantLong "CalledStallsModel" 283 (20) ∈ TB := tb_in (i := 1247) (by decide +kernel) rfl
theorem kl_X5_292 : Cond.constantLong "CalledStallsModel" 292 (4) ∈ TB := tb_in (i := 1264) (by decide +kernel) rfl
theorem kl_X5_311 : Cond.constantLong "CalledStallsModel" 311 (2147483646) ∈ TB := tb_in (i := 1296) (by decide +kernel) rfl
theorem kl_X5_313 : Cond.constantLong "CalledStallsModel" 313 (48271) ∈ TB := tb_in (i := 1297) (by decide +kernel) rfl
theorem kl_X5_315 : Cond.constantLong "CalledStallsModel" 315 (2147483647) ∈ TB := tb_in (i := 1298) (by decide +kernel) rfl
theorem kl_X5_317 : Cond.constantLong "CalledStallsModel" 317 (8) ∈ TB := tb_in (i := 1299) (by decide +kernel) rfl
theorem kl_X5_328 : Cond.constantLong "CalledStallsModel" 328 (10) ∈ TB := tb_in (i := 1319) (by decide +kernel) rfl
theorem kl_X5_333 : Cond.constantLong "CalledStallsModel" 333 (17) ∈ TB := tb_in (i := 1348) (by decide +kernel) rfl
theorem kl_X5_335 : Cond.constantLong "CalledStallsModel" 335 (31) ∈ TB := tb_in (i := 1349) (by decide +kernel) rfl
theorem ii_L : Cond.initialized "CalledStallsLaw" ∈ TB := tb_in (i := 73) (by decide +kernel) rfl
theorem ii_X4 : Cond.initialized "CalledStalls" ∈ TB := tb_in (i := 74) (by decide +kernel) rfl
theorem ii_X3 : Cond.initialized "CalledStalls$Shelf" ∈ TB := tb_in (i := 75) (by decide +kernel) rfl
theorem ii_J7 : Cond.initialized "java/util/Arrays" ∈ TB := tb_in (i := 76) (by decide +kernel) rfl
theorem ii_X1 : Cond.initialized "CalledStalls$Script" ∈ TB := tb_in (i := 77) (by decide +kernel) rfl
theorem ii_X0 : Cond.initialized "CalledStalls$Night" ∈ TB := tb_in (i := 78) (by decide +kernel) rfl
theorem ii_X2 : Cond.initialized "CalledStalls$Search" ∈ TB := tb_in (i := 79) (by decide +kernel) rfl
theorem ii_X5 : Cond.initialized "CalledStallsModel" ∈ TB := tb_in (i := 80) (by decide +kernel) rfl
theorem ii_J9 : Cond.initialized "java/lang/Math" ∈ TB := tb_in (i := 82) (by decide +kernel) rfl
theorem ii_J6 : Cond.initialized "java/lang/Integer" ∈ TB := tb_in (i := 83) (by decide +kernel) rfl
theorem vi_X0_begin : VI yX0_begin cX0_begin 1 none 0 := ⟨tb_in (i := 446) (by decide +kernel) rfl, tb_in (i := 447) (by decide +kernel) rfl, ii_X0, tb_in (i := 448) (by decide +kernel) rfl, by decide +kernel, by decide +kernel, by decide +kernel⟩
theorem si_X0_deedOfChange : SI yX0_deedOfChange cX0_deedOfChange 2 (some .int) 2 := ⟨tb_in (i := 566) (by decide +kernel) rfl, ii_X0, tb_in (i := 567) (by decide +kernel) rfl, by decide +kernel, by decide +kernel, by decide +kernel⟩
theorem vi_X0_perform : VI yX0_perform cX0_perform 2 none 1 := ⟨tb_in (i := 546) (by decide +kernel) rfl, tb_in (i := 547) (by decide +kernel) rfl, ii_X0, tb_in (i := 548) (by decide +kernel) rfl, by decide +kernel, by decide +kernel, by decide +kernel⟩
theorem vi_X0_playScene : VI yX0_playScene cX0_playScene 3 none 1 := ⟨tb_in (i := 555) (by decide +kernel) rfl, tb_in (i := 10) (by decide +kernel) rfl, ii_X0, tb_in (i := 556) (by decide +kernel) rfl, by decide +kernel, by decide +kernel, by decide +kernel⟩
theorem vi_X0_exchange : VI yX0_exchange cX0_exchange 4 none 2 := ⟨tb_in (i := 551) (by decide +kernel) rfl, tb_in (i := 9) (by decide +kernel) rfl, ii_X0, tb_in (i := 552) (by decide +kernel) rfl, by decide +kernel, by decide +kernel, by decide +kernel⟩
theorem vi_X0_scenesYet : VI yX0_scenesYet cX0_scenesYet 1 (some .int) 0 := ⟨tb_in (i := 536) (by decide +kernel) rfl, tb_in (i := 537) (by decide +kernel) rfl, ii_X0, tb_in (i := 538) (by decide +kernel) rfl, by decide +kernel, by decide +kernel, by decide +kernel⟩
theorem vi_X0_lackingNow : VI yX0_lackingNow cX0_lackingNow 2 (some .int) 1 := ⟨tb_in (i := 542) (by decide +kernel) rfl, tb_in (i := 543) (by decide +kernel) rfl, ii_X0, tb_in (i := 544) (by decide +kernel) rfl, by decide +kernel, by decide +kernel, by decide +kernel⟩
theorem vi_X0_allowed : VI yX0_allowed cX0_allowed 3 (some .int) 0 := ⟨tb_in (i := 496) (by decide +kernel) rfl, tb_in (i := 497) (by decide +kernel) rfl, ii_X0, tb_in (i := 498) (by decide +kernel) rfl, by decide +kernel, by decide +kernel, by decide +kernel⟩
theorem vi_X0_allowedIfChanged : VI yX0_allowedIfChanged cX0_allowedIfChanged 4 (some .int) 2 := ⟨tb_in (i := 694) (by decide +kernel) rfl, tb_in (i := 695) (by decide +kernel) rfl, ii_X0, tb_in (i := 696) (by decide +kernel) rfl, by decide +kernel, by decide +kernel, by decide +kernel⟩
theorem vi_X0_free : VI yX0_free cX0_free 1 (some .int) 0 := ⟨tb_in (i := 492) (by decide +kernel) rfl, tb_in (i := 493) (by decide +kernel) rfl, ii_X0, tb_in (i := 494) (by decide +kernel) rfl, by decide +kernel, by decide +kernel, by decide +kernel⟩
theorem vi_X0_takenSeats : VI yX0_takenSeats cX0_takenSeats 1 (some .int) 0 := ⟨tb_in (i := 702) (by decide +kernel) rfl, tb_in (i := 703) (by decide +kernel) rfl, ii_X0, tb_in (i := 704) (by decide +kernel) rfl, by decide +kernel, by decide +kernel, by decide +kernel⟩
theorem vi_X0_takenSeatsWithout : VI yX0_takenSeatsWithout cX0_takenSeatsWithout 4 (some .int) 1 := ⟨tb_in (i := 706) (by decide +kernel) rfl, tb_in (i := 707) (by decide +kernel) rfl, ii_X0, tb_in (i := 708) (by decide +kernel) rfl, by decide +kernel, by decide +kernel, by decide +kernel⟩
theorem vi_X0_whatOfSitter : VI yX0_whatOfSitter cX0_whatOfSitter 3 (some .int) 2 := ⟨tb_in (i := 459) (by decide +kernel) rfl, tb_in (i := 460) (by decide +kernel) rfl, ii_X0, tb_in (i := 461) (by decide +kernel) rfl, by decide +kernel, by decide +kernel, by decide +kernel⟩
theorem vi_X0_saysNow : VI yX0_saysNow cX0_saysNow 3 (some .int) 1 := ⟨tb_in (i := 474) (by decide +kernel) rfl, tb_in (i := 6) (by decide +kernel) rfl, ii_X0, tb_in (i := 475) (by decide +kernel) rfl, by decide +kernel, by decide +kernel, by decide +kernel⟩
theorem vi_X0_markOf : VI yX0_markOf cX0_markOf 3 (some .int) 2 := ⟨tb_in (i := 507) (by decide +kernel) rfl, tb_in (i := 508) (by decide +kernel) rfl, ii_X0, tb_in (i := 509) (by decide +kernel) rfl, by decide +kernel, by decide +kernel, by decide +kernel⟩
theorem vi_X0_scenesWithoutPrompt : VI yX0_scenesWithoutPrompt cX0_scenesWithoutPrompt 4 (some .int) 1 := ⟨tb_in (i := 512) (by decide +kernel) rfl, tb_in (i := 7) (by decide +kernel) rfl, ii_X0, tb_in (i := 513) (by decide +kernel) rfl, by decide +kernel, by decide +kernel, by decide +kernel⟩
theorem vi_X0_othersInEvenSeats : VI yX0_othersInEvenSeats cX0_othersInEvenSeats 4 (some .int) 1 := ⟨tb_in (i := 524) (by decide +kernel) rfl, tb_in (i := 8) (by decide +kernel) rfl, ii_X0, tb_in (i := 525) (by decide +kernel) rfl, by decide +kernel, by decide +kernel, by decide +kernel⟩
theorem vi_X1_read : VI yX1_read cX1_read 6 (some .int) 2 := ⟨tb_in (i := 414) (by decide +kernel) rfl, tb_in (i := 415) (by decide +kernel) rfl, ii_X1, tb_in (i := 416) (by decide +kernel) rfl, by decide +kernel, by decide +kernel, by decide +kernel⟩
theorem vi_X1_readLines : VI yX1_readLines cX1_readLines 6 (some .int) 3 := ⟨tb_in (i := 427) (by decide +kernel) rfl, tb_in (i := 4) (by decide +kernel) rfl, ii_X1, tb_in (i := 428) (by decide +kernel) rfl, by decide +kernel, by decide +kernel, by decide +kernel⟩
theorem vi_X1_readSitter : VI yX1_readSitter cX1_readSitter 7 (some .int) 3 := ⟨tb_in (i := 431) (by decide +kernel) rfl, tb_in (i := 5) (by decide +kernel) rfl, ii_X1, tb_in (i := 432) (by decide +kernel) rfl, by decide +kernel, by decide +kernel, by decide +kernel⟩
theorem si_X1_figureAt : SI yX1_figureAt cX1_figureAt 4 (some .int) 3 := ⟨tb_in (i := 423) (by decide +kernel) rfl, ii_X1, tb_in (i := 424) (by decide +kernel) rfl, by decide +kernel, by decide +kernel, by decide +kernel⟩
theorem si_X1_kindAt : SI yX1_kindAt cX1_kindAt 5 (some .int) 3 := ⟨tb_in (i := 434) (by decide +kernel) rfl, ii_X1, tb_in (i := 435) (by decide +kernel) rfl, by decide +kernel, by decide +kernel, by decide +kernel⟩
theorem si_X1_pastBlanks : SI yX1_pastBlanks cX1_pastBlanks 4 (some .int) 3 := ⟨tb_in (i := 418) (by decide +kernel) rfl, ii_X1, tb_in (i := 419) (by decide +kernel) rfl, by decide +kernel, by decide +kernel, by decide +kernel⟩
theorem vi_X1_isSitter : VI yX1_isSitter cX1_isSitter 2 (some .boolean) 1 := ⟨tb_in (i := 455) (by decide +kernel) rfl, tb_in (i := 456) (by decide +kernel) rfl, ii_X1, tb_in (i := 457) (by decide +kernel) rfl, by decide +kernel, by decide +kernel, by decide +kernel⟩
theorem vi_X1_clerkCount : VI yX1_clerkCount cX1_clerkCount 3 (some .int) 0 := ⟨tb_in (i := 804) (by decide +kernel) rfl, tb_in (i := 805) (by decide +kernel) rfl, ii_X1, tb_in (i := 806) (by decide +kernel) rfl, by decide +kernel, by decide +kernel, by decide +kernel⟩
theorem vi_X1_otherClaques : VI yX1_otherClaques cX1_otherClaques 3 (some .int) 2 := ⟨tb_in (i := 477) (by decide +kernel) rfl, tb_in (i := 478) (by decide +kernel) rfl, ii_X1, tb_in (i := 479) (by decide +kernel) rfl, by decide +kernel, by decide +kernel, by decide +kernel⟩
theorem vi_X1_lacking : VI yX1_lacking cX1_lacking 6 (some .int) 4 := ⟨tb_in (i := 515) (by decide +kernel) rfl, tb_in (i := 516) (by decide +kernel) rfl, ii_X1, tb_in (i := 517) (by decide +kernel) rfl, by decide +kernel, by decide +kernel, by decide +kernel⟩
theorem vi_X2_isFree : VI yX2_isFree cX2_isFree 3 (some .boolean) 2 := ⟨tb_in (i := 634) (by decide +kernel) rfl, tb_in (i := 15) (by decide +kernel) rfl, ii_X2, tb_in (i := 635) (by decide +kernel) rfl, by decide +kernel, by decide +kernel, by decide +kernel⟩
theorem vi_X2_freeCount : VI yX2_freeCount cX2_freeCount 2 (some .int) 1 := ⟨tb_in (i := 626) (by decide +kernel) rfl, tb_in (i := 14) (by decide +kernel) rfl, ii_X2, tb_in (i := 627) (by decide +kernel) rfl, by decide +kernel, by decide +kernel, by decide +kernel⟩
theorem vi_X2_hope : VI yX2_hope cX2_hope 3 (some .int) 2 := ⟨tb_in (i := 622) (by decide +kernel) rfl, tb_in (i := 13) (by decide +kernel) rfl, ii_X2, tb_in (i := 623) (by decide +kernel) rfl, by decide +kernel, by decide +kernel, by decide +kernel⟩
theorem si_X2_clappingBehind : SI yX2_clappingBehind cX2_clappingBehind 3 (some .int) 3 := ⟨tb_in (i := 601) (by decide +kernel) rfl, ii_X2, tb_in (i := 602) (by decide +kernel) rfl, by decide +kernel, by decide +kernel, by decide +kernel⟩
theorem si_X2_promptsBehind : SI yX2_promptsBehind cX2_promptsBehind 2 (some .int) 2 := ⟨tb_in (i := 604) (by decide +kernel) rfl, ii_X2, tb_in (i := 605) (by decide +kernel) rfl, by decide +kernel, by decide +kernel, by decide +kernel⟩
theorem vi_X2_playPlan : VI yX2_playPlan cX2_playPlan 9 (some .int) 2 := ⟨tb_in (i := 594) (by decide +kernel) rfl, tb_in (i := 595) (by decide +kernel) rfl, ii_X2, tb_in (i := 596) (by decide +kernel) rfl, by decide +kernel, by decide +kernel, by decide +kernel⟩
theorem vi_X2_findMost : VI yX2_findMost cX2_findMost 3 (some .int) 2 := ⟨tb_in (i := 612) (by decide +kernel) rfl, tb_in (i := 613) (by decide +kernel) rfl, ii_X2, tb_in (i := 614) (by decide +kernel) rfl, by decide +kernel, by decide +kernel, by decide +kernel⟩
theorem vi_X2_seekMost : VI yX2_seekMost cX2_seekMost 8 none 5 := ⟨tb_in (i := 617) (by decide +kernel) rfl, tb_in (i := 12) (by decide +kernel) rfl, ii_X2, tb_in (i := 618) (by decide +kernel) rfl, by decide +kernel, by decide +kernel, by decide +kernel⟩
theorem vi_X2_findFirstOfMost : VI yX2_findFirstOfMost cX2_findFirstOfMost 1 none 0 := ⟨tb_in (i := 638) (by decide +kernel) rfl, tb_in (i := 639) (by decide +kernel) rfl, ii_X2, tb_in (i := 640) (by decide +kernel) rfl, by decide +kernel, by decide +kernel, by decide +kernel⟩
theorem vi_X2_choiceFor : VI yX2_choiceFor cX2_choiceFor 2 (some .int) 1 := ⟨tb_in (i := 647) (by decide +kernel) rfl, tb_in (i := 648) (by decide +kernel) rfl, ii_X2, tb_in (i := 649) (by decide +kernel) rfl, by decide +kernel, by decide +kernel, by decide +kernel⟩
theorem vi_X2_seekBest : VI yX2_seekBest cX2_seekBest 9 none 5 := ⟨tb_in (i := 643) (by decide +kernel) rfl, tb_in (i := 16) (by decide +kernel) rfl, ii_X2, tb_in (i := 644) (by decide +kernel) rfl, by decide +kernel, by decide +kernel, by decide +kernel⟩
theorem vi_X2_findLeast : VI yX2_findLeast cX2_findLeast 1 (some .int) 0 := ⟨tb_in (i := 655) (by decide +kernel) rfl, tb_in (i := 656) (by decide +kernel) rfl, ii_X2, tb_in (i := 657) (by decide +kernel) rfl, by decide +kernel, by decide +kernel, by decide +kernel⟩
theorem vi_X2_seekLeast : VI yX2_seekLeast cX2_seekLeast 7 none 4 := ⟨tb_in (i := 661) (by decide +kernel) rfl, tb_in (i := 17) (by decide +kernel) rfl, ii_X2, tb_in (i := 662) (by decide +kernel) rfl, by decide +kernel, by decide +kernel, by decide +kernel⟩
theorem vi_X2_findWays : VI yX2_findWays cX2_findWays 2 none 1 := ⟨tb_in (i := 668) (by decide +kernel) rfl, tb_in (i := 669) (by decide +kernel) rfl, ii_X2, tb_in (i := 670) (by decide +kernel) rfl, by decide +kernel, by decide +kernel, by decide +kernel⟩
theorem vi_X2_seekWays : VI yX2_seekWays cX2_seekWays 8 none 5 := ⟨tb_in (i := 673) (by decide +kernel) rfl, tb_in (i := 18) (by decide +kernel) rfl, ii_X2, tb_in (i := 674) (by decide +kernel) rfl, by decide +kernel, by decide +kernel, by decide +kernel⟩
theorem vi_X2_plansFor : VI yX2_plansFor cX2_plansFor 4 (some .int) 2 := ⟨tb_in (i := 677) (by decide +kernel) rfl, tb_in (i := 19) (by decide +kernel) rfl, ii_X2, tb_in (i := 678) (by decide +kernel) rfl, by decide +kernel, by decide +kernel, by decide +kernel⟩
theorem vi_X2_findDuel : VI yX2_findDuel cX2_findDuel 2 (some .int) 1 := ⟨tb_in (i := 746) (by decide +kernel) rfl, tb_in (i := 747) (by decide +kernel) rfl, ii_X2, tb_in (i := 748) (by decide +kernel) rfl, by decide +kernel, by decide +kernel, by decide +kernel⟩
theorem vi_X2_duelFrom : VI yX2_duelFrom cX2_duelFrom 11 (some .int) 6 := ⟨tb_in (i := 751) (by decide +kernel) rfl, tb_in (i := 24) (by decide +kernel) rfl, ii_X2, tb_in (i := 752) (by decide +kernel) rfl, by decide +kernel, by decide +kernel, by decide +kernel⟩
theorem vi_X2_findDraws : VI yX2_findDraws cX2_findDraws 2 none 1 := ⟨tb_in (i := 758) (by decide +kernel) rfl, tb_in (i := 759) (by decide +kernel) rfl, ii_X2, tb_in (i := 760) (by decide +kernel) rfl, by decide +kernel, by decide +kernel, by decide +kernel⟩
theorem vi_X2_seekDraws : VI yX2_seekDraws cX2_seekDraws 8 none 5 := ⟨tb_in (i := 763) (by decide +kernel) rfl, tb_in (i := 25) (by decide +kernel) rfl, ii_X2, tb_in (i := 764) (by decide +kernel) rfl, by decide +kernel, by decide +kernel, by decide +kernel⟩
theorem vi_X3_isPlace : VI yX3_isPlace cX3_isPlace 2 (some .boolean) 1 := ⟨tb_in (i := 319) (by decide +kernel) rfl, tb_in (i := 320) (by decide +kernel) rfl, ii_X3, tb_in (i := 321) (by decide +kernel) rfl, by decide +kernel, by decide +kernel, by decide +kernel⟩
theorem vi_X3_has : VI yX3_has cX3_has 2 (some .boolean) 1 := ⟨tb_in (i := 344) (by decide +kernel) rfl, tb_in (i := 345) (by decide +kernel) rfl, ii_X3, tb_in (i := 346) (by decide +kernel) rfl, by decide +kernel, by decide +kernel, by decide +kernel⟩
theorem vi_X3_size : VI yX3_size cX3_size 2 (some .int) 1 := ⟨tb_in (i := 348) (by decide +kernel) rfl, tb_in (i := 349) (by decide +kernel) rfl, ii_X3, tb_in (i := 350) (by decide +kernel) rfl, by decide +kernel, by decide +kernel, by decide +kernel⟩
theorem vi_X3_holds : VI yX3_holds cX3_holds 3 (some .boolean) 2 := ⟨tb_in (i := 352) (by decide +kernel) rfl, tb_in (i := 353) (by decide +kernel) rfl, ii_X3, tb_in (i := 354) (by decide +kernel) rfl, by decide +kernel, by decide +kernel, by decide +kernel⟩
theorem vi_X3_holdsPart : VI yX3_holdsPart cX3_holdsPart 4 (some .boolean) 3 := ⟨tb_in (i := 385) (by decide +kernel) rfl, tb_in (i := 386) (by decide +kernel) rfl, ii_X3, tb_in (i := 387) (by decide +kernel) rfl, by decide +kernel, by decide +kernel, by decide +kernel⟩
theorem vi_X3_get : VI yX3_get cX3_get 3 (some .int) 2 := ⟨tb_in (i := 356) (by decide +kernel) rfl, tb_in (i := 357) (by decide +kernel) rfl, ii_X3, tb_in (i := 358) (by decide +kernel) rfl, by decide +kernel, by decide +kernel, by decide +kernel⟩
theorem vi_X3_set : VI yX3_set cX3_set 4 none 3 := ⟨tb_in (i := 361) (by decide +kernel) rfl, tb_in (i := 362) (by decide +kernel) rfl, ii_X3, tb_in (i := 363) (by decide +kernel) rfl, by decide +kernel, by decide +kernel, by decide +kernel⟩
theorem vi_X3_make : VI yX3_make cX3_make 4 none 3 := ⟨tb_in (i := 327) (by decide +kernel) rfl, tb_in (i := 328) (by decide +kernel) rfl, ii_X3, tb_in (i := 329) (by decide +kernel) rfl, by decide +kernel, by decide +kernel, by decide +kernel⟩
theorem vi_X3_drop : VI yX3_drop cX3_drop 2 none 1 := ⟨tb_in (i := 377) (by decide +kernel) rfl, tb_in (i := 378) (by decide +kernel) rfl, ii_X3, tb_in (i := 379) (by decide +kernel) rfl, by decide +kernel, by decide +kernel, by decide +kernel⟩
theorem vi_X3_copyPart : VI yX3_copyPart cX3_copyPart 6 none 5 := ⟨tb_in (i := 389) (by decide +kernel) rfl, tb_in (i := 390) (by decide +kernel) rfl, ii_X3, tb_in (i := 391) (by decide +kernel) rfl, by decide +kernel, by decide +kernel, by decide +kernel⟩
theorem vi_X3_thereCount : VI yX3_thereCount cX3_thereCount 3 (some .int) 0 := ⟨tb_in (i := 809) (by decide +kernel) rfl, tb_in (i := 810) (by decide +kernel) rfl, ii_X3, tb_in (i := 811) (by decide +kernel) rfl, by decide +kernel, by decide +kernel, by decide +kernel⟩
theorem vi_X3_digestFrom : VI yX3_digestFrom cX3_digestFrom 7 (some .long) 1 := ⟨tb_in (i := 833) (by decide +kernel) rfl, tb_in (i := 834) (by decide +kernel) rfl, ii_X3, tb_in (i := 835) (by decide +kernel) rfl, by decide +kernel, by decide +kernel, by decide +kernel⟩
theorem vi_X4_row : VI yX4_row cX4_row 3 (some .int) 2 := ⟨tb_in (i := 315) (by decide +kernel) rfl, tb_in (i := 316) (by decide +kernel) rfl, ii_X4, tb_in (i := 317) (by decide +kernel) rfl, by decide +kernel, by decide +kernel, by decide +kernel⟩
theorem vi_X4_lay : VI yX4_lay cX4_lay 6 (some .int) 3 := ⟨tb_in (i := 332) (by decide +kernel) rfl, tb_in (i := 333) (by decide +kernel) rfl, ii_X4, tb_in (i := 334) (by decide +kernel) rfl, by decide +kernel, by decide +kernel, by decide +kernel⟩
theorem vi_X4_at : VI yX4_at cX4_at 4 (some .int) 2 := ⟨tb_in (i := 369) (by decide +kernel) rfl, tb_in (i := 370) (by decide +kernel) rfl, ii_X4, tb_in (i := 371) (by decide +kernel) rfl, by decide +kernel, by decide +kernel, by decide +kernel⟩
theorem vi_X4_tear : VI yX4_tear cX4_tear 3 (some .int) 1 := ⟨tb_in (i := 373) (by decide +kernel) rfl, tb_in (i := 374) (by decide +kernel) rfl, ii_X4, tb_in (i := 375) (by decide +kernel) rfl, by decide +kernel, by decide +kernel, by decide +kernel⟩
theorem vi_X4_copy : VI yX4_copy cX4_copy 6 (some .int) 5 := ⟨tb_in (i := 381) (by decide +kernel) rfl, tb_in (i := 382) (by decide +kernel) rfl, ii_X4, tb_in (i := 383) (by decide +kernel) rfl, by decide +kernel, by decide +kernel, by decide +kernel⟩
theorem vi_X4_mean : VI yX4_mean cX4_mean 7 (some .int) 1 := ⟨tb_in (i := 397) (by decide +kernel) rfl, tb_in (i := 398) (by decide +kernel) rfl, ii_X4, tb_in (i := 399) (by decide +kernel) rfl, by decide +kernel, by decide +kernel, by decide +kernel⟩
theorem vi_X4_text : VI yX4_text cX4_text 3 (some .int) 2 := ⟨tb_in (i := 402) (by decide +kernel) rfl, tb_in (i := 403) (by decide +kernel) rfl, ii_X4, tb_in (i := 404) (by decide +kernel) rfl, by decide +kernel, by decide +kernel, by decide +kernel⟩
theorem vi_X4_put : VI yX4_put cX4_put 6 (some .int) 3 := ⟨tb_in (i := 406) (by decide +kernel) rfl, tb_in (i := 407) (by decide +kernel) rfl, ii_X4, tb_in (i := 408) (by decide +kernel) rfl, by decide +kernel, by decide +kernel, by decide +kernel⟩
theorem vi_X4_fault : VI yX4_fault cX4_fault 3 (some .int) 1 := ⟨tb_in (i := 410) (by decide +kernel) rfl, tb_in (i := 411) (by decide +kernel) rfl, ii_X4, tb_in (i := 412) (by decide +kernel) rfl, by decide +kernel, by decide +kernel, by decide +kernel⟩
theorem vi_X4_house : VI yX4_house cX4_house 4 (some .int) 1 := ⟨tb_in (i := 442) (by decide +kernel) rfl, tb_in (i := 443) (by decide +kernel) rfl, ii_X4, tb_in (i := 444) (by decide +kernel) rfl, by decide +kernel, by decide +kernel, by decide +kernel⟩
theorem vi_X4_sitter : VI yX4_sitter cX4_sitter 3 (some .int) 2 := ⟨tb_in (i := 451) (by decide +kernel) rfl, tb_in (i := 452) (by decide +kernel) rfl, ii_X4, tb_in (i := 453) (by decide +kernel) rfl, by decide +kernel, by decide +kernel, by decide +kernel⟩
theorem vi_X4_mark : VI yX4_mark cX4_mark 3 (some .int) 2 := ⟨tb_in (i := 503) (by decide +kernel) rfl, tb_in (i := 504) (by decide +kernel) rfl, ii_X4, tb_in (i := 505) (by decide +kernel) rfl, by decide +kernel, by decide +kernel, by decide +kernel⟩
theorem vi_X4_lines : VI yX4_lines cX4_lines 2 (some .int) 1 := ⟨tb_in (i := 528) (by decide +kernel) rfl, tb_in (i := 529) (by decide +kernel) rfl, ii_X4, tb_in (i := 530) (by decide +kernel) rfl, by decide +kernel, by decide +kernel, by decide +kernel⟩
theorem vi_X4_call : VI yX4_call cX4_call 4 (some .int) 1 := ⟨tb_in (i := 532) (by decide +kernel) rfl, tb_in (i := 533) (by decide +kernel) rfl, ii_X4, tb_in (i := 534) (by decide +kernel) rfl, by decide +kernel, by decide +kernel, by decide +kernel⟩
theorem vi_X4_cut : VI yX4_cut cX4_cut 1 (some .int) 0 := ⟨tb_in (i := 558) (by decide +kernel) rfl, tb_in (i := 559) (by decide +kernel) rfl, ii_X4, tb_in (i := 560) (by decide +kernel) rfl, by decide +kernel, by decide +kernel, by decide +kernel⟩
theorem vi_X4_change : VI yX4_change cX4_change 3 (some .int) 2 := ⟨tb_in (i := 562) (by decide +kernel) rfl, tb_in (i := 563) (by decide +kernel) rfl, ii_X4, tb_in (i := 564) (by decide +kernel) rfl, by decide +kernel, by decide +kernel, by decide +kernel⟩
theorem vi_X4_undo : VI yX4_undo cX4_undo 4 (some .int) 1 := ⟨tb_in (i := 570) (by decide +kernel) rfl, tb_in (i := 571) (by decide +kernel) rfl, ii_X4, tb_in (i := 572) (by decide +kernel) rfl, by decide +kernel, by decide +kernel, by decide +kernel⟩
theorem vi_X4_keep : VI yX4_keep cX4_keep 3 (some .int) 1 := ⟨tb_in (i := 574) (by decide +kernel) rfl, tb_in (i := 575) (by decide +kernel) rfl, ii_X4, tb_in (i := 576) (by decide +kernel) rfl, by decide +kernel, by decide +kernel, by decide +kernel⟩
theorem vi_X4_on : VI yX4_on cX4_on 4 (some .int) 1 := ⟨tb_in (i := 578) (by decide +kernel) rfl, tb_in (i := 579) (by decide +kernel) rfl, ii_X4, tb_in (i := 580) (by decide +kernel) rfl, by decide +kernel, by decide +kernel, by decide +kernel⟩
theorem vi_X4_can : VI yX4_can cX4_can 1 (some .int) 0 := ⟨tb_in (i := 582) (by decide +kernel) rfl, tb_in (i := 583) (by decide +kernel) rfl, ii_X4, tb_in (i := 584) (by decide +kernel) rfl, by decide +kernel, by decide +kernel, by decide +kernel⟩
theorem vi_X4_play : VI yX4_play cX4_play 3 (some .int) 1 := ⟨tb_in (i := 586) (by decide +kernel) rfl, tb_in (i := 587) (by decide +kernel) rfl, ii_X4, tb_in (i := 588) (by decide +kernel) rfl, by decide +kernel, by decide +kernel, by decide +kernel⟩
theorem vi_X4_best : VI yX4_best cX4_best 5 (some .int) 1 := ⟨tb_in (i := 607) (by decide +kernel) rfl, tb_in (i := 608) (by decide +kernel) rfl, ii_X4, tb_in (i := 609) (by decide +kernel) rfl, by decide +kernel, by decide +kernel, by decide +kernel⟩
theorem vi_X4_least : VI yX4_least cX4_least 2 (some .int) 0 := ⟨tb_in (i := 651) (by decide +kernel) rfl, tb_in (i := 652) (by decide +kernel) rfl, ii_X4, tb_in (i := 653) (by decide +kernel) rfl, by decide +kernel, by decide +kernel, by decide +kernel⟩
theorem vi_X4_ways : VI yX4_ways cX4_ways 2 (some .int) 1 := ⟨tb_in (i := 664) (by decide +kernel) rfl, tb_in (i := 665) (by decide +kernel) rfl, ii_X4, tb_in (i := 666) (by decide +kernel) rfl, by decide +kernel, by decide +kernel, by decide +kernel⟩
theorem vi_X4_seats : VI yX4_seats cX4_seats 8 (some .int) 0 := ⟨tb_in (i := 690) (by decide +kernel) rfl, tb_in (i := 691) (by decide +kernel) rfl, ii_X4, tb_in (i := 692) (by decide +kernel) rfl, by decide +kernel, by decide +kernel, by decide +kernel⟩
theorem vi_X4_beside : VI yX4_beside cX4_beside 5 (some .int) 0 := ⟨tb_in (i := 698) (by decide +kernel) rfl, tb_in (i := 699) (by decide +kernel) rfl, ii_X4, tb_in (i := 700) (by decide +kernel) rfl, by decide +kernel, by decide +kernel, by decide +kernel⟩
theorem vi_X4_apart : VI yX4_apart cX4_apart 5 (some .int) 0 := ⟨tb_in (i := 710) (by decide +kernel) rfl, tb_in (i := 711) (by decide +kernel) rfl, ii_X4, tb_in (i := 712) (by decide +kernel) rfl, by decide +kernel, by decide +kernel, by decide +kernel⟩
theorem vi_X4_frights : VI yX4_frights cX4_frights 9 (some .int) 2 := ⟨tb_in (i := 715) (by decide +kernel) rfl, tb_in (i := 716) (by decide +kernel) rfl, ii_X4, tb_in (i := 717) (by decide +kernel) rfl, by decide +kernel, by decide +kernel, by decide +kernel⟩
theorem vi_X4_kinds : VI yX4_kinds cX4_kinds 7 (some .int) 2 := ⟨tb_in (i := 733) (by decide +kernel) rfl, tb_in (i := 734) (by decide +kernel) rfl, ii_X4, tb_in (i := 735) (by decide +kernel) rfl, by decide +kernel, by decide +kernel, by decide +kernel⟩
theorem vi_X4_whom : VI yX4_whom cX4_whom 7 (some .int) 1 := ⟨tb_in (i := 737) (by decide +kernel) rfl, tb_in (i := 738) (by decide +kernel) rfl, ii_X4, tb_in (i := 739) (by decide +kernel) rfl, by decide +kernel, by decide +kernel, by decide +kernel⟩
theorem vi_X4_duel : VI yX4_duel cX4_duel 2 (some .int) 1 := ⟨tb_in (i := 741) (by decide +kernel) rfl, tb_in (i := 742) (by decide +kernel) rfl, ii_X4, tb_in (i := 743) (by decide +kernel) rfl, by decide +kernel, by decide +kernel, by decide +kernel⟩
theorem vi_X4_odds : VI yX4_odds cX4_odds 2 (some .int) 1 := ⟨tb_in (i := 754) (by decide +kernel) rfl, tb_in (i := 755) (by decide +kernel) rfl, ii_X4, tb_in (i := 756) (by decide +kernel) rfl, by decide +kernel, by decide +kernel, by decide +kernel⟩
theorem vi_X4_mid : VI yX4_mid cX4_mid 1 (some .int) 0 := ⟨tb_in (i := 766) (by decide +kernel) rfl, tb_in (i := 767) (by decide +kernel) rfl, ii_X4, tb_in (i := 768) (by decide +kernel) rfl, by decide +kernel, by decide +kernel, by decide +kernel⟩
theorem vi_X4_lots : VI yX4_lots cX4_lots 7 (some .int) 1 := ⟨tb_in (i := 770) (by decide +kernel) rfl, tb_in (i := 771) (by decide +kernel) rfl, ii_X4, tb_in (i := 772) (by decide +kernel) rfl, by decide +kernel, by decide +kernel, by decide +kernel⟩
theorem vi_X4_asked : VI yX4_asked cX4_asked 1 (some .int) 0 := ⟨tb_in (i := 784) (by decide +kernel) rfl, tb_in (i := 785) (by decide +kernel) rfl, ii_X4, tb_in (i := 786) (by decide +kernel) rfl, by decide +kernel, by decide +kernel, by decide +kernel⟩
theorem vi_X4_upper : VI yX4_upper cX4_upper 1 (some .long) 0 := ⟨tb_in (i := 788) (by decide +kernel) rfl, tb_in (i := 789) (by decide +kernel) rfl, ii_X4, tb_in (i := 790) (by decide +kernel) rfl, by decide +kernel, by decide +kernel, by decide +kernel⟩
theorem vi_X4_lower : VI yX4_lower cX4_lower 1 (some .long) 0 := ⟨tb_in (i := 792) (by decide +kernel) rfl, tb_in (i := 793) (by decide +kernel) rfl, ii_X4, tb_in (i := 794) (by decide +kernel) rfl, by decide +kernel, by decide +kernel, by decide +kernel⟩
theorem vi_X4_count : VI yX4_count cX4_count 2 (some .int) 1 := ⟨tb_in (i := 796) (by decide +kernel) rfl, tb_in (i := 797) (by decide +kernel) rfl, ii_X4, tb_in (i := 798) (by decide +kernel) rfl, by decide +kernel, by decide +kernel, by decide +kernel⟩
theorem vi_X4_applause : VI yX4_applause cX4_applause 1 (some .int) 0 := ⟨tb_in (i := 814) (by decide +kernel) rfl, tb_in (i := 815) (by decide +kernel) rfl, ii_X4, tb_in (i := 816) (by decide +kernel) rfl, by decide +kernel, by decide +kernel, by decide +kernel⟩
theorem vi_X4_finding : VI yX4_finding cX4_finding 1 (some .int) 0 := ⟨tb_in (i := 818) (by decide +kernel) rfl, tb_in (i := 819) (by decide +kernel) rfl, ii_X4, tb_in (i := 820) (by decide +kernel) rfl, by decide +kernel, by decide +kernel, by decide +kernel⟩
theorem vi_X4_findings : VI yX4_findings cX4_findings 2 (some .int) 1 := ⟨tb_in (i := 822) (by decide +kernel) rfl, tb_in (i := 823) (by decide +kernel) rfl, ii_X4, tb_in (i := 824) (by decide +kernel) rfl, by decide +kernel, by decide +kernel, by decide +kernel⟩
theorem vi_X4_digest : VI yX4_digest cX4_digest 5 (some .long) 0 := ⟨tb_in (i := 826) (by decide +kernel) rfl, tb_in (i := 827) (by decide +kernel) rfl, ii_X4, tb_in (i := 828) (by decide +kernel) rfl, by decide +kernel, by decide +kernel, by decide +kernel⟩
theorem vi_X4_tell : VI yX4_tell cX4_tell 2 (some .int) 1 := ⟨tb_in (i := 366) (by decide +kernel) rfl, tb_in (i := 3) (by decide +kernel) rfl, ii_X4, tb_in (i := 367) (by decide +kernel) rfl, by decide +kernel, by decide +kernel, by decide +kernel⟩
theorem vi_X4_tellFraction : VI yX4_tellFraction cX4_tellFraction 7 none 2 := ⟨tb_in (i := 681) (by decide +kernel) rfl, tb_in (i := 20) (by decide +kernel) rfl, ii_X4, tb_in (i := 682) (by decide +kernel) rfl, by decide +kernel, by decide +kernel, by decide +kernel⟩
theorem si_X4_greatestDivisor : SI yX4_greatestDivisor cX4_greatestDivisor 11 (some .long) 2 := ⟨tb_in (i := 687) (by decide +kernel) rfl, ii_X4, tb_in (i := 688) (by decide +kernel) rfl, by decide +kernel, by decide +kernel, by decide +kernel⟩
theorem vi_X4_refuse : VI yX4_refuse cX4_refuse 2 (some .int) 1 := ⟨tb_in (i := 324) (by decide +kernel) rfl, tb_in (i := 0) (by decide +kernel) rfl, ii_X4, tb_in (i := 325) (by decide +kernel) rfl, by decide +kernel, by decide +kernel, by decide +kernel⟩
theorem vi_X4_refusalOfPlace : VI yX4_refusalOfPlace cX4_refusalOfPlace 3 (some .int) 2 := ⟨tb_in (i := 341) (by decide +kernel) rfl, tb_in (i := 2) (by decide +kernel) rfl, ii_X4, tb_in (i := 342) (by decide +kernel) rfl, by decide +kernel, by decide +kernel, by decide +kernel⟩
theorem vi_X4_refusalOfItem : VI yX4_refusalOfItem cX4_refusalOfItem 5 (some .int) 3 := ⟨tb_in (i := 337) (by decide +kernel) rfl, tb_in (i := 1) (by decide +kernel) rfl, ii_X4, tb_in (i := 338) (by decide +kernel) rfl, by decide +kernel, by decide +kernel, by decide +kernel⟩
theorem vi_X4_refusalOfNotices : VI yX4_refusalOfNotices cX4_refusalOfNotices 3 (some .int) 2 := ⟨tb_in (i := 720) (by decide +kernel) rfl, tb_in (i := 21) (by decide +kernel) rfl, ii_X4, tb_in (i := 721) (by decide +kernel) rfl, by decide +kernel, by decide +kernel, by decide +kernel⟩
theorem vi_X4_countOf : VI yX4_countOf cX4_countOf 2 (some .int) 1 := ⟨tb_in (i := 801) (by decide +kernel) rfl, tb_in (i := 26) (by decide +kernel) rfl, ii_X4, tb_in (i := 802) (by decide +kernel) rfl, by decide +kernel, by decide +kernel, by decide +kernel⟩
theorem vi_X4_isPlan : VI yX4_isPlan cX4_isPlan 5 (some .boolean) 1 := ⟨tb_in (i := 591) (by decide +kernel) rfl, tb_in (i := 11) (by decide +kernel) rfl, ii_X4, tb_in (i := 592) (by decide +kernel) rfl, by decide +kernel, by decide +kernel, by decide +kernel⟩
theorem vi_X4_areNotices : VI yX4_areNotices cX4_areNotices 6 (some .boolean) 1 := ⟨tb_in (i := 724) (by decide +kernel) rfl, tb_in (i := 22) (by decide +kernel) rfl, ii_X4, tb_in (i := 725) (by decide +kernel) rfl, by decide +kernel, by decide +kernel, by decide +kernel⟩
theorem vi_X4_fitsNotices : VI yX4_fitsNotices cX4_fitsNotices 9 (some .boolean) 5 := ⟨tb_in (i := 729) (by decide +kernel) rfl, tb_in (i := 23) (by decide +kernel) rfl, ii_X4, tb_in (i := 730) (by decide +kernel) rfl, by decide +kernel, by decide +kernel, by decide +kernel⟩
theorem si_X4_isIn : SI yX4_isIn cX4_isIn 2 (some .boolean) 2 := ⟨tb_in (i := 439) (by decide +kernel) rfl, ii_X4, tb_in (i := 440) (by decide +kernel) rfl, by decide +kernel, by decide +kernel, by decide +kernel⟩
theorem si_X4_isOfKind : SI yX4_isOfKind cX4_isOfKind 2 (some .boolean) 2 := ⟨tb_in (i := 470) (by decide +kernel) rfl, ii_X4, tb_in (i := 471) (by decide +kernel) rfl, by decide +kernel, by decide +kernel, by decide +kernel⟩
theorem si_X4_isCallableFrom : SI yX4_isCallableFrom cX4_isCallableFrom 2 (some .boolean) 2 := ⟨tb_in (i := 500) (by decide +kernel) rfl, ii_X4, tb_in (i := 501) (by decide +kernel) rfl, by decide +kernel, by decide +kernel, by decide +kernel⟩
theorem si_X4_fears : SI yX4_fears cX4_fears 4 (some .int) 3 := ⟨tb_in (i := 464) (by decide +kernel) rfl, ii_X4, tb_in (i := 465) (by decide +kernel) rfl, by decide +kernel, by decide +kernel, by decide +kernel⟩
theorem si_X4_says : SI yX4_says cX4_says 6 (some .int) 5 := ⟨tb_in (i := 487) (by decide +kernel) rfl, ii_X4, tb_in (i := 488) (by decide +kernel) rfl, by decide +kernel, by decide +kernel, by decide +kernel⟩
theorem si_X4_drawn : SI yX4_drawn cX4_drawn 5 (some .int) 2 := ⟨tb_in (i := 778) (by decide +kernel) rfl, ii_X4, tb_in (i := 779) (by decide +kernel) rfl, by decide +kernel, by decide +kernel, by decide +kernel⟩
theorem si_X5_bits : SI yX5_bits cX5_bits 3 (some .int) 1 := ⟨tb_in (i := 1157) (by decide +kernel) rfl, ii_X5, tb_in (i := 1158) (by decide +kernel) rfl, by decide +kernel, by decide +kernel, by decide +kernel⟩
theorem si_X5_atLeast : SI yX5_atLeast cX5_atLeast 1 (some .int) 1 := ⟨tb_in (i := 1065) (by decide +kernel) rfl, ii_X5, tb_in (i := 1066) (by decide +kernel) rfl, by decide +kernel, by decide +kernel, by decide +kernel⟩
theorem si_X5_in : SI yX5_in cX5_in 6 (some .boolean) 3 := ⟨tb_in (i := 952) (by decide +kernel) rfl, ii_X5, tb_in (i := 953) (by decide +kernel) rfl, by decide +kernel, by decide +kernel, by decide +kernel⟩
theorem si_X5_has : SI yX5_has cX5_has 2 (some .boolean) 2 := ⟨tb_in (i := 1042) (by decide +kernel) rfl, ii_X5, tb_in (i := 1043) (by decide +kernel) rfl, by decide +kernel, by decide +kernel, by decide +kernel⟩
theorem vi_X5_find : VI yX5_find cX5_find 2 (some .int) 1 := ⟨tb_in (i := 956) (by decide +kernel) rfl, tb_in (i := 27) (by decide +kernel) rfl, ii_X5, tb_in (i := 957) (by decide +kernel) rfl, by decide +kernel, by decide +kernel, by decide +kernel⟩
theorem vi_X5_tell : VI yX5_tell cX5_tell 2 (some .int) 1 := ⟨tb_in (i := 972) (by decide +kernel) rfl, tb_in (i := 30) (by decide +kernel) rfl, ii_X5, tb_in (i := 973) (by decide +kernel) rfl, by decide +kernel, by decide +kernel, by decide +kernel⟩
theorem si_X5_isRow : SI yX5_isRow cX5_isRow 1 (some .boolean) 1 := ⟨tb_in (i := 948) (by decide +kernel) rfl, ii_X5, tb_in (i := 949) (by decide +kernel) rfl, by decide +kernel, by decide +kernel, by decide +kernel⟩
theorem si_X5_isText : SI yX5_isText cX5_isText 1 (some .boolean) 1 := ⟨tb_in (i := 999) (by decide +kernel) rfl, ii_X5, tb_in (i := 1000) (by decide +kernel) rfl, by decide +kernel, by decide +kernel, by decide +kernel⟩
theorem vi_X5_row : VI yX5_row cX5_row 3 (some .int) 2 := ⟨tb_in (i := 944) (by decide +kernel) rfl, tb_in (i := 945) (by decide +kernel) rfl, ii_X5, tb_in (i := 946) (by decide +kernel) rfl, by decide +kernel, by decide +kernel, by decide +kernel⟩
theorem vi_X5_makeRow : VI yX5_makeRow cX5_makeRow 4 none 2 := ⟨tb_in (i := 960) (by decide +kernel) rfl, tb_in (i := 28) (by decide +kernel) rfl, ii_X5, tb_in (i := 961) (by decide +kernel) rfl, by decide +kernel, by decide +kernel, by decide +kernel⟩
theorem vi_X5_refused : VI yX5_refused cX5_refused 3 (some .int) 2 := ⟨tb_in (i := 968) (by decide +kernel) rfl, tb_in (i := 29) (by decide +kernel) rfl, ii_X5, tb_in (i := 969) (by decide +kernel) rfl, by decide +kernel, by decide +kernel, by decide +kernel⟩
theorem vi_X5_lay : VI yX5_lay cX5_lay 6 (some .int) 3 := ⟨tb_in (i := 963) (by decide +kernel) rfl, tb_in (i := 964) (by decide +kernel) rfl, ii_X5, tb_in (i := 965) (by decide +kernel) rfl, by decide +kernel, by decide +kernel, by decide +kernel⟩
theorem vi_X5_at : VI yX5_at cX5_at 4 (some .int) 2 := ⟨tb_in (i := 975) (by decide +kernel) rfl, tb_in (i := 976) (by decide +kernel) rfl, ii_X5, tb_in (i := 977) (by decide +kernel) rfl, by decide +kernel, by decide +kernel, by decide +kernel⟩
theorem vi_X5_tear : VI yX5_tear cX5_tear 2 (some .int) 1 := ⟨tb_in (i := 979) (by decide +kernel) rfl, tb_in (i := 980) (by decide +kernel) rfl, ii_X5, tb_in (i := 981) (by decide +kernel) rfl, by decide +kernel, by decide +kernel, by decide +kernel⟩
theorem vi_X5_isSpan : VI yX5_isSpan cX5_isSpan 4 (some .boolean) 3 := ⟨tb_in (i := 988) (by decide +kernel) rfl, tb_in (i := 31) (by decide +kernel) rfl, ii_X5, tb_in (i := 989) (by decide +kernel) rfl, by decide +kernel, by decide +kernel, by decide +kernel⟩
theorem vi_X5_copy : VI yX5_copy cX5_copy 9 (some .int) 5 := ⟨tb_in (i := 983) (by decide +kernel) rfl, tb_in (i := 984) (by decide +kernel) rfl, ii_X5, tb_in (i := 985) (by decide +kernel) rfl, by decide +kernel, by decide +kernel, by decide +kernel⟩
theorem vi_X5_mean : VI yX5_mean cX5_mean 5 (some .int) 1 := ⟨tb_in (i := 991) (by decide +kernel) rfl, tb_in (i := 992) (by decide +kernel) rfl, ii_X5, tb_in (i := 993) (by decide +kernel) rfl, by decide +kernel, by decide +kernel, by decide +kernel⟩
theorem vi_X5_text : VI yX5_text cX5_text 4 (some .int) 2 := ⟨tb_in (i := 995) (by decide +kernel) rfl, tb_in (i := 996) (by decide +kernel) rfl, ii_X5, tb_in (i := 997) (by decide +kernel) rfl, by decide +kernel, by decide +kernel, by decide +kernel⟩
theorem vi_X5_put : VI yX5_put cX5_put 5 (some .int) 3 := ⟨tb_in (i := 1003) (by decide +kernel) rfl, tb_in (i := 1004) (by decide +kernel) rfl, ii_X5, tb_in (i := 1005) (by decide +kernel) rfl, by decide +kernel, by decide +kernel, by decide +kernel⟩
theorem vi_X5_here : VI yX5_here cX5_here 1 (some .int) 0 := ⟨tb_in (i := 1024) (by decide +kernel) rfl, tb_in (i := 35) (by decide +kernel) rfl, ii_X5, tb_in (i := 1025) (by decide +kernel) rfl, by decide +kernel, by decide +kernel, by decide +kernel⟩
theorem vi_X5_skip : VI yX5_skip cX5_skip 1 none 0 := ⟨tb_in (i := 1020) (by decide +kernel) rfl, tb_in (i := 34) (by decide +kernel) rfl, ii_X5, tb_in (i := 1021) (by decide +kernel) rfl, by decide +kernel, by decide +kernel, by decide +kernel⟩
theorem vi_X5_isFigure : VI yX5_isFigure cX5_isFigure 3 (some .boolean) 2 := ⟨tb_in (i := 1032) (by decide +kernel) rfl, tb_in (i := 37) (by decide +kernel) rfl, ii_X5, tb_in (i := 1033) (by decide +kernel) rfl, by decide +kernel, by decide +kernel, by decide +kernel⟩
theorem vi_X5_figure : VI yX5_figure cX5_figure 3 (some .int) 2 := ⟨tb_in (i := 1028) (by decide +kernel) rfl, tb_in (i := 36) (by decide +kernel) rfl, ii_X5, tb_in (i := 1029) (by decide +kernel) rfl, by decide +kernel, by decide +kernel, by decide +kernel⟩
theorem vi_X5_readsPlay : VI yX5_readsPlay cX5_readsPlay 1 (some .boolean) 0 := ⟨tb_in (i := 1016) (by decide +kernel) rfl, tb_in (i := 33) (by decide +kernel) rfl, ii_X5, tb_in (i := 1017) (by decide +kernel) rfl, by decide +kernel, by decide +kernel, by decide +kernel⟩
theorem si_X5_kindOfLetter : SI yX5_kindOfLetter cX5_kindOfLetter 1 (some .int) 1 := ⟨tb_in (i := 1039) (by decide +kernel) rfl, ii_X5, tb_in (i := 1040) (by decide +kernel) rfl, by decide +kernel, by decide +kernel, by decide +kernel⟩
theorem vi_X5_readsSitter : VI yX5_readsSitter cX5_readsSitter 6 (some .boolean) 0 := ⟨tb_in (i := 1036) (by decide +kernel) rfl, tb_in (i := 38) (by decide +kernel) rfl, ii_X5, tb_in (i := 1037) (by decide +kernel) rfl, by decide +kernel, by decide +kernel, by decide +kernel⟩
theorem vi_X5_faultOf : VI yX5_faultOf cX5_faultOf 3 (some .int) 1 := ⟨tb_in (i := 1012) (by decide +kernel) rfl, tb_in (i := 32) (by decide +kernel) rfl, ii_X5, tb_in (i := 1013) (by decide +kernel) rfl, by decide +kernel, by decide +kernel, by decide +kernel⟩
theorem vi_X5_fault : VI yX5_fault cX5_fault 2 (some .int) 1 := ⟨tb_in (i := 1007) (by decide +kernel) rfl, tb_in (i := 1008) (by decide +kernel) rfl, ii_X5, tb_in (i := 1009) (by decide +kernel) rfl, by decide +kernel, by decide +kernel, by decide +kernel⟩
theorem vi_X5_house : VI yX5_house cX5_house 3 (some .int) 1 := ⟨tb_in (i := 1045) (by decide +kernel) rfl, tb_in (i := 1046) (by decide +kernel) rfl, ii_X5, tb_in (i := 1047) (by decide +kernel) rfl, by decide +kernel, by decide +kernel, by decide +kernel⟩
theorem vi_X5_isSitter : VI yX5_isSitter cX5_isSitter 2 (some .boolean) 1 := ⟨tb_in (i := 1054) (by decide +kernel) rfl, tb_in (i := 39) (by decide +kernel) rfl, ii_X5, tb_in (i := 1055) (by decide +kernel) rfl, by decide +kernel, by decide +kernel, by decide +kernel⟩
theorem si_X5_isUncle : SI yX5_isUncle cX5_isUncle 1 (some .boolean) 1 := ⟨tb_in (i := 1068) (by decide +kernel) rfl, ii_X5, tb_in (i := 1069) (by decide +kernel) rfl, by decide +kernel, by decide +kernel, by decide +kernel⟩
theorem si_X5_isClerk : SI yX5_isClerk cX5_isClerk 1 (some .boolean) 1 := ⟨tb_in (i := 1086) (by decide +kernel) rfl, ii_X5, tb_in (i := 1087) (by decide +kernel) rfl, by decide +kernel, by decide +kernel, by decide +kernel⟩
theorem vi_X5_claques : VI yX5_claques cX5_claques 5 (some .int) 2 := ⟨tb_in (i := 1080) (by decide +kernel) rfl, tb_in (i := 43) (by decide +kernel) rfl, ii_X5, tb_in (i := 1081) (by decide +kernel) rfl, by decide +kernel, by decide +kernel, by decide +kernel⟩
theorem si_X5_fearsBy : SI yX5_fearsBy cX5_fearsBy 4 (some .int) 3 := ⟨tb_in (i := 1062) (by decide +kernel) rfl, ii_X5, tb_in (i := 1063) (by decide +kernel) rfl, by decide +kernel, by decide +kernel, by decide +kernel⟩
theorem si_X5_saysBy : SI yX5_saysBy cX5_saysBy 6 (some .int) 5 := ⟨tb_in (i := 1083) (by decide +kernel) rfl, ii_X5, tb_in (i := 1084) (by decide +kernel) rfl, by decide +kernel, by decide +kernel, by decide +kernel⟩
theorem vi_X5_saysOf : VI yX5_saysOf cX5_saysOf 4 (some .int) 3 := ⟨tb_in (i := 1076) (by decide +kernel) rfl, tb_in (i := 42) (by decide +kernel) rfl, ii_X5, tb_in (i := 1077) (by decide +kernel) rfl, by decide +kernel, by decide +kernel, by decide +kernel⟩
theorem vi_X5_canSit : VI yX5_canSit cX5_canSit 3 (some .boolean) 1 := ⟨tb_in (i := 1094) (by decide +kernel) rfl, tb_in (i := 45) (by decide +kernel) rfl, ii_X5, tb_in (i := 1095) (by decide +kernel) rfl, by decide +kernel, by decide +kernel, by decide +kernel⟩
theorem vi_X5_mayCall : VI yX5_mayCall cX5_mayCall 3 (some .boolean) 2 := ⟨tb_in (i := 1090) (by decide +kernel) rfl, tb_in (i := 44) (by decide +kernel) rfl, ii_X5, tb_in (i := 1091) (by decide +kernel) rfl, by decide +kernel, by decide +kernel, by decide +kernel⟩
theorem vi_X5_saysNow : VI yX5_saysNow cX5_saysNow 2 (some .int) 1 := ⟨tb_in (i := 1072) (by decide +kernel) rfl, tb_in (i := 41) (by decide +kernel) rfl, ii_X5, tb_in (i := 1073) (by decide +kernel) rfl, by decide +kernel, by decide +kernel, by decide +kernel⟩
theorem vi_X5_toldOf : VI yX5_toldOf cX5_toldOf 3 (some .int) 2 := ⟨tb_in (i := 1059) (by decide +kernel) rfl, tb_in (i := 40) (by decide +kernel) rfl, ii_X5, tb_in (i := 1060) (by decide +kernel) rfl, by decide +kernel, by decide +kernel, by decide +kernel⟩
theorem vi_X5_sitter : VI yX5_sitter cX5_sitter 3 (some .int) 2 := ⟨tb_in (i := 1049) (by decide +kernel) rfl, tb_in (i := 1050) (by decide +kernel) rfl, ii_X5, tb_in (i := 1051) (by decide +kernel) rfl, by decide +kernel, by decide +kernel, by decide +kernel⟩
theorem vi_X5_isOf : VI yX5_isOf cX5_isOf 3 (some .boolean) 2 := ⟨tb_in (i := 1102) (by decide +kernel) rfl, tb_in (i := 46) (by decide +kernel) rfl, ii_X5, tb_in (i := 1103) (by decide +kernel) rfl, by decide +kernel, by decide +kernel, by decide +kernel⟩
theorem vi_X5_easyScenes : VI yX5_easyScenes cX5_easyScenes 4 (some .int) 1 := ⟨tb_in (i := 1106) (by decide +kernel) rfl, tb_in (i := 47) (by decide +kernel) rfl, ii_X5, tb_in (i := 1107) (by decide +kernel) rfl, by decide +kernel, by decide +kernel, by decide +kernel⟩
theorem vi_X5_evenOthers : VI yX5_evenOthers cX5_evenOthers 4 (some .int) 1 := ⟨tb_in (i := 1110) (by decide +kernel) rfl, tb_in (i := 48) (by decide +kernel) rfl, ii_X5, tb_in (i := 1111) (by decide +kernel) rfl, by decide +kernel, by decide +kernel, by decide +kernel⟩
theorem vi_X5_mark : VI yX5_mark cX5_mark 3 (some .int) 2 := ⟨tb_in (i := 1097) (by decide +kernel) rfl, tb_in (i := 1098) (by decide +kernel) rfl, ii_X5, tb_in (i := 1099) (by decide +kernel) rfl, by decide +kernel, by decide +kernel, by decide +kernel⟩
theorem vi_X5_lines : VI yX5_lines cX5_lines 2 (some .int) 1 := ⟨tb_in (i := 1113) (by decide +kernel) rfl, tb_in (i := 1114) (by decide +kernel) rfl, ii_X5, tb_in (i := 1115) (by decide +kernel) rfl, by decide +kernel, by decide +kernel, by decide +kernel⟩
theorem vi_X5_keepPast : VI yX5_keepPast cX5_keepPast 2 none 0 := ⟨tb_in (i := 1134) (by decide +kernel) rfl, tb_in (i := 52) (by decide +kernel) rfl, ii_X5, tb_in (i := 1135) (by decide +kernel) rfl, by decide +kernel, by decide +kernel, by decide +kernel⟩
theorem vi_X5_lacking : VI yX5_lacking cX5_lacking 5 (some .int) 4 := ⟨tb_in (i := 1126) (by decide +kernel) rfl, tb_in (i := 50) (by decide +kernel) rfl, ii_X5, tb_in (i := 1127) (by decide +kernel) rfl, by decide +kernel, by decide +kernel, by decide +kernel⟩
theorem vi_X5_doCall : VI yX5_doCall cX5_doCall 4 (some .int) 1 := ⟨tb_in (i := 1130) (by decide +kernel) rfl, tb_in (i := 51) (by decide +kernel) rfl, ii_X5, tb_in (i := 1131) (by decide +kernel) rfl, by decide +kernel, by decide +kernel, by decide +kernel⟩
theorem vi_X5_isOver : VI yX5_isOver cX5_isOver 1 (some .boolean) 0 := ⟨tb_in (i := 1122) (by decide +kernel) rfl, tb_in (i := 49) (by decide +kernel) rfl, ii_X5, tb_in (i := 1123) (by decide +kernel) rfl, by decide +kernel, by decide +kernel, by decide +kernel⟩
theorem vi_X5_call : VI yX5_call cX5_call 2 (some .int) 1 := ⟨tb_in (i := 1117) (by decide +kernel) rfl, tb_in (i := 1118) (by decide +kernel) rfl, ii_X5, tb_in (i := 1119) (by decide +kernel) rfl, by decide +kernel, by decide +kernel, by decide +kernel⟩
theorem vi_X5_doCut : VI yX5_doCut cX5_doCut 1 none 0 := ⟨tb_in (i := 1142) (by decide +kernel) rfl, tb_in (i := 53) (by decide +kernel) rfl, ii_X5, tb_in (i := 1143) (by decide +kernel) rfl, by decide +kernel, by decide +kernel, by decide +kernel⟩
theorem vi_X5_cut : VI yX5_cut cX5_cut 1 (some .int) 0 := ⟨tb_in (i := 1137) (by decide +kernel) rfl, tb_in (i := 1138) (by decide +kernel) rfl, ii_X5, tb_in (i := 1139) (by decide +kernel) rfl, by decide +kernel, by decide +kernel, by decide +kernel⟩
theorem vi_X5_swapSeats : VI yX5_swapSeats cX5_swapSeats 4 none 2 := ⟨tb_in (i := 1150) (by decide +kernel) rfl, tb_in (i := 54) (by decide +kernel) rfl, ii_X5, tb_in (i := 1151) (by decide +kernel) rfl, by decide +kernel, by decide +kernel, by decide +kernel⟩
theorem vi_X5_canBits : VI yX5_canBits cX5_canBits 4 (some .int) 1 := ⟨tb_in (i := 1154) (by decide +kernel) rfl, tb_in (i := 55) (by decide +kernel) rfl, ii_X5, tb_in (i := 1155) (by decide +kernel) rfl, by decide +kernel, by decide +kernel, by decide +kernel⟩
theorem vi_X5_change : VI yX5_change cX5_change 3 (some .int) 2 := ⟨tb_in (i := 1145) (by decide +kernel) rfl, tb_in (i := 1146) (by decide +kernel) rfl, ii_X5, tb_in (i := 1147) (by decide +kernel) rfl, by decide +kernel, by decide +kernel, by decide +kernel⟩
theorem vi_X5_undo : VI yX5_undo cX5_undo 4 (some .int) 1 := ⟨tb_in (i := 1160) (by decide +kernel) rfl, tb_in (i := 1161) (by decide +kernel) rfl, ii_X5, tb_in (i := 1162) (by decide +kernel) rfl, by decide +kernel, by decide +kernel, by decide +kernel⟩
theorem vi_X5_copyHouse : VI yX5_copyHouse cX5_copyHouse 4 none 2 := ⟨tb_in (i := 1170) (by decide +kernel) rfl, tb_in (i := 56) (by decide +kernel) rfl, ii_X5, tb_in (i := 1171) (by decide +kernel) rfl, by decide +kernel, by decide +kernel, by decide +kernel⟩
theorem vi_X5_keep : VI yX5_keep cX5_keep 2 (some .int) 1 := ⟨tb_in (i := 1164) (by decide +kernel) rfl, tb_in (i := 1165) (by decide +kernel) rfl, ii_X5, tb_in (i := 1166) (by decide +kernel) rfl, by decide +kernel, by decide +kernel, by decide +kernel⟩
theorem vi_X5_on : VI yX5_on cX5_on 2 (some .int) 1 := ⟨tb_in (i := 1173) (by decide +kernel) rfl, tb_in (i := 1174) (by decide +kernel) rfl, ii_X5, tb_in (i := 1175) (by decide +kernel) rfl, by decide +kernel, by decide +kernel, by decide +kernel⟩
theorem vi_X5_beginPlans : VI yX5_beginPlans cX5_beginPlans 2 none 1 := ⟨tb_in (i := 1190) (by decide +kernel) rfl, tb_in (i := 58) (by decide +kernel) rfl, ii_X5, tb_in (i := 1191) (by decide +kernel) rfl, by decide +kernel, by decide +kernel, by decide +kernel⟩
theorem vi_X5_choose : VI yX5_choose cX5_choose 6 none 2 := ⟨tb_in (i := 1194) (by decide +kernel) rfl, tb_in (i := 59) (by decide +kernel) rfl, ii_X5, tb_in (i := 1195) (by decide +kernel) rfl, by decide +kernel, by decide +kernel, by decide +kernel⟩
theorem vi_X5_nextChoice : VI yX5_nextChoice cX5_nextChoice 4 (some .int) 2 := ⟨tb_in (i := 1206) (by decide +kernel) rfl, tb_in (i := 61) (by decide +kernel) rfl, ii_X5, tb_in (i := 1207) (by decide +kernel) rfl, by decide +kernel, by decide +kernel, by decide +kernel⟩
theorem vi_X5_nextPlan : VI yX5_nextPlan cX5_nextPlan 3 (some .boolean) 0 := ⟨tb_in (i := 1202) (by decide +kernel) rfl, tb_in (i := 60) (by decide +kernel) rfl, ii_X5, tb_in (i := 1203) (by decide +kernel) rfl, by decide +kernel, by decide +kernel, by decide +kernel⟩
theorem vi_X5_can : VI yX5_can cX5_can 1 (some .int) 0 := ⟨tb_in (i := 1177) (by decide +kernel) rfl, tb_in (i := 1178) (by decide +kernel) rfl, ii_X5, tb_in (i := 1179) (by decide +kernel) rfl, by decide +kernel, by decide +kernel, by decide +kernel⟩
theorem vi_X5_noPlan : VI yX5_noPlan cX5_noPlan 4 (some .int) 1 := ⟨tb_in (i := 1186) (by decide +kernel) rfl, tb_in (i := 57) (by decide +kernel) rfl, ii_X5, tb_in (i := 1187) (by decide +kernel) rfl, by decide +kernel, by decide +kernel, by decide +kernel⟩
theorem vi_X5_play : VI yX5_play cX5_play 3 (some .int) 1 := ⟨tb_in (i := 1181) (by decide +kernel) rfl, tb_in (i := 1182) (by decide +kernel) rfl, ii_X5, tb_in (i := 1183) (by decide +kernel) rfl, by decide +kernel, by decide +kernel, by decide +kernel⟩
theorem vi_X5_best : VI yX5_best cX5_best 7 (some .int) 1 := ⟨tb_in (i := 1197) (by decide +kernel) rfl, tb_in (i := 1198) (by decide +kernel) rfl, ii_X5, tb_in (i := 1199) (by decide +kernel) rfl, by decide +kernel, by decide +kernel, by decide +kernel⟩
theorem vi_X5_least : VI yX5_least cX5_least 4 (some .int) 0 := ⟨tb_in (i := 1209) (by decide +kernel) rfl, tb_in (i := 1210) (by decide +kernel) rfl, ii_X5, tb_in (i := 1211) (by decide +kernel) rfl, by decide +kernel, by decide +kernel, by decide +kernel⟩
theorem vi_X5_ways : VI yX5_ways cX5_ways 3 (some .int) 1 := ⟨tb_in (i := 1213) (by decide +kernel) rfl, tb_in (i := 1214) (by decide +kernel) rfl, ii_X5, tb_in (i := 1215) (by decide +kernel) rfl, by decide +kernel, by decide +kernel, by decide +kernel⟩
theorem vi_X5_mostCarried : VI yX5_mostCarried cX5_mostCarried 2 (some .int) 0 := ⟨tb_in (i := 1223) (by decide +kernel) rfl, tb_in (i := 62) (by decide +kernel) rfl, ii_X5, tb_in (i := 1224) (by decide +kernel) rfl, by decide +kernel, by decide +kernel, by decide +kernel⟩
theorem vi_X5_seats : VI yX5_seats cX5_seats 6 (some .int) 0 := ⟨tb_in (i := 1218) (by decide +kernel) rfl, tb_in (i := 1219) (by decide +kernel) rfl, ii_X5, tb_in (i := 1220) (by decide +kernel) rfl, by decide +kernel, by decide +kernel, by decide +kernel⟩
theorem vi_X5_seatsOf : VI yX5_seatsOf cX5_seatsOf 4 (some .int) 1 := ⟨tb_in (i := 1231) (by decide +kernel) rfl, tb_in (i := 63) (by decide +kernel) rfl, ii_X5, tb_in (i := 1232) (by decide +kernel) rfl, by decide +kernel, by decide +kernel, by decide +kernel⟩
theorem vi_X5_beside : VI yX5_beside cX5_beside 5 (some .int) 0 := ⟨tb_in (i := 1226) (by decide +kernel) rfl, tb_in (i := 1227) (by decide +kernel) rfl, ii_X5, tb_in (i := 1228) (by decide +kernel) rfl, by decide +kernel, by decide +kernel, by decide +kernel⟩
theorem vi_X5_apart : VI yX5_apart cX5_apart 6 (some .int) 0 := ⟨tb_in (i := 1234) (by decide +kernel) rfl, tb_in (i := 1235) (by decide +kernel) rfl, ii_X5, tb_in (i := 1236) (by decide +kernel) rfl, by decide +kernel, by decide +kernel, by decide +kernel⟩
theorem vi_X5_noNotices : VI yX5_noNotices cX5_noNotices 4 (some .int) 1 := ⟨tb_in (i := 1243) (by decide +kernel) rfl, tb_in (i := 64) (by decide +kernel) rfl, ii_X5, tb_in (i := 1244) (by decide +kernel) rfl, by decide +kernel, by decide +kernel, by decide +kernel⟩
theorem vi_X5_isNoticed : VI yX5_isNoticed cX5_isNoticed 9 (some .boolean) 5 := ⟨tb_in (i := 1250) (by decide +kernel) rfl, tb_in (i := 65) (by decide +kernel) rfl, ii_X5, tb_in (i := 1251) (by decide +kernel) rfl, by decide +kernel, by decide +kernel, by decide +kernel⟩
theorem vi_X5_frights : VI yX5_frights cX5_frights 7 (some .int) 2 := ⟨tb_in (i := 1238) (by decide +kernel) rfl, tb_in (i := 1239) (by decide +kernel) rfl, ii_X5, tb_in (i := 1240) (by decide +kernel) rfl, by decide +kernel, by decide +kernel, by decide +kernel⟩
theorem vi_X5_kinds : VI yX5_kinds cX5_kinds 6 (some .int) 2 := ⟨tb_in (i := 1253) (by decide +kernel) rfl, tb_in (i := 1254) (by decide +kernel) rfl, ii_X5, tb_in (i := 1255) (by decide +kernel) rfl, by decide +kernel, by decide +kernel, by decide +kernel⟩
theorem vi_X5_whom : VI yX5_whom cX5_whom 6 (some .int) 1 := ⟨tb_in (i := 1257) (by decide +kernel) rfl, tb_in (i := 1258) (by decide +kernel) rfl, ii_X5, tb_in (i := 1259) (by decide +kernel) rfl, by decide +kernel, by decide +kernel, by decide +kernel⟩
theorem vi_X5_beginTurn : VI yX5_beginTurn cX5_beginTurn 2 none 1 := ⟨tb_in (i := 1267) (by decide +kernel) rfl, tb_in (i := 66) (by decide +kernel) rfl, ii_X5, tb_in (i := 1268) (by decide +kernel) rfl, by decide +kernel, by decide +kernel, by decide +kernel⟩
theorem vi_X5_take : VI yX5_take cX5_take 4 none 2 := ⟨tb_in (i := 1271) (by decide +kernel) rfl, tb_in (i := 67) (by decide +kernel) rfl, ii_X5, tb_in (i := 1272) (by decide +kernel) rfl, by decide +kernel, by decide +kernel, by decide +kernel⟩
theorem vi_X5_duel : VI yX5_duel cX5_duel 6 (some .int) 1 := ⟨tb_in (i := 1261) (by decide +kernel) rfl, tb_in (i := 1262) (by decide +kernel) rfl, ii_X5, tb_in (i := 1263) (by decide +kernel) rfl, by decide +kernel, by decide +kernel, by decide +kernel⟩
theorem si_X5_divisor : SI yX5_divisor cX5_divisor 10 (some .long) 2 := ⟨tb_in (i := 1286) (by decide +kernel) rfl, ii_X5, tb_in (i := 1287) (by decide +kernel) rfl, by decide +kernel, by decide +kernel, by decide +kernel⟩
theorem vi_X5_tellParts : VI yX5_tellParts cX5_tellParts 7 (some .int) 2 := ⟨tb_in (i := 1283) (by decide +kernel) rfl, tb_in (i := 69) (by decide +kernel) rfl, ii_X5, tb_in (i := 1284) (by decide +kernel) rfl, by decide +kernel, by decide +kernel, by decide +kernel⟩
theorem vi_X5_isDrawn : VI yX5_isDrawn cX5_isDrawn 3 (some .boolean) 0 := ⟨tb_in (i := 1279) (by decide +kernel) rfl, tb_in (i := 68) (by decide +kernel) rfl, ii_X5, tb_in (i := 1280) (by decide +kernel) rfl, by decide +kernel, by decide +kernel, by decide +kernel⟩
theorem vi_X5_odds : VI yX5_odds cX5_odds 6 (some .int) 1 := ⟨tb_in (i := 1274) (by decide +kernel) rfl, tb_in (i := 1275) (by decide +kernel) rfl, ii_X5, tb_in (i := 1276) (by decide +kernel) rfl, by decide +kernel, by decide +kernel, by decide +kernel⟩
theorem vi_X5_mid : VI yX5_mid cX5_mid 5 (some .int) 0 := ⟨tb_in (i := 1289) (by decide +kernel) rfl, tb_in (i := 1290) (by decide +kernel) rfl, ii_X5, tb_in (i := 1291) (by decide +kernel) rfl, by decide +kernel, by decide +kernel, by decide +kernel⟩
theorem si_X5_nth : SI yX5_nth cX5_nth 4 (some .int) 2 := ⟨tb_in (i := 1301) (by decide +kernel) rfl, ii_X5, tb_in (i := 1302) (by decide +kernel) rfl, by decide +kernel, by decide +kernel, by decide +kernel⟩
theorem vi_X5_lots : VI yX5_lots cX5_lots 6 (some .int) 1 := ⟨tb_in (i := 1293) (by decide +kernel) rfl, tb_in (i := 1294) (by decide +kernel) rfl, ii_X5, tb_in (i := 1295) (by decide +kernel) rfl, by decide +kernel, by decide +kernel, by decide +kernel⟩
theorem vi_X5_asked : VI yX5_asked cX5_asked 1 (some .int) 0 := ⟨tb_in (i := 1304) (by decide +kernel) rfl, tb_in (i := 1305) (by decide +kernel) rfl, ii_X5, tb_in (i := 1306) (by decide +kernel) rfl, by decide +kernel, by decide +kernel, by decide +kernel⟩
theorem vi_X5_upper : VI yX5_upper cX5_upper 1 (some .long) 0 := ⟨tb_in (i := 1308) (by decide +kernel) rfl, tb_in (i := 1309) (by decide +kernel) rfl, ii_X5, tb_in (i := 1310) (by decide +kernel) rfl, by decide +kernel, by decide +kernel, by decide +kernel⟩
theorem vi_X5_lower : VI yX5_lower cX5_lower 1 (some .long) 0 := ⟨tb_in (i := 1312) (by decide +kernel) rfl, tb_in (i := 1313) (by decide +kernel) rfl, ii_X5, tb_in (i := 1314) (by decide +kernel) rfl, by decide +kernel, by decide +kernel, by decide +kernel⟩
theorem vi_X5_clerks : VI yX5_clerks cX5_clerks 3 (some .int) 0 := ⟨tb_in (i := 1326) (by decide +kernel) rfl, tb_in (i := 71) (by decide +kernel) rfl, ii_X5, tb_in (i := 1327) (by decide +kernel) rfl, by decide +kernel, by decide +kernel, by decide +kernel⟩
theorem vi_X5_thereOf : VI yX5_thereOf cX5_thereOf 4 (some .int) 1 := ⟨tb_in (i := 1330) (by decide +kernel) rfl, tb_in (i := 72) (by decide +kernel) rfl, ii_X5, tb_in (i := 1331) (by decide +kernel) rfl, by decide +kernel, by decide +kernel, by decide +kernel⟩
theorem vi_X5_countOf : VI yX5_countOf cX5_countOf 2 (some .int) 1 := ⟨tb_in (i := 1322) (by decide +kernel) rfl, tb_in (i := 70) (by decide +kernel) rfl, ii_X5, tb_in (i := 1323) (by decide +kernel) rfl, by decide +kernel, by decide +kernel, by decide +kernel⟩
theorem vi_X5_count : VI yX5_count cX5_count 2 (some .int) 1 := ⟨tb_in (i := 1316) (by decide +kernel) rfl, tb_in (i := 1317) (by decide +kernel) rfl, ii_X5, tb_in (i := 1318) (by decide +kernel) rfl, by decide +kernel, by decide +kernel, by decide +kernel⟩
theorem vi_X5_applause : VI yX5_applause cX5_applause 1 (some .int) 0 := ⟨tb_in (i := 1333) (by decide +kernel) rfl, tb_in (i := 1334) (by decide +kernel) rfl, ii_X5, tb_in (i := 1335) (by decide +kernel) rfl, by decide +kernel, by decide +kernel, by decide +kernel⟩
theorem vi_X5_finding : VI yX5_finding cX5_finding 1 (some .int) 0 := ⟨tb_in (i := 1337) (by decide +kernel) rfl, tb_in (i := 1338) (by decide +kernel) rfl, ii_X5, tb_in (i := 1339) (by decide +kernel) rfl, by decide +kernel, by decide +kernel, by decide +kernel⟩
theorem vi_X5_findings : VI yX5_findings cX5_findings 2 (some .int) 1 := ⟨tb_in (i := 1341) (by decide +kernel) rfl, tb_in (i := 1342) (by decide +kernel) rfl, ii_X5, tb_in (i := 1343) (by decide +kernel) rfl, by decide +kernel, by decide +kernel, by decide +kernel⟩
theorem vi_X5_digest : VI yX5_digest cX5_digest 5 (some .long) 0 := ⟨tb_in (i := 1345) (by decide +kernel) rfl, tb_in (i := 1346) (by decide +kernel) rfl, ii_X5, tb_in (i := 1347) (by decide +kernel) rfl, by decide +kernel, by decide +kernel, by decide +kernel⟩
theorem si_J6_bitCount_0f7a4 : SI yJ6_bitCount_0f7a4 cJ6_bitCount_0f7a4 1 (some .int) 1 := ⟨tb_in (i := 481) (by decide +kernel) rfl, ii_J6, tb_in (i := 482) (by decide +kernel) rfl, by decide +kernel, by decide +kernel, by decide +kernel⟩
theorem si_J9_floorMod_7cf53 : SI yJ9_floorMod_7cf53 cJ9_floorMod_7cf53 3 (some .int) 2 := ⟨tb_in (i := 781) (by decide +kernel) rfl, ii_J9, tb_in (i := 782) (by decide +kernel) rfl, by decide +kernel, by decide +kernel, by decide +kernel⟩
theorem si_J9_abs_067f4 : SI yJ9_abs_067f4 cJ9_abs_067f4 2 (some .long) 1 := ⟨tb_in (i := 684) (by decide +kernel) rfl, ii_J9, tb_in (i := 685) (by decide +kernel) rfl, by decide +kernel, by decide +kernel, by decide +kernel⟩
theorem si_J9_max_7cf53 : SI yJ9_max_7cf53 cJ9_max_7cf53 2 (some .int) 2 := ⟨tb_in (i := 467) (by decide +kernel) rfl, ii_J9, tb_in (i := 468) (by decide +kernel) rfl, by decide +kernel, by decide +kernel, by decide +kernel⟩
theorem si_J9_min_7cf53 : SI yJ9_min_7cf53 cJ9_min_7cf53 2 (some .int) 2 := ⟨tb_in (i := 630) (by decide +kernel) rfl, ii_J9, tb_in (i := 631) (by decide +kernel) rfl, by decide +kernel, by decide +kernel, by decide +kernel⟩
theorem si_J7_fill_53178 : SI yJ7_fill_53178 cJ7_fill_53178 4 none 2 := ⟨tb_in (i := 101) (by decide +kernel) rfl, ii_J7, tb_in (i := 102) (by decide +kernel) rfl, by decide +kernel, by decide +kernel, by decide +kernel⟩
theorem mc_X3_40 : Cond.methodLink "CalledStalls$Shelf" 40 arraycopyName ∈ TB := tb_in (i := 393) (by decide +kernel) rfl
theorem mc_X0_25 : Cond.methodLink "CalledStalls$Night" 25 arraycopyName ∈ TB := tb_in (i := 449) (by decide +kernel) rfl
theorem mc_X2_121 : Cond.methodLink "CalledStalls$Search" 121 arraycopyName ∈ TB := tb_in (i := 645) (by decide +kernel) rfl
theorem ac_nat : Cond.native arraycopyName ∈ TB := tb_in (i := 395) (by decide +kernel) rfl
theorem ac_stat : Cond.static arraycopyName ∈ TB := tb_in (i := 394) (by decide +kernel) rfl
theorem ac_ini : Cond.initialized "java/lang/System" ∈ TB := tb_in (i := 81) (by decide +kernel) rfl
