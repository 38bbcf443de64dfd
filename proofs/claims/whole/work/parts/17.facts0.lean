abbrev zm12 : zPM := (⟨"AdjectiveCoupons", "isWithin", "(III)Z"⟩, prog_1_method_37_code, 3, (Option.some Jvm.ClassFile.FieldType.boolean), 0)
set_option maxRecDepth 100000 in
theorem zm12_get : zpms[12]? = some zm12 := rfl
theorem na12 : zna[12]? = some 3 := rfl
abbrev zm14 : zPM := (⟨"AdjectiveCoupons$Row", "set", "(II)V"⟩, prog_6_method_3_code, 3, (Option.none : Option Jvm.ClassFile.FieldType), 2)
set_option maxRecDepth 100000 in
theorem zm14_get : zpms[14]? = some zm14 := rfl
theorem na14 : zna[14]? = some 2 := rfl
abbrev zm15 : zPM := (⟨"AdjectiveCoupons", "erase", "()I"⟩, prog_1_method_3_code, 2, (Option.some Jvm.ClassFile.FieldType.int), 0)
set_option maxRecDepth 100000 in
theorem zm15_get : zpms[15]? = some zm15 := rfl
theorem na15 : zna[15]? = some 0 := rfl
abbrev zm18 : zPM := (⟨"AdjectiveCoupons$Row", "become", "(LAdjectiveCoupons$Row;)V"⟩, prog_6_method_6_code, 3, (Option.none : Option Jvm.ClassFile.FieldType), 2)
set_option maxRecDepth 100000 in
theorem zm18_get : zpms[18]? = some zm18 := rfl
theorem na18 : zna[18]? = some 1 := rfl
abbrev zm21 : zPM := (⟨"AdjectiveCoupons$Row", "at", "(I)I"⟩, prog_6_method_2_code, 2, (Option.some Jvm.ClassFile.FieldType.int), 2)
set_option maxRecDepth 100000 in
theorem zm21_get : zpms[21]? = some zm21 := rfl
theorem na21 : zna[21]? = some 1 := rfl
abbrev zm42 : zPM := (⟨"AdjectiveCoupons$Told", "forgetAll", "()V"⟩, prog_9_method_2_code, 1, (Option.none : Option Jvm.ClassFile.FieldType), 3)
set_option maxRecDepth 100000 in
theorem zm42_get : zpms[42]? = some zm42 := rfl
theorem na42 : zna[42]? = some 0 := rfl
abbrev zm45 : zPM := (⟨"AdjectiveCoupons$Row", "clear", "()V"⟩, prog_6_method_5_code, 2, (Option.none : Option Jvm.ClassFile.FieldType), 2)
set_option maxRecDepth 100000 in
theorem zm45_get : zpms[45]? = some zm45 := rfl
theorem na45 : zna[45]? = some 0 := rfl
abbrev zm46 : zPM := (⟨"AdjectiveCoupons$Past", "forgetAll", "()V"⟩, prog_4_method_2_code, 1, (Option.none : Option Jvm.ClassFile.FieldType), 5)
set_option maxRecDepth 100000 in
theorem zm46_get : zpms[46]? = some zm46 := rfl
theorem na46 : zna[46]? = some 0 := rfl
abbrev zm57 : zPM := (⟨"AdjectiveCoupons", "isSuch", "(II)Z"⟩, prog_1_method_41_code, 2, (Option.some Jvm.ClassFile.FieldType.boolean), 0)
set_option maxRecDepth 100000 in
theorem zm57_get : zpms[57]? = some zm57 := rfl
theorem na57 : zna[57]? = some 2 := rfl
abbrev zm63 : zPM := (⟨"AdjectiveCoupons", "isAdjective", "(I)Z"⟩, prog_1_method_38_code, 1, (Option.some Jvm.ClassFile.FieldType.boolean), 0)
set_option maxRecDepth 100000 in
theorem zm63_get : zpms[63]? = some zm63 := rfl
theorem na63 : zna[63]? = some 1 := rfl
abbrev zm64 : zPM := (⟨"AdjectiveCoupons", "isIn", "(II)Z"⟩, prog_1_method_39_code, 2, (Option.some Jvm.ClassFile.FieldType.boolean), 0)
set_option maxRecDepth 100000 in
theorem zm64_get : zpms[64]? = some zm64 := rfl
theorem na64 : zna[64]? = some 2 := rfl
abbrev zm65 : zPM := (⟨"AdjectiveCoupons$Prices", "isFree", "(IZ)Z"⟩, prog_5_method_6_code, 3, (Option.some Jvm.ClassFile.FieldType.boolean), 7)
set_option maxRecDepth 100000 in
theorem zm65_get : zpms[65]? = some zm65 := rfl
theorem na65 : zna[65]? = some 2 := rfl
abbrev zm66 : zPM := (⟨"AdjectiveCoupons$Prices", "priceOfOne", "(II)I"⟩, prog_5_method_7_code, 4, (Option.some Jvm.ClassFile.FieldType.int), 7)
set_option maxRecDepth 100000 in
theorem zm66_get : zpms[66]? = some zm66 := rfl
theorem na66 : zna[66]? = some 2 := rfl
abbrev zm67 : zPM := (⟨"AdjectiveCoupons$Prices", "letOff", "(IZI)I"⟩, prog_5_method_8_code, 3, (Option.some Jvm.ClassFile.FieldType.int), 7)
set_option maxRecDepth 100000 in
theorem zm67_get : zpms[67]? = some zm67 := rfl
theorem na67 : zna[67]? = some 3 := rfl
abbrev zm70 : zPM := (⟨"AdjectiveCoupons", "wipe", "()I"⟩, prog_1_method_10_code, 2, (Option.some Jvm.ClassFile.FieldType.int), 0)
set_option maxRecDepth 100000 in
theorem zm70_get : zpms[70]? = some zm70 := rfl
theorem na70 : zna[70]? = some 0 := rfl
abbrev zm79 : zPM := (⟨"AdjectiveCoupons$Past", "pick", "([LAdjectiveCoupons$State;I)LAdjectiveCoupons$State;"⟩, prog_4_method_7_code, 2, (Option.some (Jvm.ClassFile.FieldType.object "AdjectiveCoupons$State")), 5)
set_option maxRecDepth 100000 in
theorem zm79_get : zpms[79]? = some zm79 := rfl
theorem na79 : zna[79]? = some 2 := rfl
abbrev zm86 : zPM := (⟨"AdjectiveCoupons", "halvesNextWeek", "(III)I"⟩, prog_1_method_40_code, 4, (Option.some Jvm.ClassFile.FieldType.int), 0)
set_option maxRecDepth 100000 in
theorem zm86_get : zpms[86]? = some zm86 := rfl
theorem na86 : zna[86]? = some 3 := rfl
abbrev zm111 : zPM := (⟨"java/lang/Integer", "bitCount", "(I)I"⟩, prog_13_method_49_code, 1, (Option.some Jvm.ClassFile.FieldType.int), 12)
set_option maxRecDepth 100000 in
theorem zm111_get : zpms[111]? = some zm111 := rfl
theorem na111 : zna[111]? = some 1 := rfl
abbrev zm120 : zPM := (⟨"AdjectiveCoupons$Drafts", "at", "(I)LAdjectiveCoupons$Line;"⟩, prog_2_method_3_code, 3, (Option.some (Jvm.ClassFile.FieldType.object "AdjectiveCoupons$Line")), 8)
set_option maxRecDepth 100000 in
theorem zm120_get : zpms[120]? = some zm120 := rfl
theorem na120 : zna[120]? = some 1 := rfl
abbrev zm121 : zPM := (⟨"AdjectiveCoupons", "burn", "()I"⟩, prog_1_method_27_code, 2, (Option.some Jvm.ClassFile.FieldType.int), 0)
set_option maxRecDepth 100000 in
theorem zm121_get : zpms[121]? = some zm121 := rfl
theorem na121 : zna[121]? = some 0 := rfl
abbrev zm143 : zPM := (⟨"AdjectiveCoupons$Row", "sum", "()I"⟩, prog_6_method_7_code, 3, (Option.some Jvm.ClassFile.FieldType.int), 2)
set_option maxRecDepth 100000 in
theorem zm143_get : zpms[143]? = some zm143 := rfl
theorem na143 : zna[143]? = some 0 := rfl
abbrev zm146 : zPM := (⟨"AdjectiveCouponsModel", "in", "(JJJ)Z"⟩, prog_12_method_2_code, 6, (Option.some Jvm.ClassFile.FieldType.boolean), 10)
set_option maxRecDepth 100000 in
theorem zm146_get : zpms[146]? = some zm146 := rfl
theorem na146 : zna[146]? = some 3 := rfl
abbrev zm147 : zPM := (⟨"AdjectiveCouponsModel", "erase", "()I"⟩, prog_12_method_6_code, 2, (Option.some Jvm.ClassFile.FieldType.int), 10)
set_option maxRecDepth 100000 in
theorem zm147_get : zpms[147]? = some zm147 := rfl
theorem na147 : zna[147]? = some 0 := rfl
abbrev zm150 : zPM := (⟨"AdjectiveCouponsModel", "sort", "(I)I"⟩, prog_12_method_7_code, 1, (Option.some Jvm.ClassFile.FieldType.int), 10)
set_option maxRecDepth 100000 in
theorem zm150_get : zpms[150]? = some zm150 := rfl
theorem na150 : zna[150]? = some 1 := rfl
abbrev zm154 : zPM := (⟨"AdjectiveCouponsModel", "isWord", "(III)Z"⟩, prog_12_method_9_code, 6, (Option.some Jvm.ClassFile.FieldType.boolean), 10)
set_option maxRecDepth 100000 in
theorem zm154_get : zpms[154]? = some zm154 := rfl
theorem na154 : zna[154]? = some 3 := rfl
abbrev zm162 : zPM := (⟨"AdjectiveCouponsModel", "addWord", "(II)V"⟩, prog_12_method_20_code, 3, (Option.none : Option Jvm.ClassFile.FieldType), 10)
set_option maxRecDepth 100000 in
theorem zm162_get : zpms[162]? = some zm162 := rfl
theorem na162 : zna[162]? = some 2 := rfl
abbrev zm163 : zPM := (⟨"AdjectiveCouponsModel", "addOne", "(II)V"⟩, prog_12_method_21_code, 3, (Option.none : Option Jvm.ClassFile.FieldType), 10)
set_option maxRecDepth 100000 in
theorem zm163_get : zpms[163]? = some zm163 := rfl
theorem na163 : zna[163]? = some 2 := rfl
abbrev zm164 : zPM := (⟨"AdjectiveCouponsModel", "addChange", "(I)V"⟩, prog_12_method_22_code, 3, (Option.none : Option Jvm.ClassFile.FieldType), 10)
set_option maxRecDepth 100000 in
theorem zm164_get : zpms[164]? = some zm164 := rfl
theorem na164 : zna[164]? = some 1 := rfl
abbrev zm165 : zPM := (⟨"AdjectiveCouponsModel", "clear", "()V"⟩, prog_12_method_19_code, 1, (Option.none : Option Jvm.ClassFile.FieldType), 10)
set_option maxRecDepth 100000 in
theorem zm165_get : zpms[165]? = some zm165 := rfl
theorem na165 : zna[165]? = some 0 := rfl
abbrev zm168 : zPM := (⟨"AdjectiveCouponsModel", "kindIn", "(II)I"⟩, prog_12_method_27_code, 7, (Option.some Jvm.ClassFile.FieldType.int), 10)
set_option maxRecDepth 100000 in
theorem zm168_get : zpms[168]? = some zm168 := rfl
theorem na168 : zna[168]? = some 2 := rfl
abbrev zm171 : zPM := (⟨"AdjectiveCouponsModel", "saidBy", "(I)I"⟩, prog_12_method_40_code, 4, (Option.some Jvm.ClassFile.FieldType.int), 10)
set_option maxRecDepth 100000 in
theorem zm171_get : zpms[171]? = some zm171 := rfl
theorem na171 : zna[171]? = some 1 := rfl
abbrev zm173 : zPM := (⟨"AdjectiveCouponsModel", "layLine", "()V"⟩, prog_12_method_28_code, 2, (Option.none : Option Jvm.ClassFile.FieldType), 10)
set_option maxRecDepth 100000 in
theorem zm173_get : zpms[173]? = some zm173 := rfl
theorem na173 : zna[173]? = some 0 := rfl
abbrev zm177 : zPM := (⟨"AdjectiveCouponsModel", "has", "(II)Z"⟩, prog_12_method_3_code, 2, (Option.some Jvm.ClassFile.FieldType.boolean), 10)
set_option maxRecDepth 100000 in
theorem zm177_get : zpms[177]? = some zm177 := rfl
theorem na177 : zna[177]? = some 2 := rfl
abbrev zm179 : zPM := (⟨"AdjectiveCouponsModel", "wasAhead", "(I)Z"⟩, prog_12_method_32_code, 4, (Option.some Jvm.ClassFile.FieldType.boolean), 10)
set_option maxRecDepth 100000 in
theorem zm179_get : zpms[179]? = some zm179 := rfl
theorem na179 : zna[179]? = some 1 := rfl
abbrev zm181 : zPM := (⟨"AdjectiveCouponsModel", "wipe", "()I"⟩, prog_12_method_44_code, 2, (Option.some Jvm.ClassFile.FieldType.int), 10)
set_option maxRecDepth 100000 in
theorem zm181_get : zpms[181]? = some zm181 := rfl
theorem na181 : zna[181]? = some 0 := rfl
abbrev zm186 : zPM := (⟨"AdjectiveCouponsModel", "hasHole", "()Z"⟩, prog_12_method_36_code, 3, (Option.some Jvm.ClassFile.FieldType.boolean), 10)
set_option maxRecDepth 100000 in
theorem zm186_get : zpms[186]? = some zm186 := rfl
theorem na186 : zna[186]? = some 0 := rfl
abbrev zm189 : zPM := (⟨"AdjectiveCouponsModel", "copy", "(II)V"⟩, prog_12_method_48_code, 4, (Option.none : Option Jvm.ClassFile.FieldType), 10)
set_option maxRecDepth 100000 in
theorem zm189_get : zpms[189]? = some zm189 := rfl
theorem na189 : zna[189]? = some 2 := rfl
abbrev zm190 : zPM := (⟨"AdjectiveCouponsModel", "worthOf", "()I"⟩, prog_12_method_38_code, 3, (Option.some Jvm.ClassFile.FieldType.int), 10)
set_option maxRecDepth 100000 in
theorem zm190_get : zpms[190]? = some zm190 := rfl
theorem na190 : zna[190]? = some 0 := rfl
abbrev zm192 : zPM := (⟨"AdjectiveCouponsModel", "rationed", "(II)I"⟩, prog_12_method_51_code, 4, (Option.some Jvm.ClassFile.FieldType.int), 10)
set_option maxRecDepth 100000 in
theorem zm192_get : zpms[192]? = some zm192 := rfl
theorem na192 : zna[192]? = some 2 := rfl
abbrev zm203 : zPM := (⟨"AdjectiveCouponsModel", "factorial", "(I)I"⟩, prog_12_method_60_code, 3, (Option.some Jvm.ClassFile.FieldType.int), 10)
set_option maxRecDepth 100000 in
theorem zm203_get : zpms[203]? = some zm203 := rfl
theorem na203 : zna[203]? = some 1 := rfl
abbrev zm206 : zPM := (⟨"AdjectiveCouponsModel", "isAheadOfBest", "()Z"⟩, prog_12_method_62_code, 2, (Option.some Jvm.ClassFile.FieldType.boolean), 10)
set_option maxRecDepth 100000 in
theorem zm206_get : zpms[206]? = some zm206 := rfl
theorem na206 : zna[206]? = some 0 := rfl
abbrev zm210 : zPM := (⟨"AdjectiveCouponsModel", "bits", "(I)I"⟩, prog_12_method_4_code, 3, (Option.some Jvm.ClassFile.FieldType.int), 10)
set_option maxRecDepth 100000 in
theorem zm210_get : zpms[210]? = some zm210 := rfl
theorem na210 : zna[210]? = some 1 := rfl
abbrev zm215 : zPM := (⟨"AdjectiveCouponsModel", "burn", "()I"⟩, prog_12_method_73_code, 2, (Option.some Jvm.ClassFile.FieldType.int), 10)
set_option maxRecDepth 100000 in
theorem zm215_get : zpms[215]? = some zm215 := rfl
theorem na215 : zna[215]? = some 0 := rfl
abbrev zm217 : zPM := (⟨"AdjectiveCouponsModel", "layDraft", "(I)V"⟩, prog_12_method_29_code, 3, (Option.none : Option Jvm.ClassFile.FieldType), 10)
set_option maxRecDepth 100000 in
theorem zm217_get : zpms[217]? = some zm217 := rfl
theorem na217 : zna[217]? = some 1 := rfl
abbrev zm227 : zPM := (⟨"AdjectiveCouponsModel", "netOf", "(I)I"⟩, prog_12_method_83_code, 4, (Option.some Jvm.ClassFile.FieldType.int), 10)
set_option maxRecDepth 100000 in
theorem zm227_get : zpms[227]? = some zm227 := rfl
theorem na227 : zna[227]? = some 1 := rfl
abbrev zm230 : zPM := (⟨"AdjectiveCouponsModel", "count", "(I)I"⟩, prog_12_method_87_code, 5, (Option.some Jvm.ClassFile.FieldType.int), 10)
set_option maxRecDepth 100000 in
theorem zm230_get : zpms[230]? = some zm230 := rfl
theorem na230 : zna[230]? = some 1 := rfl
abbrev zm13 : zPM := (⟨"AdjectiveCoupons$Text", "append", "(I)Z"⟩, prog_8_method_2_code, 2, (Option.some Jvm.ClassFile.FieldType.boolean), 1)
set_option maxRecDepth 100000 in
theorem zm13_get : zpms[13]? = some zm13 := rfl
theorem na13 : zna[13]? = some 1 := rfl
abbrev zm17 : zPM := (⟨"AdjectiveCoupons$Told", "become", "(LAdjectiveCoupons$Told;)V"⟩, prog_9_method_3_code, 2, (Option.none : Option Jvm.ClassFile.FieldType), 3)
set_option maxRecDepth 100000 in
theorem zm17_get : zpms[17]? = some zm17 := rfl
theorem na17 : zna[17]? = some 1 := rfl
abbrev zm22 : zPM := (⟨"AdjectiveCoupons$Text", "sortOf", "(I)I"⟩, prog_8_method_10_code, 1, (Option.some Jvm.ClassFile.FieldType.int), 1)
set_option maxRecDepth 100000 in
theorem zm22_get : zpms[22]? = some zm22 := rfl
theorem na22 : zna[22]? = some 1 := rfl
abbrev zm36 : zPM := (⟨"AdjectiveCoupons$Told", "hasRoomFor", "(I)Z"⟩, prog_9_method_4_code, 2, (Option.some Jvm.ClassFile.FieldType.boolean), 3)
set_option maxRecDepth 100000 in
theorem zm36_get : zpms[36]? = some zm36 := rfl
theorem na36 : zna[36]? = some 1 := rfl
abbrev zm39 : zPM := (⟨"AdjectiveCoupons$Told", "hearChange", "(III)V"⟩, prog_9_method_6_code, 4, (Option.none : Option Jvm.ClassFile.FieldType), 3)
set_option maxRecDepth 100000 in
theorem zm39_get : zpms[39]? = some zm39 := rfl
theorem na39 : zna[39]? = some 3 := rfl
abbrev zm40 : zPM := (⟨"AdjectiveCoupons$Text", "mostIn", "(I)I"⟩, prog_8_method_6_code, 1, (Option.some Jvm.ClassFile.FieldType.int), 1)
set_option maxRecDepth 100000 in
theorem zm40_get : zpms[40]? = some zm40 := rfl
theorem na40 : zna[40]? = some 1 := rfl
abbrev zm41 : zPM := (⟨"AdjectiveCoupons$Told", "hear", "(II)V"⟩, prog_9_method_5_code, 3, (Option.none : Option Jvm.ClassFile.FieldType), 3)
set_option maxRecDepth 100000 in
theorem zm41_get : zpms[41]? = some zm41 := rfl
theorem na41 : zna[41]? = some 2 := rfl
abbrev zm44 : zPM := (⟨"AdjectiveCoupons$State", "begin", "(II)V"⟩, prog_7_method_2_code, 4, (Option.none : Option Jvm.ClassFile.FieldType), 4)
set_option maxRecDepth 100000 in
theorem zm44_get : zpms[44]? = some zm44 := rfl
theorem na44 : zna[44]? = some 2 := rfl
abbrev zm48 : zPM := (⟨"AdjectiveCoupons", "isWord", "(I)Z"⟩, prog_1_method_42_code, 2, (Option.some Jvm.ClassFile.FieldType.boolean), 0)
set_option maxRecDepth 100000 in
theorem zm48_get : zpms[48]? = some zm48 := rfl
theorem na48 : zna[48]? = some 1 := rfl
abbrev zm49 : zPM := (⟨"AdjectiveCoupons$Told", "kindIn", "(II)I"⟩, prog_9_method_8_code, 7, (Option.some Jvm.ClassFile.FieldType.int), 3)
set_option maxRecDepth 100000 in
theorem zm49_get : zpms[49]? = some zm49 := rfl
theorem na49 : zna[49]? = some 2 := rfl
abbrev zm51 : zPM := (⟨"AdjectiveCoupons$State", "timesSaid", "(II)I"⟩, prog_7_method_5_code, 3, (Option.some Jvm.ClassFile.FieldType.int), 4)
set_option maxRecDepth 100000 in
theorem zm51_get : zpms[51]? = some zm51 := rfl
theorem na51 : zna[51]? = some 2 := rfl
abbrev zm53 : zPM := (⟨"AdjectiveCoupons", "isPerson", "(I)Z"⟩, prog_1_method_43_code, 2, (Option.some Jvm.ClassFile.FieldType.boolean), 0)
set_option maxRecDepth 100000 in
theorem zm53_get : zpms[53]? = some zm53 := rfl
theorem na53 : zna[53]? = some 1 := rfl
abbrev zm54 : zPM := (⟨"AdjectiveCoupons$Told", "kindOfOne", "(I)I"⟩, prog_9_method_7_code, 2, (Option.some Jvm.ClassFile.FieldType.int), 3)
set_option maxRecDepth 100000 in
theorem zm54_get : zpms[54]? = some zm54 := rfl
theorem na54 : zna[54]? = some 1 := rfl
abbrev zm62 : zPM := (⟨"AdjectiveCoupons$Line", "wordAt", "(I)I"⟩, prog_3_method_4_code, 2, (Option.some Jvm.ClassFile.FieldType.int), 6)
set_option maxRecDepth 100000 in
theorem zm62_get : zpms[62]? = some zm62 := rfl
theorem na62 : zna[62]? = some 1 := rfl
abbrev zm69 : zPM := (⟨"AdjectiveCoupons$Line", "append", "(I)Z"⟩, prog_3_method_2_code, 2, (Option.some Jvm.ClassFile.FieldType.boolean), 6)
set_option maxRecDepth 100000 in
theorem zm69_get : zpms[69]? = some zm69 := rfl
theorem na69 : zna[69]? = some 1 := rfl
abbrev zm77 : zPM := (⟨"AdjectiveCoupons$Line", "holeCount", "()I"⟩, prog_3_method_6_code, 3, (Option.some Jvm.ClassFile.FieldType.int), 6)
set_option maxRecDepth 100000 in
theorem zm77_get : zpms[77]? = some zm77 := rfl
theorem na77 : zna[77]? = some 0 := rfl
abbrev zm80 : zPM := (⟨"AdjectiveCoupons$State", "become", "(LAdjectiveCoupons$State;)V"⟩, prog_7_method_3_code, 2, (Option.none : Option Jvm.ClassFile.FieldType), 4)
set_option maxRecDepth 100000 in
theorem zm80_get : zpms[80]? = some zm80 := rfl
theorem na80 : zna[80]? = some 1 := rfl
abbrev zm82 : zPM := (⟨"AdjectiveCoupons$Row", "add", "(II)V"⟩, prog_6_method_4_code, 3, (Option.none : Option Jvm.ClassFile.FieldType), 2)
set_option maxRecDepth 100000 in
theorem zm82_get : zpms[82]? = some zm82 := rfl
theorem na82 : zna[82]? = some 2 := rfl
abbrev zm90 : zPM := (⟨"AdjectiveCoupons$State", "debt", "(II)I"⟩, prog_7_method_8_code, 3, (Option.some Jvm.ClassFile.FieldType.int), 4)
set_option maxRecDepth 100000 in
theorem zm90_get : zpms[90]? = some zm90 := rfl
theorem na90 : zna[90]? = some 2 := rfl
abbrev zm91 : zPM := (⟨"AdjectiveCoupons$State", "setDebt", "(III)V"⟩, prog_7_method_9_code, 4, (Option.none : Option Jvm.ClassFile.FieldType), 4)
set_option maxRecDepth 100000 in
theorem zm91_get : zpms[91]? = some zm91 := rfl
theorem na91 : zna[91]? = some 3 := rfl
abbrev zm102 : zPM := (⟨"AdjectiveCoupons$Line", "become", "(LAdjectiveCoupons$Line;)V"⟩, prog_3_method_3_code, 2, (Option.none : Option Jvm.ClassFile.FieldType), 6)
set_option maxRecDepth 100000 in
theorem zm102_get : zpms[102]? = some zm102 := rfl
theorem na102 : zna[102]? = some 1 := rfl
abbrev zm104 : zPM := (⟨"AdjectiveCoupons$Line", "swap", "(II)V"⟩, prog_3_method_11_code, 4, (Option.none : Option Jvm.ClassFile.FieldType), 6)
set_option maxRecDepth 100000 in
theorem zm104_get : zpms[104]? = some zm104 := rfl
theorem na104 : zna[104]? = some 2 := rfl
abbrev zm115 : zPM := (⟨"AdjectiveCoupons$Line", "placeOfHole", "(I)I"⟩, prog_3_method_7_code, 4, (Option.some Jvm.ClassFile.FieldType.int), 6)
set_option maxRecDepth 100000 in
theorem zm115_get : zpms[115]? = some zm115 := rfl
theorem na115 : zna[115]? = some 1 := rfl
abbrev zm116 : zPM := (⟨"AdjectiveCoupons$Line", "change", "(II)V"⟩, prog_3_method_5_code, 3, (Option.none : Option Jvm.ClassFile.FieldType), 6)
set_option maxRecDepth 100000 in
theorem zm116_get : zpms[116]? = some zm116 := rfl
theorem na116 : zna[116]? = some 2 := rfl
abbrev zm127 : zPM := (⟨"AdjectiveCoupons$Drafts", "sumOf", "(LAdjectiveCoupons$Row;I)I"⟩, prog_2_method_11_code, 5, (Option.some Jvm.ClassFile.FieldType.int), 8)
set_option maxRecDepth 100000 in
theorem zm127_get : zpms[127]? = some zm127 := rfl
theorem na127 : zna[127]? = some 2 := rfl
abbrev zm132 : zPM := (⟨"AdjectiveCoupons$Drafts", "canPay", "(IIII)Z"⟩, prog_2_method_9_code, 7, (Option.some Jvm.ClassFile.FieldType.boolean), 8)
set_option maxRecDepth 100000 in
theorem zm132_get : zpms[132]? = some zm132 := rfl
theorem na132 : zna[132]? = some 4 := rfl
abbrev zm137 : zPM := (⟨"AdjectiveCoupons", "isTradeLeft", "(II)Z"⟩, prog_1_method_48_code, 4, (Option.some Jvm.ClassFile.FieldType.boolean), 0)
set_option maxRecDepth 100000 in
theorem zm137_get : zpms[137]? = some zm137 := rfl
theorem na137 : zna[137]? = some 2 := rfl
abbrev zm142 : zPM := (⟨"AdjectiveCoupons", "count", "(I)I"⟩, prog_1_method_36_code, 2, (Option.some Jvm.ClassFile.FieldType.int), 0)
set_option maxRecDepth 100000 in
theorem zm142_get : zpms[142]? = some zm142 := rfl
theorem na142 : zna[142]? = some 1 := rfl
abbrev zm145 : zPM := (⟨"AdjectiveCouponsModel", "write", "(I)I"⟩, prog_12_method_5_code, 2, (Option.some Jvm.ClassFile.FieldType.int), 10)
set_option maxRecDepth 100000 in
theorem zm145_get : zpms[145]? = some zm145 := rfl
theorem na145 : zna[145]? = some 1 := rfl
abbrev zm149 : zPM := (⟨"AdjectiveCouponsModel", "token", "()V"⟩, prog_12_method_8_code, 1, (Option.none : Option Jvm.ClassFile.FieldType), 10)
set_option maxRecDepth 100000 in
theorem zm149_get : zpms[149]? = some zm149 := rfl
theorem na149 : zna[149]? = some 0 := rfl
abbrev zm153 : zPM := (⟨"AdjectiveCouponsModel", "kindWord", "()I"⟩, prog_12_method_10_code, 1, (Option.some Jvm.ClassFile.FieldType.int), 10)
set_option maxRecDepth 100000 in
theorem zm153_get : zpms[153]? = some zm153 := rfl
theorem na153 : zna[153]? = some 0 := rfl
abbrev zm155 : zPM := (⟨"AdjectiveCouponsModel", "folkWord", "()I"⟩, prog_12_method_11_code, 1, (Option.some Jvm.ClassFile.FieldType.int), 10)
set_option maxRecDepth 100000 in
theorem zm155_get : zpms[155]? = some zm155 := rfl
theorem na155 : zna[155]? = some 0 := rfl
abbrev zm156 : zPM := (⟨"AdjectiveCouponsModel", "isKindWord", "(I)Z"⟩, prog_12_method_14_code, 1, (Option.some Jvm.ClassFile.FieldType.boolean), 10)
set_option maxRecDepth 100000 in
theorem zm156_get : zpms[156]? = some zm156 := rfl
theorem na156 : zna[156]? = some 1 := rfl
abbrev zm157 : zPM := (⟨"AdjectiveCouponsModel", "isFolkWord", "(I)Z"⟩, prog_12_method_15_code, 1, (Option.some Jvm.ClassFile.FieldType.boolean), 10)
set_option maxRecDepth 100000 in
theorem zm157_get : zpms[157]? = some zm157 := rfl
theorem na157 : zna[157]? = some 1 := rfl
abbrev zm167 : zPM := (⟨"AdjectiveCouponsModel", "isWordThere", "(I)Z"⟩, prog_12_method_25_code, 2, (Option.some Jvm.ClassFile.FieldType.boolean), 10)
set_option maxRecDepth 100000 in
theorem zm167_get : zpms[167]? = some zm167 := rfl
theorem na167 : zna[167]? = some 1 := rfl
abbrev zm170 : zPM := (⟨"AdjectiveCouponsModel", "isOne", "(I)Z"⟩, prog_12_method_26_code, 2, (Option.some Jvm.ClassFile.FieldType.boolean), 10)
set_option maxRecDepth 100000 in
theorem zm170_get : zpms[170]? = some zm170 := rfl
theorem na170 : zna[170]? = some 1 := rfl
abbrev zm175 : zPM := (⟨"AdjectiveCouponsModel", "layKinds", "(I)V"⟩, prog_12_method_30_code, 3, (Option.none : Option Jvm.ClassFile.FieldType), 10)
set_option maxRecDepth 100000 in
theorem zm175_get : zpms[175]? = some zm175 := rfl
theorem na175 : zna[175]? = some 1 := rfl
abbrev zm178 : zPM := (⟨"AdjectiveCouponsModel", "isAdjective", "(I)Z"⟩, prog_12_method_31_code, 2, (Option.some Jvm.ClassFile.FieldType.boolean), 10)
set_option maxRecDepth 100000 in
theorem zm178_get : zpms[178]? = some zm178 := rfl
theorem na178 : zna[178]? = some 1 := rfl
abbrev zm182 : zPM := (⟨"AdjectiveCouponsModel", "line", "(I)I"⟩, prog_12_method_45_code, 2, (Option.some Jvm.ClassFile.FieldType.int), 10)
set_option maxRecDepth 100000 in
theorem zm182_get : zpms[182]? = some zm182 := rfl
theorem na182 : zna[182]? = some 1 := rfl
abbrev zm188 : zPM := (⟨"AdjectiveCouponsModel", "keepPast", "()V"⟩, prog_12_method_49_code, 2, (Option.none : Option Jvm.ClassFile.FieldType), 10)
set_option maxRecDepth 100000 in
theorem zm188_get : zpms[188]? = some zm188 := rfl
theorem na188 : zna[188]? = some 0 := rfl
abbrev zm197 : zPM := (⟨"AdjectiveCouponsModel", "undo", "()I"⟩, prog_12_method_57_code, 1, (Option.some Jvm.ClassFile.FieldType.int), 10)
set_option maxRecDepth 100000 in
theorem zm197_get : zpms[197]? = some zm197 := rfl
theorem na197 : zna[197]? = some 0 := rfl
abbrev zm198 : zPM := (⟨"AdjectiveCouponsModel", "keep", "(I)I"⟩, prog_12_method_58_code, 2, (Option.some Jvm.ClassFile.FieldType.int), 10)
set_option maxRecDepth 100000 in
theorem zm198_get : zpms[198]? = some zm198 := rfl
theorem na198 : zna[198]? = some 1 := rfl
abbrev zm199 : zPM := (⟨"AdjectiveCouponsModel", "back", "(I)I"⟩, prog_12_method_59_code, 2, (Option.some Jvm.ClassFile.FieldType.int), 10)
set_option maxRecDepth 100000 in
theorem zm199_get : zpms[199]? = some zm199 := rfl
theorem na199 : zna[199]? = some 1 := rfl
abbrev zm201 : zPM := (⟨"AdjectiveCouponsModel", "canBeOrdered", "()Z"⟩, prog_12_method_64_code, 1, (Option.some Jvm.ClassFile.FieldType.boolean), 10)
set_option maxRecDepth 100000 in
theorem zm201_get : zpms[201]? = some zm201 := rfl
theorem na201 : zna[201]? = some 0 := rfl
abbrev zm204 : zPM := (⟨"AdjectiveCouponsModel", "layOrder", "(I)V"⟩, prog_12_method_61_code, 8, (Option.none : Option Jvm.ClassFile.FieldType), 10)
set_option maxRecDepth 100000 in
theorem zm204_get : zpms[204]? = some zm204 := rfl
theorem na204 : zna[204]? = some 1 := rfl
abbrev zm209 : zPM := (⟨"AdjectiveCouponsModel", "areWords", "(I)Z"⟩, prog_12_method_68_code, 4, (Option.some Jvm.ClassFile.FieldType.boolean), 10)
set_option maxRecDepth 100000 in
theorem zm209_get : zpms[209]? = some zm209 := rfl
theorem na209 : zna[209]? = some 1 := rfl
abbrev zm211 : zPM := (⟨"AdjectiveCouponsModel", "layWithout", "(I)V"⟩, prog_12_method_67_code, 3, (Option.none : Option Jvm.ClassFile.FieldType), 10)
set_option maxRecDepth 100000 in
theorem zm211_get : zpms[211]? = some zm211 := rfl
theorem na211 : zna[211]? = some 1 := rfl
abbrev zm213 : zPM := (⟨"AdjectiveCouponsModel", "layFilled", "(I)V"⟩, prog_12_method_70_code, 4, (Option.none : Option Jvm.ClassFile.FieldType), 10)
set_option maxRecDepth 100000 in
theorem zm213_get : zpms[213]? = some zm213 := rfl
theorem na213 : zna[213]? = some 1 := rfl
abbrev zm214 : zPM := (⟨"AdjectiveCouponsModel", "draft", "()I"⟩, prog_12_method_72_code, 2, (Option.some Jvm.ClassFile.FieldType.int), 10)
set_option maxRecDepth 100000 in
theorem zm214_get : zpms[214]? = some zm214 := rfl
theorem na214 : zna[214]? = some 0 := rfl
abbrev zm219 : zPM := (⟨"AdjectiveCouponsModel", "worthOfSet", "(I)I"⟩, prog_12_method_75_code, 4, (Option.some Jvm.ClassFile.FieldType.int), 10)
set_option maxRecDepth 100000 in
theorem zm219_get : zpms[219]? = some zm219 := rfl
theorem na219 : zna[219]? = some 1 := rfl
abbrev zm223 : zPM := (⟨"AdjectiveCouponsModel", "likenessOf", "(I)I"⟩, prog_12_method_79_code, 5, (Option.some Jvm.ClassFile.FieldType.int), 10)
set_option maxRecDepth 100000 in
theorem zm223_get : zpms[223]? = some zm223 := rfl
theorem na223 : zna[223]? = some 1 := rfl
abbrev zm229 : zPM := (⟨"AdjectiveCouponsModel", "netOfSet", "(I)I"⟩, prog_12_method_85_code, 4, (Option.some Jvm.ClassFile.FieldType.int), 10)
set_option maxRecDepth 100000 in
theorem zm229_get : zpms[229]? = some zm229 := rfl
theorem na229 : zna[229]? = some 1 := rfl
abbrev zm11 : zPM := (⟨"AdjectiveCoupons", "write", "(I)I"⟩, prog_1_method_2_code, 2, (Option.some Jvm.ClassFile.FieldType.int), 0)
set_option maxRecDepth 100000 in
theorem zm11_get : zpms[11]? = some zm11 := rfl
theorem na11 : zna[11]? = some 1 := rfl
abbrev zm20 : zPM := (⟨"AdjectiveCoupons$Text", "step", "()V"⟩, prog_8_method_9_code, 2, (Option.none : Option Jvm.ClassFile.FieldType), 1)
set_option maxRecDepth 100000 in
theorem zm20_get : zpms[20]? = some zm20 := rfl
theorem na20 : zna[20]? = some 0 := rfl
abbrev zm38 : zPM := (⟨"AdjectiveCoupons$Text", "numberHere", "(I)I"⟩, prog_8_method_8_code, 4, (Option.some Jvm.ClassFile.FieldType.int), 1)
set_option maxRecDepth 100000 in
theorem zm38_get : zpms[38]? = some zm38 := rfl
theorem na38 : zna[38]? = some 1 := rfl
abbrev zm50 : zPM := (⟨"AdjectiveCoupons$State", "timesSaidByAll", "(I)I"⟩, prog_7_method_7_code, 4, (Option.some Jvm.ClassFile.FieldType.int), 4)
set_option maxRecDepth 100000 in
theorem zm50_get : zpms[50]? = some zm50 := rfl
theorem na50 : zna[50]? = some 1 := rfl
abbrev zm55 : zPM := (⟨"AdjectiveCoupons$State", "wordsSaid", "(I)I"⟩, prog_7_method_6_code, 4, (Option.some Jvm.ClassFile.FieldType.int), 4)
set_option maxRecDepth 100000 in
theorem zm55_get : zpms[55]? = some zm55 := rfl
theorem na55 : zna[55]? = some 1 := rfl
abbrev zm59 : zPM := (⟨"AdjectiveCoupons$Prices", "lookUp", "(LAdjectiveCoupons$Told;I)V"⟩, prog_5_method_2_code, 4, (Option.none : Option Jvm.ClassFile.FieldType), 7)
set_option maxRecDepth 100000 in
theorem zm59_get : zpms[59]? = some zm59 := rfl
theorem na59 : zna[59]? = some 2 := rfl
abbrev zm61 : zPM := (⟨"AdjectiveCoupons$Prices", "kindAt", "(LAdjectiveCoupons$Line;I)I"⟩, prog_5_method_3_code, 4, (Option.some Jvm.ClassFile.FieldType.int), 7)
set_option maxRecDepth 100000 in
theorem zm61_get : zpms[61]? = some zm61 := rfl
theorem na61 : zna[61]? = some 2 := rfl
abbrev zm68 : zPM := (⟨"AdjectiveCoupons", "put", "(I)I"⟩, prog_1_method_9_code, 2, (Option.some Jvm.ClassFile.FieldType.int), 0)
set_option maxRecDepth 100000 in
theorem zm68_get : zpms[68]? = some zm68 := rfl
theorem na68 : zna[68]? = some 1 := rfl
abbrev zm71 : zPM := (⟨"AdjectiveCoupons", "line", "(I)I"⟩, prog_1_method_11_code, 2, (Option.some Jvm.ClassFile.FieldType.int), 0)
set_option maxRecDepth 100000 in
theorem zm71_get : zpms[71]? = some zm71 := rfl
theorem na71 : zna[71]? = some 1 := rfl
abbrev zm76 : zPM := (⟨"AdjectiveCoupons$Line", "isSayable", "()Z"⟩, prog_3_method_8_code, 1, (Option.some Jvm.ClassFile.FieldType.boolean), 6)
set_option maxRecDepth 100000 in
theorem zm76_get : zpms[76]? = some zm76 := rfl
theorem na76 : zna[76]? = some 0 := rfl
abbrev zm78 : zPM := (⟨"AdjectiveCoupons$Past", "remember", "(LAdjectiveCoupons$State;)V"⟩, prog_4_method_3_code, 3, (Option.none : Option Jvm.ClassFile.FieldType), 5)
set_option maxRecDepth 100000 in
theorem zm78_get : zpms[78]? = some zm78 := rfl
theorem na78 : zna[78]? = some 1 := rfl
abbrev zm83 : zPM := (⟨"AdjectiveCoupons$Told", "worthOf", "(LAdjectiveCoupons$Line;)I"⟩, prog_9_method_9_code, 5, (Option.some Jvm.ClassFile.FieldType.int), 3)
set_option maxRecDepth 100000 in
theorem zm83_get : zpms[83]? = some zm83 := rfl
theorem na83 : zna[83]? = some 1 := rfl
abbrev zm84 : zPM := (⟨"AdjectiveCoupons$State", "noteSaid", "(ILAdjectiveCoupons$Line;)V"⟩, prog_7_method_4_code, 4, (Option.none : Option Jvm.ClassFile.FieldType), 4)
set_option maxRecDepth 100000 in
theorem zm84_get : zpms[84]? = some zm84 := rfl
theorem na84 : zna[84]? = some 2 := rfl
abbrev zm88 : zPM := (⟨"AdjectiveCoupons", "areTwo", "(II)Z"⟩, prog_1_method_44_code, 3, (Option.some Jvm.ClassFile.FieldType.boolean), 0)
set_option maxRecDepth 100000 in
theorem zm88_get : zpms[88]? = some zm88 := rfl
theorem na88 : zna[88]? = some 2 := rfl
abbrev zm94 : zPM := (⟨"AdjectiveCoupons$Past", "recall", "(LAdjectiveCoupons$State;)Z"⟩, prog_4_method_4_code, 3, (Option.some Jvm.ClassFile.FieldType.boolean), 5)
set_option maxRecDepth 100000 in
theorem zm94_get : zpms[94]? = some zm94 := rfl
theorem na94 : zna[94]? = some 1 := rfl
abbrev zm96 : zPM := (⟨"AdjectiveCoupons$Past", "store", "(ILAdjectiveCoupons$State;)V"⟩, prog_4_method_5_code, 4, (Option.none : Option Jvm.ClassFile.FieldType), 5)
set_option maxRecDepth 100000 in
theorem zm96_get : zpms[96]? = some zm96 := rfl
theorem na96 : zna[96]? = some 2 := rfl
abbrev zm98 : zPM := (⟨"AdjectiveCoupons$Past", "fetch", "(ILAdjectiveCoupons$State;)Z"⟩, prog_4_method_6_code, 4, (Option.some Jvm.ClassFile.FieldType.boolean), 5)
set_option maxRecDepth 100000 in
theorem zm98_get : zpms[98]? = some zm98 := rfl
theorem na98 : zna[98]? = some 2 := rfl
abbrev zm100 : zPM := (⟨"AdjectiveCoupons", "canBeOrdered", "()Z"⟩, prog_1_method_46_code, 1, (Option.some Jvm.ClassFile.FieldType.boolean), 0)
set_option maxRecDepth 100000 in
theorem zm100_get : zpms[100]? = some zm100 := rfl
theorem na100 : zna[100]? = some 0 := rfl
abbrev zm103 : zPM := (⟨"AdjectiveCoupons$Line", "sort", "()V"⟩, prog_3_method_9_code, 3, (Option.none : Option Jvm.ClassFile.FieldType), 6)
set_option maxRecDepth 100000 in
theorem zm103_get : zpms[103]? = some zm103 := rfl
theorem na103 : zna[103]? = some 0 := rfl
abbrev zm105 : zPM := (⟨"AdjectiveCoupons$Trials", "weigh", "(I)V"⟩, prog_10_method_3_code, 2, (Option.none : Option Jvm.ClassFile.FieldType), 9)
set_option maxRecDepth 100000 in
theorem zm105_get : zpms[105]? = some zm105 := rfl
theorem na105 : zna[105]? = some 1 := rfl
abbrev zm107 : zPM := (⟨"AdjectiveCoupons$Line", "nextOrder", "()Z"⟩, prog_3_method_10_code, 5, (Option.some Jvm.ClassFile.FieldType.boolean), 6)
set_option maxRecDepth 100000 in
theorem zm107_get : zpms[107]? = some zm107 := rfl
theorem na107 : zna[107]? = some 0 := rfl
abbrev zm112 : zPM := (⟨"AdjectiveCoupons$Trials", "leaveOut", "(LAdjectiveCoupons$Line;I)Z"⟩, prog_10_method_5_code, 4, (Option.some Jvm.ClassFile.FieldType.boolean), 9)
set_option maxRecDepth 100000 in
theorem zm112_get : zpms[112]? = some zm112 := rfl
theorem na112 : zna[112]? = some 2 := rfl
abbrev zm117 : zPM := (⟨"AdjectiveCoupons$Trials", "nextFilling", "(LAdjectiveCoupons$Line;II)Z"⟩, prog_10_method_7_code, 7, (Option.some Jvm.ClassFile.FieldType.boolean), 9)
set_option maxRecDepth 100000 in
theorem zm117_get : zpms[117]? = some zm117 := rfl
theorem na117 : zna[117]? = some 3 := rfl
abbrev zm119 : zPM := (⟨"AdjectiveCoupons$Drafts", "append", "(LAdjectiveCoupons$Line;)Z"⟩, prog_2_method_2_code, 2, (Option.some Jvm.ClassFile.FieldType.boolean), 8)
set_option maxRecDepth 100000 in
theorem zm119_get : zpms[119]? = some zm119 := rfl
theorem na119 : zna[119]? = some 1 := rfl
abbrev zm128 : zPM := (⟨"AdjectiveCoupons$Drafts", "offer", "(I)V"⟩, prog_2_method_10_code, 3, (Option.none : Option Jvm.ClassFile.FieldType), 8)
set_option maxRecDepth 100000 in
theorem zm128_get : zpms[128]? = some zm128 := rfl
theorem na128 : zna[128]? = some 1 := rfl
abbrev zm136 : zPM := (⟨"AdjectiveCoupons", "left", "(I)I"⟩, prog_1_method_33_code, 7, (Option.some Jvm.ClassFile.FieldType.int), 0)
set_option maxRecDepth 100000 in
theorem zm136_get : zpms[136]? = some zm136 := rfl
theorem na136 : zna[136]? = some 1 := rfl
abbrev zm139 : zPM := (⟨"AdjectiveCoupons$State", "balance", "(I)I"⟩, prog_7_method_10_code, 4, (Option.some Jvm.ClassFile.FieldType.int), 4)
set_option maxRecDepth 100000 in
theorem zm139_get : zpms[139]? = some zm139 := rfl
theorem na139 : zna[139]? = some 1 := rfl
abbrev zm152 : zPM := (⟨"AdjectiveCouponsModel", "wordOf", "()I"⟩, prog_12_method_12_code, 2, (Option.some Jvm.ClassFile.FieldType.int), 10)
set_option maxRecDepth 100000 in
theorem zm152_get : zpms[152]? = some zm152 := rfl
theorem na152 : zna[152]? = some 0 := rfl
abbrev zm159 : zPM := (⟨"AdjectiveCouponsModel", "reads", "(III)Z"⟩, prog_12_method_13_code, 6, (Option.some Jvm.ClassFile.FieldType.boolean), 10)
set_option maxRecDepth 100000 in
theorem zm159_get : zpms[159]? = some zm159 := rfl
theorem na159 : zna[159]? = some 3 := rfl
abbrev zm161 : zPM := (⟨"AdjectiveCouponsModel", "tell", "(I)V"⟩, prog_12_method_23_code, 4, (Option.none : Option Jvm.ClassFile.FieldType), 10)
set_option maxRecDepth 100000 in
theorem zm161_get : zpms[161]? = some zm161 := rfl
theorem na161 : zna[161]? = some 1 := rfl
abbrev zm166 : zPM := (⟨"AdjectiveCouponsModel", "word", "(II)I"⟩, prog_12_method_39_code, 5, (Option.some Jvm.ClassFile.FieldType.int), 10)
set_option maxRecDepth 100000 in
theorem zm166_get : zpms[166]? = some zm166 := rfl
theorem na166 : zna[166]? = some 2 := rfl
abbrev zm169 : zPM := (⟨"AdjectiveCouponsModel", "one", "(II)I"⟩, prog_12_method_41_code, 3, (Option.some Jvm.ClassFile.FieldType.int), 10)
set_option maxRecDepth 100000 in
theorem zm169_get : zpms[169]? = some zm169 := rfl
theorem na169 : zna[169]? = some 2 := rfl
abbrev zm176 : zPM := (⟨"AdjectiveCouponsModel", "costAt", "(I)I"⟩, prog_12_method_33_code, 4, (Option.some Jvm.ClassFile.FieldType.int), 10)
set_option maxRecDepth 100000 in
theorem zm176_get : zpms[176]? = some zm176 := rfl
theorem na176 : zna[176]? = some 1 := rfl
abbrev zm180 : zPM := (⟨"AdjectiveCouponsModel", "put", "(I)I"⟩, prog_12_method_43_code, 2, (Option.some Jvm.ClassFile.FieldType.int), 10)
set_option maxRecDepth 100000 in
theorem zm180_get : zpms[180]? = some zm180 := rfl
theorem na180 : zna[180]? = some 1 := rfl
abbrev zm185 : zPM := (⟨"AdjectiveCouponsModel", "isGood", "()Z"⟩, prog_12_method_37_code, 3, (Option.some Jvm.ClassFile.FieldType.boolean), 10)
set_option maxRecDepth 100000 in
theorem zm185_get : zpms[185]? = some zm185 := rfl
theorem na185 : zna[185]? = some 0 := rfl
abbrev zm191 : zPM := (⟨"AdjectiveCouponsModel", "week", "()I"⟩, prog_12_method_52_code, 2, (Option.some Jvm.ClassFile.FieldType.int), 10)
set_option maxRecDepth 100000 in
theorem zm191_get : zpms[191]? = some zm191 := rfl
theorem na191 : zna[191]? = some 0 := rfl
abbrev zm194 : zPM := (⟨"AdjectiveCouponsModel", "areTwo", "(II)Z"⟩, prog_12_method_53_code, 3, (Option.some Jvm.ClassFile.FieldType.boolean), 10)
set_option maxRecDepth 100000 in
theorem zm194_get : zpms[194]? = some zm194 := rfl
theorem na194 : zna[194]? = some 2 := rfl
abbrev zm222 : zPM := (⟨"AdjectiveCouponsModel", "likeness", "(I)I"⟩, prog_12_method_80_code, 2, (Option.some Jvm.ClassFile.FieldType.int), 10)
set_option maxRecDepth 100000 in
theorem zm222_get : zpms[222]? = some zm222 := rfl
theorem na222 : zna[222]? = some 1 := rfl
abbrev zm224 : zPM := (⟨"AdjectiveCouponsModel", "author", "()I"⟩, prog_12_method_81_code, 4, (Option.some Jvm.ClassFile.FieldType.int), 10)
set_option maxRecDepth 100000 in
theorem zm224_get : zpms[224]? = some zm224 := rfl
theorem na224 : zna[224]? = some 0 := rfl
abbrev zm226 : zPM := (⟨"AdjectiveCouponsModel", "net", "(I)I"⟩, prog_12_method_84_code, 2, (Option.some Jvm.ClassFile.FieldType.int), 10)
set_option maxRecDepth 100000 in
theorem zm226_get : zpms[226]? = some zm226 := rfl
theorem na226 : zna[226]? = some 1 := rfl
abbrev zm228 : zPM := (⟨"AdjectiveCouponsModel", "payments", "()I"⟩, prog_12_method_86_code, 5, (Option.some Jvm.ClassFile.FieldType.int), 10)
set_option maxRecDepth 100000 in
theorem zm228_get : zpms[228]? = some zm228 := rfl
theorem na228 : zna[228]? = some 0 := rfl
abbrev zm37 : zPM := (⟨"AdjectiveCoupons$Text", "readChange", "(LAdjectiveCoupons$Told;)Z"⟩, prog_8_method_5_code, 5, (Option.some Jvm.ClassFile.FieldType.boolean), 1)
set_option maxRecDepth 100000 in
theorem zm37_get : zpms[37]? = some zm37 := rfl
theorem na37 : zna[37]? = some 1 := rfl
abbrev zm47 : zPM := (⟨"AdjectiveCoupons", "word", "(II)I"⟩, prog_1_method_6_code, 3, (Option.some Jvm.ClassFile.FieldType.int), 0)
set_option maxRecDepth 100000 in
theorem zm47_get : zpms[47]? = some zm47 := rfl
theorem na47 : zna[47]? = some 2 := rfl
abbrev zm52 : zPM := (⟨"AdjectiveCoupons", "one", "(II)I"⟩, prog_1_method_7_code, 3, (Option.some Jvm.ClassFile.FieldType.int), 0)
set_option maxRecDepth 100000 in
theorem zm52_get : zpms[52]? = some zm52 := rfl
theorem na52 : zna[52]? = some 2 := rfl
abbrev zm60 : zPM := (⟨"AdjectiveCoupons$Prices", "priceOf", "(LAdjectiveCoupons$Line;I)I"⟩, prog_5_method_5_code, 12, (Option.some Jvm.ClassFile.FieldType.int), 7)
set_option maxRecDepth 100000 in
theorem zm60_get : zpms[60]? = some zm60 := rfl
theorem na60 : zna[60]? = some 2 := rfl
abbrev zm74 : zPM := (⟨"AdjectiveCoupons$Prices", "isGood", "(LAdjectiveCoupons$Line;)Z"⟩, prog_5_method_4_code, 5, (Option.some Jvm.ClassFile.FieldType.boolean), 7)
set_option maxRecDepth 100000 in
theorem zm74_get : zpms[74]? = some zm74 := rfl
theorem na74 : zna[74]? = some 1 := rfl
abbrev zm85 : zPM := (⟨"AdjectiveCoupons", "week", "()I"⟩, prog_1_method_15_code, 2, (Option.some Jvm.ClassFile.FieldType.int), 0)
set_option maxRecDepth 100000 in
theorem zm85_get : zpms[85]? = some zm85 := rfl
theorem na85 : zna[85]? = some 0 := rfl
abbrev zm87 : zPM := (⟨"AdjectiveCoupons", "trade", "(IIII)I"⟩, prog_1_method_16_code, 5, (Option.some Jvm.ClassFile.FieldType.int), 0)
set_option maxRecDepth 100000 in
theorem zm87_get : zpms[87]? = some zm87 := rfl
theorem na87 : zna[87]? = some 4 := rfl
abbrev zm89 : zPM := (⟨"AdjectiveCoupons", "owe", "(III)I"⟩, prog_1_method_17_code, 5, (Option.some Jvm.ClassFile.FieldType.int), 0)
set_option maxRecDepth 100000 in
theorem zm89_get : zpms[89]? = some zm89 := rfl
theorem na89 : zna[89]? = some 3 := rfl
abbrev zm92 : zPM := (⟨"AdjectiveCoupons", "owes", "(II)I"⟩, prog_1_method_18_code, 3, (Option.some Jvm.ClassFile.FieldType.int), 0)
set_option maxRecDepth 100000 in
theorem zm92_get : zpms[92]? = some zm92 := rfl
theorem na92 : zna[92]? = some 2 := rfl
abbrev zm93 : zPM := (⟨"AdjectiveCoupons", "undo", "()I"⟩, prog_1_method_19_code, 1, (Option.some Jvm.ClassFile.FieldType.int), 0)
set_option maxRecDepth 100000 in
theorem zm93_get : zpms[93]? = some zm93 := rfl
theorem na93 : zna[93]? = some 0 := rfl
abbrev zm95 : zPM := (⟨"AdjectiveCoupons", "keep", "(I)I"⟩, prog_1_method_20_code, 2, (Option.some Jvm.ClassFile.FieldType.int), 0)
set_option maxRecDepth 100000 in
theorem zm95_get : zpms[95]? = some zm95 := rfl
theorem na95 : zna[95]? = some 1 := rfl
abbrev zm97 : zPM := (⟨"AdjectiveCoupons", "back", "(I)I"⟩, prog_1_method_21_code, 2, (Option.some Jvm.ClassFile.FieldType.int), 0)
set_option maxRecDepth 100000 in
theorem zm97_get : zpms[97]? = some zm97 := rfl
theorem na97 : zna[97]? = some 1 := rfl
abbrev zm118 : zPM := (⟨"AdjectiveCoupons", "draft", "()I"⟩, prog_1_method_26_code, 1, (Option.some Jvm.ClassFile.FieldType.int), 0)
set_option maxRecDepth 100000 in
theorem zm118_get : zpms[118]? = some zm118 := rfl
theorem na118 : zna[118]? = some 0 := rfl
abbrev zm124 : zPM := (⟨"AdjectiveCoupons$Drafts", "weigh", "(LAdjectiveCoupons$Told;)V"⟩, prog_2_method_4_code, 3, (Option.none : Option Jvm.ClassFile.FieldType), 8)
set_option maxRecDepth 100000 in
theorem zm124_get : zpms[124]? = some zm124 := rfl
theorem na124 : zna[124]? = some 1 := rfl
abbrev zm126 : zPM := (⟨"AdjectiveCoupons$Drafts", "choosePage", "(I)V"⟩, prog_2_method_7_code, 3, (Option.none : Option Jvm.ClassFile.FieldType), 8)
set_option maxRecDepth 100000 in
theorem zm126_get : zpms[126]? = some zm126 := rfl
theorem na126 : zna[126]? = some 1 := rfl
abbrev zm131 : zPM := (⟨"AdjectiveCoupons$Drafts", "choosePlan", "(III)V"⟩, prog_2_method_8_code, 5, (Option.none : Option Jvm.ClassFile.FieldType), 8)
set_option maxRecDepth 100000 in
theorem zm131_get : zpms[131]? = some zm131 := rfl
theorem na131 : zna[131]? = some 3 := rfl
abbrev zm134 : zPM := (⟨"AdjectiveCoupons", "likenessTo", "(I)I"⟩, prog_1_method_47_code, 6, (Option.some Jvm.ClassFile.FieldType.int), 0)
set_option maxRecDepth 100000 in
theorem zm134_get : zpms[134]? = some zm134 := rfl
theorem na134 : zna[134]? = some 1 := rfl
abbrev zm138 : zPM := (⟨"AdjectiveCoupons", "net", "(I)I"⟩, prog_1_method_34_code, 2, (Option.some Jvm.ClassFile.FieldType.int), 0)
set_option maxRecDepth 100000 in
theorem zm138_get : zpms[138]? = some zm138 := rfl
theorem na138 : zna[138]? = some 1 := rfl
abbrev zm141 : zPM := (⟨"AdjectiveCoupons$Trials", "fewestPayments", "(LAdjectiveCoupons$State;I)I"⟩, prog_10_method_8_code, 8, (Option.some Jvm.ClassFile.FieldType.int), 9)
set_option maxRecDepth 100000 in
theorem zm141_get : zpms[141]? = some zm141 := rfl
theorem na141 : zna[141]? = some 2 := rfl
abbrev zm158 : zPM := (⟨"AdjectiveCouponsModel", "readsRest", "(I)Z"⟩, prog_12_method_16_code, 2, (Option.some Jvm.ClassFile.FieldType.boolean), 10)
set_option maxRecDepth 100000 in
theorem zm158_get : zpms[158]? = some zm158 := rfl
theorem na158 : zna[158]? = some 1 := rfl
abbrev zm174 : zPM := (⟨"AdjectiveCouponsModel", "costTo", "(II)I"⟩, prog_12_method_34_code, 9, (Option.some Jvm.ClassFile.FieldType.int), 10)
set_option maxRecDepth 100000 in
theorem zm174_get : zpms[174]? = some zm174 := rfl
theorem na174 : zna[174]? = some 2 := rfl
abbrev zm184 : zPM := (⟨"AdjectiveCouponsModel", "good", "()I"⟩, prog_12_method_47_code, 1, (Option.some Jvm.ClassFile.FieldType.int), 10)
set_option maxRecDepth 100000 in
theorem zm184_get : zpms[184]? = some zm184 := rfl
theorem na184 : zna[184]? = some 0 := rfl
abbrev zm193 : zPM := (⟨"AdjectiveCouponsModel", "trade", "(IIII)I"⟩, prog_12_method_54_code, 5, (Option.some Jvm.ClassFile.FieldType.int), 10)
set_option maxRecDepth 100000 in
theorem zm193_get : zpms[193]? = some zm193 := rfl
theorem na193 : zna[193]? = some 4 := rfl
abbrev zm195 : zPM := (⟨"AdjectiveCouponsModel", "owe", "(III)I"⟩, prog_12_method_55_code, 4, (Option.some Jvm.ClassFile.FieldType.int), 10)
set_option maxRecDepth 100000 in
theorem zm195_get : zpms[195]? = some zm195 := rfl
theorem na195 : zna[195]? = some 3 := rfl
abbrev zm196 : zPM := (⟨"AdjectiveCouponsModel", "owes", "(II)I"⟩, prog_12_method_56_code, 3, (Option.some Jvm.ClassFile.FieldType.int), 10)
set_option maxRecDepth 100000 in
theorem zm196_get : zpms[196]? = some zm196 := rfl
theorem na196 : zna[196]? = some 2 := rfl
abbrev zm225 : zPM := (⟨"AdjectiveCouponsModel", "left", "(I)I"⟩, prog_12_method_82_code, 10, (Option.some Jvm.ClassFile.FieldType.int), 10)
set_option maxRecDepth 100000 in
theorem zm225_get : zpms[225]? = some zm225 := rfl
theorem na225 : zna[225]? = some 1 := rfl
abbrev zm58 : zPM := (⟨"AdjectiveCoupons", "priceFor", "(II)I"⟩, prog_1_method_45_code, 3, (Option.some Jvm.ClassFile.FieldType.int), 0)
set_option maxRecDepth 100000 in
theorem zm58_get : zpms[58]? = some zm58 := rfl
theorem na58 : zna[58]? = some 2 := rfl
abbrev zm73 : zPM := (⟨"AdjectiveCoupons", "good", "()I"⟩, prog_1_method_13_code, 1, (Option.some Jvm.ClassFile.FieldType.int), 0)
set_option maxRecDepth 100000 in
theorem zm73_get : zpms[73]? = some zm73 := rfl
theorem na73 : zna[73]? = some 0 := rfl
abbrev zm101 : zPM := (⟨"AdjectiveCoupons$Trials", "tryOrders", "(LAdjectiveCoupons$Line;LAdjectiveCoupons$Prices;)V"⟩, prog_10_method_2_code, 5, (Option.none : Option Jvm.ClassFile.FieldType), 9)
set_option maxRecDepth 100000 in
theorem zm101_get : zpms[101]? = some zm101 := rfl
theorem na101 : zna[101]? = some 2 := rfl
abbrev zm110 : zPM := (⟨"AdjectiveCoupons$Trials", "tryOmissions", "(LAdjectiveCoupons$Line;LAdjectiveCoupons$Prices;I)V"⟩, prog_10_method_4_code, 6, (Option.none : Option Jvm.ClassFile.FieldType), 9)
set_option maxRecDepth 100000 in
theorem zm110_get : zpms[110]? = some zm110 := rfl
theorem na110 : zna[110]? = some 3 := rfl
abbrev zm114 : zPM := (⟨"AdjectiveCoupons$Trials", "tryFillings", "(LAdjectiveCoupons$Line;LAdjectiveCoupons$Prices;II)V"⟩, prog_10_method_6_code, 8, (Option.none : Option Jvm.ClassFile.FieldType), 9)
set_option maxRecDepth 100000 in
theorem zm114_get : zpms[114]? = some zm114 := rfl
theorem na114 : zna[114]? = some 4 := rfl
abbrev zm122 : zPM := (⟨"AdjectiveCoupons", "drafted", "(III)I"⟩, prog_1_method_28_code, 5, (Option.some Jvm.ClassFile.FieldType.int), 0)
set_option maxRecDepth 100000 in
theorem zm122_get : zpms[122]? = some zm122 := rfl
theorem na122 : zna[122]? = some 3 := rfl
abbrev zm125 : zPM := (⟨"AdjectiveCoupons$Drafts", "priceNow", "(LAdjectiveCoupons$Told;LAdjectiveCoupons$Prices;I)V"⟩, prog_2_method_5_code, 5, (Option.none : Option Jvm.ClassFile.FieldType), 8)
set_option maxRecDepth 100000 in
theorem zm125_get : zpms[125]? = some zm125 := rfl
theorem na125 : zna[125]? = some 3 := rfl
abbrev zm130 : zPM := (⟨"AdjectiveCoupons$Drafts", "priceWeekByWeek", "(LAdjectiveCoupons$Told;LAdjectiveCoupons$Prices;II)V"⟩, prog_2_method_6_code, 6, (Option.none : Option Jvm.ClassFile.FieldType), 8)
set_option maxRecDepth 100000 in
theorem zm130_get : zpms[130]? = some zm130 := rfl
theorem na130 : zna[130]? = some 4 := rfl
abbrev zm133 : zPM := (⟨"AdjectiveCoupons", "likeness", "(I)I"⟩, prog_1_method_31_code, 2, (Option.some Jvm.ClassFile.FieldType.int), 0)
set_option maxRecDepth 100000 in
theorem zm133_get : zpms[133]? = some zm133 := rfl
theorem na133 : zna[133]? = some 1 := rfl
abbrev zm135 : zPM := (⟨"AdjectiveCoupons", "author", "()I"⟩, prog_1_method_32_code, 5, (Option.some Jvm.ClassFile.FieldType.int), 0)
set_option maxRecDepth 100000 in
theorem zm135_get : zpms[135]? = some zm135 := rfl
theorem na135 : zna[135]? = some 0 := rfl
abbrev zm140 : zPM := (⟨"AdjectiveCoupons", "payments", "()I"⟩, prog_1_method_35_code, 1, (Option.some Jvm.ClassFile.FieldType.int), 0)
set_option maxRecDepth 100000 in
theorem zm140_get : zpms[140]? = some zm140 := rfl
theorem na140 : zna[140]? = some 0 := rfl
abbrev zm151 : zPM := (⟨"AdjectiveCouponsModel", "readsClause", "()Z"⟩, prog_12_method_17_code, 2, (Option.some Jvm.ClassFile.FieldType.boolean), 10)
set_option maxRecDepth 100000 in
theorem zm151_get : zpms[151]? = some zm151 := rfl
theorem na151 : zna[151]? = some 0 := rfl
abbrev zm172 : zPM := (⟨"AdjectiveCouponsModel", "as", "(II)I"⟩, prog_12_method_42_code, 5, (Option.some Jvm.ClassFile.FieldType.int), 10)
set_option maxRecDepth 100000 in
theorem zm172_get : zpms[172]? = some zm172 := rfl
theorem na172 : zna[172]? = some 2 := rfl
abbrev zm183 : zPM := (⟨"AdjectiveCouponsModel", "cost", "(II)I"⟩, prog_12_method_46_code, 3, (Option.some Jvm.ClassFile.FieldType.int), 10)
set_option maxRecDepth 100000 in
theorem zm183_get : zpms[183]? = some zm183 := rfl
theorem na183 : zna[183]? = some 2 := rfl
abbrev zm187 : zPM := (⟨"AdjectiveCouponsModel", "say", "(I)I"⟩, prog_12_method_50_code, 4, (Option.some Jvm.ClassFile.FieldType.int), 10)
set_option maxRecDepth 100000 in
theorem zm187_get : zpms[187]? = some zm187 := rfl
theorem na187 : zna[187]? = some 1 := rfl
abbrev zm205 : zPM := (⟨"AdjectiveCouponsModel", "citizenCost", "()I"⟩, prog_12_method_35_code, 1, (Option.some Jvm.ClassFile.FieldType.int), 10)
set_option maxRecDepth 100000 in
theorem zm205_get : zpms[205]? = some zm205 := rfl
theorem na205 : zna[205]? = some 0 := rfl
abbrev zm216 : zPM := (⟨"AdjectiveCouponsModel", "drafted", "(III)I"⟩, prog_12_method_74_code, 4, (Option.some Jvm.ClassFile.FieldType.int), 10)
set_option maxRecDepth 100000 in
theorem zm216_get : zpms[216]? = some zm216 := rfl
theorem na216 : zna[216]? = some 3 := rfl
abbrev zm221 : zPM := (⟨"AdjectiveCouponsModel", "canPay", "(II)Z"⟩, prog_12_method_77_code, 7, (Option.some Jvm.ClassFile.FieldType.boolean), 10)
set_option maxRecDepth 100000 in
theorem zm221_get : zpms[221]? = some zm221 := rfl
theorem na221 : zna[221]? = some 2 := rfl
abbrev zm24 : zPM := (⟨"AdjectiveCoupons$Text", "clauseHere", "()I"⟩, prog_8_method_7_code, 7, (Option.some Jvm.ClassFile.FieldType.int), 1)
set_option maxRecDepth 100000 in
theorem zm24_get : zpms[24]? = some zm24 := rfl
theorem na24 : zna[24]? = some 0 := rfl
abbrev zm56 : zPM := (⟨"AdjectiveCoupons", "as", "(II)I"⟩, prog_1_method_8_code, 3, (Option.some Jvm.ClassFile.FieldType.int), 0)
set_option maxRecDepth 100000 in
theorem zm56_get : zpms[56]? = some zm56 := rfl
theorem na56 : zna[56]? = some 2 := rfl
abbrev zm72 : zPM := (⟨"AdjectiveCoupons", "cost", "(II)I"⟩, prog_1_method_12_code, 3, (Option.some Jvm.ClassFile.FieldType.int), 0)
set_option maxRecDepth 100000 in
theorem zm72_get : zpms[72]? = some zm72 := rfl
theorem na72 : zna[72]? = some 2 := rfl
abbrev zm75 : zPM := (⟨"AdjectiveCoupons", "say", "(I)I"⟩, prog_1_method_14_code, 3, (Option.some Jvm.ClassFile.FieldType.int), 0)
set_option maxRecDepth 100000 in
theorem zm75_get : zpms[75]? = some zm75 := rfl
theorem na75 : zna[75]? = some 1 := rfl
abbrev zm99 : zPM := (⟨"AdjectiveCoupons", "cheapest", "(I)I"⟩, prog_1_method_22_code, 2, (Option.some Jvm.ClassFile.FieldType.int), 0)
set_option maxRecDepth 100000 in
theorem zm99_get : zpms[99]? = some zm99 := rfl
theorem na99 : zna[99]? = some 1 := rfl
abbrev zm108 : zPM := (⟨"AdjectiveCoupons", "loophole", "()I"⟩, prog_1_method_23_code, 1, (Option.some Jvm.ClassFile.FieldType.int), 0)
set_option maxRecDepth 100000 in
theorem zm108_get : zpms[108]? = some zm108 := rfl
theorem na108 : zna[108]? = some 0 := rfl
abbrev zm109 : zPM := (⟨"AdjectiveCoupons", "leftOut", "(II)I"⟩, prog_1_method_24_code, 3, (Option.some Jvm.ClassFile.FieldType.int), 0)
set_option maxRecDepth 100000 in
theorem zm109_get : zpms[109]? = some zm109 := rfl
theorem na109 : zna[109]? = some 2 := rfl
abbrev zm113 : zPM := (⟨"AdjectiveCoupons", "holes", "(II)I"⟩, prog_1_method_25_code, 4, (Option.some Jvm.ClassFile.FieldType.int), 0)
set_option maxRecDepth 100000 in
theorem zm113_get : zpms[113]? = some zm113 := rfl
theorem na113 : zna[113]? = some 2 := rfl
abbrev zm123 : zPM := (⟨"AdjectiveCoupons", "page", "(II)I"⟩, prog_1_method_29_code, 3, (Option.some Jvm.ClassFile.FieldType.int), 0)
set_option maxRecDepth 100000 in
theorem zm123_get : zpms[123]? = some zm123 := rfl
theorem na123 : zna[123]? = some 2 := rfl
abbrev zm129 : zPM := (⟨"AdjectiveCoupons", "plan", "(II)I"⟩, prog_1_method_30_code, 3, (Option.some Jvm.ClassFile.FieldType.int), 0)
set_option maxRecDepth 100000 in
theorem zm129_get : zpms[129]? = some zm129 := rfl
theorem na129 : zna[129]? = some 2 := rfl
abbrev zm148 : zPM := (⟨"AdjectiveCouponsModel", "fault", "()I"⟩, prog_12_method_18_code, 2, (Option.some Jvm.ClassFile.FieldType.int), 10)
set_option maxRecDepth 100000 in
theorem zm148_get : zpms[148]? = some zm148 := rfl
theorem na148 : zna[148]? = some 0 := rfl
abbrev zm202 : zPM := (⟨"AdjectiveCouponsModel", "layOrders", "()V"⟩, prog_12_method_63_code, 5, (Option.none : Option Jvm.ClassFile.FieldType), 10)
set_option maxRecDepth 100000 in
theorem zm202_get : zpms[202]? = some zm202 := rfl
theorem na202 : zna[202]? = some 0 := rfl
abbrev zm208 : zPM := (⟨"AdjectiveCouponsModel", "leftOut", "(II)I"⟩, prog_12_method_69_code, 5, (Option.some Jvm.ClassFile.FieldType.int), 10)
set_option maxRecDepth 100000 in
theorem zm208_get : zpms[208]? = some zm208 := rfl
theorem na208 : zna[208]? = some 2 := rfl
abbrev zm212 : zPM := (⟨"AdjectiveCouponsModel", "holes", "(II)I"⟩, prog_12_method_71_code, 9, (Option.some Jvm.ClassFile.FieldType.int), 10)
set_option maxRecDepth 100000 in
theorem zm212_get : zpms[212]? = some zm212 := rfl
theorem na212 : zna[212]? = some 2 := rfl
abbrev zm218 : zPM := (⟨"AdjectiveCouponsModel", "page", "(II)I"⟩, prog_12_method_76_code, 7, (Option.some Jvm.ClassFile.FieldType.int), 10)
set_option maxRecDepth 100000 in
theorem zm218_get : zpms[218]? = some zm218 := rfl
theorem na218 : zna[218]? = some 2 := rfl
abbrev zm220 : zPM := (⟨"AdjectiveCouponsModel", "plan", "(II)I"⟩, prog_12_method_78_code, 5, (Option.some Jvm.ClassFile.FieldType.int), 10)
set_option maxRecDepth 100000 in
theorem zm220_get : zpms[220]? = some zm220 := rfl
theorem na220 : zna[220]? = some 2 := rfl
abbrev zm23 : zPM := (⟨"AdjectiveCoupons$Text", "readClause", "(LAdjectiveCoupons$Told;)Z"⟩, prog_8_method_4_code, 5, (Option.some Jvm.ClassFile.FieldType.boolean), 1)
set_option maxRecDepth 100000 in
theorem zm23_get : zpms[23]? = some zm23 := rfl
theorem na23 : zna[23]? = some 1 := rfl
abbrev zm160 : zPM := (⟨"AdjectiveCouponsModel", "realm", "()I"⟩, prog_12_method_24_code, 3, (Option.some Jvm.ClassFile.FieldType.int), 10)
set_option maxRecDepth 100000 in
theorem zm160_get : zpms[160]? = some zm160 := rfl
theorem na160 : zna[160]? = some 0 := rfl
abbrev zm200 : zPM := (⟨"AdjectiveCouponsModel", "cheapest", "(I)I"⟩, prog_12_method_65_code, 2, (Option.some Jvm.ClassFile.FieldType.int), 10)
set_option maxRecDepth 100000 in
theorem zm200_get : zpms[200]? = some zm200 := rfl
theorem na200 : zna[200]? = some 1 := rfl
abbrev zm207 : zPM := (⟨"AdjectiveCouponsModel", "loophole", "()I"⟩, prog_12_method_66_code, 1, (Option.some Jvm.ClassFile.FieldType.int), 10)
set_option maxRecDepth 100000 in
theorem zm207_get : zpms[207]? = some zm207 := rfl
theorem na207 : zna[207]? = some 0 := rfl
abbrev zm19 : zPM := (⟨"AdjectiveCoupons$Text", "read", "(LAdjectiveCoupons$Told;)I"⟩, prog_8_method_3_code, 2, (Option.some Jvm.ClassFile.FieldType.int), 1)
set_option maxRecDepth 100000 in
theorem zm19_get : zpms[19]? = some zm19 := rfl
theorem na19 : zna[19]? = some 1 := rfl
abbrev zm16 : zPM := (⟨"AdjectiveCoupons", "fault", "()I"⟩, prog_1_method_4_code, 1, (Option.some Jvm.ClassFile.FieldType.int), 0)
set_option maxRecDepth 100000 in
theorem zm16_get : zpms[16]? = some zm16 := rfl
theorem na16 : zna[16]? = some 0 := rfl
abbrev zm43 : zPM := (⟨"AdjectiveCoupons", "realm", "()I"⟩, prog_1_method_5_code, 1, (Option.some Jvm.ClassFile.FieldType.int), 0)
set_option maxRecDepth 100000 in
theorem zm43_get : zpms[43]? = some zm43 := rfl
theorem na43 : zna[43]? = some 0 := rfl
theorem oi_0 : Int32.ofInt 0 = 0 := by decide
theorem oi_1 : Int32.ofInt 1 = 1 := by decide
theorem k12_0 : decode zm12.2.1 0 = .ok (.iload_n 0, 1) := by decide +kernel
theorem k12_1 : decode zm12.2.1 1 = .ok (.iload_n 1, 1) := by decide +kernel
theorem k12_2 : decode zm12.2.1 2 = .ok (.if_icmp .lt 12, 3) := by decide +kernel
theorem k12_14 : decode zm12.2.1 14 = .ok (.iconst 0, 1) := by decide +kernel
theorem k12_15 : decode zm12.2.1 15 = .ok (.ireturn, 1) := by decide +kernel
theorem k12_5 : decode zm12.2.1 5 = .ok (.iload_n 0, 1) := by decide +kernel
theorem k12_6 : decode zm12.2.1 6 = .ok (.iload_n 2, 1) := by decide +kernel
theorem k12_7 : decode zm12.2.1 7 = .ok (.if_icmp .gt 7, 3) := by decide +kernel
theorem k12_10 : decode zm12.2.1 10 = .ok (.iconst 1, 1) := by decide +kernel
theorem k12_11 : decode zm12.2.1 11 = .ok (.goto 4, 3) := by decide +kernel
theorem fk_2_7 : zfx 2 7 = some (2, 0) := by decide +kernel
theorem k14_0 : decode zm14.2.1 0 = .ok (.iload_n 1, 1) := by decide +kernel
theorem k14_1 : decode zm14.2.1 1 = .ok (.ifCond .lt 19, 3) := by decide +kernel
theorem k14_20 : decode zm14.2.1 20 = .ok (.return_, 1) := by decide +kernel
theorem k14_4 : decode zm14.2.1 4 = .ok (.iload_n 1, 1) := by decide +kernel
theorem k14_5 : decode zm14.2.1 5 = .ok (.aload_n 0, 1) := by decide +kernel
theorem k14_6 : decode zm14.2.1 6 = .ok (.getfield 7, 3) := by decide +kernel
theorem k14_9 : decode zm14.2.1 9 = .ok (.arraylength, 1) := by decide +kernel
theorem k14_10 : decode zm14.2.1 10 = .ok (.if_icmp .ge 10, 3) := by decide +kernel
theorem k14_13 : decode zm14.2.1 13 = .ok (.aload_n 0, 1) := by decide +kernel
theorem k14_14 : decode zm14.2.1 14 = .ok (.getfield 7, 3) := by decide +kernel
theorem k14_17 : decode zm14.2.1 17 = .ok (.iload_n 1, 1) := by decide +kernel
theorem k14_18 : decode zm14.2.1 18 = .ok (.iload_n 2, 1) := by decide +kernel
theorem k14_19 : decode zm14.2.1 19 = .ok (.iastore, 1) := by decide +kernel
theorem fk_0_10 : zfx 0 10 = some (0, 0) := by decide +kernel
theorem sh0 : zsh 0 = some (0, [some 1, some 4, some 19, some 34, some 47, some 180, some 183, some 186, some 213]) := by decide +kernel
theorem fk_0_76 : zfx 0 76 = some (1, 1) := by decide +kernel
theorem sh1 : zsh 1 = some (1, [some 2, none, none, none, none]) := by decide +kernel
theorem pi_1_1 : zdes 1 1 = "I" ∧ zfin 1 1 = false := by decide +kernel
theorem k15_0 : decode zm15.2.1 0 = .ok (.aload_n 0, 1) := by decide +kernel
theorem k15_1 : decode zm15.2.1 1 = .ok (.getfield 10, 3) := by decide +kernel
theorem k15_4 : decode zm15.2.1 4 = .ok (.getfield 76, 3) := by decide +kernel
theorem k15_7 : decode zm15.2.1 7 = .ok (.istore_n 1, 1) := by decide +kernel
theorem k15_8 : decode zm15.2.1 8 = .ok (.aload_n 0, 1) := by decide +kernel
theorem k15_9 : decode zm15.2.1 9 = .ok (.getfield 10, 3) := by decide +kernel
theorem k15_12 : decode zm15.2.1 12 = .ok (.iconst 0, 1) := by decide +kernel
theorem k15_13 : decode zm15.2.1 13 = .ok (.putfield 76, 3) := by decide +kernel
theorem k15_16 : decode zm15.2.1 16 = .ok (.iload_n 1, 1) := by decide +kernel
theorem k15_17 : decode zm15.2.1 17 = .ok (.ireturn, 1) := by decide +kernel
theorem k18_2 : decode zm18.2.1 2 = .ok (.iload_n 2, 1) := by decide +kernel
theorem k18_3 : decode zm18.2.1 3 = .ok (.aload_n 0, 1) := by decide +kernel
theorem k18_4 : decode zm18.2.1 4 = .ok (.getfield 7, 3) := by decide +kernel
theorem k18_7 : decode zm18.2.1 7 = .ok (.arraylength, 1) := by decide +kernel
theorem k18_8 : decode zm18.2.1 8 = .ok (.if_icmp .ge 30, 3) := by decide +kernel
theorem k18_38 : decode zm18.2.1 38 = .ok (.return_, 1) := by decide +kernel
theorem k18_11 : decode zm18.2.1 11 = .ok (.iload_n 2, 1) := by decide +kernel
theorem k18_12 : decode zm18.2.1 12 = .ok (.aload_n 1, 1) := by decide +kernel
theorem k18_13 : decode zm18.2.1 13 = .ok (.getfield 7, 3) := by decide +kernel
theorem k18_16 : decode zm18.2.1 16 = .ok (.arraylength, 1) := by decide +kernel
theorem k18_17 : decode zm18.2.1 17 = .ok (.if_icmp .ge 21, 3) := by decide +kernel
theorem k18_20 : decode zm18.2.1 20 = .ok (.aload_n 0, 1) := by decide +kernel
theorem k18_21 : decode zm18.2.1 21 = .ok (.getfield 7, 3) := by decide +kernel
theorem k18_24 : decode zm18.2.1 24 = .ok (.iload_n 2, 1) := by decide +kernel
theorem k18_25 : decode zm18.2.1 25 = .ok (.aload_n 1, 1) := by decide +kernel
theorem k18_26 : decode zm18.2.1 26 = .ok (.getfield 7, 3) := by decide +kernel
theorem k18_29 : decode zm18.2.1 29 = .ok (.iload_n 2, 1) := by decide +kernel
theorem k18_30 : decode zm18.2.1 30 = .ok (.iaload, 1) := by decide +kernel
theorem k18_31 : decode zm18.2.1 31 = .ok (.iastore, 1) := by decide +kernel
theorem k18_32 : decode zm18.2.1 32 = .ok (.iinc 2 1, 3) := by decide +kernel
theorem k18_35 : decode zm18.2.1 35 = .ok (.goto (-33), 3) := by decide +kernel
theorem k18_0 : decode zm18.2.1 0 = .ok (.iconst 0, 1) := by decide +kernel
theorem k18_1 : decode zm18.2.1 1 = .ok (.istore_n 2, 1) := by decide +kernel
theorem k21_0 : decode zm21.2.1 0 = .ok (.iload_n 1, 1) := by decide +kernel
theorem k21_1 : decode zm21.2.1 1 = .ok (.ifCond .lt 21, 3) := by decide +kernel
theorem k21_22 : decode zm21.2.1 22 = .ok (.iconst 0, 1) := by decide +kernel
theorem k21_23 : decode zm21.2.1 23 = .ok (.ireturn, 1) := by decide +kernel
theorem k21_4 : decode zm21.2.1 4 = .ok (.iload_n 1, 1) := by decide +kernel
theorem k21_5 : decode zm21.2.1 5 = .ok (.aload_n 0, 1) := by decide +kernel
theorem k21_6 : decode zm21.2.1 6 = .ok (.getfield 7, 3) := by decide +kernel
theorem k21_9 : decode zm21.2.1 9 = .ok (.arraylength, 1) := by decide +kernel
theorem k21_10 : decode zm21.2.1 10 = .ok (.if_icmp .ge 12, 3) := by decide +kernel
theorem k21_13 : decode zm21.2.1 13 = .ok (.aload_n 0, 1) := by decide +kernel
theorem k21_14 : decode zm21.2.1 14 = .ok (.getfield 7, 3) := by decide +kernel
theorem k21_17 : decode zm21.2.1 17 = .ok (.iload_n 1, 1) := by decide +kernel
theorem k21_18 : decode zm21.2.1 18 = .ok (.iaload, 1) := by decide +kernel
theorem k21_19 : decode zm21.2.1 19 = .ok (.goto 4, 3) := by decide +kernel
theorem fk_3_42 : zfx 3 42 = some (3, 0) := by decide +kernel
theorem pi_3_0 : zdes 3 0 = "I" ∧ zfin 3 0 = false := by decide +kernel
theorem fk_3_45 : zfx 3 45 = some (3, 1) := by decide +kernel
theorem pi_3_1 : zdes 3 1 = "I" ∧ zfin 3 1 = false := by decide +kernel
theorem fk_3_48 : zfx 3 48 = some (3, 2) := by decide +kernel
theorem pi_3_2 : zdes 3 2 = "I" ∧ zfin 3 2 = false := by decide +kernel
theorem b8_9 : (Int8.ofInt 9).toInt32 = 9 := by decide
theorem fk_3_9 : zfx 3 9 = some (3, 3) := by decide +kernel
theorem pi_3_3 : zdes 3 3 = "I" ∧ zfin 3 3 = false := by decide +kernel
theorem fk_3_51 : zfx 3 51 = some (3, 4) := by decide +kernel
theorem pi_3_4 : zdes 3 4 = "I" ∧ zfin 3 4 = false := by decide +kernel
theorem k42_0 : decode zm42.2.1 0 = .ok (.aload_n 0, 1) := by decide +kernel
theorem k42_1 : decode zm42.2.1 1 = .ok (.iconst 0, 1) := by decide +kernel
theorem k42_2 : decode zm42.2.1 2 = .ok (.putfield 42, 3) := by decide +kernel
theorem k42_5 : decode zm42.2.1 5 = .ok (.aload_n 0, 1) := by decide +kernel
theorem k42_6 : decode zm42.2.1 6 = .ok (.iconst 0, 1) := by decide +kernel
theorem k42_7 : decode zm42.2.1 7 = .ok (.putfield 45, 3) := by decide +kernel
theorem k42_10 : decode zm42.2.1 10 = .ok (.aload_n 0, 1) := by decide +kernel
theorem k42_11 : decode zm42.2.1 11 = .ok (.iconst 0, 1) := by decide +kernel
theorem k42_12 : decode zm42.2.1 12 = .ok (.putfield 48, 3) := by decide +kernel
theorem k42_15 : decode zm42.2.1 15 = .ok (.aload_n 0, 1) := by decide +kernel
theorem k42_16 : decode zm42.2.1 16 = .ok (.bipush 9, 2) := by decide +kernel
theorem k42_18 : decode zm42.2.1 18 = .ok (.putfield 9, 3) := by decide +kernel
theorem k42_21 : decode zm42.2.1 21 = .ok (.aload_n 0, 1) := by decide +kernel
theorem k42_22 : decode zm42.2.1 22 = .ok (.iconst 0, 1) := by decide +kernel
theorem k42_23 : decode zm42.2.1 23 = .ok (.putfield 51, 3) := by decide +kernel
theorem k42_26 : decode zm42.2.1 26 = .ok (.return_, 1) := by decide +kernel
theorem k45_2 : decode zm45.2.1 2 = .ok (.iload_n 1, 1) := by decide +kernel
theorem k45_3 : decode zm45.2.1 3 = .ok (.aload_n 0, 1) := by decide +kernel
theorem k45_4 : decode zm45.2.1 4 = .ok (.getfield 7, 3) := by decide +kernel
theorem k45_7 : decode zm45.2.1 7 = .ok (.arraylength, 1) := by decide +kernel
theorem k45_8 : decode zm45.2.1 8 = .ok (.if_icmp .ge 16, 3) := by decide +kernel
theorem k45_24 : decode zm45.2.1 24 = .ok (.return_, 1) := by decide +kernel
theorem k45_11 : decode zm45.2.1 11 = .ok (.aload_n 0, 1) := by decide +kernel
theorem k45_12 : decode zm45.2.1 12 = .ok (.getfield 7, 3) := by decide +kernel
theorem k45_15 : decode zm45.2.1 15 = .ok (.iload_n 1, 1) := by decide +kernel
theorem k45_16 : decode zm45.2.1 16 = .ok (.iconst 0, 1) := by decide +kernel
theorem k45_17 : decode zm45.2.1 17 = .ok (.iastore, 1) := by decide +kernel
theorem k45_18 : decode zm45.2.1 18 = .ok (.iinc 1 1, 3) := by decide +kernel
theorem k45_21 : decode zm45.2.1 21 = .ok (.goto (-19), 3) := by decide +kernel
theorem k45_0 : decode zm45.2.1 0 = .ok (.iconst 0, 1) := by decide +kernel
theorem k45_1 : decode zm45.2.1 1 = .ok (.istore_n 1, 1) := by decide +kernel
theorem fk_5_21 : zfx 5 21 = some (5, 3) := by decide +kernel
theorem sh47 : zsh 47 = some (5, [some 48, some 49, none, none, none]) := by decide +kernel
theorem pi_5_3 : zdes 5 3 = "I" ∧ zfin 5 3 = false := by decide +kernel
theorem fk_5_25 : zfx 5 25 = some (5, 4) := by decide +kernel
theorem pi_5_4 : zdes 5 4 = "I" ∧ zfin 5 4 = false := by decide +kernel
theorem k46_0 : decode zm46.2.1 0 = .ok (.aload_n 0, 1) := by decide +kernel
theorem k46_1 : decode zm46.2.1 1 = .ok (.iconst 0, 1) := by decide +kernel
theorem k46_2 : decode zm46.2.1 2 = .ok (.putfield 21, 3) := by decide +kernel
theorem k46_5 : decode zm46.2.1 5 = .ok (.aload_n 0, 1) := by decide +kernel
theorem k46_6 : decode zm46.2.1 6 = .ok (.iconst 0, 1) := by decide +kernel
theorem k46_7 : decode zm46.2.1 7 = .ok (.putfield 25, 3) := by decide +kernel
theorem k46_10 : decode zm46.2.1 10 = .ok (.return_, 1) := by decide +kernel
theorem oi_2 : Int32.ofInt 2 = 2 := by decide
theorem oi_3 : Int32.ofInt 3 = 3 := by decide
theorem oi_4 : Int32.ofInt 4 = 4 := by decide
theorem k57_0 : decode zm57.2.1 0 = .ok (.iload_n 1, 1) := by decide +kernel
theorem k57_1 : decode zm57.2.1 1 = .ok (.tableswitch 75 0 3 #[31, 33, 48, 59], 31) := by decide +kernel
theorem k57_32 : decode zm57.2.1 32 = .ok (.iconst 1, 1) := by decide +kernel
theorem k57_33 : decode zm57.2.1 33 = .ok (.ireturn, 1) := by decide +kernel
theorem k57_34 : decode zm57.2.1 34 = .ok (.iload_n 0, 1) := by decide +kernel
theorem k57_35 : decode zm57.2.1 35 = .ok (.ifCond .eq 8, 3) := by decide +kernel
theorem k57_43 : decode zm57.2.1 43 = .ok (.iconst 1, 1) := by decide +kernel
theorem k57_44 : decode zm57.2.1 44 = .ok (.goto 4, 3) := by decide +kernel
theorem k57_48 : decode zm57.2.1 48 = .ok (.ireturn, 1) := by decide +kernel
theorem k57_38 : decode zm57.2.1 38 = .ok (.iload_n 0, 1) := by decide +kernel
theorem k57_39 : decode zm57.2.1 39 = .ok (.iconst 1, 1) := by decide +kernel
theorem k57_40 : decode zm57.2.1 40 = .ok (.if_icmp .ne 7, 3) := by decide +kernel
theorem k57_47 : decode zm57.2.1 47 = .ok (.iconst 0, 1) := by decide +kernel
theorem k57_49 : decode zm57.2.1 49 = .ok (.iload_n 0, 1) := by decide +kernel
theorem k57_50 : decode zm57.2.1 50 = .ok (.iconst 1, 1) := by decide +kernel
theorem k57_51 : decode zm57.2.1 51 = .ok (.if_icmp .ne 7, 3) := by decide +kernel
theorem k57_58 : decode zm57.2.1 58 = .ok (.iconst 0, 1) := by decide +kernel
theorem k57_59 : decode zm57.2.1 59 = .ok (.ireturn, 1) := by decide +kernel
theorem k57_54 : decode zm57.2.1 54 = .ok (.iconst 1, 1) := by decide +kernel
theorem k57_55 : decode zm57.2.1 55 = .ok (.goto 4, 3) := by decide +kernel
theorem k57_60 : decode zm57.2.1 60 = .ok (.iload_n 0, 1) := by decide +kernel
theorem k57_61 : decode zm57.2.1 61 = .ok (.iconst 2, 1) := by decide +kernel
theorem k57_62 : decode zm57.2.1 62 = .ok (.if_icmp .eq 8, 3) := by decide +kernel
theorem k57_70 : decode zm57.2.1 70 = .ok (.iconst 1, 1) := by decide +kernel
theorem k57_71 : decode zm57.2.1 71 = .ok (.goto 4, 3) := by decide +kernel
theorem k57_75 : decode zm57.2.1 75 = .ok (.ireturn, 1) := by decide +kernel
theorem k57_65 : decode zm57.2.1 65 = .ok (.iload_n 0, 1) := by decide +kernel
theorem k57_66 : decode zm57.2.1 66 = .ok (.iconst 3, 1) := by decide +kernel
theorem k57_67 : decode zm57.2.1 67 = .ok (.if_icmp .ne 7, 3) := by decide +kernel
theorem k57_74 : decode zm57.2.1 74 = .ok (.iconst 0, 1) := by decide +kernel
theorem k57_76 : decode zm57.2.1 76 = .ok (.iload_n 1, 1) := by decide +kernel
theorem k57_77 : decode zm57.2.1 77 = .ok (.iconst 4, 1) := by decide +kernel
theorem k57_78 : decode zm57.2.1 78 = .ok (.if_icmp .ne 12, 3) := by decide +kernel
theorem k57_90 : decode zm57.2.1 90 = .ok (.iconst 0, 1) := by decide +kernel
theorem k57_91 : decode zm57.2.1 91 = .ok (.ireturn, 1) := by decide +kernel
theorem k57_81 : decode zm57.2.1 81 = .ok (.iload_n 0, 1) := by decide +kernel
theorem k57_82 : decode zm57.2.1 82 = .ok (.iconst 3, 1) := by decide +kernel
theorem k57_83 : decode zm57.2.1 83 = .ok (.if_icmp .ne 7, 3) := by decide +kernel
theorem k57_86 : decode zm57.2.1 86 = .ok (.iconst 1, 1) := by decide +kernel
theorem k57_87 : decode zm57.2.1 87 = .ok (.goto 4, 3) := by decide +kernel
theorem k63_0 : decode zm63.2.1 0 = .ok (.iload_n 0, 1) := by decide +kernel
theorem k63_1 : decode zm63.2.1 1 = .ok (.iconst 1, 1) := by decide +kernel
theorem k63_2 : decode zm63.2.1 2 = .ok (.if_icmp .eq 13, 3) := by decide +kernel
theorem k63_15 : decode zm63.2.1 15 = .ok (.iconst 1, 1) := by decide +kernel
theorem k63_16 : decode zm63.2.1 16 = .ok (.goto 4, 3) := by decide +kernel
theorem k63_20 : decode zm63.2.1 20 = .ok (.ireturn, 1) := by decide +kernel
theorem k63_5 : decode zm63.2.1 5 = .ok (.iload_n 0, 1) := by decide +kernel
theorem k63_6 : decode zm63.2.1 6 = .ok (.iconst 2, 1) := by decide +kernel
theorem k63_7 : decode zm63.2.1 7 = .ok (.if_icmp .eq 8, 3) := by decide +kernel
theorem k63_10 : decode zm63.2.1 10 = .ok (.iload_n 0, 1) := by decide +kernel
theorem k63_11 : decode zm63.2.1 11 = .ok (.iconst 3, 1) := by decide +kernel
theorem k63_12 : decode zm63.2.1 12 = .ok (.if_icmp .ne 7, 3) := by decide +kernel
theorem k63_19 : decode zm63.2.1 19 = .ok (.iconst 0, 1) := by decide +kernel
theorem k64_0 : decode zm64.2.1 0 = .ok (.iload_n 0, 1) := by decide +kernel
theorem k64_1 : decode zm64.2.1 1 = .ok (.iload_n 1, 1) := by decide +kernel
theorem k64_2 : decode zm64.2.1 2 = .ok (.ishr, 1) := by decide +kernel
theorem k64_3 : decode zm64.2.1 3 = .ok (.iconst 1, 1) := by decide +kernel
theorem k64_4 : decode zm64.2.1 4 = .ok (.iand, 1) := by decide +kernel
theorem k64_5 : decode zm64.2.1 5 = .ok (.iconst 1, 1) := by decide +kernel
theorem k64_6 : decode zm64.2.1 6 = .ok (.if_icmp .ne 7, 3) := by decide +kernel
theorem k64_13 : decode zm64.2.1 13 = .ok (.iconst 0, 1) := by decide +kernel
theorem k64_14 : decode zm64.2.1 14 = .ok (.ireturn, 1) := by decide +kernel
theorem k64_9 : decode zm64.2.1 9 = .ok (.iconst 1, 1) := by decide +kernel
theorem k64_10 : decode zm64.2.1 10 = .ok (.goto 4, 3) := by decide +kernel
theorem fk_7_26 : zfx 7 26 = some (7, 1) := by decide +kernel
theorem sh183 : zsh 183 = some (7, [some 184, none]) := by decide +kernel
theorem k65_14 : decode zm65.2.1 14 = .ok (.iload_n 2, 1) := by decide +kernel
theorem k65_15 : decode zm65.2.1 15 = .ok (.ifCond .eq 16, 3) := by decide +kernel
theorem k65_31 : decode zm65.2.1 31 = .ok (.iconst 0, 1) := by decide +kernel
theorem k65_32 : decode zm65.2.1 32 = .ok (.ireturn, 1) := by decide +kernel
theorem k65_18 : decode zm65.2.1 18 = .ok (.aload_n 0, 1) := by decide +kernel
theorem k65_19 : decode zm65.2.1 19 = .ok (.getfield 26, 3) := by decide +kernel
theorem k65_22 : decode zm65.2.1 22 = .ok (.iconst 2, 1) := by decide +kernel
theorem k65_23 : decode zm65.2.1 23 = .ok (.iand, 1) := by decide +kernel
theorem k65_24 : decode zm65.2.1 24 = .ok (.ifCond .eq 7, 3) := by decide +kernel
theorem k65_27 : decode zm65.2.1 27 = .ok (.iconst 1, 1) := by decide +kernel
theorem k65_28 : decode zm65.2.1 28 = .ok (.goto 4, 3) := by decide +kernel
theorem k65_0 : decode zm65.2.1 0 = .ok (.iload_n 1, 1) := by decide +kernel
theorem k65_1 : decode zm65.2.1 1 = .ok (.iconst 4, 1) := by decide +kernel
theorem k65_2 : decode zm65.2.1 2 = .ok (.if_icmp .ne 12, 3) := by decide +kernel
theorem k65_5 : decode zm65.2.1 5 = .ok (.aload_n 0, 1) := by decide +kernel
theorem k65_6 : decode zm65.2.1 6 = .ok (.getfield 26, 3) := by decide +kernel
theorem k65_9 : decode zm65.2.1 9 = .ok (.iconst 1, 1) := by decide +kernel
theorem k65_10 : decode zm65.2.1 10 = .ok (.iand, 1) := by decide +kernel
theorem k65_11 : decode zm65.2.1 11 = .ok (.ifCond .ne 16, 3) := by decide +kernel
theorem k66_19 : decode zm66.2.1 19 = .ok (.istore_n 3, 1) := by decide +kernel
theorem k66_20 : decode zm66.2.1 20 = .ok (.iload_n 1, 1) := by decide +kernel
theorem k66_21 : decode zm66.2.1 21 = .ok (.iconst 3, 1) := by decide +kernel
theorem k66_22 : decode zm66.2.1 22 = .ok (.if_icmp .ne 7, 3) := by decide +kernel
theorem k66_29 : decode zm66.2.1 29 = .ok (.iconst 2, 1) := by decide +kernel
theorem k66_30 : decode zm66.2.1 30 = .ok (.iload_n 3, 1) := by decide +kernel
theorem k66_31 : decode zm66.2.1 31 = .ok (.iadd, 1) := by decide +kernel
theorem k66_32 : decode zm66.2.1 32 = .ok (.ireturn, 1) := by decide +kernel
theorem k66_25 : decode zm66.2.1 25 = .ok (.iconst 1, 1) := by decide +kernel
theorem k66_26 : decode zm66.2.1 26 = .ok (.goto 4, 3) := by decide +kernel
theorem k66_18 : decode zm66.2.1 18 = .ok (.iconst 0, 1) := by decide +kernel
theorem k66_0 : decode zm66.2.1 0 = .ok (.aload_n 0, 1) := by decide +kernel
theorem k66_1 : decode zm66.2.1 1 = .ok (.getfield 26, 3) := by decide +kernel
theorem k66_4 : decode zm66.2.1 4 = .ok (.iconst 4, 1) := by decide +kernel
theorem k66_5 : decode zm66.2.1 5 = .ok (.iand, 1) := by decide +kernel
theorem k66_6 : decode zm66.2.1 6 = .ok (.ifCond .eq 12, 3) := by decide +kernel
theorem k66_9 : decode zm66.2.1 9 = .ok (.iload_n 2, 1) := by decide +kernel
theorem k66_10 : decode zm66.2.1 10 = .ok (.iconst 2, 1) := by decide +kernel
theorem k66_11 : decode zm66.2.1 11 = .ok (.if_icmp .lt 7, 3) := by decide +kernel
theorem k66_14 : decode zm66.2.1 14 = .ok (.iconst 1, 1) := by decide +kernel
theorem k66_15 : decode zm66.2.1 15 = .ok (.goto 4, 3) := by decide +kernel
theorem k67_0 : decode zm67.2.1 0 = .ok (.iload_n 0, 1) := by decide +kernel
theorem k67_1 : decode zm67.2.1 1 = .ok (.iconst 3, 1) := by decide +kernel
theorem k67_2 : decode zm67.2.1 2 = .ok (.if_icmp .ne 13, 3) := by decide +kernel
theorem k67_15 : decode zm67.2.1 15 = .ok (.iload_n 0, 1) := by decide +kernel
theorem k67_16 : decode zm67.2.1 16 = .ok (.iconst 2, 1) := by decide +kernel
theorem k67_17 : decode zm67.2.1 17 = .ok (.if_icmp .ne 7, 3) := by decide +kernel
theorem k67_24 : decode zm67.2.1 24 = .ok (.iconst 0, 1) := by decide +kernel
theorem k67_25 : decode zm67.2.1 25 = .ok (.ireturn, 1) := by decide +kernel
theorem k67_20 : decode zm67.2.1 20 = .ok (.iconst 1, 1) := by decide +kernel
theorem k67_21 : decode zm67.2.1 21 = .ok (.goto 4, 3) := by decide +kernel
theorem k67_5 : decode zm67.2.1 5 = .ok (.iload_n 1, 1) := by decide +kernel
theorem k67_6 : decode zm67.2.1 6 = .ok (.ifCond .eq 7, 3) := by decide +kernel
theorem k67_13 : decode zm67.2.1 13 = .ok (.iconst 1, 1) := by decide +kernel
theorem k67_14 : decode zm67.2.1 14 = .ok (.ireturn, 1) := by decide +kernel
theorem k67_9 : decode zm67.2.1 9 = .ok (.iload_n 2, 1) := by decide +kernel
theorem k67_10 : decode zm67.2.1 10 = .ok (.goto 4, 3) := by decide +kernel
theorem fk_0_43 : zfx 0 43 = some (0, 5) := by decide +kernel
theorem fk_0_101 : zfx 0 101 = some (6, 1) := by decide +kernel
theorem sh180 : zsh 180 = some (6, [some 181, none]) := by decide +kernel
theorem pi_6_1 : zdes 6 1 = "I" ∧ zfin 6 1 = false := by decide +kernel
theorem k70_0 : decode zm70.2.1 0 = .ok (.aload_n 0, 1) := by decide +kernel
theorem k70_1 : decode zm70.2.1 1 = .ok (.getfield 43, 3) := by decide +kernel
theorem k70_4 : decode zm70.2.1 4 = .ok (.getfield 101, 3) := by decide +kernel
theorem k70_7 : decode zm70.2.1 7 = .ok (.istore_n 1, 1) := by decide +kernel
theorem k70_8 : decode zm70.2.1 8 = .ok (.aload_n 0, 1) := by decide +kernel
theorem k70_9 : decode zm70.2.1 9 = .ok (.getfield 43, 3) := by decide +kernel
theorem k70_12 : decode zm70.2.1 12 = .ok (.iconst 0, 1) := by decide +kernel
theorem k70_13 : decode zm70.2.1 13 = .ok (.putfield 101, 3) := by decide +kernel
theorem k70_16 : decode zm70.2.1 16 = .ok (.iload_n 1, 1) := by decide +kernel
theorem k70_17 : decode zm70.2.1 17 = .ok (.ireturn, 1) := by decide +kernel
theorem k79_0 : decode zm79.2.1 0 = .ok (.iload_n 1, 1) := by decide +kernel
theorem k79_1 : decode zm79.2.1 1 = .ok (.ifCond .lt 15, 3) := by decide +kernel
theorem k79_16 : decode zm79.2.1 16 = .ok (.aconst_null, 1) := by decide +kernel
theorem k79_17 : decode zm79.2.1 17 = .ok (.areturn, 1) := by decide +kernel
theorem k79_4 : decode zm79.2.1 4 = .ok (.iload_n 1, 1) := by decide +kernel
theorem k79_5 : decode zm79.2.1 5 = .ok (.aload_n 0, 1) := by decide +kernel
theorem k79_6 : decode zm79.2.1 6 = .ok (.arraylength, 1) := by decide +kernel
theorem k79_7 : decode zm79.2.1 7 = .ok (.if_icmp .ge 9, 3) := by decide +kernel
theorem k79_10 : decode zm79.2.1 10 = .ok (.aload_n 0, 1) := by decide +kernel
theorem k79_11 : decode zm79.2.1 11 = .ok (.iload_n 1, 1) := by decide +kernel
theorem k79_12 : decode zm79.2.1 12 = .ok (.aaload, 1) := by decide +kernel
theorem k79_13 : decode zm79.2.1 13 = .ok (.goto 4, 3) := by decide +kernel
theorem b8_60 : (Int8.ofInt 60).toInt32 = 60 := by decide
theorem lk_0_318 : zmx 0 318 = some (1002, 0) := by decide +kernel
theorem k86_10 : decode zm86.2.1 10 = .ok (.istore_n 3, 1) := by decide +kernel
theorem k86_11 : decode zm86.2.1 11 = .ok (.bipush 60, 2) := by decide +kernel
theorem k86_13 : decode zm86.2.1 13 = .ok (.iload_n 3, 1) := by decide +kernel
theorem k86_14 : decode zm86.2.1 14 = .ok (.iconst 2, 1) := by decide +kernel
theorem k86_15 : decode zm86.2.1 15 = .ok (.iload_n 2, 1) := by decide +kernel
theorem k86_16 : decode zm86.2.1 16 = .ok (.imul, 1) := by decide +kernel
theorem k86_17 : decode zm86.2.1 17 = .ok (.iadd, 1) := by decide +kernel
theorem k86_18 : decode zm86.2.1 18 = .ok (.invokestatic 318, 3) := by decide +kernel
theorem k86_21 : decode zm86.2.1 21 = .ok (.ireturn, 1) := by decide +kernel
theorem k86_0 : decode zm86.2.1 0 = .ok (.iload_n 1, 1) := by decide +kernel
theorem k86_1 : decode zm86.2.1 1 = .ok (.iconst 1, 1) := by decide +kernel
theorem k86_2 : decode zm86.2.1 2 = .ok (.if_icmp .ne 7, 3) := by decide +kernel
theorem k86_9 : decode zm86.2.1 9 = .ok (.iconst 0, 1) := by decide +kernel
theorem k86_5 : decode zm86.2.1 5 = .ok (.iload_n 0, 1) := by decide +kernel
theorem k86_6 : decode zm86.2.1 6 = .ok (.goto 4, 3) := by decide +kernel
theorem ci_12_265 : zix 12 265 = some 1431655765 := by decide +kernel
theorem ci_12_266 : zix 12 266 = some 858993459 := by decide +kernel
theorem ci_12_267 : zix 12 267 = some 252645135 := by decide +kernel
theorem b8_8 : (Int8.ofInt 8).toInt32 = 8 := by decide
theorem b8_16 : (Int8.ofInt 16).toInt32 = 16 := by decide
theorem b8_63 : (Int8.ofInt 63).toInt32 = 63 := by decide
theorem k111_0 : decode zm111.2.1 0 = .ok (.iload_n 0, 1) := by decide +kernel
theorem k111_1 : decode zm111.2.1 1 = .ok (.iload_n 0, 1) := by decide +kernel
theorem k111_2 : decode zm111.2.1 2 = .ok (.iconst 1, 1) := by decide +kernel
theorem k111_3 : decode zm111.2.1 3 = .ok (.iushr, 1) := by decide +kernel
theorem k111_4 : decode zm111.2.1 4 = .ok (.ldc_w 265, 3) := by decide +kernel
theorem k111_7 : decode zm111.2.1 7 = .ok (.iand, 1) := by decide +kernel
theorem k111_8 : decode zm111.2.1 8 = .ok (.isub, 1) := by decide +kernel
theorem k111_9 : decode zm111.2.1 9 = .ok (.istore_n 0, 1) := by decide +kernel
theorem k111_10 : decode zm111.2.1 10 = .ok (.iload_n 0, 1) := by decide +kernel
theorem k111_11 : decode zm111.2.1 11 = .ok (.ldc_w 266, 3) := by decide +kernel
theorem k111_14 : decode zm111.2.1 14 = .ok (.iand, 1) := by decide +kernel
theorem k111_15 : decode zm111.2.1 15 = .ok (.iload_n 0, 1) := by decide +kernel
theorem k111_16 : decode zm111.2.1 16 = .ok (.iconst 2, 1) := by decide +kernel
theorem k111_17 : decode zm111.2.1 17 = .ok (.iushr, 1) := by decide +kernel
theorem k111_18 : decode zm111.2.1 18 = .ok (.ldc_w 266, 3) := by decide +kernel
theorem k111_21 : decode zm111.2.1 21 = .ok (.iand, 1) := by decide +kernel
theorem k111_22 : decode zm111.2.1 22 = .ok (.iadd, 1) := by decide +kernel
theorem k111_23 : decode zm111.2.1 23 = .ok (.istore_n 0, 1) := by decide +kernel
theorem k111_24 : decode zm111.2.1 24 = .ok (.iload_n 0, 1) := by decide +kernel
theorem k111_25 : decode zm111.2.1 25 = .ok (.iload_n 0, 1) := by decide +kernel
theorem k111_26 : decode zm111.2.1 26 = .ok (.iconst 4, 1) := by decide +kernel
theorem k111_27 : decode zm111.2.1 27 = .ok (.iushr, 1) := by decide +kernel
theorem k111_28 : decode zm111.2.1 28 = .ok (.iadd, 1) := by decide +kernel
theorem k111_29 : decode zm111.2.1 29 = .ok (.ldc_w 267, 3) := by decide +kernel
theorem k111_32 : decode zm111.2.1 32 = .ok (.iand, 1) := by decide +kernel
theorem k111_33 : decode zm111.2.1 33 = .ok (.istore_n 0, 1) := by decide +kernel
theorem k111_34 : decode zm111.2.1 34 = .ok (.iload_n 0, 1) := by decide +kernel
theorem k111_35 : decode zm111.2.1 35 = .ok (.iload_n 0, 1) := by decide +kernel
theorem k111_36 : decode zm111.2.1 36 = .ok (.bipush 8, 2) := by decide +kernel
theorem k111_38 : decode zm111.2.1 38 = .ok (.iushr, 1) := by decide +kernel
theorem k111_39 : decode zm111.2.1 39 = .ok (.iadd, 1) := by decide +kernel
theorem k111_40 : decode zm111.2.1 40 = .ok (.istore_n 0, 1) := by decide +kernel
theorem k111_41 : decode zm111.2.1 41 = .ok (.iload_n 0, 1) := by decide +kernel
theorem k111_42 : decode zm111.2.1 42 = .ok (.iload_n 0, 1) := by decide +kernel
theorem k111_43 : decode zm111.2.1 43 = .ok (.bipush 16, 2) := by decide +kernel
theorem k111_45 : decode zm111.2.1 45 = .ok (.iushr, 1) := by decide +kernel
theorem k111_46 : decode zm111.2.1 46 = .ok (.iadd, 1) := by decide +kernel
theorem k111_47 : decode zm111.2.1 47 = .ok (.istore_n 0, 1) := by decide +kernel
theorem k111_48 : decode zm111.2.1 48 = .ok (.iload_n 0, 1) := by decide +kernel
theorem k111_49 : decode zm111.2.1 49 = .ok (.bipush 63, 2) := by decide +kernel
theorem k111_51 : decode zm111.2.1 51 = .ok (.iand, 1) := by decide +kernel
theorem k111_52 : decode zm111.2.1 52 = .ok (.ireturn, 1) := by decide +kernel
theorem fk_8_11 : zfx 8 11 = some (8, 0) := by decide +kernel
theorem sh186 : zsh 186 = some (8, [some 187, some 188, some 191, some 193, none, none, none]) := by decide +kernel
theorem sh187 : zsh 187 = some (23, [some 195, some 198, some 201, some 204, some 207, some 210]) := by decide +kernel
theorem fk_8_18 : zfx 8 18 = some (8, 1) := by decide +kernel
theorem k120_23 : decode zm120.2.1 23 = .ok (.astore_n 2, 1) := by decide +kernel
theorem k120_24 : decode zm120.2.1 24 = .ok (.aload_n 2, 1) := by decide +kernel
theorem k120_25 : decode zm120.2.1 25 = .ok (.ifnonnull 10, 3) := by decide +kernel
theorem k120_28 : decode zm120.2.1 28 = .ok (.aload_n 0, 1) := by decide +kernel
theorem k120_29 : decode zm120.2.1 29 = .ok (.getfield 18, 3) := by decide +kernel
theorem k120_32 : decode zm120.2.1 32 = .ok (.goto 4, 3) := by decide +kernel
theorem k120_36 : decode zm120.2.1 36 = .ok (.areturn, 1) := by decide +kernel
theorem k120_35 : decode zm120.2.1 35 = .ok (.aload_n 2, 1) := by decide +kernel
theorem k120_22 : decode zm120.2.1 22 = .ok (.aconst_null, 1) := by decide +kernel
theorem k120_0 : decode zm120.2.1 0 = .ok (.iload_n 1, 1) := by decide +kernel
theorem k120_1 : decode zm120.2.1 1 = .ok (.ifCond .lt 21, 3) := by decide +kernel
theorem k120_4 : decode zm120.2.1 4 = .ok (.iload_n 1, 1) := by decide +kernel
theorem k120_5 : decode zm120.2.1 5 = .ok (.aload_n 0, 1) := by decide +kernel
theorem k120_6 : decode zm120.2.1 6 = .ok (.getfield 11, 3) := by decide +kernel
theorem k120_9 : decode zm120.2.1 9 = .ok (.arraylength, 1) := by decide +kernel
theorem k120_10 : decode zm120.2.1 10 = .ok (.if_icmp .ge 12, 3) := by decide +kernel
theorem k120_13 : decode zm120.2.1 13 = .ok (.aload_n 0, 1) := by decide +kernel
theorem k120_14 : decode zm120.2.1 14 = .ok (.getfield 11, 3) := by decide +kernel
theorem k120_17 : decode zm120.2.1 17 = .ok (.iload_n 1, 1) := by decide +kernel
theorem k120_18 : decode zm120.2.1 18 = .ok (.aaload, 1) := by decide +kernel
theorem k120_19 : decode zm120.2.1 19 = .ok (.goto 4, 3) := by decide +kernel
theorem fk_0_57 : zfx 0 57 = some (0, 7) := by decide +kernel
theorem fk_0_102 : zfx 0 102 = some (8, 4) := by decide +kernel
theorem pi_8_4 : zdes 8 4 = "I" ∧ zfin 8 4 = false := by decide +kernel
theorem k121_0 : decode zm121.2.1 0 = .ok (.aload_n 0, 1) := by decide +kernel
theorem k121_1 : decode zm121.2.1 1 = .ok (.getfield 57, 3) := by decide +kernel
theorem k121_4 : decode zm121.2.1 4 = .ok (.getfield 102, 3) := by decide +kernel
theorem k121_7 : decode zm121.2.1 7 = .ok (.istore_n 1, 1) := by decide +kernel
theorem k121_8 : decode zm121.2.1 8 = .ok (.aload_n 0, 1) := by decide +kernel
theorem k121_9 : decode zm121.2.1 9 = .ok (.getfield 57, 3) := by decide +kernel
theorem k121_12 : decode zm121.2.1 12 = .ok (.iconst 0, 1) := by decide +kernel
theorem k121_13 : decode zm121.2.1 13 = .ok (.putfield 102, 3) := by decide +kernel
theorem k121_16 : decode zm121.2.1 16 = .ok (.iload_n 1, 1) := by decide +kernel
theorem k121_17 : decode zm121.2.1 17 = .ok (.ireturn, 1) := by decide +kernel
theorem k143_4 : decode zm143.2.1 4 = .ok (.iload_n 2, 1) := by decide +kernel
theorem k143_5 : decode zm143.2.1 5 = .ok (.aload_n 0, 1) := by decide +kernel
theorem k143_6 : decode zm143.2.1 6 = .ok (.getfield 7, 3) := by decide +kernel
theorem k143_9 : decode zm143.2.1 9 = .ok (.arraylength, 1) := by decide +kernel
theorem k143_10 : decode zm143.2.1 10 = .ok (.if_icmp .ge 18, 3) := by decide +kernel
theorem k143_28 : decode zm143.2.1 28 = .ok (.iload_n 1, 1) := by decide +kernel
theorem k143_29 : decode zm143.2.1 29 = .ok (.ireturn, 1) := by decide +kernel
theorem k143_13 : decode zm143.2.1 13 = .ok (.iload_n 1, 1) := by decide +kernel
theorem k143_14 : decode zm143.2.1 14 = .ok (.aload_n 0, 1) := by decide +kernel
theorem k143_15 : decode zm143.2.1 15 = .ok (.getfield 7, 3) := by decide +kernel
theorem k143_18 : decode zm143.2.1 18 = .ok (.iload_n 2, 1) := by decide +kernel
theorem k143_19 : decode zm143.2.1 19 = .ok (.iaload, 1) := by decide +kernel
theorem k143_20 : decode zm143.2.1 20 = .ok (.iadd, 1) := by decide +kernel
theorem k143_21 : decode zm143.2.1 21 = .ok (.istore_n 1, 1) := by decide +kernel
theorem k143_22 : decode zm143.2.1 22 = .ok (.iinc 2 1, 3) := by decide +kernel
theorem k143_25 : decode zm143.2.1 25 = .ok (.goto (-21), 3) := by decide +kernel
theorem k143_0 : decode zm143.2.1 0 = .ok (.iconst 0, 1) := by decide +kernel
theorem k143_1 : decode zm143.2.1 1 = .ok (.istore_n 1, 1) := by decide +kernel
theorem k143_2 : decode zm143.2.1 2 = .ok (.iconst 0, 1) := by decide +kernel
theorem k143_3 : decode zm143.2.1 3 = .ok (.istore_n 2, 1) := by decide +kernel
theorem k146_0 : decode zm146.2.1 0 = .ok (.lload_n 0, 1) := by decide +kernel
theorem k146_1 : decode zm146.2.1 1 = .ok (.lload_n 2, 1) := by decide +kernel
theorem k146_2 : decode zm146.2.1 2 = .ok (.lcmp, 1) := by decide +kernel
theorem k146_3 : decode zm146.2.1 3 = .ok (.ifCond .lt 14, 3) := by decide +kernel
theorem k146_17 : decode zm146.2.1 17 = .ok (.iconst 0, 1) := by decide +kernel
theorem k146_18 : decode zm146.2.1 18 = .ok (.ireturn, 1) := by decide +kernel
theorem k146_6 : decode zm146.2.1 6 = .ok (.lload_n 0, 1) := by decide +kernel
theorem k146_7 : decode zm146.2.1 7 = .ok (.lload 4, 2) := by decide +kernel
theorem k146_9 : decode zm146.2.1 9 = .ok (.lcmp, 1) := by decide +kernel
theorem k146_10 : decode zm146.2.1 10 = .ok (.ifCond .gt 7, 3) := by decide +kernel
theorem k146_13 : decode zm146.2.1 13 = .ok (.iconst 1, 1) := by decide +kernel
theorem k146_14 : decode zm146.2.1 14 = .ok (.goto 4, 3) := by decide +kernel
theorem fk_10_69 : zfx 10 69 = some (10, 4) := by decide +kernel
theorem sh222 : zsh 222 = some (10, [some 223, none, some 224, some 225, none, some 226, none, some 227, some 228, none, some 229, none, some 230, some 231, none, none, none, some 232, none, some 233, some 234, none, none, none, none, none, none, none, some 235, none, some 236, some 237, none, none, some 238]) := by decide +kernel
theorem pi_10_4 : zdes 10 4 = "I" ∧ zfin 10 4 = false := by decide +kernel
theorem k147_0 : decode zm147.2.1 0 = .ok (.aload_n 0, 1) := by decide +kernel
theorem k147_1 : decode zm147.2.1 1 = .ok (.getfield 69, 3) := by decide +kernel
theorem k147_4 : decode zm147.2.1 4 = .ok (.istore_n 1, 1) := by decide +kernel
theorem k147_5 : decode zm147.2.1 5 = .ok (.aload_n 0, 1) := by decide +kernel
theorem k147_6 : decode zm147.2.1 6 = .ok (.iconst 0, 1) := by decide +kernel
theorem k147_7 : decode zm147.2.1 7 = .ok (.putfield 69, 3) := by decide +kernel
theorem k147_10 : decode zm147.2.1 10 = .ok (.iload_n 1, 1) := by decide +kernel
theorem k147_11 : decode zm147.2.1 11 = .ok (.ireturn, 1) := by decide +kernel
theorem b8_97 : (Int8.ofInt 97).toInt32 = 97 := by decide
theorem b8_122 : (Int8.ofInt 122).toInt32 = 122 := by decide
theorem b8_48 : (Int8.ofInt 48).toInt32 = 48 := by decide
theorem b8_57 : (Int8.ofInt 57).toInt32 = 57 := by decide
theorem k150_16 : decode zm150.2.1 16 = .ok (.iload_n 0, 1) := by decide +kernel
theorem k150_17 : decode zm150.2.1 17 = .ok (.bipush 48, 2) := by decide +kernel
theorem k150_19 : decode zm150.2.1 19 = .ok (.if_icmp .lt 13, 3) := by decide +kernel
theorem k150_32 : decode zm150.2.1 32 = .ok (.iconst 0, 1) := by decide +kernel
theorem k150_33 : decode zm150.2.1 33 = .ok (.ireturn, 1) := by decide +kernel
theorem k150_22 : decode zm150.2.1 22 = .ok (.iload_n 0, 1) := by decide +kernel
theorem k150_23 : decode zm150.2.1 23 = .ok (.bipush 57, 2) := by decide +kernel
theorem k150_25 : decode zm150.2.1 25 = .ok (.if_icmp .gt 7, 3) := by decide +kernel
theorem k150_28 : decode zm150.2.1 28 = .ok (.iconst 2, 1) := by decide +kernel
theorem k150_29 : decode zm150.2.1 29 = .ok (.goto 4, 3) := by decide +kernel
theorem k150_0 : decode zm150.2.1 0 = .ok (.iload_n 0, 1) := by decide +kernel
theorem k150_1 : decode zm150.2.1 1 = .ok (.bipush 97, 2) := by decide +kernel
theorem k150_3 : decode zm150.2.1 3 = .ok (.if_icmp .lt 13, 3) := by decide +kernel
theorem k150_6 : decode zm150.2.1 6 = .ok (.iload_n 0, 1) := by decide +kernel
theorem k150_7 : decode zm150.2.1 7 = .ok (.bipush 122, 2) := by decide +kernel
theorem k150_9 : decode zm150.2.1 9 = .ok (.if_icmp .gt 7, 3) := by decide +kernel
theorem k150_12 : decode zm150.2.1 12 = .ok (.iconst 1, 1) := by decide +kernel
theorem k150_13 : decode zm150.2.1 13 = .ok (.goto 20, 3) := by decide +kernel
theorem fk_10_82 : zfx 10 82 = some (10, 24) := by decide +kernel
theorem fk_10_75 : zfx 10 75 = some (10, 23) := by decide +kernel
theorem fk_10_17 : zfx 10 17 = some (10, 3) := by decide +kernel
theorem ar225 : zArr 225 := zArr_of (by decide +kernel)
theorem b8_96 : (Int8.ofInt 96).toInt32 = 96 := by decide
theorem b8_6 : (Int8.ofInt 6).toInt32 = 6 := by decide
theorem oi_5 : Int32.ofInt 5 = 5 := by decide
theorem b8_31 : (Int8.ofInt 31).toInt32 = 31 := by decide
theorem k154_77 : decode zm154.2.1 77 = .ok (.istore 4, 2) := by decide +kernel
theorem k154_79 : decode zm154.2.1 79 = .ok (.iinc 5 1, 3) := by decide +kernel
theorem k154_82 : decode zm154.2.1 82 = .ok (.goto (-59), 3) := by decide +kernel
theorem k154_68 : decode zm154.2.1 68 = .ok (.iadd, 1) := by decide +kernel
theorem k154_69 : decode zm154.2.1 69 = .ok (.if_icmp .ne 7, 3) := by decide +kernel
theorem k154_76 : decode zm154.2.1 76 = .ok (.iconst 0, 1) := by decide +kernel
theorem k154_72 : decode zm154.2.1 72 = .ok (.iconst 1, 1) := by decide +kernel
theorem k154_73 : decode zm154.2.1 73 = .ok (.goto 4, 3) := by decide +kernel
theorem k154_23 : decode zm154.2.1 23 = .ok (.iload 4, 2) := by decide +kernel
theorem k154_25 : decode zm154.2.1 25 = .ok (.ifCond .eq 60, 3) := by decide +kernel
theorem k154_85 : decode zm154.2.1 85 = .ok (.iload 4, 2) := by decide +kernel
theorem k154_87 : decode zm154.2.1 87 = .ok (.ireturn, 1) := by decide +kernel
theorem k154_28 : decode zm154.2.1 28 = .ok (.iload 5, 2) := by decide +kernel
theorem k154_30 : decode zm154.2.1 30 = .ok (.iload_n 2, 1) := by decide +kernel
theorem k154_31 : decode zm154.2.1 31 = .ok (.if_icmp .ge 54, 3) := by decide +kernel
theorem k154_34 : decode zm154.2.1 34 = .ok (.aload_n 0, 1) := by decide +kernel
theorem k154_35 : decode zm154.2.1 35 = .ok (.getfield 17, 3) := by decide +kernel
theorem k154_38 : decode zm154.2.1 38 = .ok (.aload_n 0, 1) := by decide +kernel
theorem k154_39 : decode zm154.2.1 39 = .ok (.getfield 75, 3) := by decide +kernel
theorem k154_42 : decode zm154.2.1 42 = .ok (.iload 5, 2) := by decide +kernel
theorem k154_44 : decode zm154.2.1 44 = .ok (.iadd, 1) := by decide +kernel
theorem k154_45 : decode zm154.2.1 45 = .ok (.iaload, 1) := by decide +kernel
theorem k154_46 : decode zm154.2.1 46 = .ok (.bipush 96, 2) := by decide +kernel
theorem k154_48 : decode zm154.2.1 48 = .ok (.iload 5, 2) := by decide +kernel
theorem k154_50 : decode zm154.2.1 50 = .ok (.bipush 6, 2) := by decide +kernel
theorem k154_52 : decode zm154.2.1 52 = .ok (.if_icmp .ge 15, 3) := by decide +kernel
theorem k154_67 : decode zm154.2.1 67 = .ok (.iload_n 3, 1) := by decide +kernel
theorem k154_55 : decode zm154.2.1 55 = .ok (.iload_n 1, 1) := by decide +kernel
theorem k154_56 : decode zm154.2.1 56 = .ok (.iconst 5, 1) := by decide +kernel
theorem k154_57 : decode zm154.2.1 57 = .ok (.iload 5, 2) := by decide +kernel
theorem k154_59 : decode zm154.2.1 59 = .ok (.imul, 1) := by decide +kernel
theorem k154_60 : decode zm154.2.1 60 = .ok (.ishr, 1) := by decide +kernel
theorem k154_61 : decode zm154.2.1 61 = .ok (.bipush 31, 2) := by decide +kernel
theorem k154_63 : decode zm154.2.1 63 = .ok (.iand, 1) := by decide +kernel
theorem k154_64 : decode zm154.2.1 64 = .ok (.goto 4, 3) := by decide +kernel
theorem k154_18 : decode zm154.2.1 18 = .ok (.istore 4, 2) := by decide +kernel
theorem k154_20 : decode zm154.2.1 20 = .ok (.iconst 0, 1) := by decide +kernel
theorem k154_21 : decode zm154.2.1 21 = .ok (.istore 5, 2) := by decide +kernel
theorem k154_0 : decode zm154.2.1 0 = .ok (.aload_n 0, 1) := by decide +kernel
theorem k154_1 : decode zm154.2.1 1 = .ok (.getfield 82, 3) := by decide +kernel
theorem k154_4 : decode zm154.2.1 4 = .ok (.aload_n 0, 1) := by decide +kernel
theorem k154_5 : decode zm154.2.1 5 = .ok (.getfield 75, 3) := by decide +kernel
theorem k154_8 : decode zm154.2.1 8 = .ok (.isub, 1) := by decide +kernel
theorem k154_9 : decode zm154.2.1 9 = .ok (.iload_n 2, 1) := by decide +kernel
theorem k154_10 : decode zm154.2.1 10 = .ok (.if_icmp .ne 7, 3) := by decide +kernel
theorem k154_17 : decode zm154.2.1 17 = .ok (.iconst 0, 1) := by decide +kernel
theorem k154_13 : decode zm154.2.1 13 = .ok (.iconst 1, 1) := by decide +kernel
theorem k154_14 : decode zm154.2.1 14 = .ok (.goto 4, 3) := by decide +kernel
theorem fk_10_23 : zfx 10 23 = some (10, 7) := by decide +kernel
theorem fk_10_149 : zfx 10 149 = some (10, 9) := by decide +kernel
theorem ar227 : zArr 227 := zArr_of (by decide +kernel)
theorem fk_10_26 : zfx 10 26 = some (10, 8) := by decide +kernel
theorem ar228 : zArr 228 := zArr_of (by decide +kernel)
theorem pi_10_9 : zdes 10 9 = "I" ∧ zfin 10 9 = false := by decide +kernel
theorem k162_0 : decode zm162.2.1 0 = .ok (.aload_n 0, 1) := by decide +kernel
theorem k162_1 : decode zm162.2.1 1 = .ok (.getfield 23, 3) := by decide +kernel
theorem k162_4 : decode zm162.2.1 4 = .ok (.aload_n 0, 1) := by decide +kernel
theorem k162_5 : decode zm162.2.1 5 = .ok (.getfield 149, 3) := by decide +kernel
theorem k162_8 : decode zm162.2.1 8 = .ok (.iload_n 1, 1) := by decide +kernel
theorem k162_9 : decode zm162.2.1 9 = .ok (.iastore, 1) := by decide +kernel
theorem k162_10 : decode zm162.2.1 10 = .ok (.aload_n 0, 1) := by decide +kernel
theorem k162_11 : decode zm162.2.1 11 = .ok (.getfield 26, 3) := by decide +kernel
theorem k162_14 : decode zm162.2.1 14 = .ok (.aload_n 0, 1) := by decide +kernel
theorem k162_15 : decode zm162.2.1 15 = .ok (.getfield 149, 3) := by decide +kernel
theorem k162_18 : decode zm162.2.1 18 = .ok (.iload_n 2, 1) := by decide +kernel
theorem k162_19 : decode zm162.2.1 19 = .ok (.iastore, 1) := by decide +kernel
theorem k162_20 : decode zm162.2.1 20 = .ok (.aload_n 0, 1) := by decide +kernel
theorem k162_21 : decode zm162.2.1 21 = .ok (.dup, 1) := by decide +kernel
theorem k162_22 : decode zm162.2.1 22 = .ok (.getfield 149, 3) := by decide +kernel
theorem k162_25 : decode zm162.2.1 25 = .ok (.iconst 1, 1) := by decide +kernel
theorem k162_26 : decode zm162.2.1 26 = .ok (.iadd, 1) := by decide +kernel
theorem k162_27 : decode zm162.2.1 27 = .ok (.putfield 149, 3) := by decide +kernel
theorem k162_30 : decode zm162.2.1 30 = .ok (.return_, 1) := by decide +kernel
theorem fk_10_32 : zfx 10 32 = some (10, 12) := by decide +kernel
theorem fk_10_155 : zfx 10 155 = some (10, 14) := by decide +kernel
theorem ar230 : zArr 230 := zArr_of (by decide +kernel)
theorem fk_10_35 : zfx 10 35 = some (10, 13) := by decide +kernel
theorem ar231 : zArr 231 := zArr_of (by decide +kernel)
theorem pi_10_14 : zdes 10 14 = "I" ∧ zfin 10 14 = false := by decide +kernel
theorem k163_0 : decode zm163.2.1 0 = .ok (.aload_n 0, 1) := by decide +kernel
theorem k163_1 : decode zm163.2.1 1 = .ok (.getfield 32, 3) := by decide +kernel
theorem k163_4 : decode zm163.2.1 4 = .ok (.aload_n 0, 1) := by decide +kernel
theorem k163_5 : decode zm163.2.1 5 = .ok (.getfield 155, 3) := by decide +kernel
theorem k163_8 : decode zm163.2.1 8 = .ok (.iload_n 1, 1) := by decide +kernel
theorem k163_9 : decode zm163.2.1 9 = .ok (.iastore, 1) := by decide +kernel
theorem k163_10 : decode zm163.2.1 10 = .ok (.aload_n 0, 1) := by decide +kernel
theorem k163_11 : decode zm163.2.1 11 = .ok (.getfield 35, 3) := by decide +kernel
theorem k163_14 : decode zm163.2.1 14 = .ok (.aload_n 0, 1) := by decide +kernel
theorem k163_15 : decode zm163.2.1 15 = .ok (.getfield 155, 3) := by decide +kernel
theorem k163_18 : decode zm163.2.1 18 = .ok (.iload_n 2, 1) := by decide +kernel
theorem k163_19 : decode zm163.2.1 19 = .ok (.iastore, 1) := by decide +kernel
theorem k163_20 : decode zm163.2.1 20 = .ok (.aload_n 0, 1) := by decide +kernel
theorem k163_21 : decode zm163.2.1 21 = .ok (.dup, 1) := by decide +kernel
theorem k163_22 : decode zm163.2.1 22 = .ok (.getfield 155, 3) := by decide +kernel
theorem k163_25 : decode zm163.2.1 25 = .ok (.iconst 1, 1) := by decide +kernel
theorem k163_26 : decode zm163.2.1 26 = .ok (.iadd, 1) := by decide +kernel
theorem k163_27 : decode zm163.2.1 27 = .ok (.putfield 155, 3) := by decide +kernel
theorem k163_30 : decode zm163.2.1 30 = .ok (.return_, 1) := by decide +kernel
theorem fk_10_152 : zfx 10 152 = some (10, 11) := by decide +kernel
theorem pi_10_11 : zdes 10 11 = "I" ∧ zfin 10 11 = false := by decide +kernel
theorem fk_10_29 : zfx 10 29 = some (10, 10) := by decide +kernel
theorem fk_10_20 : zfx 10 20 = some (10, 5) := by decide +kernel
theorem ar226 : zArr 226 := zArr_of (by decide +kernel)
theorem ar229 : zArr 229 := zArr_of (by decide +kernel)
theorem k164_2 : decode zm164.2.1 2 = .ok (.iload_n 2, 1) := by decide +kernel
theorem k164_3 : decode zm164.2.1 3 = .ok (.iconst 3, 1) := by decide +kernel
theorem k164_4 : decode zm164.2.1 4 = .ok (.if_icmp .ge 32, 3) := by decide +kernel
theorem k164_36 : decode zm164.2.1 36 = .ok (.aload_n 0, 1) := by decide +kernel
theorem k164_37 : decode zm164.2.1 37 = .ok (.dup, 1) := by decide +kernel
theorem k164_38 : decode zm164.2.1 38 = .ok (.getfield 152, 3) := by decide +kernel
theorem k164_41 : decode zm164.2.1 41 = .ok (.iconst 1, 1) := by decide +kernel
theorem k164_42 : decode zm164.2.1 42 = .ok (.iadd, 1) := by decide +kernel
theorem k164_43 : decode zm164.2.1 43 = .ok (.putfield 152, 3) := by decide +kernel
theorem k164_46 : decode zm164.2.1 46 = .ok (.return_, 1) := by decide +kernel
theorem k164_7 : decode zm164.2.1 7 = .ok (.aload_n 0, 1) := by decide +kernel
theorem k164_8 : decode zm164.2.1 8 = .ok (.getfield 29, 3) := by decide +kernel
theorem k164_11 : decode zm164.2.1 11 = .ok (.iconst 3, 1) := by decide +kernel
theorem k164_12 : decode zm164.2.1 12 = .ok (.aload_n 0, 1) := by decide +kernel
theorem k164_13 : decode zm164.2.1 13 = .ok (.getfield 152, 3) := by decide +kernel
theorem k164_16 : decode zm164.2.1 16 = .ok (.imul, 1) := by decide +kernel
theorem k164_17 : decode zm164.2.1 17 = .ok (.iload_n 2, 1) := by decide +kernel
theorem k164_18 : decode zm164.2.1 18 = .ok (.iadd, 1) := by decide +kernel
theorem k164_19 : decode zm164.2.1 19 = .ok (.aload_n 0, 1) := by decide +kernel
theorem k164_20 : decode zm164.2.1 20 = .ok (.getfield 20, 3) := by decide +kernel
theorem k164_23 : decode zm164.2.1 23 = .ok (.iload_n 1, 1) := by decide +kernel
theorem k164_24 : decode zm164.2.1 24 = .ok (.iconst 1, 1) := by decide +kernel
theorem k164_25 : decode zm164.2.1 25 = .ok (.iadd, 1) := by decide +kernel
theorem k164_26 : decode zm164.2.1 26 = .ok (.iload_n 2, 1) := by decide +kernel
theorem k164_27 : decode zm164.2.1 27 = .ok (.iadd, 1) := by decide +kernel
theorem k164_28 : decode zm164.2.1 28 = .ok (.iaload, 1) := by decide +kernel
theorem k164_29 : decode zm164.2.1 29 = .ok (.iastore, 1) := by decide +kernel
theorem k164_30 : decode zm164.2.1 30 = .ok (.iinc 2 1, 3) := by decide +kernel
theorem k164_33 : decode zm164.2.1 33 = .ok (.goto (-31), 3) := by decide +kernel
theorem k164_0 : decode zm164.2.1 0 = .ok (.iconst 0, 1) := by decide +kernel
theorem k164_1 : decode zm164.2.1 1 = .ok (.istore_n 2, 1) := by decide +kernel
theorem fk_10_38 : zfx 10 38 = some (10, 15) := by decide +kernel
theorem pi_10_15 : zdes 10 15 = "I" ∧ zfin 10 15 = false := by decide +kernel
theorem fk_10_162 : zfx 10 162 = some (10, 16) := by decide +kernel
theorem pi_10_16 : zdes 10 16 = "I" ∧ zfin 10 16 = false := by decide +kernel
theorem k165_0 : decode zm165.2.1 0 = .ok (.aload_n 0, 1) := by decide +kernel
theorem k165_1 : decode zm165.2.1 1 = .ok (.iconst 0, 1) := by decide +kernel
theorem k165_2 : decode zm165.2.1 2 = .ok (.putfield 149, 3) := by decide +kernel
theorem k165_5 : decode zm165.2.1 5 = .ok (.aload_n 0, 1) := by decide +kernel
theorem k165_6 : decode zm165.2.1 6 = .ok (.iconst 0, 1) := by decide +kernel
theorem k165_7 : decode zm165.2.1 7 = .ok (.putfield 152, 3) := by decide +kernel
theorem k165_10 : decode zm165.2.1 10 = .ok (.aload_n 0, 1) := by decide +kernel
theorem k165_11 : decode zm165.2.1 11 = .ok (.iconst 0, 1) := by decide +kernel
theorem k165_12 : decode zm165.2.1 12 = .ok (.putfield 155, 3) := by decide +kernel
theorem k165_15 : decode zm165.2.1 15 = .ok (.aload_n 0, 1) := by decide +kernel
theorem k165_16 : decode zm165.2.1 16 = .ok (.bipush 9, 2) := by decide +kernel
theorem k165_18 : decode zm165.2.1 18 = .ok (.putfield 38, 3) := by decide +kernel
theorem k165_21 : decode zm165.2.1 21 = .ok (.aload_n 0, 1) := by decide +kernel
theorem k165_22 : decode zm165.2.1 22 = .ok (.iconst 0, 1) := by decide +kernel
theorem k165_23 : decode zm165.2.1 23 = .ok (.putfield 162, 3) := by decide +kernel
theorem k165_26 : decode zm165.2.1 26 = .ok (.return_, 1) := by decide +kernel
theorem oi_m1 : Int32.ofInt (-1) = (-1) := by decide
theorem k168_115 : decode zm168.2.1 115 = .ok (.istore 4, 2) := by decide +kernel
theorem k168_117 : decode zm168.2.1 117 = .ok (.iinc 5 1, 3) := by decide +kernel
theorem k168_120 : decode zm168.2.1 120 = .ok (.goto (-107), 3) := by decide +kernel
theorem k168_93 : decode zm168.2.1 93 = .ok (.istore_n 3, 1) := by decide +kernel
theorem k168_94 : decode zm168.2.1 94 = .ok (.iload 6, 2) := by decide +kernel
theorem k168_96 : decode zm168.2.1 96 = .ok (.ifCond .eq 17, 3) := by decide +kernel
theorem k168_113 : decode zm168.2.1 113 = .ok (.iload 4, 2) := by decide +kernel
theorem k168_99 : decode zm168.2.1 99 = .ok (.aload_n 0, 1) := by decide +kernel
theorem k168_100 : decode zm168.2.1 100 = .ok (.getfield 29, 3) := by decide +kernel
theorem k168_103 : decode zm168.2.1 103 = .ok (.iconst 3, 1) := by decide +kernel
theorem k168_104 : decode zm168.2.1 104 = .ok (.iload 5, 2) := by decide +kernel
theorem k168_106 : decode zm168.2.1 106 = .ok (.imul, 1) := by decide +kernel
theorem k168_107 : decode zm168.2.1 107 = .ok (.iconst 2, 1) := by decide +kernel
theorem k168_108 : decode zm168.2.1 108 = .ok (.iadd, 1) := by decide +kernel
theorem k168_109 : decode zm168.2.1 109 = .ok (.iaload, 1) := by decide +kernel
theorem k168_110 : decode zm168.2.1 110 = .ok (.goto 5, 3) := by decide +kernel
theorem k168_71 : decode zm168.2.1 71 = .ok (.istore 6, 2) := by decide +kernel
theorem k168_73 : decode zm168.2.1 73 = .ok (.iload 6, 2) := by decide +kernel
theorem k168_75 : decode zm168.2.1 75 = .ok (.ifCond .eq 17, 3) := by decide +kernel
theorem k168_92 : decode zm168.2.1 92 = .ok (.iload_n 3, 1) := by decide +kernel
theorem k168_78 : decode zm168.2.1 78 = .ok (.aload_n 0, 1) := by decide +kernel
theorem k168_79 : decode zm168.2.1 79 = .ok (.getfield 29, 3) := by decide +kernel
theorem k168_82 : decode zm168.2.1 82 = .ok (.iconst 3, 1) := by decide +kernel
theorem k168_83 : decode zm168.2.1 83 = .ok (.iload 5, 2) := by decide +kernel
theorem k168_85 : decode zm168.2.1 85 = .ok (.imul, 1) := by decide +kernel
theorem k168_86 : decode zm168.2.1 86 = .ok (.iconst 1, 1) := by decide +kernel
theorem k168_87 : decode zm168.2.1 87 = .ok (.iadd, 1) := by decide +kernel
theorem k168_88 : decode zm168.2.1 88 = .ok (.iaload, 1) := by decide +kernel
theorem k168_89 : decode zm168.2.1 89 = .ok (.goto 4, 3) := by decide +kernel
theorem k168_70 : decode zm168.2.1 70 = .ok (.iconst 0, 1) := by decide +kernel
theorem k168_13 : decode zm168.2.1 13 = .ok (.iload 5, 2) := by decide +kernel
theorem k168_15 : decode zm168.2.1 15 = .ok (.aload_n 0, 1) := by decide +kernel
theorem k168_16 : decode zm168.2.1 16 = .ok (.getfield 152, 3) := by decide +kernel
theorem k168_19 : decode zm168.2.1 19 = .ok (.if_icmp .ge 104, 3) := by decide +kernel
theorem k168_123 : decode zm168.2.1 123 = .ok (.iload_n 3, 1) := by decide +kernel
theorem k168_124 : decode zm168.2.1 124 = .ok (.ireturn, 1) := by decide +kernel
theorem k168_22 : decode zm168.2.1 22 = .ok (.aload_n 0, 1) := by decide +kernel
theorem k168_23 : decode zm168.2.1 23 = .ok (.getfield 29, 3) := by decide +kernel
theorem k168_26 : decode zm168.2.1 26 = .ok (.iconst 3, 1) := by decide +kernel
theorem k168_27 : decode zm168.2.1 27 = .ok (.iload 5, 2) := by decide +kernel
theorem k168_29 : decode zm168.2.1 29 = .ok (.imul, 1) := by decide +kernel
theorem k168_30 : decode zm168.2.1 30 = .ok (.iaload, 1) := by decide +kernel
theorem k168_31 : decode zm168.2.1 31 = .ok (.iload_n 1, 1) := by decide +kernel
theorem k168_32 : decode zm168.2.1 32 = .ok (.if_icmp .ne 38, 3) := by decide +kernel
theorem k168_35 : decode zm168.2.1 35 = .ok (.aload_n 0, 1) := by decide +kernel
theorem k168_36 : decode zm168.2.1 36 = .ok (.getfield 29, 3) := by decide +kernel
theorem k168_39 : decode zm168.2.1 39 = .ok (.iconst 3, 1) := by decide +kernel
theorem k168_40 : decode zm168.2.1 40 = .ok (.iload 5, 2) := by decide +kernel
theorem k168_42 : decode zm168.2.1 42 = .ok (.imul, 1) := by decide +kernel
theorem k168_43 : decode zm168.2.1 43 = .ok (.iconst 2, 1) := by decide +kernel
theorem k168_44 : decode zm168.2.1 44 = .ok (.iadd, 1) := by decide +kernel
theorem k168_45 : decode zm168.2.1 45 = .ok (.iaload, 1) := by decide +kernel
theorem k168_46 : decode zm168.2.1 46 = .ok (.iload_n 2, 1) := by decide +kernel
theorem k168_47 : decode zm168.2.1 47 = .ok (.if_icmp .gt 23, 3) := by decide +kernel
theorem k168_50 : decode zm168.2.1 50 = .ok (.aload_n 0, 1) := by decide +kernel
theorem k168_51 : decode zm168.2.1 51 = .ok (.getfield 29, 3) := by decide +kernel
theorem k168_54 : decode zm168.2.1 54 = .ok (.iconst 3, 1) := by decide +kernel
theorem k168_55 : decode zm168.2.1 55 = .ok (.iload 5, 2) := by decide +kernel
theorem k168_57 : decode zm168.2.1 57 = .ok (.imul, 1) := by decide +kernel
theorem k168_58 : decode zm168.2.1 58 = .ok (.iconst 2, 1) := by decide +kernel
theorem k168_59 : decode zm168.2.1 59 = .ok (.iadd, 1) := by decide +kernel
theorem k168_60 : decode zm168.2.1 60 = .ok (.iaload, 1) := by decide +kernel
theorem k168_61 : decode zm168.2.1 61 = .ok (.iload 4, 2) := by decide +kernel
theorem k168_63 : decode zm168.2.1 63 = .ok (.if_icmp .lt 7, 3) := by decide +kernel
theorem k168_66 : decode zm168.2.1 66 = .ok (.iconst 1, 1) := by decide +kernel
theorem k168_67 : decode zm168.2.1 67 = .ok (.goto 4, 3) := by decide +kernel
theorem k168_0 : decode zm168.2.1 0 = .ok (.aload_n 0, 1) := by decide +kernel
theorem k168_1 : decode zm168.2.1 1 = .ok (.getfield 23, 3) := by decide +kernel
theorem k168_4 : decode zm168.2.1 4 = .ok (.iload_n 1, 1) := by decide +kernel
theorem k168_5 : decode zm168.2.1 5 = .ok (.iaload, 1) := by decide +kernel
theorem k168_6 : decode zm168.2.1 6 = .ok (.istore_n 3, 1) := by decide +kernel
theorem k168_7 : decode zm168.2.1 7 = .ok (.iconst (-1), 1) := by decide +kernel
theorem k168_8 : decode zm168.2.1 8 = .ok (.istore 4, 2) := by decide +kernel
theorem k168_10 : decode zm168.2.1 10 = .ok (.iconst 0, 1) := by decide +kernel
theorem k168_11 : decode zm168.2.1 11 = .ok (.istore 5, 2) := by decide +kernel
theorem b8_10 : (Int8.ofInt 10).toInt32 = 10 := by decide
theorem fk_10_7 : zfx 10 7 = some (10, 0) := by decide +kernel
theorem b8_17 : (Int8.ofInt 17).toInt32 = 17 := by decide
theorem ar223 : zArr 223 := zArr_of (by decide +kernel)
theorem k171_4 : decode zm171.2.1 4 = .ok (.iload_n 3, 1) := by decide +kernel
theorem k171_5 : decode zm171.2.1 5 = .ok (.bipush 10, 2) := by decide +kernel
theorem k171_7 : decode zm171.2.1 7 = .ok (.if_icmp .ge 26, 3) := by decide +kernel
theorem k171_33 : decode zm171.2.1 33 = .ok (.iload_n 2, 1) := by decide +kernel
theorem k171_34 : decode zm171.2.1 34 = .ok (.ireturn, 1) := by decide +kernel
theorem k171_10 : decode zm171.2.1 10 = .ok (.iload_n 2, 1) := by decide +kernel
theorem k171_11 : decode zm171.2.1 11 = .ok (.aload_n 0, 1) := by decide +kernel
theorem k171_12 : decode zm171.2.1 12 = .ok (.getfield 7, 3) := by decide +kernel
theorem k171_15 : decode zm171.2.1 15 = .ok (.bipush 17, 2) := by decide +kernel
theorem k171_17 : decode zm171.2.1 17 = .ok (.bipush 10, 2) := by decide +kernel
theorem k171_19 : decode zm171.2.1 19 = .ok (.iload_n 1, 1) := by decide +kernel
theorem k171_20 : decode zm171.2.1 20 = .ok (.imul, 1) := by decide +kernel
theorem k171_21 : decode zm171.2.1 21 = .ok (.iadd, 1) := by decide +kernel
theorem k171_22 : decode zm171.2.1 22 = .ok (.iload_n 3, 1) := by decide +kernel
theorem k171_23 : decode zm171.2.1 23 = .ok (.iadd, 1) := by decide +kernel
theorem k171_24 : decode zm171.2.1 24 = .ok (.iaload, 1) := by decide +kernel
theorem k171_25 : decode zm171.2.1 25 = .ok (.iadd, 1) := by decide +kernel
theorem k171_26 : decode zm171.2.1 26 = .ok (.istore_n 2, 1) := by decide +kernel
theorem k171_27 : decode zm171.2.1 27 = .ok (.iinc 3 1, 3) := by decide +kernel
theorem k171_30 : decode zm171.2.1 30 = .ok (.goto (-26), 3) := by decide +kernel
theorem k171_0 : decode zm171.2.1 0 = .ok (.iconst 0, 1) := by decide +kernel
theorem k171_1 : decode zm171.2.1 1 = .ok (.istore_n 2, 1) := by decide +kernel
theorem k171_2 : decode zm171.2.1 2 = .ok (.iconst 0, 1) := by decide +kernel
theorem k171_3 : decode zm171.2.1 3 = .ok (.istore_n 3, 1) := by decide +kernel
theorem fk_10_185 : zfx 10 185 = some (10, 18) := by decide +kernel
theorem fk_10_194 : zfx 10 194 = some (10, 29) := by decide +kernel
theorem pi_10_29 : zdes 10 29 = "I" ∧ zfin 10 29 = false := by decide +kernel
theorem fk_10_51 : zfx 10 51 = some (10, 28) := by decide +kernel
theorem fk_10_42 : zfx 10 42 = some (10, 17) := by decide +kernel
theorem ar232 : zArr 232 := zArr_of (by decide +kernel)
theorem ar235 : zArr 235 := zArr_of (by decide +kernel)
theorem k173_2 : decode zm173.2.1 2 = .ok (.iload_n 1, 1) := by decide +kernel
theorem k173_3 : decode zm173.2.1 3 = .ok (.aload_n 0, 1) := by decide +kernel
theorem k173_4 : decode zm173.2.1 4 = .ok (.getfield 185, 3) := by decide +kernel
theorem k173_7 : decode zm173.2.1 7 = .ok (.if_icmp .ge 21, 3) := by decide +kernel
theorem k173_28 : decode zm173.2.1 28 = .ok (.aload_n 0, 1) := by decide +kernel
theorem k173_29 : decode zm173.2.1 29 = .ok (.aload_n 0, 1) := by decide +kernel
theorem k173_30 : decode zm173.2.1 30 = .ok (.getfield 185, 3) := by decide +kernel
theorem k173_33 : decode zm173.2.1 33 = .ok (.putfield 194, 3) := by decide +kernel
theorem k173_36 : decode zm173.2.1 36 = .ok (.return_, 1) := by decide +kernel
theorem k173_10 : decode zm173.2.1 10 = .ok (.aload_n 0, 1) := by decide +kernel
theorem k173_11 : decode zm173.2.1 11 = .ok (.getfield 51, 3) := by decide +kernel
theorem k173_14 : decode zm173.2.1 14 = .ok (.iload_n 1, 1) := by decide +kernel
theorem k173_15 : decode zm173.2.1 15 = .ok (.aload_n 0, 1) := by decide +kernel
theorem k173_16 : decode zm173.2.1 16 = .ok (.getfield 42, 3) := by decide +kernel
theorem k173_19 : decode zm173.2.1 19 = .ok (.iload_n 1, 1) := by decide +kernel
theorem k173_20 : decode zm173.2.1 20 = .ok (.iaload, 1) := by decide +kernel
theorem k173_21 : decode zm173.2.1 21 = .ok (.iastore, 1) := by decide +kernel
theorem k173_22 : decode zm173.2.1 22 = .ok (.iinc 1 1, 3) := by decide +kernel
theorem k173_25 : decode zm173.2.1 25 = .ok (.goto (-23), 3) := by decide +kernel
theorem k173_0 : decode zm173.2.1 0 = .ok (.iconst 0, 1) := by decide +kernel
theorem k173_1 : decode zm173.2.1 1 = .ok (.istore_n 1, 1) := by decide +kernel
theorem k177_0 : decode zm177.2.1 0 = .ok (.iload_n 0, 1) := by decide +kernel
theorem k177_1 : decode zm177.2.1 1 = .ok (.iload_n 1, 1) := by decide +kernel
theorem k177_2 : decode zm177.2.1 2 = .ok (.ishr, 1) := by decide +kernel
theorem k177_3 : decode zm177.2.1 3 = .ok (.iconst 1, 1) := by decide +kernel
theorem k177_4 : decode zm177.2.1 4 = .ok (.iand, 1) := by decide +kernel
theorem k177_5 : decode zm177.2.1 5 = .ok (.iconst 1, 1) := by decide +kernel
theorem k177_6 : decode zm177.2.1 6 = .ok (.if_icmp .ne 7, 3) := by decide +kernel
theorem k177_13 : decode zm177.2.1 13 = .ok (.iconst 0, 1) := by decide +kernel
theorem k177_14 : decode zm177.2.1 14 = .ok (.ireturn, 1) := by decide +kernel
theorem k177_9 : decode zm177.2.1 9 = .ok (.iconst 1, 1) := by decide +kernel
theorem k177_10 : decode zm177.2.1 10 = .ok (.goto 4, 3) := by decide +kernel
theorem k179_33 : decode zm179.2.1 33 = .ok (.istore_n 2, 1) := by decide +kernel
theorem k179_34 : decode zm179.2.1 34 = .ok (.iinc 3 1, 3) := by decide +kernel
theorem k179_37 : decode zm179.2.1 37 = .ok (.goto (-33), 3) := by decide +kernel
theorem k179_28 : decode zm179.2.1 28 = .ok (.iconst 1, 1) := by decide +kernel
theorem k179_29 : decode zm179.2.1 29 = .ok (.goto 4, 3) := by decide +kernel
theorem k179_4 : decode zm179.2.1 4 = .ok (.iload_n 3, 1) := by decide +kernel
theorem k179_5 : decode zm179.2.1 5 = .ok (.iload_n 1, 1) := by decide +kernel
theorem k179_6 : decode zm179.2.1 6 = .ok (.if_icmp .ge 34, 3) := by decide +kernel
theorem k179_40 : decode zm179.2.1 40 = .ok (.iload_n 2, 1) := by decide +kernel
theorem k179_41 : decode zm179.2.1 41 = .ok (.ireturn, 1) := by decide +kernel
theorem k179_9 : decode zm179.2.1 9 = .ok (.iload_n 2, 1) := by decide +kernel
theorem k179_10 : decode zm179.2.1 10 = .ok (.ifCond .ne 18, 3) := by decide +kernel
theorem k179_13 : decode zm179.2.1 13 = .ok (.aload_n 0, 1) := by decide +kernel
theorem k179_14 : decode zm179.2.1 14 = .ok (.getfield 51, 3) := by decide +kernel
theorem k179_17 : decode zm179.2.1 17 = .ok (.iload_n 3, 1) := by decide +kernel
theorem k179_18 : decode zm179.2.1 18 = .ok (.iaload, 1) := by decide +kernel
theorem k179_19 : decode zm179.2.1 19 = .ok (.aload_n 0, 1) := by decide +kernel
theorem k179_20 : decode zm179.2.1 20 = .ok (.getfield 51, 3) := by decide +kernel
theorem k179_23 : decode zm179.2.1 23 = .ok (.iload_n 1, 1) := by decide +kernel
theorem k179_24 : decode zm179.2.1 24 = .ok (.iaload, 1) := by decide +kernel
theorem k179_25 : decode zm179.2.1 25 = .ok (.if_icmp .ne 7, 3) := by decide +kernel
theorem k179_32 : decode zm179.2.1 32 = .ok (.iconst 0, 1) := by decide +kernel
theorem k179_0 : decode zm179.2.1 0 = .ok (.iconst 0, 1) := by decide +kernel
theorem k179_1 : decode zm179.2.1 1 = .ok (.istore_n 2, 1) := by decide +kernel
theorem k179_2 : decode zm179.2.1 2 = .ok (.iconst 0, 1) := by decide +kernel
theorem k179_3 : decode zm179.2.1 3 = .ok (.istore_n 3, 1) := by decide +kernel
theorem pi_10_18 : zdes 10 18 = "I" ∧ zfin 10 18 = false := by decide +kernel
theorem k181_0 : decode zm181.2.1 0 = .ok (.aload_n 0, 1) := by decide +kernel
theorem k181_1 : decode zm181.2.1 1 = .ok (.getfield 185, 3) := by decide +kernel
theorem k181_4 : decode zm181.2.1 4 = .ok (.istore_n 1, 1) := by decide +kernel
theorem k181_5 : decode zm181.2.1 5 = .ok (.aload_n 0, 1) := by decide +kernel
theorem k181_6 : decode zm181.2.1 6 = .ok (.iconst 0, 1) := by decide +kernel
theorem k181_7 : decode zm181.2.1 7 = .ok (.putfield 185, 3) := by decide +kernel
theorem k181_10 : decode zm181.2.1 10 = .ok (.iload_n 1, 1) := by decide +kernel
theorem k181_11 : decode zm181.2.1 11 = .ok (.ireturn, 1) := by decide +kernel
theorem k186_31 : decode zm186.2.1 31 = .ok (.istore_n 1, 1) := by decide +kernel
theorem k186_32 : decode zm186.2.1 32 = .ok (.iinc 2 1, 3) := by decide +kernel
theorem k186_35 : decode zm186.2.1 35 = .ok (.goto (-31), 3) := by decide +kernel
theorem k186_26 : decode zm186.2.1 26 = .ok (.iconst 1, 1) := by decide +kernel
theorem k186_27 : decode zm186.2.1 27 = .ok (.goto 4, 3) := by decide +kernel
theorem k186_4 : decode zm186.2.1 4 = .ok (.iload_n 2, 1) := by decide +kernel
theorem k186_5 : decode zm186.2.1 5 = .ok (.aload_n 0, 1) := by decide +kernel
theorem k186_6 : decode zm186.2.1 6 = .ok (.getfield 194, 3) := by decide +kernel
theorem k186_9 : decode zm186.2.1 9 = .ok (.if_icmp .ge 29, 3) := by decide +kernel
theorem k186_38 : decode zm186.2.1 38 = .ok (.iload_n 1, 1) := by decide +kernel
theorem k186_39 : decode zm186.2.1 39 = .ok (.ireturn, 1) := by decide +kernel
theorem k186_12 : decode zm186.2.1 12 = .ok (.iload_n 1, 1) := by decide +kernel
theorem k186_13 : decode zm186.2.1 13 = .ok (.ifCond .ne 13, 3) := by decide +kernel
theorem k186_16 : decode zm186.2.1 16 = .ok (.aload_n 0, 1) := by decide +kernel
theorem k186_17 : decode zm186.2.1 17 = .ok (.getfield 51, 3) := by decide +kernel
theorem k186_20 : decode zm186.2.1 20 = .ok (.iload_n 2, 1) := by decide +kernel
theorem k186_21 : decode zm186.2.1 21 = .ok (.iaload, 1) := by decide +kernel
theorem k186_22 : decode zm186.2.1 22 = .ok (.iconst (-1), 1) := by decide +kernel
theorem k186_23 : decode zm186.2.1 23 = .ok (.if_icmp .ne 7, 3) := by decide +kernel
theorem k186_30 : decode zm186.2.1 30 = .ok (.iconst 0, 1) := by decide +kernel
theorem k186_0 : decode zm186.2.1 0 = .ok (.iconst 0, 1) := by decide +kernel
theorem k186_1 : decode zm186.2.1 1 = .ok (.istore_n 1, 1) := by decide +kernel
theorem k186_2 : decode zm186.2.1 2 = .ok (.iconst 0, 1) := by decide +kernel
theorem k186_3 : decode zm186.2.1 3 = .ok (.istore_n 2, 1) := by decide +kernel
theorem b8_73 : (Int8.ofInt 73).toInt32 = 73 := by decide
theorem k189_2 : decode zm189.2.1 2 = .ok (.iload_n 3, 1) := by decide +kernel
theorem k189_3 : decode zm189.2.1 3 = .ok (.bipush 73, 2) := by decide +kernel
theorem k189_5 : decode zm189.2.1 5 = .ok (.if_icmp .ge 25, 3) := by decide +kernel
theorem k189_30 : decode zm189.2.1 30 = .ok (.return_, 1) := by decide +kernel
theorem k189_8 : decode zm189.2.1 8 = .ok (.aload_n 0, 1) := by decide +kernel
theorem k189_9 : decode zm189.2.1 9 = .ok (.getfield 7, 3) := by decide +kernel
theorem k189_12 : decode zm189.2.1 12 = .ok (.iload_n 2, 1) := by decide +kernel
theorem k189_13 : decode zm189.2.1 13 = .ok (.iload_n 3, 1) := by decide +kernel
theorem k189_14 : decode zm189.2.1 14 = .ok (.iadd, 1) := by decide +kernel
theorem k189_15 : decode zm189.2.1 15 = .ok (.aload_n 0, 1) := by decide +kernel
theorem k189_16 : decode zm189.2.1 16 = .ok (.getfield 7, 3) := by decide +kernel
theorem k189_19 : decode zm189.2.1 19 = .ok (.iload_n 1, 1) := by decide +kernel
theorem k189_20 : decode zm189.2.1 20 = .ok (.iload_n 3, 1) := by decide +kernel
theorem k189_21 : decode zm189.2.1 21 = .ok (.iadd, 1) := by decide +kernel
theorem k189_22 : decode zm189.2.1 22 = .ok (.iaload, 1) := by decide +kernel
theorem k189_23 : decode zm189.2.1 23 = .ok (.iastore, 1) := by decide +kernel
theorem k189_24 : decode zm189.2.1 24 = .ok (.iinc 3 1, 3) := by decide +kernel
theorem k189_27 : decode zm189.2.1 27 = .ok (.goto (-25), 3) := by decide +kernel
theorem k189_0 : decode zm189.2.1 0 = .ok (.iconst 0, 1) := by decide +kernel
theorem k189_1 : decode zm189.2.1 1 = .ok (.istore_n 3, 1) := by decide +kernel
theorem k190_38 : decode zm190.2.1 38 = .ok (.iadd, 1) := by decide +kernel
theorem k190_39 : decode zm190.2.1 39 = .ok (.istore_n 1, 1) := by decide +kernel
theorem k190_40 : decode zm190.2.1 40 = .ok (.iinc 2 1, 3) := by decide +kernel
theorem k190_43 : decode zm190.2.1 43 = .ok (.goto (-39), 3) := by decide +kernel
theorem k190_4 : decode zm190.2.1 4 = .ok (.iload_n 2, 1) := by decide +kernel
theorem k190_5 : decode zm190.2.1 5 = .ok (.aload_n 0, 1) := by decide +kernel
theorem k190_6 : decode zm190.2.1 6 = .ok (.getfield 194, 3) := by decide +kernel
theorem k190_9 : decode zm190.2.1 9 = .ok (.if_icmp .ge 37, 3) := by decide +kernel
theorem k190_46 : decode zm190.2.1 46 = .ok (.iload_n 1, 1) := by decide +kernel
theorem k190_47 : decode zm190.2.1 47 = .ok (.ireturn, 1) := by decide +kernel
theorem k190_12 : decode zm190.2.1 12 = .ok (.iload_n 1, 1) := by decide +kernel
theorem k190_13 : decode zm190.2.1 13 = .ok (.aload_n 0, 1) := by decide +kernel
theorem k190_14 : decode zm190.2.1 14 = .ok (.getfield 51, 3) := by decide +kernel
theorem k190_17 : decode zm190.2.1 17 = .ok (.iload_n 2, 1) := by decide +kernel
theorem k190_18 : decode zm190.2.1 18 = .ok (.iaload, 1) := by decide +kernel
theorem k190_19 : decode zm190.2.1 19 = .ok (.iconst (-1), 1) := by decide +kernel
theorem k190_20 : decode zm190.2.1 20 = .ok (.if_icmp .ne 7, 3) := by decide +kernel
theorem k190_27 : decode zm190.2.1 27 = .ok (.aload_n 0, 1) := by decide +kernel
theorem k190_28 : decode zm190.2.1 28 = .ok (.getfield 26, 3) := by decide +kernel
theorem k190_31 : decode zm190.2.1 31 = .ok (.aload_n 0, 1) := by decide +kernel
theorem k190_32 : decode zm190.2.1 32 = .ok (.getfield 51, 3) := by decide +kernel
theorem k190_35 : decode zm190.2.1 35 = .ok (.iload_n 2, 1) := by decide +kernel
theorem k190_36 : decode zm190.2.1 36 = .ok (.iaload, 1) := by decide +kernel
theorem k190_37 : decode zm190.2.1 37 = .ok (.iaload, 1) := by decide +kernel
theorem k190_23 : decode zm190.2.1 23 = .ok (.iconst 0, 1) := by decide +kernel
theorem k190_24 : decode zm190.2.1 24 = .ok (.goto 14, 3) := by decide +kernel
theorem k190_0 : decode zm190.2.1 0 = .ok (.iconst 0, 1) := by decide +kernel
theorem k190_1 : decode zm190.2.1 1 = .ok (.istore_n 1, 1) := by decide +kernel
theorem k190_2 : decode zm190.2.1 2 = .ok (.iconst 0, 1) := by decide +kernel
theorem k190_3 : decode zm190.2.1 3 = .ok (.istore_n 2, 1) := by decide +kernel
theorem k192_15 : decode zm192.2.1 15 = .ok (.iconst 2, 1) := by decide +kernel
theorem k192_16 : decode zm192.2.1 16 = .ok (.aload_n 0, 1) := by decide +kernel
theorem k192_17 : decode zm192.2.1 17 = .ok (.getfield 38, 3) := by decide +kernel
theorem k192_20 : decode zm192.2.1 20 = .ok (.imul, 1) := by decide +kernel
theorem k192_21 : decode zm192.2.1 21 = .ok (.iadd, 1) := by decide +kernel
theorem k192_22 : decode zm192.2.1 22 = .ok (.istore_n 3, 1) := by decide +kernel
theorem k192_23 : decode zm192.2.1 23 = .ok (.iload_n 3, 1) := by decide +kernel
theorem k192_24 : decode zm192.2.1 24 = .ok (.bipush 60, 2) := by decide +kernel
theorem k192_26 : decode zm192.2.1 26 = .ok (.if_icmp .le 8, 3) := by decide +kernel
theorem k192_34 : decode zm192.2.1 34 = .ok (.iload_n 3, 1) := by decide +kernel
theorem k192_35 : decode zm192.2.1 35 = .ok (.ireturn, 1) := by decide +kernel
theorem k192_29 : decode zm192.2.1 29 = .ok (.bipush 60, 2) := by decide +kernel
theorem k192_31 : decode zm192.2.1 31 = .ok (.goto 4, 3) := by decide +kernel
theorem k192_0 : decode zm192.2.1 0 = .ok (.aload_n 0, 1) := by decide +kernel
theorem k192_1 : decode zm192.2.1 1 = .ok (.getfield 32, 3) := by decide +kernel
theorem k192_4 : decode zm192.2.1 4 = .ok (.iload_n 1, 1) := by decide +kernel
theorem k192_5 : decode zm192.2.1 5 = .ok (.iaload, 1) := by decide +kernel
theorem k192_6 : decode zm192.2.1 6 = .ok (.iconst 1, 1) := by decide +kernel
theorem k192_7 : decode zm192.2.1 7 = .ok (.if_icmp .ne 7, 3) := by decide +kernel
theorem k192_14 : decode zm192.2.1 14 = .ok (.iconst 0, 1) := by decide +kernel
theorem k192_10 : decode zm192.2.1 10 = .ok (.iload_n 2, 1) := by decide +kernel
theorem k192_11 : decode zm192.2.1 11 = .ok (.goto 4, 3) := by decide +kernel
theorem k203_4 : decode zm203.2.1 4 = .ok (.iload_n 2, 1) := by decide +kernel
theorem k203_5 : decode zm203.2.1 5 = .ok (.iload_n 0, 1) := by decide +kernel
theorem k203_6 : decode zm203.2.1 6 = .ok (.if_icmp .gt 13, 3) := by decide +kernel
theorem k203_19 : decode zm203.2.1 19 = .ok (.iload_n 1, 1) := by decide +kernel
theorem k203_20 : decode zm203.2.1 20 = .ok (.ireturn, 1) := by decide +kernel
theorem k203_9 : decode zm203.2.1 9 = .ok (.iload_n 1, 1) := by decide +kernel
theorem k203_10 : decode zm203.2.1 10 = .ok (.iload_n 2, 1) := by decide +kernel
theorem k203_11 : decode zm203.2.1 11 = .ok (.imul, 1) := by decide +kernel
theorem k203_12 : decode zm203.2.1 12 = .ok (.istore_n 1, 1) := by decide +kernel
theorem k203_13 : decode zm203.2.1 13 = .ok (.iinc 2 1, 3) := by decide +kernel
theorem k203_16 : decode zm203.2.1 16 = .ok (.goto (-12), 3) := by decide +kernel
theorem k203_0 : decode zm203.2.1 0 = .ok (.iconst 1, 1) := by decide +kernel
theorem k203_1 : decode zm203.2.1 1 = .ok (.istore_n 1, 1) := by decide +kernel
theorem k203_2 : decode zm203.2.1 2 = .ok (.iconst 2, 1) := by decide +kernel
theorem k203_3 : decode zm203.2.1 3 = .ok (.istore_n 2, 1) := by decide +kernel
theorem fk_10_57 : zfx 10 57 = some (10, 31) := by decide +kernel
theorem ar237 : zArr 237 := zArr_of (by decide +kernel)
theorem k206_31 : decode zm206.2.1 31 = .ok (.iload_n 1, 1) := by decide +kernel
theorem k206_32 : decode zm206.2.1 32 = .ok (.aload_n 0, 1) := by decide +kernel
theorem k206_33 : decode zm206.2.1 33 = .ok (.getfield 194, 3) := by decide +kernel
theorem k206_36 : decode zm206.2.1 36 = .ok (.if_icmp .ge 22, 3) := by decide +kernel
theorem k206_58 : decode zm206.2.1 58 = .ok (.iconst 0, 1) := by decide +kernel
theorem k206_59 : decode zm206.2.1 59 = .ok (.ireturn, 1) := by decide +kernel
theorem k206_39 : decode zm206.2.1 39 = .ok (.aload_n 0, 1) := by decide +kernel
theorem k206_40 : decode zm206.2.1 40 = .ok (.getfield 51, 3) := by decide +kernel
theorem k206_43 : decode zm206.2.1 43 = .ok (.iload_n 1, 1) := by decide +kernel
theorem k206_44 : decode zm206.2.1 44 = .ok (.iaload, 1) := by decide +kernel
theorem k206_45 : decode zm206.2.1 45 = .ok (.aload_n 0, 1) := by decide +kernel
theorem k206_46 : decode zm206.2.1 46 = .ok (.getfield 57, 3) := by decide +kernel
theorem k206_49 : decode zm206.2.1 49 = .ok (.iload_n 1, 1) := by decide +kernel
theorem k206_50 : decode zm206.2.1 50 = .ok (.iaload, 1) := by decide +kernel
theorem k206_51 : decode zm206.2.1 51 = .ok (.if_icmp .ge 7, 3) := by decide +kernel
theorem k206_54 : decode zm206.2.1 54 = .ok (.iconst 1, 1) := by decide +kernel
theorem k206_55 : decode zm206.2.1 55 = .ok (.goto 4, 3) := by decide +kernel
theorem k206_2 : decode zm206.2.1 2 = .ok (.iload_n 1, 1) := by decide +kernel
theorem k206_3 : decode zm206.2.1 3 = .ok (.aload_n 0, 1) := by decide +kernel
theorem k206_4 : decode zm206.2.1 4 = .ok (.getfield 194, 3) := by decide +kernel
theorem k206_7 : decode zm206.2.1 7 = .ok (.if_icmp .ge 24, 3) := by decide +kernel
theorem k206_10 : decode zm206.2.1 10 = .ok (.aload_n 0, 1) := by decide +kernel
theorem k206_11 : decode zm206.2.1 11 = .ok (.getfield 51, 3) := by decide +kernel
theorem k206_14 : decode zm206.2.1 14 = .ok (.iload_n 1, 1) := by decide +kernel
theorem k206_15 : decode zm206.2.1 15 = .ok (.iaload, 1) := by decide +kernel
theorem k206_16 : decode zm206.2.1 16 = .ok (.aload_n 0, 1) := by decide +kernel
theorem k206_17 : decode zm206.2.1 17 = .ok (.getfield 57, 3) := by decide +kernel
theorem k206_20 : decode zm206.2.1 20 = .ok (.iload_n 1, 1) := by decide +kernel
theorem k206_21 : decode zm206.2.1 21 = .ok (.iaload, 1) := by decide +kernel
theorem k206_22 : decode zm206.2.1 22 = .ok (.if_icmp .ne 9, 3) := by decide +kernel
theorem k206_25 : decode zm206.2.1 25 = .ok (.iinc 1 1, 3) := by decide +kernel
theorem k206_28 : decode zm206.2.1 28 = .ok (.goto (-26), 3) := by decide +kernel
theorem k206_0 : decode zm206.2.1 0 = .ok (.iconst 0, 1) := by decide +kernel
theorem k206_1 : decode zm206.2.1 1 = .ok (.istore_n 1, 1) := by decide +kernel
theorem k210_4 : decode zm210.2.1 4 = .ok (.iload_n 2, 1) := by decide +kernel
theorem k210_5 : decode zm210.2.1 5 = .ok (.bipush 8, 2) := by decide +kernel
theorem k210_7 : decode zm210.2.1 7 = .ok (.if_icmp .ge 17, 3) := by decide +kernel
theorem k210_24 : decode zm210.2.1 24 = .ok (.iload_n 1, 1) := by decide +kernel
theorem k210_25 : decode zm210.2.1 25 = .ok (.ireturn, 1) := by decide +kernel
theorem k210_10 : decode zm210.2.1 10 = .ok (.iload_n 1, 1) := by decide +kernel
theorem k210_11 : decode zm210.2.1 11 = .ok (.iload_n 0, 1) := by decide +kernel
theorem k210_12 : decode zm210.2.1 12 = .ok (.iload_n 2, 1) := by decide +kernel
theorem k210_13 : decode zm210.2.1 13 = .ok (.ishr, 1) := by decide +kernel
theorem k210_14 : decode zm210.2.1 14 = .ok (.iconst 1, 1) := by decide +kernel
theorem k210_15 : decode zm210.2.1 15 = .ok (.iand, 1) := by decide +kernel
theorem k210_16 : decode zm210.2.1 16 = .ok (.iadd, 1) := by decide +kernel
theorem k210_17 : decode zm210.2.1 17 = .ok (.istore_n 1, 1) := by decide +kernel
theorem k210_18 : decode zm210.2.1 18 = .ok (.iinc 2 1, 3) := by decide +kernel
theorem k210_21 : decode zm210.2.1 21 = .ok (.goto (-17), 3) := by decide +kernel
theorem k210_0 : decode zm210.2.1 0 = .ok (.iconst 0, 1) := by decide +kernel
theorem k210_1 : decode zm210.2.1 1 = .ok (.istore_n 1, 1) := by decide +kernel
theorem k210_2 : decode zm210.2.1 2 = .ok (.iconst 0, 1) := by decide +kernel
theorem k210_3 : decode zm210.2.1 3 = .ok (.istore_n 2, 1) := by decide +kernel
theorem fk_10_188 : zfx 10 188 = some (10, 21) := by decide +kernel
theorem pi_10_21 : zdes 10 21 = "I" ∧ zfin 10 21 = false := by decide +kernel
theorem k215_0 : decode zm215.2.1 0 = .ok (.aload_n 0, 1) := by decide +kernel
theorem k215_1 : decode zm215.2.1 1 = .ok (.getfield 188, 3) := by decide +kernel
theorem k215_4 : decode zm215.2.1 4 = .ok (.istore_n 1, 1) := by decide +kernel
theorem k215_5 : decode zm215.2.1 5 = .ok (.aload_n 0, 1) := by decide +kernel
theorem k215_6 : decode zm215.2.1 6 = .ok (.iconst 0, 1) := by decide +kernel
theorem k215_7 : decode zm215.2.1 7 = .ok (.putfield 188, 3) := by decide +kernel
theorem k215_10 : decode zm215.2.1 10 = .ok (.iload_n 1, 1) := by decide +kernel
theorem k215_11 : decode zm215.2.1 11 = .ok (.ireturn, 1) := by decide +kernel
theorem fk_10_48 : zfx 10 48 = some (10, 20) := by decide +kernel
theorem ar234 : zArr 234 := zArr_of (by decide +kernel)
theorem fk_10_45 : zfx 10 45 = some (10, 19) := by decide +kernel
theorem ar233 : zArr 233 := zArr_of (by decide +kernel)
theorem k217_2 : decode zm217.2.1 2 = .ok (.iload_n 2, 1) := by decide +kernel
theorem k217_3 : decode zm217.2.1 3 = .ok (.aload_n 0, 1) := by decide +kernel
theorem k217_4 : decode zm217.2.1 4 = .ok (.getfield 48, 3) := by decide +kernel
theorem k217_7 : decode zm217.2.1 7 = .ok (.iload_n 1, 1) := by decide +kernel
theorem k217_8 : decode zm217.2.1 8 = .ok (.iaload, 1) := by decide +kernel
theorem k217_9 : decode zm217.2.1 9 = .ok (.if_icmp .ge 26, 3) := by decide +kernel
theorem k217_35 : decode zm217.2.1 35 = .ok (.aload_n 0, 1) := by decide +kernel
theorem k217_36 : decode zm217.2.1 36 = .ok (.aload_n 0, 1) := by decide +kernel
theorem k217_37 : decode zm217.2.1 37 = .ok (.getfield 48, 3) := by decide +kernel
theorem k217_40 : decode zm217.2.1 40 = .ok (.iload_n 1, 1) := by decide +kernel
theorem k217_41 : decode zm217.2.1 41 = .ok (.iaload, 1) := by decide +kernel
theorem k217_42 : decode zm217.2.1 42 = .ok (.putfield 194, 3) := by decide +kernel
theorem k217_45 : decode zm217.2.1 45 = .ok (.return_, 1) := by decide +kernel
theorem k217_12 : decode zm217.2.1 12 = .ok (.aload_n 0, 1) := by decide +kernel
theorem k217_13 : decode zm217.2.1 13 = .ok (.getfield 51, 3) := by decide +kernel
theorem k217_16 : decode zm217.2.1 16 = .ok (.iload_n 2, 1) := by decide +kernel
theorem k217_17 : decode zm217.2.1 17 = .ok (.aload_n 0, 1) := by decide +kernel
theorem k217_18 : decode zm217.2.1 18 = .ok (.getfield 45, 3) := by decide +kernel
theorem k217_21 : decode zm217.2.1 21 = .ok (.bipush 8, 2) := by decide +kernel
theorem k217_23 : decode zm217.2.1 23 = .ok (.iload_n 1, 1) := by decide +kernel
theorem k217_24 : decode zm217.2.1 24 = .ok (.imul, 1) := by decide +kernel
theorem k217_25 : decode zm217.2.1 25 = .ok (.iload_n 2, 1) := by decide +kernel
theorem k217_26 : decode zm217.2.1 26 = .ok (.iadd, 1) := by decide +kernel
theorem k217_27 : decode zm217.2.1 27 = .ok (.iaload, 1) := by decide +kernel
theorem k217_28 : decode zm217.2.1 28 = .ok (.iastore, 1) := by decide +kernel
theorem k217_29 : decode zm217.2.1 29 = .ok (.iinc 2 1, 3) := by decide +kernel
theorem k217_32 : decode zm217.2.1 32 = .ok (.goto (-30), 3) := by decide +kernel
theorem k217_0 : decode zm217.2.1 0 = .ok (.iconst 0, 1) := by decide +kernel
theorem k217_1 : decode zm217.2.1 1 = .ok (.istore_n 2, 1) := by decide +kernel
theorem k227_4 : decode zm227.2.1 4 = .ok (.iload_n 3, 1) := by decide +kernel
theorem k227_5 : decode zm227.2.1 5 = .ok (.iconst 4, 1) := by decide +kernel
theorem k227_6 : decode zm227.2.1 6 = .ok (.if_icmp .ge 39, 3) := by decide +kernel
theorem k227_45 : decode zm227.2.1 45 = .ok (.iload_n 2, 1) := by decide +kernel
theorem k227_46 : decode zm227.2.1 46 = .ok (.ireturn, 1) := by decide +kernel
theorem k227_9 : decode zm227.2.1 9 = .ok (.iload_n 2, 1) := by decide +kernel
theorem k227_10 : decode zm227.2.1 10 = .ok (.aload_n 0, 1) := by decide +kernel
theorem k227_11 : decode zm227.2.1 11 = .ok (.getfield 7, 3) := by decide +kernel
theorem k227_14 : decode zm227.2.1 14 = .ok (.bipush 57, 2) := by decide +kernel
theorem k227_16 : decode zm227.2.1 16 = .ok (.iconst 4, 1) := by decide +kernel
theorem k227_17 : decode zm227.2.1 17 = .ok (.iload_n 3, 1) := by decide +kernel
theorem k227_18 : decode zm227.2.1 18 = .ok (.imul, 1) := by decide +kernel
theorem k227_19 : decode zm227.2.1 19 = .ok (.iadd, 1) := by decide +kernel
theorem k227_20 : decode zm227.2.1 20 = .ok (.iload_n 1, 1) := by decide +kernel
theorem k227_21 : decode zm227.2.1 21 = .ok (.iadd, 1) := by decide +kernel
theorem k227_22 : decode zm227.2.1 22 = .ok (.iaload, 1) := by decide +kernel
theorem k227_23 : decode zm227.2.1 23 = .ok (.aload_n 0, 1) := by decide +kernel
theorem k227_24 : decode zm227.2.1 24 = .ok (.getfield 7, 3) := by decide +kernel
theorem k227_27 : decode zm227.2.1 27 = .ok (.bipush 57, 2) := by decide +kernel
theorem k227_29 : decode zm227.2.1 29 = .ok (.iconst 4, 1) := by decide +kernel
theorem k227_30 : decode zm227.2.1 30 = .ok (.iload_n 1, 1) := by decide +kernel
theorem k227_31 : decode zm227.2.1 31 = .ok (.imul, 1) := by decide +kernel
theorem k227_32 : decode zm227.2.1 32 = .ok (.iadd, 1) := by decide +kernel
theorem k227_33 : decode zm227.2.1 33 = .ok (.iload_n 3, 1) := by decide +kernel
theorem k227_34 : decode zm227.2.1 34 = .ok (.iadd, 1) := by decide +kernel
theorem k227_35 : decode zm227.2.1 35 = .ok (.iaload, 1) := by decide +kernel
theorem k227_36 : decode zm227.2.1 36 = .ok (.isub, 1) := by decide +kernel
theorem k227_37 : decode zm227.2.1 37 = .ok (.iadd, 1) := by decide +kernel
theorem k227_38 : decode zm227.2.1 38 = .ok (.istore_n 2, 1) := by decide +kernel
theorem k227_39 : decode zm227.2.1 39 = .ok (.iinc 3 1, 3) := by decide +kernel
theorem k227_42 : decode zm227.2.1 42 = .ok (.goto (-38), 3) := by decide +kernel
theorem k227_0 : decode zm227.2.1 0 = .ok (.iconst 0, 1) := by decide +kernel
theorem k227_1 : decode zm227.2.1 1 = .ok (.istore_n 2, 1) := by decide +kernel
theorem k227_2 : decode zm227.2.1 2 = .ok (.iconst 0, 1) := by decide +kernel
theorem k227_3 : decode zm227.2.1 3 = .ok (.istore_n 3, 1) := by decide +kernel
theorem fk_10_191 : zfx 10 191 = some (10, 1) := by decide +kernel
theorem b8_m3 : (Int8.ofInt (-3)).toInt32 = (-3) := by decide
theorem k230_7 : decode zm230.2.1 7 = .ok (.iload 4, 2) := by decide +kernel
theorem k230_9 : decode zm230.2.1 9 = .ok (.aload_n 0, 1) := by decide +kernel
theorem k230_10 : decode zm230.2.1 10 = .ok (.getfield 155, 3) := by decide +kernel
theorem k230_13 : decode zm230.2.1 13 = .ok (.if_icmp .ge 33, 3) := by decide +kernel
theorem k230_46 : decode zm230.2.1 46 = .ok (.iload_n 1, 1) := by decide +kernel
theorem k230_47 : decode zm230.2.1 47 = .ok (.tableswitch 117 0 11 #[61, 66, 71, 76, 81, 86, 93, 98, 103, 108, 110, 112], 61) := by decide +kernel
theorem k230_108 : decode zm230.2.1 108 = .ok (.aload_n 0, 1) := by decide +kernel
theorem k230_109 : decode zm230.2.1 109 = .ok (.getfield 149, 3) := by decide +kernel
theorem k230_112 : decode zm230.2.1 112 = .ok (.ireturn, 1) := by decide +kernel
theorem k230_113 : decode zm230.2.1 113 = .ok (.aload_n 0, 1) := by decide +kernel
theorem k230_114 : decode zm230.2.1 114 = .ok (.getfield 155, 3) := by decide +kernel
theorem k230_117 : decode zm230.2.1 117 = .ok (.ireturn, 1) := by decide +kernel
theorem k230_118 : decode zm230.2.1 118 = .ok (.aload_n 0, 1) := by decide +kernel
theorem k230_119 : decode zm230.2.1 119 = .ok (.getfield 152, 3) := by decide +kernel
theorem k230_122 : decode zm230.2.1 122 = .ok (.ireturn, 1) := by decide +kernel
theorem k230_123 : decode zm230.2.1 123 = .ok (.aload_n 0, 1) := by decide +kernel
theorem k230_124 : decode zm230.2.1 124 = .ok (.getfield 38, 3) := by decide +kernel
theorem k230_127 : decode zm230.2.1 127 = .ok (.ireturn, 1) := by decide +kernel
theorem k230_128 : decode zm230.2.1 128 = .ok (.aload_n 0, 1) := by decide +kernel
theorem k230_129 : decode zm230.2.1 129 = .ok (.getfield 162, 3) := by decide +kernel
theorem k230_132 : decode zm230.2.1 132 = .ok (.ireturn, 1) := by decide +kernel
theorem k230_133 : decode zm230.2.1 133 = .ok (.aload_n 0, 1) := by decide +kernel
theorem k230_134 : decode zm230.2.1 134 = .ok (.getfield 7, 3) := by decide +kernel
theorem k230_137 : decode zm230.2.1 137 = .ok (.iconst 0, 1) := by decide +kernel
theorem k230_138 : decode zm230.2.1 138 = .ok (.iaload, 1) := by decide +kernel
theorem k230_139 : decode zm230.2.1 139 = .ok (.ireturn, 1) := by decide +kernel
theorem k230_140 : decode zm230.2.1 140 = .ok (.aload_n 0, 1) := by decide +kernel
theorem k230_141 : decode zm230.2.1 141 = .ok (.getfield 185, 3) := by decide +kernel
theorem k230_144 : decode zm230.2.1 144 = .ok (.ireturn, 1) := by decide +kernel
theorem k230_145 : decode zm230.2.1 145 = .ok (.aload_n 0, 1) := by decide +kernel
theorem k230_146 : decode zm230.2.1 146 = .ok (.getfield 188, 3) := by decide +kernel
theorem k230_149 : decode zm230.2.1 149 = .ok (.ireturn, 1) := by decide +kernel
theorem k230_150 : decode zm230.2.1 150 = .ok (.aload_n 0, 1) := by decide +kernel
theorem k230_151 : decode zm230.2.1 151 = .ok (.getfield 191, 3) := by decide +kernel
theorem k230_154 : decode zm230.2.1 154 = .ok (.ireturn, 1) := by decide +kernel
theorem k230_155 : decode zm230.2.1 155 = .ok (.iload_n 2, 1) := by decide +kernel
theorem k230_156 : decode zm230.2.1 156 = .ok (.ireturn, 1) := by decide +kernel
theorem k230_157 : decode zm230.2.1 157 = .ok (.iload_n 3, 1) := by decide +kernel
theorem k230_158 : decode zm230.2.1 158 = .ok (.ireturn, 1) := by decide +kernel
theorem k230_159 : decode zm230.2.1 159 = .ok (.aload_n 0, 1) := by decide +kernel
theorem k230_160 : decode zm230.2.1 160 = .ok (.getfield 69, 3) := by decide +kernel
theorem k230_163 : decode zm230.2.1 163 = .ok (.ireturn, 1) := by decide +kernel
theorem k230_164 : decode zm230.2.1 164 = .ok (.bipush (-3), 2) := by decide +kernel
theorem k230_166 : decode zm230.2.1 166 = .ok (.ireturn, 1) := by decide +kernel
theorem k230_16 : decode zm230.2.1 16 = .ok (.iload_n 2, 1) := by decide +kernel
theorem k230_17 : decode zm230.2.1 17 = .ok (.aload_n 0, 1) := by decide +kernel
theorem k230_18 : decode zm230.2.1 18 = .ok (.getfield 7, 3) := by decide +kernel
theorem k230_21 : decode zm230.2.1 21 = .ok (.iconst 1, 1) := by decide +kernel
theorem k230_22 : decode zm230.2.1 22 = .ok (.iload 4, 2) := by decide +kernel
theorem k230_24 : decode zm230.2.1 24 = .ok (.iadd, 1) := by decide +kernel
theorem k230_25 : decode zm230.2.1 25 = .ok (.iaload, 1) := by decide +kernel
theorem k230_26 : decode zm230.2.1 26 = .ok (.iadd, 1) := by decide +kernel
theorem k230_27 : decode zm230.2.1 27 = .ok (.istore_n 2, 1) := by decide +kernel
theorem k230_28 : decode zm230.2.1 28 = .ok (.iload_n 3, 1) := by decide +kernel
theorem k230_29 : decode zm230.2.1 29 = .ok (.aload_n 0, 1) := by decide +kernel
theorem k230_30 : decode zm230.2.1 30 = .ok (.getfield 7, 3) := by decide +kernel
theorem k230_33 : decode zm230.2.1 33 = .ok (.iconst 5, 1) := by decide +kernel
theorem k230_34 : decode zm230.2.1 34 = .ok (.iload 4, 2) := by decide +kernel
theorem k230_36 : decode zm230.2.1 36 = .ok (.iadd, 1) := by decide +kernel
theorem k230_37 : decode zm230.2.1 37 = .ok (.iaload, 1) := by decide +kernel
theorem k230_38 : decode zm230.2.1 38 = .ok (.iadd, 1) := by decide +kernel
theorem k230_39 : decode zm230.2.1 39 = .ok (.istore_n 3, 1) := by decide +kernel
theorem k230_40 : decode zm230.2.1 40 = .ok (.iinc 4 1, 3) := by decide +kernel
theorem k230_43 : decode zm230.2.1 43 = .ok (.goto (-36), 3) := by decide +kernel
theorem k230_0 : decode zm230.2.1 0 = .ok (.iconst 0, 1) := by decide +kernel
theorem k230_1 : decode zm230.2.1 1 = .ok (.istore_n 2, 1) := by decide +kernel
theorem k230_2 : decode zm230.2.1 2 = .ok (.iconst 0, 1) := by decide +kernel
theorem k230_3 : decode zm230.2.1 3 = .ok (.istore_n 3, 1) := by decide +kernel
theorem k230_4 : decode zm230.2.1 4 = .ok (.iconst 0, 1) := by decide +kernel
theorem k230_5 : decode zm230.2.1 5 = .ok (.istore 4, 2) := by decide +kernel
theorem fk_1_20 : zfx 1 20 = some (1, 1) := by decide +kernel
theorem s16_160 : (Int16.ofInt 160).toInt32 = 160 := by decide
theorem fk_1_14 : zfx 1 14 = some (1, 0) := by decide +kernel
theorem lk_1_24 : zmx 1 24 = some (14, 1) := by decide +kernel
theorem rw2 : zRow 2 := ⟨by decide +kernel, zArr_of (by decide +kernel)⟩
theorem k13_0 : decode zm13.2.1 0 = .ok (.aload_n 0, 1) := by decide +kernel
theorem k13_1 : decode zm13.2.1 1 = .ok (.getfield 20, 3) := by decide +kernel
theorem k13_4 : decode zm13.2.1 4 = .ok (.sipush 160, 3) := by decide +kernel
theorem k13_7 : decode zm13.2.1 7 = .ok (.if_icmp .lt 5, 3) := by decide +kernel
theorem k13_12 : decode zm13.2.1 12 = .ok (.aload_n 0, 1) := by decide +kernel
theorem k13_13 : decode zm13.2.1 13 = .ok (.getfield 14, 3) := by decide +kernel
theorem k13_16 : decode zm13.2.1 16 = .ok (.aload_n 0, 1) := by decide +kernel
theorem k13_17 : decode zm13.2.1 17 = .ok (.getfield 20, 3) := by decide +kernel
theorem k13_20 : decode zm13.2.1 20 = .ok (.iload_n 1, 1) := by decide +kernel
theorem k13_21 : decode zm13.2.1 21 = .ok (.invokevirtual 24, 3) := by decide +kernel
theorem sh2 : zsh 2 = some (2, [some 3]) := by decide +kernel
theorem k13_24 : decode zm13.2.1 24 = .ok (.aload_n 0, 1) := by decide +kernel
theorem k13_25 : decode zm13.2.1 25 = .ok (.dup, 1) := by decide +kernel
theorem k13_26 : decode zm13.2.1 26 = .ok (.getfield 20, 3) := by decide +kernel
theorem k13_29 : decode zm13.2.1 29 = .ok (.iconst 1, 1) := by decide +kernel
theorem k13_30 : decode zm13.2.1 30 = .ok (.iadd, 1) := by decide +kernel
theorem k13_31 : decode zm13.2.1 31 = .ok (.putfield 20, 3) := by decide +kernel
theorem k13_34 : decode zm13.2.1 34 = .ok (.iconst 1, 1) := by decide +kernel
theorem k13_35 : decode zm13.2.1 35 = .ok (.ireturn, 1) := by decide +kernel
theorem k13_10 : decode zm13.2.1 10 = .ok (.iconst 0, 1) := by decide +kernel
theorem k13_11 : decode zm13.2.1 11 = .ok (.ireturn, 1) := by decide +kernel
theorem fk_3_20 : zfx 3 20 = some (3, 5) := by decide +kernel
theorem lk_3_54 : zmx 3 54 = some (18, 1) := by decide +kernel
theorem fk_3_24 : zfx 3 24 = some (3, 6) := by decide +kernel
theorem fk_3_27 : zfx 3 27 = some (3, 7) := by decide +kernel
theorem fk_3_30 : zfx 3 30 = some (3, 8) := by decide +kernel
theorem fk_3_33 : zfx 3 33 = some (3, 9) := by decide +kernel
theorem fk_3_36 : zfx 3 36 = some (3, 10) := by decide +kernel
theorem fk_3_39 : zfx 3 39 = some (3, 11) := by decide +kernel
theorem k17_0 : decode zm17.2.1 0 = .ok (.aload_n 0, 1) := by decide +kernel
theorem k17_1 : decode zm17.2.1 1 = .ok (.aload_n 1, 1) := by decide +kernel
theorem k17_2 : decode zm17.2.1 2 = .ok (.getfield 42, 3) := by decide +kernel
theorem k17_5 : decode zm17.2.1 5 = .ok (.putfield 42, 3) := by decide +kernel
theorem k17_8 : decode zm17.2.1 8 = .ok (.aload_n 0, 1) := by decide +kernel
theorem k17_9 : decode zm17.2.1 9 = .ok (.aload_n 1, 1) := by decide +kernel
theorem k17_10 : decode zm17.2.1 10 = .ok (.getfield 45, 3) := by decide +kernel
theorem k17_13 : decode zm17.2.1 13 = .ok (.putfield 45, 3) := by decide +kernel
theorem k17_16 : decode zm17.2.1 16 = .ok (.aload_n 0, 1) := by decide +kernel
theorem k17_17 : decode zm17.2.1 17 = .ok (.aload_n 1, 1) := by decide +kernel
theorem k17_18 : decode zm17.2.1 18 = .ok (.getfield 48, 3) := by decide +kernel
theorem k17_21 : decode zm17.2.1 21 = .ok (.putfield 48, 3) := by decide +kernel
theorem k17_24 : decode zm17.2.1 24 = .ok (.aload_n 0, 1) := by decide +kernel
theorem k17_25 : decode zm17.2.1 25 = .ok (.aload_n 1, 1) := by decide +kernel
theorem k17_26 : decode zm17.2.1 26 = .ok (.getfield 9, 3) := by decide +kernel
theorem k17_29 : decode zm17.2.1 29 = .ok (.putfield 9, 3) := by decide +kernel
theorem k17_32 : decode zm17.2.1 32 = .ok (.aload_n 0, 1) := by decide +kernel
theorem k17_33 : decode zm17.2.1 33 = .ok (.aload_n 1, 1) := by decide +kernel
theorem k17_34 : decode zm17.2.1 34 = .ok (.getfield 51, 3) := by decide +kernel
theorem k17_37 : decode zm17.2.1 37 = .ok (.putfield 51, 3) := by decide +kernel
theorem k17_40 : decode zm17.2.1 40 = .ok (.aload_n 0, 1) := by decide +kernel
theorem k17_41 : decode zm17.2.1 41 = .ok (.getfield 20, 3) := by decide +kernel
theorem k17_44 : decode zm17.2.1 44 = .ok (.aload_n 1, 1) := by decide +kernel
theorem k17_45 : decode zm17.2.1 45 = .ok (.getfield 20, 3) := by decide +kernel
theorem k17_48 : decode zm17.2.1 48 = .ok (.invokevirtual 54, 3) := by decide +kernel
theorem k17_51 : decode zm17.2.1 51 = .ok (.aload_n 0, 1) := by decide +kernel
theorem k17_52 : decode zm17.2.1 52 = .ok (.getfield 24, 3) := by decide +kernel
theorem k17_55 : decode zm17.2.1 55 = .ok (.aload_n 1, 1) := by decide +kernel
theorem k17_56 : decode zm17.2.1 56 = .ok (.getfield 24, 3) := by decide +kernel
theorem k17_59 : decode zm17.2.1 59 = .ok (.invokevirtual 54, 3) := by decide +kernel
theorem k17_62 : decode zm17.2.1 62 = .ok (.aload_n 0, 1) := by decide +kernel
theorem k17_63 : decode zm17.2.1 63 = .ok (.getfield 27, 3) := by decide +kernel
theorem k17_66 : decode zm17.2.1 66 = .ok (.aload_n 1, 1) := by decide +kernel
theorem k17_67 : decode zm17.2.1 67 = .ok (.getfield 27, 3) := by decide +kernel
theorem k17_70 : decode zm17.2.1 70 = .ok (.invokevirtual 54, 3) := by decide +kernel
theorem k17_73 : decode zm17.2.1 73 = .ok (.aload_n 0, 1) := by decide +kernel
theorem k17_74 : decode zm17.2.1 74 = .ok (.getfield 30, 3) := by decide +kernel
theorem k17_77 : decode zm17.2.1 77 = .ok (.aload_n 1, 1) := by decide +kernel
theorem k17_78 : decode zm17.2.1 78 = .ok (.getfield 30, 3) := by decide +kernel
theorem k17_81 : decode zm17.2.1 81 = .ok (.invokevirtual 54, 3) := by decide +kernel
theorem k17_84 : decode zm17.2.1 84 = .ok (.aload_n 0, 1) := by decide +kernel
theorem k17_85 : decode zm17.2.1 85 = .ok (.getfield 33, 3) := by decide +kernel
theorem k17_88 : decode zm17.2.1 88 = .ok (.aload_n 1, 1) := by decide +kernel
theorem k17_89 : decode zm17.2.1 89 = .ok (.getfield 33, 3) := by decide +kernel
theorem k17_92 : decode zm17.2.1 92 = .ok (.invokevirtual 54, 3) := by decide +kernel
theorem k17_95 : decode zm17.2.1 95 = .ok (.aload_n 0, 1) := by decide +kernel
theorem k17_96 : decode zm17.2.1 96 = .ok (.getfield 36, 3) := by decide +kernel
theorem k17_99 : decode zm17.2.1 99 = .ok (.aload_n 1, 1) := by decide +kernel
theorem k17_100 : decode zm17.2.1 100 = .ok (.getfield 36, 3) := by decide +kernel
theorem k17_103 : decode zm17.2.1 103 = .ok (.invokevirtual 54, 3) := by decide +kernel
theorem k17_106 : decode zm17.2.1 106 = .ok (.aload_n 0, 1) := by decide +kernel
theorem k17_107 : decode zm17.2.1 107 = .ok (.getfield 39, 3) := by decide +kernel
theorem k17_110 : decode zm17.2.1 110 = .ok (.aload_n 1, 1) := by decide +kernel
theorem k17_111 : decode zm17.2.1 111 = .ok (.getfield 39, 3) := by decide +kernel
theorem k17_114 : decode zm17.2.1 114 = .ok (.invokevirtual 54, 3) := by decide +kernel
theorem k17_117 : decode zm17.2.1 117 = .ok (.return_, 1) := by decide +kernel
theorem lk_1_77 : zmx 1 77 = some (12, 0) := by decide +kernel
theorem k22_0 : decode zm22.2.1 0 = .ok (.iload_n 0, 1) := by decide +kernel
theorem k22_1 : decode zm22.2.1 1 = .ok (.bipush 97, 2) := by decide +kernel
theorem k22_3 : decode zm22.2.1 3 = .ok (.bipush 122, 2) := by decide +kernel
theorem k22_5 : decode zm22.2.1 5 = .ok (.invokestatic 77, 3) := by decide +kernel
theorem k22_8 : decode zm22.2.1 8 = .ok (.ifCond .eq 5, 3) := by decide +kernel
theorem k22_13 : decode zm22.2.1 13 = .ok (.iload_n 0, 1) := by decide +kernel
theorem k22_14 : decode zm22.2.1 14 = .ok (.bipush 48, 2) := by decide +kernel
theorem k22_16 : decode zm22.2.1 16 = .ok (.bipush 57, 2) := by decide +kernel
theorem k22_18 : decode zm22.2.1 18 = .ok (.invokestatic 77, 3) := by decide +kernel
theorem k22_21 : decode zm22.2.1 21 = .ok (.ifCond .eq 7, 3) := by decide +kernel
theorem k22_28 : decode zm22.2.1 28 = .ok (.iconst 0, 1) := by decide +kernel
theorem k22_29 : decode zm22.2.1 29 = .ok (.ireturn, 1) := by decide +kernel
theorem k22_24 : decode zm22.2.1 24 = .ok (.iconst 2, 1) := by decide +kernel
theorem k22_25 : decode zm22.2.1 25 = .ok (.goto 4, 3) := by decide +kernel
theorem k22_11 : decode zm22.2.1 11 = .ok (.iconst 1, 1) := by decide +kernel
theorem k22_12 : decode zm22.2.1 12 = .ok (.ireturn, 1) := by decide +kernel
theorem lk_3_58 : zmx 3 58 = some (12, 0) := by decide +kernel
theorem b8_7 : (Int8.ofInt 7).toInt32 = 7 := by decide
theorem k36_0 : decode zm36.2.1 0 = .ok (.iload_n 1, 1) := by decide +kernel
theorem k36_1 : decode zm36.2.1 1 = .ok (.iconst 1, 1) := by decide +kernel
theorem k36_2 : decode zm36.2.1 2 = .ok (.iconst 5, 1) := by decide +kernel
theorem k36_3 : decode zm36.2.1 3 = .ok (.invokestatic 58, 3) := by decide +kernel
theorem k36_6 : decode zm36.2.1 6 = .ok (.ifCond .eq 18, 3) := by decide +kernel
theorem k36_24 : decode zm36.2.1 24 = .ok (.iload_n 1, 1) := by decide +kernel
theorem k36_25 : decode zm36.2.1 25 = .ok (.bipush 7, 2) := by decide +kernel
theorem k36_27 : decode zm36.2.1 27 = .ok (.bipush 10, 2) := by decide +kernel
theorem k36_29 : decode zm36.2.1 29 = .ok (.invokestatic 58, 3) := by decide +kernel
theorem k36_32 : decode zm36.2.1 32 = .ok (.ifCond .eq 17, 3) := by decide +kernel
theorem k36_49 : decode zm36.2.1 49 = .ok (.iload_n 1, 1) := by decide +kernel
theorem k36_50 : decode zm36.2.1 50 = .ok (.bipush 6, 2) := by decide +kernel
theorem k36_52 : decode zm36.2.1 52 = .ok (.if_icmp .ne 12, 3) := by decide +kernel
theorem k36_64 : decode zm36.2.1 64 = .ok (.iconst 1, 1) := by decide +kernel
theorem k36_65 : decode zm36.2.1 65 = .ok (.goto 4, 3) := by decide +kernel
theorem k36_69 : decode zm36.2.1 69 = .ok (.ireturn, 1) := by decide +kernel
theorem k36_55 : decode zm36.2.1 55 = .ok (.aload_n 0, 1) := by decide +kernel
theorem k36_56 : decode zm36.2.1 56 = .ok (.getfield 48, 3) := by decide +kernel
theorem k36_59 : decode zm36.2.1 59 = .ok (.bipush 6, 2) := by decide +kernel
theorem k36_61 : decode zm36.2.1 61 = .ok (.if_icmp .ge 7, 3) := by decide +kernel
theorem k36_68 : decode zm36.2.1 68 = .ok (.iconst 0, 1) := by decide +kernel
theorem k36_35 : decode zm36.2.1 35 = .ok (.aload_n 0, 1) := by decide +kernel
theorem k36_36 : decode zm36.2.1 36 = .ok (.getfield 45, 3) := by decide +kernel
theorem k36_39 : decode zm36.2.1 39 = .ok (.iconst 4, 1) := by decide +kernel
theorem k36_40 : decode zm36.2.1 40 = .ok (.if_icmp .ge 7, 3) := by decide +kernel
theorem k36_47 : decode zm36.2.1 47 = .ok (.iconst 0, 1) := by decide +kernel
theorem k36_48 : decode zm36.2.1 48 = .ok (.ireturn, 1) := by decide +kernel
theorem k36_43 : decode zm36.2.1 43 = .ok (.iconst 1, 1) := by decide +kernel
theorem k36_44 : decode zm36.2.1 44 = .ok (.goto 4, 3) := by decide +kernel
theorem k36_9 : decode zm36.2.1 9 = .ok (.aload_n 0, 1) := by decide +kernel
theorem k36_10 : decode zm36.2.1 10 = .ok (.getfield 42, 3) := by decide +kernel
theorem k36_13 : decode zm36.2.1 13 = .ok (.bipush 10, 2) := by decide +kernel
theorem k36_15 : decode zm36.2.1 15 = .ok (.if_icmp .ge 7, 3) := by decide +kernel
theorem k36_22 : decode zm36.2.1 22 = .ok (.iconst 0, 1) := by decide +kernel
theorem k36_23 : decode zm36.2.1 23 = .ok (.ireturn, 1) := by decide +kernel
theorem k36_18 : decode zm36.2.1 18 = .ok (.iconst 1, 1) := by decide +kernel
theorem k36_19 : decode zm36.2.1 19 = .ok (.goto 4, 3) := by decide +kernel
theorem lk_3_65 : zmx 3 65 = some (14, 1) := by decide +kernel
theorem k39_0 : decode zm39.2.1 0 = .ok (.aload_n 0, 1) := by decide +kernel
theorem k39_1 : decode zm39.2.1 1 = .ok (.getfield 33, 3) := by decide +kernel
theorem k39_4 : decode zm39.2.1 4 = .ok (.aload_n 0, 1) := by decide +kernel
theorem k39_5 : decode zm39.2.1 5 = .ok (.getfield 48, 3) := by decide +kernel
theorem k39_8 : decode zm39.2.1 8 = .ok (.iload_n 1, 1) := by decide +kernel
theorem k39_9 : decode zm39.2.1 9 = .ok (.invokevirtual 65, 3) := by decide +kernel
theorem k39_12 : decode zm39.2.1 12 = .ok (.aload_n 0, 1) := by decide +kernel
theorem k39_13 : decode zm39.2.1 13 = .ok (.getfield 36, 3) := by decide +kernel
theorem k39_16 : decode zm39.2.1 16 = .ok (.aload_n 0, 1) := by decide +kernel
theorem k39_17 : decode zm39.2.1 17 = .ok (.getfield 48, 3) := by decide +kernel
theorem k39_20 : decode zm39.2.1 20 = .ok (.iload_n 2, 1) := by decide +kernel
theorem k39_21 : decode zm39.2.1 21 = .ok (.invokevirtual 65, 3) := by decide +kernel
theorem k39_24 : decode zm39.2.1 24 = .ok (.aload_n 0, 1) := by decide +kernel
theorem k39_25 : decode zm39.2.1 25 = .ok (.getfield 39, 3) := by decide +kernel
theorem k39_28 : decode zm39.2.1 28 = .ok (.aload_n 0, 1) := by decide +kernel
theorem k39_29 : decode zm39.2.1 29 = .ok (.getfield 48, 3) := by decide +kernel
theorem k39_32 : decode zm39.2.1 32 = .ok (.iload_n 3, 1) := by decide +kernel
theorem k39_33 : decode zm39.2.1 33 = .ok (.invokevirtual 65, 3) := by decide +kernel
theorem k39_36 : decode zm39.2.1 36 = .ok (.aload_n 0, 1) := by decide +kernel
theorem k39_37 : decode zm39.2.1 37 = .ok (.dup, 1) := by decide +kernel
theorem k39_38 : decode zm39.2.1 38 = .ok (.getfield 48, 3) := by decide +kernel
theorem k39_41 : decode zm39.2.1 41 = .ok (.iconst 1, 1) := by decide +kernel
theorem k39_42 : decode zm39.2.1 42 = .ok (.iadd, 1) := by decide +kernel
theorem k39_43 : decode zm39.2.1 43 = .ok (.putfield 48, 3) := by decide +kernel
theorem k39_46 : decode zm39.2.1 46 = .ok (.return_, 1) := by decide +kernel
theorem b8_11 : (Int8.ofInt 11).toInt32 = 11 := by decide
theorem b8_20 : (Int8.ofInt 20).toInt32 = 20 := by decide
theorem b8_30 : (Int8.ofInt 30).toInt32 = 30 := by decide
theorem k40_0 : decode zm40.2.1 0 = .ok (.iload_n 0, 1) := by decide +kernel
theorem k40_1 : decode zm40.2.1 1 = .ok (.iconst 1, 1) := by decide +kernel
theorem k40_2 : decode zm40.2.1 2 = .ok (.iconst 5, 1) := by decide +kernel
theorem k40_3 : decode zm40.2.1 3 = .ok (.invokestatic 77, 3) := by decide +kernel
theorem k40_6 : decode zm40.2.1 6 = .ok (.ifCond .eq 6, 3) := by decide +kernel
theorem k40_12 : decode zm40.2.1 12 = .ok (.iload_n 0, 1) := by decide +kernel
theorem k40_13 : decode zm40.2.1 13 = .ok (.bipush 7, 2) := by decide +kernel
theorem k40_15 : decode zm40.2.1 15 = .ok (.bipush 10, 2) := by decide +kernel
theorem k40_17 : decode zm40.2.1 17 = .ok (.invokestatic 77, 3) := by decide +kernel
theorem k40_20 : decode zm40.2.1 20 = .ok (.ifCond .eq 6, 3) := by decide +kernel
theorem k40_26 : decode zm40.2.1 26 = .ok (.iload_n 0, 1) := by decide +kernel
theorem k40_27 : decode zm40.2.1 27 = .ok (.bipush 11, 2) := by decide +kernel
theorem k40_29 : decode zm40.2.1 29 = .ok (.if_icmp .ne 8, 3) := by decide +kernel
theorem k40_37 : decode zm40.2.1 37 = .ok (.iconst (-1), 1) := by decide +kernel
theorem k40_38 : decode zm40.2.1 38 = .ok (.ireturn, 1) := by decide +kernel
theorem k40_32 : decode zm40.2.1 32 = .ok (.bipush 20, 2) := by decide +kernel
theorem k40_34 : decode zm40.2.1 34 = .ok (.goto 4, 3) := by decide +kernel
theorem k40_23 : decode zm40.2.1 23 = .ok (.bipush 20, 2) := by decide +kernel
theorem k40_25 : decode zm40.2.1 25 = .ok (.ireturn, 1) := by decide +kernel
theorem k40_9 : decode zm40.2.1 9 = .ok (.bipush 30, 2) := by decide +kernel
theorem k40_11 : decode zm40.2.1 11 = .ok (.ireturn, 1) := by decide +kernel
theorem b8_14 : (Int8.ofInt 14).toInt32 = 14 := by decide
theorem b8_12 : (Int8.ofInt 12).toInt32 = 12 := by decide
theorem lk_3_62 : zmx 3 62 = some (42, 1) := by decide +kernel
theorem k41_0 : decode zm41.2.1 0 = .ok (.iload_n 1, 1) := by decide +kernel
theorem k41_1 : decode zm41.2.1 1 = .ok (.ifCond .ne 10, 3) := by decide +kernel
theorem k41_11 : decode zm41.2.1 11 = .ok (.iload_n 1, 1) := by decide +kernel
theorem k41_12 : decode zm41.2.1 12 = .ok (.iconst 5, 1) := by decide +kernel
theorem k41_13 : decode zm41.2.1 13 = .ok (.if_icmp .gt 42, 3) := by decide +kernel
theorem k41_55 : decode zm41.2.1 55 = .ok (.iload_n 1, 1) := by decide +kernel
theorem k41_56 : decode zm41.2.1 56 = .ok (.bipush 10, 2) := by decide +kernel
theorem k41_58 : decode zm41.2.1 58 = .ok (.if_icmp .gt 43, 3) := by decide +kernel
theorem k41_101 : decode zm41.2.1 101 = .ok (.iload_n 1, 1) := by decide +kernel
theorem k41_102 : decode zm41.2.1 102 = .ok (.bipush 11, 2) := by decide +kernel
theorem k41_104 : decode zm41.2.1 104 = .ok (.if_icmp .ne 11, 3) := by decide +kernel
theorem k41_115 : decode zm41.2.1 115 = .ok (.iload_n 1, 1) := by decide +kernel
theorem k41_116 : decode zm41.2.1 116 = .ok (.bipush 14, 2) := by decide +kernel
theorem k41_118 : decode zm41.2.1 118 = .ok (.if_icmp .gt 21, 3) := by decide +kernel
theorem k41_139 : decode zm41.2.1 139 = .ok (.aload_n 0, 1) := by decide +kernel
theorem k41_140 : decode zm41.2.1 140 = .ok (.iconst 0, 1) := by decide +kernel
theorem k41_141 : decode zm41.2.1 141 = .ok (.putfield 51, 3) := by decide +kernel
theorem k41_144 : decode zm41.2.1 144 = .ok (.return_, 1) := by decide +kernel
theorem k41_121 : decode zm41.2.1 121 = .ok (.aload_n 0, 1) := by decide +kernel
theorem k41_122 : decode zm41.2.1 122 = .ok (.dup, 1) := by decide +kernel
theorem k41_123 : decode zm41.2.1 123 = .ok (.getfield 51, 3) := by decide +kernel
theorem k41_126 : decode zm41.2.1 126 = .ok (.iconst 1, 1) := by decide +kernel
theorem k41_127 : decode zm41.2.1 127 = .ok (.iload_n 1, 1) := by decide +kernel
theorem k41_128 : decode zm41.2.1 128 = .ok (.bipush 12, 2) := by decide +kernel
theorem k41_130 : decode zm41.2.1 130 = .ok (.isub, 1) := by decide +kernel
theorem k41_131 : decode zm41.2.1 131 = .ok (.ishl, 1) := by decide +kernel
theorem k41_132 : decode zm41.2.1 132 = .ok (.ior, 1) := by decide +kernel
theorem k41_133 : decode zm41.2.1 133 = .ok (.putfield 51, 3) := by decide +kernel
theorem k41_136 : decode zm41.2.1 136 = .ok (.goto 8, 3) := by decide +kernel
theorem k41_107 : decode zm41.2.1 107 = .ok (.aload_n 0, 1) := by decide +kernel
theorem k41_108 : decode zm41.2.1 108 = .ok (.iload_n 2, 1) := by decide +kernel
theorem k41_109 : decode zm41.2.1 109 = .ok (.putfield 9, 3) := by decide +kernel
theorem k41_112 : decode zm41.2.1 112 = .ok (.goto 32, 3) := by decide +kernel
theorem k41_61 : decode zm41.2.1 61 = .ok (.aload_n 0, 1) := by decide +kernel
theorem k41_62 : decode zm41.2.1 62 = .ok (.getfield 27, 3) := by decide +kernel
theorem k41_65 : decode zm41.2.1 65 = .ok (.aload_n 0, 1) := by decide +kernel
theorem k41_66 : decode zm41.2.1 66 = .ok (.getfield 45, 3) := by decide +kernel
theorem k41_69 : decode zm41.2.1 69 = .ok (.iload_n 1, 1) := by decide +kernel
theorem k41_70 : decode zm41.2.1 70 = .ok (.bipush 7, 2) := by decide +kernel
theorem k41_72 : decode zm41.2.1 72 = .ok (.isub, 1) := by decide +kernel
theorem k41_73 : decode zm41.2.1 73 = .ok (.invokevirtual 65, 3) := by decide +kernel
theorem k41_76 : decode zm41.2.1 76 = .ok (.aload_n 0, 1) := by decide +kernel
theorem k41_77 : decode zm41.2.1 77 = .ok (.getfield 30, 3) := by decide +kernel
theorem k41_80 : decode zm41.2.1 80 = .ok (.aload_n 0, 1) := by decide +kernel
theorem k41_81 : decode zm41.2.1 81 = .ok (.getfield 45, 3) := by decide +kernel
theorem k41_84 : decode zm41.2.1 84 = .ok (.iload_n 2, 1) := by decide +kernel
theorem k41_85 : decode zm41.2.1 85 = .ok (.invokevirtual 65, 3) := by decide +kernel
theorem k41_88 : decode zm41.2.1 88 = .ok (.aload_n 0, 1) := by decide +kernel
theorem k41_89 : decode zm41.2.1 89 = .ok (.dup, 1) := by decide +kernel
theorem k41_90 : decode zm41.2.1 90 = .ok (.getfield 45, 3) := by decide +kernel
theorem k41_93 : decode zm41.2.1 93 = .ok (.iconst 1, 1) := by decide +kernel
theorem k41_94 : decode zm41.2.1 94 = .ok (.iadd, 1) := by decide +kernel
theorem k41_95 : decode zm41.2.1 95 = .ok (.putfield 45, 3) := by decide +kernel
theorem k41_98 : decode zm41.2.1 98 = .ok (.goto 46, 3) := by decide +kernel
theorem k41_16 : decode zm41.2.1 16 = .ok (.aload_n 0, 1) := by decide +kernel
theorem k41_17 : decode zm41.2.1 17 = .ok (.getfield 20, 3) := by decide +kernel
theorem k41_20 : decode zm41.2.1 20 = .ok (.aload_n 0, 1) := by decide +kernel
theorem k41_21 : decode zm41.2.1 21 = .ok (.getfield 42, 3) := by decide +kernel
theorem k41_24 : decode zm41.2.1 24 = .ok (.iload_n 1, 1) := by decide +kernel
theorem k41_25 : decode zm41.2.1 25 = .ok (.iconst 1, 1) := by decide +kernel
theorem k41_26 : decode zm41.2.1 26 = .ok (.isub, 1) := by decide +kernel
theorem k41_27 : decode zm41.2.1 27 = .ok (.invokevirtual 65, 3) := by decide +kernel
theorem k41_30 : decode zm41.2.1 30 = .ok (.aload_n 0, 1) := by decide +kernel
theorem k41_31 : decode zm41.2.1 31 = .ok (.getfield 24, 3) := by decide +kernel
theorem k41_34 : decode zm41.2.1 34 = .ok (.aload_n 0, 1) := by decide +kernel
theorem k41_35 : decode zm41.2.1 35 = .ok (.getfield 42, 3) := by decide +kernel
theorem k41_38 : decode zm41.2.1 38 = .ok (.iload_n 2, 1) := by decide +kernel
theorem k41_39 : decode zm41.2.1 39 = .ok (.invokevirtual 65, 3) := by decide +kernel
theorem k41_42 : decode zm41.2.1 42 = .ok (.aload_n 0, 1) := by decide +kernel
theorem k41_43 : decode zm41.2.1 43 = .ok (.dup, 1) := by decide +kernel
theorem k41_44 : decode zm41.2.1 44 = .ok (.getfield 42, 3) := by decide +kernel
theorem k41_47 : decode zm41.2.1 47 = .ok (.iconst 1, 1) := by decide +kernel
theorem k41_48 : decode zm41.2.1 48 = .ok (.iadd, 1) := by decide +kernel
theorem k41_49 : decode zm41.2.1 49 = .ok (.putfield 42, 3) := by decide +kernel
theorem k41_52 : decode zm41.2.1 52 = .ok (.goto 92, 3) := by decide +kernel
theorem k41_4 : decode zm41.2.1 4 = .ok (.aload_n 0, 1) := by decide +kernel
theorem k41_5 : decode zm41.2.1 5 = .ok (.invokevirtual 62, 3) := by decide +kernel
theorem k41_8 : decode zm41.2.1 8 = .ok (.goto 136, 3) := by decide +kernel
theorem fk_4_35 : zfx 4 35 = some (4, 0) := by decide +kernel
theorem pi_4_0 : zdes 4 0 = "I" ∧ zfin 4 0 = false := by decide +kernel
theorem fk_4_14 : zfx 4 14 = some (4, 1) := by decide +kernel
theorem lk_4_39 : zmx 4 39 = some (45, 1) := by decide +kernel
theorem fk_4_20 : zfx 4 20 = some (4, 2) := by decide +kernel
theorem fk_4_23 : zfx 4 23 = some (4, 3) := by decide +kernel
theorem fk_4_26 : zfx 4 26 = some (4, 4) := by decide +kernel
theorem fk_4_29 : zfx 4 29 = some (4, 5) := by decide +kernel
theorem fk_4_32 : zfx 4 32 = some (4, 6) := by decide +kernel
theorem lk_4_42 : zmx 4 42 = some (14, 1) := by decide +kernel
theorem k44_49 : decode zm44.2.1 49 = .ok (.iload_n 3, 1) := by decide +kernel
theorem k44_50 : decode zm44.2.1 50 = .ok (.iload_n 1, 1) := by decide +kernel
theorem k44_51 : decode zm44.2.1 51 = .ok (.if_icmp .ge 28, 3) := by decide +kernel
theorem k44_79 : decode zm44.2.1 79 = .ok (.return_, 1) := by decide +kernel
theorem k44_54 : decode zm44.2.1 54 = .ok (.aload_n 0, 1) := by decide +kernel
theorem k44_55 : decode zm44.2.1 55 = .ok (.getfield 14, 3) := by decide +kernel
theorem k44_58 : decode zm44.2.1 58 = .ok (.iload_n 3, 1) := by decide +kernel
theorem k44_59 : decode zm44.2.1 59 = .ok (.iload_n 2, 1) := by decide +kernel
theorem k44_60 : decode zm44.2.1 60 = .ok (.invokevirtual 42, 3) := by decide +kernel
theorem k44_63 : decode zm44.2.1 63 = .ok (.aload_n 0, 1) := by decide +kernel
theorem k44_64 : decode zm44.2.1 64 = .ok (.getfield 20, 3) := by decide +kernel
theorem k44_67 : decode zm44.2.1 67 = .ok (.iload_n 3, 1) := by decide +kernel
theorem k44_68 : decode zm44.2.1 68 = .ok (.bipush 10, 2) := by decide +kernel
theorem k44_70 : decode zm44.2.1 70 = .ok (.invokevirtual 42, 3) := by decide +kernel
theorem k44_73 : decode zm44.2.1 73 = .ok (.iinc 3 1, 3) := by decide +kernel
theorem k44_76 : decode zm44.2.1 76 = .ok (.goto (-27), 3) := by decide +kernel
theorem k44_0 : decode zm44.2.1 0 = .ok (.aload_n 0, 1) := by decide +kernel
theorem k44_1 : decode zm44.2.1 1 = .ok (.iconst 0, 1) := by decide +kernel
theorem k44_2 : decode zm44.2.1 2 = .ok (.putfield 35, 3) := by decide +kernel
theorem k44_5 : decode zm44.2.1 5 = .ok (.aload_n 0, 1) := by decide +kernel
theorem k44_6 : decode zm44.2.1 6 = .ok (.getfield 14, 3) := by decide +kernel
theorem k44_9 : decode zm44.2.1 9 = .ok (.invokevirtual 39, 3) := by decide +kernel
theorem k44_12 : decode zm44.2.1 12 = .ok (.aload_n 0, 1) := by decide +kernel
theorem k44_13 : decode zm44.2.1 13 = .ok (.getfield 20, 3) := by decide +kernel
theorem k44_16 : decode zm44.2.1 16 = .ok (.invokevirtual 39, 3) := by decide +kernel
theorem k44_19 : decode zm44.2.1 19 = .ok (.aload_n 0, 1) := by decide +kernel
theorem k44_20 : decode zm44.2.1 20 = .ok (.getfield 23, 3) := by decide +kernel
theorem k44_23 : decode zm44.2.1 23 = .ok (.invokevirtual 39, 3) := by decide +kernel
theorem k44_26 : decode zm44.2.1 26 = .ok (.aload_n 0, 1) := by decide +kernel
theorem k44_27 : decode zm44.2.1 27 = .ok (.getfield 26, 3) := by decide +kernel
theorem k44_30 : decode zm44.2.1 30 = .ok (.invokevirtual 39, 3) := by decide +kernel
theorem k44_33 : decode zm44.2.1 33 = .ok (.aload_n 0, 1) := by decide +kernel
theorem k44_34 : decode zm44.2.1 34 = .ok (.getfield 29, 3) := by decide +kernel
theorem k44_37 : decode zm44.2.1 37 = .ok (.invokevirtual 39, 3) := by decide +kernel
theorem k44_40 : decode zm44.2.1 40 = .ok (.aload_n 0, 1) := by decide +kernel
theorem k44_41 : decode zm44.2.1 41 = .ok (.getfield 32, 3) := by decide +kernel
theorem k44_44 : decode zm44.2.1 44 = .ok (.invokevirtual 39, 3) := by decide +kernel
theorem k44_47 : decode zm44.2.1 47 = .ok (.iconst 0, 1) := by decide +kernel
theorem k44_48 : decode zm44.2.1 48 = .ok (.istore_n 3, 1) := by decide +kernel
theorem fk_0_19 : zfx 0 19 = some (0, 1) := by decide +kernel
theorem fk_0_250 : zfx 0 250 = some (3, 0) := by decide +kernel
theorem sh4 : zsh 4 = some (3, [none, none, none, none, none, some 5, some 7, some 9, some 11, some 13, some 15, some 17]) := by decide +kernel
theorem lk_0_68 : zmx 0 68 = some (12, 0) := by decide +kernel
theorem k48_0 : decode zm48.2.1 0 = .ok (.iload_n 1, 1) := by decide +kernel
theorem k48_1 : decode zm48.2.1 1 = .ok (.iconst 0, 1) := by decide +kernel
theorem k48_2 : decode zm48.2.1 2 = .ok (.aload_n 0, 1) := by decide +kernel
theorem k48_3 : decode zm48.2.1 3 = .ok (.getfield 19, 3) := by decide +kernel
theorem k48_6 : decode zm48.2.1 6 = .ok (.getfield 250, 3) := by decide +kernel
theorem k48_9 : decode zm48.2.1 9 = .ok (.iconst 1, 1) := by decide +kernel
theorem k48_10 : decode zm48.2.1 10 = .ok (.isub, 1) := by decide +kernel
theorem k48_11 : decode zm48.2.1 11 = .ok (.invokestatic 68, 3) := by decide +kernel
theorem k48_14 : decode zm48.2.1 14 = .ok (.ireturn, 1) := by decide +kernel
theorem lk_3_69 : zmx 3 69 = some (21, 1) := by decide +kernel
theorem k49_75 : decode zm49.2.1 75 = .ok (.iinc 5 1, 3) := by decide +kernel
theorem k49_78 : decode zm49.2.1 78 = .ok (.goto (-63), 3) := by decide +kernel
theorem k49_15 : decode zm49.2.1 15 = .ok (.iload 5, 2) := by decide +kernel
theorem k49_17 : decode zm49.2.1 17 = .ok (.aload_n 0, 1) := by decide +kernel
theorem k49_18 : decode zm49.2.1 18 = .ok (.getfield 48, 3) := by decide +kernel
theorem k49_21 : decode zm49.2.1 21 = .ok (.if_icmp .ge 60, 3) := by decide +kernel
theorem k49_81 : decode zm49.2.1 81 = .ok (.iload_n 3, 1) := by decide +kernel
theorem k49_82 : decode zm49.2.1 82 = .ok (.ireturn, 1) := by decide +kernel
theorem k49_24 : decode zm49.2.1 24 = .ok (.aload_n 0, 1) := by decide +kernel
theorem k49_25 : decode zm49.2.1 25 = .ok (.getfield 39, 3) := by decide +kernel
theorem k49_28 : decode zm49.2.1 28 = .ok (.iload 5, 2) := by decide +kernel
theorem k49_30 : decode zm49.2.1 30 = .ok (.invokevirtual 69, 3) := by decide +kernel
theorem k49_33 : decode zm49.2.1 33 = .ok (.istore 6, 2) := by decide +kernel
theorem k49_35 : decode zm49.2.1 35 = .ok (.aload_n 0, 1) := by decide +kernel
theorem k49_36 : decode zm49.2.1 36 = .ok (.getfield 33, 3) := by decide +kernel
theorem k49_39 : decode zm49.2.1 39 = .ok (.iload 5, 2) := by decide +kernel
theorem k49_41 : decode zm49.2.1 41 = .ok (.invokevirtual 69, 3) := by decide +kernel
theorem k49_44 : decode zm49.2.1 44 = .ok (.iload_n 1, 1) := by decide +kernel
theorem k49_45 : decode zm49.2.1 45 = .ok (.if_icmp .ne 30, 3) := by decide +kernel
theorem k49_48 : decode zm49.2.1 48 = .ok (.iload 6, 2) := by decide +kernel
theorem k49_50 : decode zm49.2.1 50 = .ok (.iload_n 2, 1) := by decide +kernel
theorem k49_51 : decode zm49.2.1 51 = .ok (.if_icmp .gt 24, 3) := by decide +kernel
theorem k49_54 : decode zm49.2.1 54 = .ok (.iload 6, 2) := by decide +kernel
theorem k49_56 : decode zm49.2.1 56 = .ok (.iload 4, 2) := by decide +kernel
theorem k49_58 : decode zm49.2.1 58 = .ok (.if_icmp .lt 17, 3) := by decide +kernel
theorem k49_61 : decode zm49.2.1 61 = .ok (.iload 6, 2) := by decide +kernel
theorem k49_63 : decode zm49.2.1 63 = .ok (.istore 4, 2) := by decide +kernel
theorem k49_65 : decode zm49.2.1 65 = .ok (.aload_n 0, 1) := by decide +kernel
theorem k49_66 : decode zm49.2.1 66 = .ok (.getfield 36, 3) := by decide +kernel
theorem k49_69 : decode zm49.2.1 69 = .ok (.iload 5, 2) := by decide +kernel
theorem k49_71 : decode zm49.2.1 71 = .ok (.invokevirtual 69, 3) := by decide +kernel
theorem k49_74 : decode zm49.2.1 74 = .ok (.istore_n 3, 1) := by decide +kernel
theorem k49_0 : decode zm49.2.1 0 = .ok (.aload_n 0, 1) := by decide +kernel
theorem k49_1 : decode zm49.2.1 1 = .ok (.getfield 20, 3) := by decide +kernel
theorem k49_4 : decode zm49.2.1 4 = .ok (.iload_n 1, 1) := by decide +kernel
theorem k49_5 : decode zm49.2.1 5 = .ok (.invokevirtual 69, 3) := by decide +kernel
theorem k49_8 : decode zm49.2.1 8 = .ok (.istore_n 3, 1) := by decide +kernel
theorem k49_9 : decode zm49.2.1 9 = .ok (.iconst (-1), 1) := by decide +kernel
theorem k49_10 : decode zm49.2.1 10 = .ok (.istore 4, 2) := by decide +kernel
theorem k49_12 : decode zm49.2.1 12 = .ok (.iconst 0, 1) := by decide +kernel
theorem k49_13 : decode zm49.2.1 13 = .ok (.istore 5, 2) := by decide +kernel
theorem lk_4_62 : zmx 4 62 = some (21, 1) := by decide +kernel
theorem k51_0 : decode zm51.2.1 0 = .ok (.aload_n 0, 1) := by decide +kernel
theorem k51_1 : decode zm51.2.1 1 = .ok (.getfield 29, 3) := by decide +kernel
theorem k51_4 : decode zm51.2.1 4 = .ok (.iload_n 1, 1) := by decide +kernel
theorem k51_5 : decode zm51.2.1 5 = .ok (.bipush 10, 2) := by decide +kernel
theorem k51_7 : decode zm51.2.1 7 = .ok (.imul, 1) := by decide +kernel
theorem k51_8 : decode zm51.2.1 8 = .ok (.iload_n 2, 1) := by decide +kernel
theorem k51_9 : decode zm51.2.1 9 = .ok (.iadd, 1) := by decide +kernel
theorem k51_10 : decode zm51.2.1 10 = .ok (.invokevirtual 62, 3) := by decide +kernel
theorem k51_13 : decode zm51.2.1 13 = .ok (.ireturn, 1) := by decide +kernel
theorem fk_0_88 : zfx 0 88 = some (3, 1) := by decide +kernel
theorem k53_0 : decode zm53.2.1 0 = .ok (.iload_n 1, 1) := by decide +kernel
theorem k53_1 : decode zm53.2.1 1 = .ok (.iconst 0, 1) := by decide +kernel
theorem k53_2 : decode zm53.2.1 2 = .ok (.aload_n 0, 1) := by decide +kernel
theorem k53_3 : decode zm53.2.1 3 = .ok (.getfield 19, 3) := by decide +kernel
theorem k53_6 : decode zm53.2.1 6 = .ok (.getfield 88, 3) := by decide +kernel
theorem k53_9 : decode zm53.2.1 9 = .ok (.iconst 1, 1) := by decide +kernel
theorem k53_10 : decode zm53.2.1 10 = .ok (.isub, 1) := by decide +kernel
theorem k53_11 : decode zm53.2.1 11 = .ok (.invokestatic 68, 3) := by decide +kernel
theorem k53_14 : decode zm53.2.1 14 = .ok (.ireturn, 1) := by decide +kernel
theorem k54_0 : decode zm54.2.1 0 = .ok (.aload_n 0, 1) := by decide +kernel
theorem k54_1 : decode zm54.2.1 1 = .ok (.getfield 27, 3) := by decide +kernel
theorem k54_4 : decode zm54.2.1 4 = .ok (.iload_n 1, 1) := by decide +kernel
theorem k54_5 : decode zm54.2.1 5 = .ok (.invokevirtual 69, 3) := by decide +kernel
theorem k54_8 : decode zm54.2.1 8 = .ok (.ireturn, 1) := by decide +kernel
theorem fk_6_20 : zfx 6 20 = some (6, 1) := by decide +kernel
theorem fk_6_14 : zfx 6 14 = some (6, 0) := by decide +kernel
theorem lk_6_32 : zmx 6 32 = some (21, 1) := by decide +kernel
theorem k62_0 : decode zm62.2.1 0 = .ok (.iload_n 1, 1) := by decide +kernel
theorem k62_1 : decode zm62.2.1 1 = .ok (.ifCond .lt 22, 3) := by decide +kernel
theorem k62_23 : decode zm62.2.1 23 = .ok (.iconst (-1), 1) := by decide +kernel
theorem k62_24 : decode zm62.2.1 24 = .ok (.ireturn, 1) := by decide +kernel
theorem k62_4 : decode zm62.2.1 4 = .ok (.iload_n 1, 1) := by decide +kernel
theorem k62_5 : decode zm62.2.1 5 = .ok (.aload_n 0, 1) := by decide +kernel
theorem k62_6 : decode zm62.2.1 6 = .ok (.getfield 20, 3) := by decide +kernel
theorem k62_9 : decode zm62.2.1 9 = .ok (.if_icmp .ge 14, 3) := by decide +kernel
theorem k62_12 : decode zm62.2.1 12 = .ok (.aload_n 0, 1) := by decide +kernel
theorem k62_13 : decode zm62.2.1 13 = .ok (.getfield 14, 3) := by decide +kernel
theorem k62_16 : decode zm62.2.1 16 = .ok (.iload_n 1, 1) := by decide +kernel
theorem k62_17 : decode zm62.2.1 17 = .ok (.invokevirtual 32, 3) := by decide +kernel
theorem k62_20 : decode zm62.2.1 20 = .ok (.goto 4, 3) := by decide +kernel
theorem lk_6_24 : zmx 6 24 = some (14, 1) := by decide +kernel
theorem k69_0 : decode zm69.2.1 0 = .ok (.aload_n 0, 1) := by decide +kernel
theorem k69_1 : decode zm69.2.1 1 = .ok (.getfield 20, 3) := by decide +kernel
theorem k69_4 : decode zm69.2.1 4 = .ok (.bipush 8, 2) := by decide +kernel
theorem k69_6 : decode zm69.2.1 6 = .ok (.if_icmp .lt 5, 3) := by decide +kernel
theorem k69_11 : decode zm69.2.1 11 = .ok (.aload_n 0, 1) := by decide +kernel
theorem k69_12 : decode zm69.2.1 12 = .ok (.getfield 14, 3) := by decide +kernel
theorem k69_15 : decode zm69.2.1 15 = .ok (.aload_n 0, 1) := by decide +kernel
theorem k69_16 : decode zm69.2.1 16 = .ok (.getfield 20, 3) := by decide +kernel
theorem k69_19 : decode zm69.2.1 19 = .ok (.iload_n 1, 1) := by decide +kernel
theorem k69_20 : decode zm69.2.1 20 = .ok (.invokevirtual 24, 3) := by decide +kernel
theorem k69_23 : decode zm69.2.1 23 = .ok (.aload_n 0, 1) := by decide +kernel
theorem k69_24 : decode zm69.2.1 24 = .ok (.dup, 1) := by decide +kernel
theorem k69_25 : decode zm69.2.1 25 = .ok (.getfield 20, 3) := by decide +kernel
theorem k69_28 : decode zm69.2.1 28 = .ok (.iconst 1, 1) := by decide +kernel
theorem k69_29 : decode zm69.2.1 29 = .ok (.iadd, 1) := by decide +kernel
theorem k69_30 : decode zm69.2.1 30 = .ok (.putfield 20, 3) := by decide +kernel
theorem k69_33 : decode zm69.2.1 33 = .ok (.iconst 1, 1) := by decide +kernel
theorem k69_34 : decode zm69.2.1 34 = .ok (.ireturn, 1) := by decide +kernel
theorem k69_9 : decode zm69.2.1 9 = .ok (.iconst 0, 1) := by decide +kernel
theorem k69_10 : decode zm69.2.1 10 = .ok (.ireturn, 1) := by decide +kernel
theorem k77_30 : decode zm77.2.1 30 = .ok (.iadd, 1) := by decide +kernel
theorem k77_31 : decode zm77.2.1 31 = .ok (.istore_n 1, 1) := by decide +kernel
theorem k77_32 : decode zm77.2.1 32 = .ok (.iinc 2 1, 3) := by decide +kernel
theorem k77_35 : decode zm77.2.1 35 = .ok (.goto (-31), 3) := by decide +kernel
theorem k77_4 : decode zm77.2.1 4 = .ok (.iload_n 2, 1) := by decide +kernel
theorem k77_5 : decode zm77.2.1 5 = .ok (.aload_n 0, 1) := by decide +kernel
theorem k77_6 : decode zm77.2.1 6 = .ok (.getfield 20, 3) := by decide +kernel
theorem k77_9 : decode zm77.2.1 9 = .ok (.if_icmp .ge 29, 3) := by decide +kernel
theorem k77_38 : decode zm77.2.1 38 = .ok (.iload_n 1, 1) := by decide +kernel
theorem k77_39 : decode zm77.2.1 39 = .ok (.ireturn, 1) := by decide +kernel
theorem k77_12 : decode zm77.2.1 12 = .ok (.iload_n 1, 1) := by decide +kernel
theorem k77_13 : decode zm77.2.1 13 = .ok (.aload_n 0, 1) := by decide +kernel
theorem k77_14 : decode zm77.2.1 14 = .ok (.getfield 14, 3) := by decide +kernel
theorem k77_17 : decode zm77.2.1 17 = .ok (.iload_n 2, 1) := by decide +kernel
theorem k77_18 : decode zm77.2.1 18 = .ok (.invokevirtual 32, 3) := by decide +kernel
theorem k77_21 : decode zm77.2.1 21 = .ok (.iconst (-1), 1) := by decide +kernel
theorem k77_22 : decode zm77.2.1 22 = .ok (.if_icmp .ne 7, 3) := by decide +kernel
theorem k77_29 : decode zm77.2.1 29 = .ok (.iconst 0, 1) := by decide +kernel
theorem k77_25 : decode zm77.2.1 25 = .ok (.iconst 1, 1) := by decide +kernel
theorem k77_26 : decode zm77.2.1 26 = .ok (.goto 4, 3) := by decide +kernel
theorem k77_0 : decode zm77.2.1 0 = .ok (.iconst 0, 1) := by decide +kernel
theorem k77_1 : decode zm77.2.1 1 = .ok (.istore_n 1, 1) := by decide +kernel
theorem k77_2 : decode zm77.2.1 2 = .ok (.iconst 0, 1) := by decide +kernel
theorem k77_3 : decode zm77.2.1 3 = .ok (.istore_n 2, 1) := by decide +kernel
theorem lk_4_46 : zmx 4 46 = some (18, 1) := by decide +kernel
theorem k80_0 : decode zm80.2.1 0 = .ok (.aload_n 0, 1) := by decide +kernel
theorem k80_1 : decode zm80.2.1 1 = .ok (.aload_n 1, 1) := by decide +kernel
theorem k80_2 : decode zm80.2.1 2 = .ok (.getfield 35, 3) := by decide +kernel
theorem k80_5 : decode zm80.2.1 5 = .ok (.putfield 35, 3) := by decide +kernel
theorem k80_8 : decode zm80.2.1 8 = .ok (.aload_n 0, 1) := by decide +kernel
theorem k80_9 : decode zm80.2.1 9 = .ok (.getfield 14, 3) := by decide +kernel
theorem k80_12 : decode zm80.2.1 12 = .ok (.aload_n 1, 1) := by decide +kernel
theorem k80_13 : decode zm80.2.1 13 = .ok (.getfield 14, 3) := by decide +kernel
theorem k80_16 : decode zm80.2.1 16 = .ok (.invokevirtual 46, 3) := by decide +kernel
theorem k80_19 : decode zm80.2.1 19 = .ok (.aload_n 0, 1) := by decide +kernel
theorem k80_20 : decode zm80.2.1 20 = .ok (.getfield 20, 3) := by decide +kernel
theorem k80_23 : decode zm80.2.1 23 = .ok (.aload_n 1, 1) := by decide +kernel
theorem k80_24 : decode zm80.2.1 24 = .ok (.getfield 20, 3) := by decide +kernel
theorem k80_27 : decode zm80.2.1 27 = .ok (.invokevirtual 46, 3) := by decide +kernel
theorem k80_30 : decode zm80.2.1 30 = .ok (.aload_n 0, 1) := by decide +kernel
theorem k80_31 : decode zm80.2.1 31 = .ok (.getfield 23, 3) := by decide +kernel
theorem k80_34 : decode zm80.2.1 34 = .ok (.aload_n 1, 1) := by decide +kernel
theorem k80_35 : decode zm80.2.1 35 = .ok (.getfield 23, 3) := by decide +kernel
theorem k80_38 : decode zm80.2.1 38 = .ok (.invokevirtual 46, 3) := by decide +kernel
theorem k80_41 : decode zm80.2.1 41 = .ok (.aload_n 0, 1) := by decide +kernel
theorem k80_42 : decode zm80.2.1 42 = .ok (.getfield 26, 3) := by decide +kernel
theorem k80_45 : decode zm80.2.1 45 = .ok (.aload_n 1, 1) := by decide +kernel
theorem k80_46 : decode zm80.2.1 46 = .ok (.getfield 26, 3) := by decide +kernel
theorem k80_49 : decode zm80.2.1 49 = .ok (.invokevirtual 46, 3) := by decide +kernel
theorem k80_52 : decode zm80.2.1 52 = .ok (.aload_n 0, 1) := by decide +kernel
theorem k80_53 : decode zm80.2.1 53 = .ok (.getfield 29, 3) := by decide +kernel
theorem k80_56 : decode zm80.2.1 56 = .ok (.aload_n 1, 1) := by decide +kernel
theorem k80_57 : decode zm80.2.1 57 = .ok (.getfield 29, 3) := by decide +kernel
theorem k80_60 : decode zm80.2.1 60 = .ok (.invokevirtual 46, 3) := by decide +kernel
theorem k80_63 : decode zm80.2.1 63 = .ok (.aload_n 0, 1) := by decide +kernel
theorem k80_64 : decode zm80.2.1 64 = .ok (.getfield 32, 3) := by decide +kernel
theorem k80_67 : decode zm80.2.1 67 = .ok (.aload_n 1, 1) := by decide +kernel
theorem k80_68 : decode zm80.2.1 68 = .ok (.getfield 32, 3) := by decide +kernel
theorem k80_71 : decode zm80.2.1 71 = .ok (.invokevirtual 46, 3) := by decide +kernel
theorem k80_74 : decode zm80.2.1 74 = .ok (.return_, 1) := by decide +kernel
theorem lk_2_13 : zmx 2 13 = some (21, 1) := by decide +kernel
theorem lk_2_17 : zmx 2 17 = some (14, 1) := by decide +kernel
theorem k82_0 : decode zm82.2.1 0 = .ok (.aload_n 0, 1) := by decide +kernel
theorem k82_1 : decode zm82.2.1 1 = .ok (.iload_n 1, 1) := by decide +kernel
theorem k82_2 : decode zm82.2.1 2 = .ok (.aload_n 0, 1) := by decide +kernel
theorem k82_3 : decode zm82.2.1 3 = .ok (.iload_n 1, 1) := by decide +kernel
theorem k82_4 : decode zm82.2.1 4 = .ok (.invokevirtual 13, 3) := by decide +kernel
theorem k82_7 : decode zm82.2.1 7 = .ok (.iload_n 2, 1) := by decide +kernel
theorem k82_8 : decode zm82.2.1 8 = .ok (.iadd, 1) := by decide +kernel
theorem k82_9 : decode zm82.2.1 9 = .ok (.invokevirtual 17, 3) := by decide +kernel
theorem k82_12 : decode zm82.2.1 12 = .ok (.return_, 1) := by decide +kernel
theorem k90_0 : decode zm90.2.1 0 = .ok (.aload_n 0, 1) := by decide +kernel
theorem k90_1 : decode zm90.2.1 1 = .ok (.getfield 32, 3) := by decide +kernel
theorem k90_4 : decode zm90.2.1 4 = .ok (.iload_n 1, 1) := by decide +kernel
theorem k90_5 : decode zm90.2.1 5 = .ok (.iconst 4, 1) := by decide +kernel
theorem k90_6 : decode zm90.2.1 6 = .ok (.imul, 1) := by decide +kernel
theorem k90_7 : decode zm90.2.1 7 = .ok (.iload_n 2, 1) := by decide +kernel
theorem k90_8 : decode zm90.2.1 8 = .ok (.iadd, 1) := by decide +kernel
theorem k90_9 : decode zm90.2.1 9 = .ok (.invokevirtual 62, 3) := by decide +kernel
theorem k90_12 : decode zm90.2.1 12 = .ok (.ireturn, 1) := by decide +kernel
theorem k91_0 : decode zm91.2.1 0 = .ok (.aload_n 0, 1) := by decide +kernel
theorem k91_1 : decode zm91.2.1 1 = .ok (.getfield 32, 3) := by decide +kernel
theorem k91_4 : decode zm91.2.1 4 = .ok (.iload_n 1, 1) := by decide +kernel
theorem k91_5 : decode zm91.2.1 5 = .ok (.iconst 4, 1) := by decide +kernel
theorem k91_6 : decode zm91.2.1 6 = .ok (.imul, 1) := by decide +kernel
theorem k91_7 : decode zm91.2.1 7 = .ok (.iload_n 2, 1) := by decide +kernel
theorem k91_8 : decode zm91.2.1 8 = .ok (.iadd, 1) := by decide +kernel
theorem k91_9 : decode zm91.2.1 9 = .ok (.iload_n 3, 1) := by decide +kernel
theorem k91_10 : decode zm91.2.1 10 = .ok (.invokevirtual 42, 3) := by decide +kernel
theorem k91_13 : decode zm91.2.1 13 = .ok (.return_, 1) := by decide +kernel
theorem lk_6_28 : zmx 6 28 = some (18, 1) := by decide +kernel
theorem k102_0 : decode zm102.2.1 0 = .ok (.aload_n 0, 1) := by decide +kernel
theorem k102_1 : decode zm102.2.1 1 = .ok (.getfield 14, 3) := by decide +kernel
theorem k102_4 : decode zm102.2.1 4 = .ok (.aload_n 1, 1) := by decide +kernel
theorem k102_5 : decode zm102.2.1 5 = .ok (.getfield 14, 3) := by decide +kernel
theorem k102_8 : decode zm102.2.1 8 = .ok (.invokevirtual 28, 3) := by decide +kernel
theorem k102_11 : decode zm102.2.1 11 = .ok (.aload_n 0, 1) := by decide +kernel
theorem k102_12 : decode zm102.2.1 12 = .ok (.aload_n 1, 1) := by decide +kernel
theorem k102_13 : decode zm102.2.1 13 = .ok (.getfield 20, 3) := by decide +kernel
theorem k102_16 : decode zm102.2.1 16 = .ok (.putfield 20, 3) := by decide +kernel
theorem k102_19 : decode zm102.2.1 19 = .ok (.return_, 1) := by decide +kernel
theorem k104_0 : decode zm104.2.1 0 = .ok (.aload_n 0, 1) := by decide +kernel
theorem k104_1 : decode zm104.2.1 1 = .ok (.getfield 14, 3) := by decide +kernel
theorem k104_4 : decode zm104.2.1 4 = .ok (.iload_n 1, 1) := by decide +kernel
theorem k104_5 : decode zm104.2.1 5 = .ok (.invokevirtual 32, 3) := by decide +kernel
theorem k104_8 : decode zm104.2.1 8 = .ok (.istore_n 3, 1) := by decide +kernel
theorem k104_9 : decode zm104.2.1 9 = .ok (.aload_n 0, 1) := by decide +kernel
theorem k104_10 : decode zm104.2.1 10 = .ok (.getfield 14, 3) := by decide +kernel
theorem k104_13 : decode zm104.2.1 13 = .ok (.iload_n 1, 1) := by decide +kernel
theorem k104_14 : decode zm104.2.1 14 = .ok (.aload_n 0, 1) := by decide +kernel
theorem k104_15 : decode zm104.2.1 15 = .ok (.getfield 14, 3) := by decide +kernel
theorem k104_18 : decode zm104.2.1 18 = .ok (.iload_n 2, 1) := by decide +kernel
theorem k104_19 : decode zm104.2.1 19 = .ok (.invokevirtual 32, 3) := by decide +kernel
theorem k104_22 : decode zm104.2.1 22 = .ok (.invokevirtual 24, 3) := by decide +kernel
theorem k104_25 : decode zm104.2.1 25 = .ok (.aload_n 0, 1) := by decide +kernel
theorem k104_26 : decode zm104.2.1 26 = .ok (.getfield 14, 3) := by decide +kernel
theorem k104_29 : decode zm104.2.1 29 = .ok (.iload_n 2, 1) := by decide +kernel
theorem k104_30 : decode zm104.2.1 30 = .ok (.iload_n 3, 1) := by decide +kernel
theorem k104_31 : decode zm104.2.1 31 = .ok (.invokevirtual 24, 3) := by decide +kernel
theorem k104_34 : decode zm104.2.1 34 = .ok (.return_, 1) := by decide +kernel
theorem k115_34 : decode zm115.2.1 34 = .ok (.iinc 3 1, 3) := by decide +kernel
theorem k115_37 : decode zm115.2.1 37 = .ok (.goto (-33), 3) := by decide +kernel
theorem k115_4 : decode zm115.2.1 4 = .ok (.iload_n 3, 1) := by decide +kernel
theorem k115_5 : decode zm115.2.1 5 = .ok (.aload_n 0, 1) := by decide +kernel
theorem k115_6 : decode zm115.2.1 6 = .ok (.getfield 20, 3) := by decide +kernel
theorem k115_9 : decode zm115.2.1 9 = .ok (.if_icmp .ge 31, 3) := by decide +kernel
theorem k115_40 : decode zm115.2.1 40 = .ok (.iconst (-1), 1) := by decide +kernel
theorem k115_41 : decode zm115.2.1 41 = .ok (.ireturn, 1) := by decide +kernel
theorem k115_12 : decode zm115.2.1 12 = .ok (.aload_n 0, 1) := by decide +kernel
theorem k115_13 : decode zm115.2.1 13 = .ok (.getfield 14, 3) := by decide +kernel
theorem k115_16 : decode zm115.2.1 16 = .ok (.iload_n 3, 1) := by decide +kernel
theorem k115_17 : decode zm115.2.1 17 = .ok (.invokevirtual 32, 3) := by decide +kernel
theorem k115_20 : decode zm115.2.1 20 = .ok (.iconst (-1), 1) := by decide +kernel
theorem k115_21 : decode zm115.2.1 21 = .ok (.if_icmp .ne 13, 3) := by decide +kernel
theorem k115_24 : decode zm115.2.1 24 = .ok (.iload_n 2, 1) := by decide +kernel
theorem k115_25 : decode zm115.2.1 25 = .ok (.iload_n 1, 1) := by decide +kernel
theorem k115_26 : decode zm115.2.1 26 = .ok (.if_icmp .ne 5, 3) := by decide +kernel
theorem k115_31 : decode zm115.2.1 31 = .ok (.iinc 2 1, 3) := by decide +kernel
theorem k115_29 : decode zm115.2.1 29 = .ok (.iload_n 3, 1) := by decide +kernel
theorem k115_30 : decode zm115.2.1 30 = .ok (.ireturn, 1) := by decide +kernel
theorem k115_0 : decode zm115.2.1 0 = .ok (.iconst 0, 1) := by decide +kernel
theorem k115_1 : decode zm115.2.1 1 = .ok (.istore_n 2, 1) := by decide +kernel
theorem k115_2 : decode zm115.2.1 2 = .ok (.iconst 0, 1) := by decide +kernel
theorem k115_3 : decode zm115.2.1 3 = .ok (.istore_n 3, 1) := by decide +kernel
theorem k116_0 : decode zm116.2.1 0 = .ok (.aload_n 0, 1) := by decide +kernel
theorem k116_1 : decode zm116.2.1 1 = .ok (.getfield 14, 3) := by decide +kernel
theorem k116_4 : decode zm116.2.1 4 = .ok (.iload_n 1, 1) := by decide +kernel
theorem k116_5 : decode zm116.2.1 5 = .ok (.iload_n 2, 1) := by decide +kernel
theorem k116_6 : decode zm116.2.1 6 = .ok (.invokevirtual 24, 3) := by decide +kernel
theorem k116_9 : decode zm116.2.1 9 = .ok (.return_, 1) := by decide +kernel
theorem fk_8_34 : zfx 8 34 = some (8, 4) := by decide +kernel
theorem lk_8_83 : zmx 8 83 = some (64, 0) := by decide +kernel
theorem lk_8_87 : zmx 8 87 = some (21, 1) := by decide +kernel
theorem k127_34 : decode zm127.2.1 34 = .ok (.iadd, 1) := by decide +kernel
theorem k127_35 : decode zm127.2.1 35 = .ok (.istore_n 3, 1) := by decide +kernel
theorem k127_36 : decode zm127.2.1 36 = .ok (.iinc 4 1, 3) := by decide +kernel
theorem k127_39 : decode zm127.2.1 39 = .ok (.goto (-34), 3) := by decide +kernel
theorem k127_5 : decode zm127.2.1 5 = .ok (.iload 4, 2) := by decide +kernel
theorem k127_7 : decode zm127.2.1 7 = .ok (.aload_n 0, 1) := by decide +kernel
theorem k127_8 : decode zm127.2.1 8 = .ok (.getfield 34, 3) := by decide +kernel
theorem k127_11 : decode zm127.2.1 11 = .ok (.if_icmp .ge 31, 3) := by decide +kernel
theorem k127_42 : decode zm127.2.1 42 = .ok (.iload_n 3, 1) := by decide +kernel
theorem k127_43 : decode zm127.2.1 43 = .ok (.ireturn, 1) := by decide +kernel
theorem k127_14 : decode zm127.2.1 14 = .ok (.iload_n 3, 1) := by decide +kernel
theorem k127_15 : decode zm127.2.1 15 = .ok (.iload_n 2, 1) := by decide +kernel
theorem k127_16 : decode zm127.2.1 16 = .ok (.iload 4, 2) := by decide +kernel
theorem k127_18 : decode zm127.2.1 18 = .ok (.invokestatic 83, 3) := by decide +kernel
theorem k127_21 : decode zm127.2.1 21 = .ok (.ifCond .eq 12, 3) := by decide +kernel
theorem k127_33 : decode zm127.2.1 33 = .ok (.iconst 0, 1) := by decide +kernel
theorem k127_24 : decode zm127.2.1 24 = .ok (.aload_n 1, 1) := by decide +kernel
theorem k127_25 : decode zm127.2.1 25 = .ok (.iload 4, 2) := by decide +kernel
theorem k127_27 : decode zm127.2.1 27 = .ok (.invokevirtual 87, 3) := by decide +kernel
theorem k127_30 : decode zm127.2.1 30 = .ok (.goto 4, 3) := by decide +kernel
theorem k127_0 : decode zm127.2.1 0 = .ok (.iconst 0, 1) := by decide +kernel
theorem k127_1 : decode zm127.2.1 1 = .ok (.istore_n 3, 1) := by decide +kernel
theorem k127_2 : decode zm127.2.1 2 = .ok (.iconst 0, 1) := by decide +kernel
theorem k127_3 : decode zm127.2.1 3 = .ok (.istore 4, 2) := by decide +kernel
theorem fk_8_27 : zfx 8 27 = some (8, 2) := by decide +kernel
theorem rw191 : zRow 191 := ⟨by decide +kernel, zArr_of (by decide +kernel)⟩
theorem lk_8_90 : zmx 8 90 = some (86, 0) := by decide +kernel
theorem k132_39 : decode zm132.2.1 39 = .ok (.isub, 1) := by decide +kernel
theorem k132_40 : decode zm132.2.1 40 = .ok (.istore 5, 2) := by decide +kernel
theorem k132_42 : decode zm132.2.1 42 = .ok (.iload 5, 2) := by decide +kernel
theorem k132_44 : decode zm132.2.1 44 = .ok (.ifCond .ge 5, 3) := by decide +kernel
theorem k132_49 : decode zm132.2.1 49 = .ok (.iload 5, 2) := by decide +kernel
theorem k132_51 : decode zm132.2.1 51 = .ok (.iload_n 3, 1) := by decide +kernel
theorem k132_52 : decode zm132.2.1 52 = .ok (.iload 4, 2) := by decide +kernel
theorem k132_54 : decode zm132.2.1 54 = .ok (.invokestatic 90, 3) := by decide +kernel
theorem k132_57 : decode zm132.2.1 57 = .ok (.istore 5, 2) := by decide +kernel
theorem k132_59 : decode zm132.2.1 59 = .ok (.iinc 6 1, 3) := by decide +kernel
theorem k132_62 : decode zm132.2.1 62 = .ok (.goto (-56), 3) := by decide +kernel
theorem k132_47 : decode zm132.2.1 47 = .ok (.iconst 0, 1) := by decide +kernel
theorem k132_48 : decode zm132.2.1 48 = .ok (.ireturn, 1) := by decide +kernel
theorem k132_6 : decode zm132.2.1 6 = .ok (.iload 6, 2) := by decide +kernel
theorem k132_8 : decode zm132.2.1 8 = .ok (.aload_n 0, 1) := by decide +kernel
theorem k132_9 : decode zm132.2.1 9 = .ok (.getfield 34, 3) := by decide +kernel
theorem k132_12 : decode zm132.2.1 12 = .ok (.if_icmp .ge 53, 3) := by decide +kernel
theorem k132_65 : decode zm132.2.1 65 = .ok (.iconst 1, 1) := by decide +kernel
theorem k132_66 : decode zm132.2.1 66 = .ok (.ireturn, 1) := by decide +kernel
theorem k132_15 : decode zm132.2.1 15 = .ok (.iload 5, 2) := by decide +kernel
theorem k132_17 : decode zm132.2.1 17 = .ok (.iload_n 1, 1) := by decide +kernel
theorem k132_18 : decode zm132.2.1 18 = .ok (.iload 6, 2) := by decide +kernel
theorem k132_20 : decode zm132.2.1 20 = .ok (.invokestatic 83, 3) := by decide +kernel
theorem k132_23 : decode zm132.2.1 23 = .ok (.ifCond .eq 15, 3) := by decide +kernel
theorem k132_38 : decode zm132.2.1 38 = .ok (.iconst 0, 1) := by decide +kernel
theorem k132_26 : decode zm132.2.1 26 = .ok (.aload_n 0, 1) := by decide +kernel
theorem k132_27 : decode zm132.2.1 27 = .ok (.getfield 27, 3) := by decide +kernel
theorem k132_30 : decode zm132.2.1 30 = .ok (.iload 6, 2) := by decide +kernel
theorem k132_32 : decode zm132.2.1 32 = .ok (.invokevirtual 87, 3) := by decide +kernel
theorem sh191 : zsh 191 = some (2, [some 192]) := by decide +kernel
theorem k132_35 : decode zm132.2.1 35 = .ok (.goto 4, 3) := by decide +kernel
theorem k132_0 : decode zm132.2.1 0 = .ok (.iload_n 2, 1) := by decide +kernel
theorem k132_1 : decode zm132.2.1 1 = .ok (.istore 5, 2) := by decide +kernel
theorem k132_3 : decode zm132.2.1 3 = .ok (.iconst 0, 1) := by decide +kernel
theorem k132_4 : decode zm132.2.1 4 = .ok (.istore 6, 2) := by decide +kernel
theorem fk_0_153 : zfx 0 153 = some (3, 8) := by decide +kernel
theorem lk_0_122 : zmx 0 122 = some (21, 1) := by decide +kernel
theorem rw11 : zRow 11 := ⟨by decide +kernel, zArr_of (by decide +kernel)⟩
theorem fk_0_29 : zfx 0 29 = some (0, 3) := by decide +kernel
theorem fk_0_140 : zfx 0 140 = some (4, 1) := by decide +kernel
theorem sh34 : zsh 34 = some (4, [none, some 35, some 37, some 39, some 41, some 43, some 45]) := by decide +kernel
theorem rw35 : zRow 35 := ⟨by decide +kernel, zArr_of (by decide +kernel)⟩
theorem fk_0_143 : zfx 0 143 = some (4, 2) := by decide +kernel
theorem rw37 : zRow 37 := ⟨by decide +kernel, zArr_of (by decide +kernel)⟩
theorem k137_0 : decode zm137.2.1 0 = .ok (.aload_n 0, 1) := by decide +kernel
theorem k137_1 : decode zm137.2.1 1 = .ok (.getfield 19, 3) := by decide +kernel
theorem k137_4 : decode zm137.2.1 4 = .ok (.getfield 153, 3) := by decide +kernel
theorem k137_7 : decode zm137.2.1 7 = .ok (.iload_n 1, 1) := by decide +kernel
theorem k137_8 : decode zm137.2.1 8 = .ok (.invokevirtual 122, 3) := by decide +kernel
theorem sh11 : zsh 11 = some (2, [some 12]) := by decide +kernel
theorem k137_11 : decode zm137.2.1 11 = .ok (.iconst 1, 1) := by decide +kernel
theorem k137_12 : decode zm137.2.1 12 = .ok (.iadd, 1) := by decide +kernel
theorem k137_13 : decode zm137.2.1 13 = .ok (.istore_n 3, 1) := by decide +kernel
theorem k137_14 : decode zm137.2.1 14 = .ok (.iload_n 1, 1) := by decide +kernel
theorem k137_15 : decode zm137.2.1 15 = .ok (.iload_n 2, 1) := by decide +kernel
theorem k137_16 : decode zm137.2.1 16 = .ok (.if_icmp .eq 67, 3) := by decide +kernel
theorem k137_83 : decode zm137.2.1 83 = .ok (.iconst 0, 1) := by decide +kernel
theorem k137_84 : decode zm137.2.1 84 = .ok (.ireturn, 1) := by decide +kernel
theorem k137_19 : decode zm137.2.1 19 = .ok (.aload_n 0, 1) := by decide +kernel
theorem k137_20 : decode zm137.2.1 20 = .ok (.getfield 29, 3) := by decide +kernel
theorem k137_23 : decode zm137.2.1 23 = .ok (.getfield 140, 3) := by decide +kernel
theorem k137_26 : decode zm137.2.1 26 = .ok (.iload_n 1, 1) := by decide +kernel
