def zB : List Cond := lw_tbl.filter goodWord
set_option maxRecDepth 100000 in
theorem zmem {w : Cond} (h : w ∈ lw_tbl) (g : goodWord w = true) : w ∈ zB := List.mem_filter.mpr ⟨h, g⟩
set_option maxRecDepth 100000 in
theorem zmk0 (i : Nat) {w : Cond} (h : (k2_sels lw_privs)[i]? = some w) (g : goodWord w = true) : w ∈ zB := zmem (List.mem_append_left _ (List.mem_of_getElem? h)) g
set_option maxRecDepth 100000 in
theorem zmk1 (i : Nat) {w : Cond} (h : (tables_1_1)[i]? = some w) (g : goodWord w = true) : w ∈ zB := zmem (List.mem_append_right _ (show w ∈ tables_1 from List.mem_append_left _ (List.mem_of_getElem? h))) g
set_option maxRecDepth 100000 in
theorem zmk2 (i : Nat) {w : Cond} (h : (tables_1_2)[i]? = some w) (g : goodWord w = true) : w ∈ zB := zmem (List.mem_append_right _ (show w ∈ tables_1 from List.mem_append_right _ (List.mem_append_left _ (List.mem_of_getElem? h)))) g
set_option maxRecDepth 100000 in
theorem zmk3 (i : Nat) {w : Cond} (h : (tables_1_3)[i]? = some w) (g : goodWord w = true) : w ∈ zB := zmem (List.mem_append_right _ (show w ∈ tables_1 from List.mem_append_right _ (List.mem_append_right _ (List.mem_append_left _ (List.mem_of_getElem? h))))) g
set_option maxRecDepth 100000 in
theorem zmk4 (i : Nat) {w : Cond} (h : (tables_1_4)[i]? = some w) (g : goodWord w = true) : w ∈ zB := zmem (List.mem_append_right _ (show w ∈ tables_1 from List.mem_append_right _ (List.mem_append_right _ (List.mem_append_right _ (List.mem_append_left _ (List.mem_of_getElem? h)))))) g
set_option maxRecDepth 100000 in
theorem zmk5 (i : Nat) {w : Cond} (h : (tables_1_5)[i]? = some w) (g : goodWord w = true) : w ∈ zB := zmem (List.mem_append_right _ (show w ∈ tables_1 from List.mem_append_right _ (List.mem_append_right _ (List.mem_append_right _ (List.mem_append_right _ (List.mem_of_getElem? h)))))) g
def zN : List Cond := [Cond.methodLinkNest RX3 22 yX4_put "DoorIsHeld", Cond.fieldLinkNest RX1 46 "DoorIsHeld$Told" "walkers" "I" "DoorIsHeld", Cond.fieldLinkNest RX2 36 "DoorIsHeld$Told" "walkers" "I" "DoorIsHeld", Cond.fieldLinkNest RX4 109 "DoorIsHeld$Told" "walkers" "I" "DoorIsHeld", Cond.methodLinkNest RX4 21 yX0_init "DoorIsHeld", Cond.fieldLinkNest RX4 191 "DoorIsHeld$Films" "count" "I" "DoorIsHeld", Cond.methodLinkNest RX4 38 yX2_init "DoorIsHeld", Cond.fieldLinkNest RX4 68 "DoorIsHeld$Letters" "count" "I" "DoorIsHeld", Cond.methodLinkNest RX4 45 yX1_init "DoorIsHeld", Cond.fieldLinkNest RX4 116 "DoorIsHeld$Going" "order" "[I" "DoorIsHeld", Cond.fieldLinkNest RX4 123 "DoorIsHeld$Going" "comes" "[I" "DoorIsHeld", Cond.fieldLinkNest RX4 129 "DoorIsHeld$Going" "through" "[I" "DoorIsHeld", Cond.fieldLinkNest RX4 132 "DoorIsHeld$Going" "opens" "[I" "DoorIsHeld", Cond.fieldLinkNest RX4 135 "DoorIsHeld$Going" "stands" "[I" "DoorIsHeld", Cond.fieldLinkNest RX4 138 "DoorIsHeld$Going" "by" "[I" "DoorIsHeld", Cond.fieldLinkNest RX4 141 "DoorIsHeld$Going" "runs" "[I" "DoorIsHeld", Cond.fieldLinkNest RX4 147 "DoorIsHeld$Going" "loss" "[I" "DoorIsHeld", Cond.methodLinkNest RX2 29 yX4_put "DoorIsHeld", Cond.methodLinkNest RX2 53 yX4_at "DoorIsHeld", Cond.methodLinkNest RX2 65 yX4_isCustom "DoorIsHeld", Cond.methodLinkNest RX2 69 yX4_isBit "DoorIsHeld", Cond.methodLinkNest RX3 30 yX4_at "DoorIsHeld", Cond.methodLinkNest RX3 58 yX4_filmUpTo "DoorIsHeld", Cond.methodLinkNest RX3 50 yX4_divideUp "DoorIsHeld", Cond.methodLinkNest RX1 52 yX4_put "DoorIsHeld", Cond.methodLinkNest RX1 72 yX4_at "DoorIsHeld", Cond.methodLinkNest RX1 100 yX4_divideUp "DoorIsHeld", Cond.methodLinkNest RX3 46 yX4_copyRow "DoorIsHeld", Cond.methodLinkNest RX0 28 yX4_put "DoorIsHeld", Cond.methodLinkNest RX0 36 yX4_at "DoorIsHeld", Cond.methodLinkNest RX0 40 yX4_filmUpTo "DoorIsHeld", Cond.methodLinkNest RX0 32 yX4_copyRow "DoorIsHeld"]
def zisN : Cond → Bool
  | .fieldLinkNest .. => true
  | .methodLinkNest .. => true
  | _ => false
set_option maxRecDepth 100000 in
theorem zN_nest : ∀ w ∈ zN, zisN w = true := by decide +kernel
set_option maxRecDepth 100000 in
theorem zN_tab : ∀ w ∈ zN, w.onTables = true := by decide +kernel
set_option maxRecDepth 100000 in
theorem ziX0 : ∀ w ∈ u_ws RX0 TX0 5, w ∈ zB := fun w h => zmem ((by decide +kernel : ∀ w ∈ u_ws RX0 TX0 5, w ∈ lw_tbl) w h) ((by decide +kernel : ∀ w ∈ u_ws RX0 TX0 5, goodWord w = true) w h)
set_option maxRecDepth 100000 in
theorem ziX1 : ∀ w ∈ u_ws RX1 TX1 11, w ∈ zB := fun w h => zmem ((by decide +kernel : ∀ w ∈ u_ws RX1 TX1 11, w ∈ lw_tbl) w h) ((by decide +kernel : ∀ w ∈ u_ws RX1 TX1 11, goodWord w = true) w h)
set_option maxRecDepth 100000 in
theorem ziX2 : ∀ w ∈ u_ws RX2 TX2 5, w ∈ zB := fun w h => zmem ((by decide +kernel : ∀ w ∈ u_ws RX2 TX2 5, w ∈ lw_tbl) w h) ((by decide +kernel : ∀ w ∈ u_ws RX2 TX2 5, goodWord w = true) w h)
set_option maxRecDepth 100000 in
theorem ziX3 : ∀ w ∈ u_ws RX3 TX3 3, w ∈ zB := fun w h => zmem ((by decide +kernel : ∀ w ∈ u_ws RX3 TX3 3, w ∈ lw_tbl) w h) ((by decide +kernel : ∀ w ∈ u_ws RX3 TX3 3, goodWord w = true) w h)
set_option maxRecDepth 100000 in
theorem ziX4 : ∀ w ∈ u_ws RX4 TX4 12, w ∈ zB := fun w h => zmem ((by decide +kernel : ∀ w ∈ u_ws RX4 TX4 12, w ∈ lw_tbl) w h) ((by decide +kernel : ∀ w ∈ u_ws RX4 TX4 12, goodWord w = true) w h)
set_option maxRecDepth 100000 in
theorem ziX5 : ∀ w ∈ u_ws RX5 TX5 41, w ∈ zB := fun w h => zmem ((by decide +kernel : ∀ w ∈ u_ws RX5 TX5 41, w ∈ lw_tbl) w h) ((by decide +kernel : ∀ w ∈ u_ws RX5 TX5 41, goodWord w = true) w h)
set_option maxRecDepth 100000 in
theorem zm_0 : Cond.fieldLink RX0 24 "DoorIsHeld$Films" "count" "I" ∈ zB := zmk1 54 (by decide +kernel) rfl
set_option maxRecDepth 100000 in
theorem zm_1 : Cond.fieldLink RX0 9 "DoorIsHeld$Films" "yards" "[I" ∈ zB := zmk1 50 (by decide +kernel) rfl
set_option maxRecDepth 100000 in
theorem zm_2 : Cond.methodLinkNest RX0 28 yX4_put "DoorIsHeld" ∈ zN := by decide +kernel
set_option maxRecDepth 100000 in
theorem zm_3 : Cond.code yX4_put cX4_put 3 none ∈ zB := zmk1 29 rfl rfl
set_option maxRecDepth 100000 in
theorem zm_4 : Cond.initialized RX4 ∈ zB := zmk1 1 (by decide +kernel) rfl
set_option maxRecDepth 100000 in
theorem zm_5 : Cond.static yX4_put ∈ zB := zmk1 28 (by decide +kernel) rfl
set_option maxRecDepth 100000 in
theorem zm_6 : Cond.fieldLink RX0 15 "DoorIsHeld$Films" "looks" "[I" ∈ zB := zmk1 51 (by decide +kernel) rfl
set_option maxRecDepth 100000 in
theorem zm_7 : Cond.fieldLink RX0 18 "DoorIsHeld$Films" "bags" "[I" ∈ zB := zmk1 52 (by decide +kernel) rfl
set_option maxRecDepth 100000 in
theorem zm_8 : Cond.fieldLink RX0 21 "DoorIsHeld$Films" "held" "[I" ∈ zB := zmk1 53 (by decide +kernel) rfl
set_option maxRecDepth 100000 in
theorem zm_9 : Cond.methodLinkNest RX0 32 yX4_copyRow "DoorIsHeld" ∈ zN := by decide +kernel
set_option maxRecDepth 100000 in
theorem zm_10 : Cond.code yX4_copyRow cX4_copyRow 3 none ∈ zB := zmk3 56 rfl rfl
set_option maxRecDepth 100000 in
theorem zm_11 : Cond.static yX4_copyRow ∈ zB := zmk3 55 (by decide +kernel) rfl
set_option maxRecDepth 100000 in
theorem zm_12 : Cond.methodLinkNest RX0 36 yX4_at "DoorIsHeld" ∈ zN := by decide +kernel
set_option maxRecDepth 100000 in
theorem zm_13 : Cond.code yX4_at cX4_at 2 (some FieldType.int) ∈ zB := zmk1 185 rfl rfl
set_option maxRecDepth 100000 in
theorem zm_14 : Cond.static yX4_at ∈ zB := zmk1 184 (by decide +kernel) rfl
set_option maxRecDepth 100000 in
theorem zm_15 : Cond.methodLinkNest RX0 40 yX4_filmUpTo "DoorIsHeld" ∈ zN := by decide +kernel
set_option maxRecDepth 100000 in
theorem zm_16 : Cond.code yX4_filmUpTo cX4_filmUpTo 4 (some FieldType.int) ∈ zB := zmk2 159 rfl rfl
set_option maxRecDepth 100000 in
theorem zm_17 : Cond.static yX4_filmUpTo ∈ zB := zmk2 158 (by decide +kernel) rfl
set_option maxRecDepth 100000 in
theorem zm_18 : Cond.fieldLink RX1 39 "DoorIsHeld$Going" "passed" "[I" ∈ zB := zmk1 113 (by decide +kernel) rfl
set_option maxRecDepth 100000 in
theorem zm_19 : Cond.methodLinkNest RX1 72 yX4_at "DoorIsHeld" ∈ zN := by decide +kernel
set_option maxRecDepth 100000 in
theorem zm_20 : Cond.fieldLink RX1 36 "DoorIsHeld$Going" "thereFrom" "[I" ∈ zB := zmk1 112 (by decide +kernel) rfl
set_option maxRecDepth 100000 in
theorem zm_21 : Cond.fieldLink RX1 42 "DoorIsHeld$Going" "walkers" "I" ∈ zB := zmk1 114 (by decide +kernel) rfl
set_option maxRecDepth 100000 in
theorem zm_22 : Cond.fieldLink RX1 18 "DoorIsHeld$Going" "through" "[I" ∈ zB := zmk1 100 (by decide +kernel) rfl
set_option maxRecDepth 100000 in
theorem zm_23 : Cond.fieldLink RX1 24 "DoorIsHeld$Going" "stands" "[I" ∈ zB := zmk1 104 (by decide +kernel) rfl
set_option maxRecDepth 100000 in
theorem zm_24 : Cond.fieldLink RX3 15 "DoorIsHeld$Told" "ofWalkers" "[I" ∈ zB := zmk1 31 (by decide +kernel) rfl
set_option maxRecDepth 100000 in
theorem zm_25 : Cond.fieldLink RX3 9 "DoorIsHeld$Told" "sides" "[I" ∈ zB := zmk1 30 (by decide +kernel) rfl
set_option maxRecDepth 100000 in
theorem zm_26 : Cond.methodLink RX3 26 yX3_door ∈ zB := zmk2 106 (by decide +kernel) rfl
set_option maxRecDepth 100000 in
theorem zm_27 : Cond.code yX3_door cX3_door 2 (some FieldType.int) ∈ zB := zmk2 109 rfl rfl
set_option maxRecDepth 100000 in
theorem zm_28 : Cond.initialized RX3 ∈ zB := zmk1 2 (by decide +kernel) rfl
set_option maxRecDepth 100000 in
theorem zm_29 : Cond.instanceMethod yX3_door ∈ zB := zmk2 107 (by decide +kernel) rfl
set_option maxRecDepth 100000 in
theorem zm_30 : Cond.selects RX3 yX3_door yX3_door ∈ zB := zmk2 108 (by decide +kernel) rfl
set_option maxRecDepth 100000 in
theorem zm_31 : Cond.methodLink RX3 42 yX3_of ∈ zB := zmk2 132 (by decide +kernel) rfl
set_option maxRecDepth 100000 in
theorem zm_32 : Cond.code yX3_of cX3_of 4 (some FieldType.int) ∈ zB := zmk2 135 rfl rfl
set_option maxRecDepth 100000 in
theorem zm_33 : Cond.instanceMethod yX3_of ∈ zB := zmk2 133 (by decide +kernel) rfl
set_option maxRecDepth 100000 in
theorem zm_34 : Cond.selects RX3 yX3_of yX3_of ∈ zB := zmk2 134 (by decide +kernel) rfl
set_option maxRecDepth 100000 in
theorem zm_35 : Cond.methodLink RX3 53 Lib.Math.max.name ∈ zB := zmk2 136 (by decide +kernel) rfl
set_option maxRecDepth 100000 in
theorem zm_36 : Cond.static Lib.Math.max.name ∈ zB := zmk2 23 (by decide +kernel) rfl
set_option maxRecDepth 100000 in
theorem zm_37 : Cond.initialized "java/lang/Math" ∈ zB := zmk1 9 (by decide +kernel) rfl
set_option maxRecDepth 100000 in
theorem zm_38 : Cond.code Lib.Math.max.name Lib.Math.max.code 2 (some FieldType.int) ∈ zB := zmk2 24 rfl rfl
set_option maxRecDepth 100000 in
theorem zm_39 : Cond.methodLinkNest RX1 52 yX4_put "DoorIsHeld" ∈ zN := by decide +kernel
set_option maxRecDepth 100000 in
theorem zm_40 : Cond.fieldLink RX1 30 "DoorIsHeld$Going" "runs" "[I" ∈ zB := zmk1 108 (by decide +kernel) rfl
set_option maxRecDepth 100000 in
theorem zm_41 : Cond.fieldLink RX1 15 "DoorIsHeld$Going" "comes" "[I" ∈ zB := zmk1 98 (by decide +kernel) rfl
set_option maxRecDepth 100000 in
theorem zm_42 : Cond.fieldLink RX1 21 "DoorIsHeld$Going" "opens" "[I" ∈ zB := zmk1 102 (by decide +kernel) rfl
set_option maxRecDepth 100000 in
theorem zm_43 : Cond.fieldLink RX1 27 "DoorIsHeld$Going" "by" "[I" ∈ zB := zmk1 106 (by decide +kernel) rfl
set_option maxRecDepth 100000 in
theorem zm_44 : Cond.methodLink RX1 90 yX3_yardsHeldFor ∈ zB := zmk2 200 (by decide +kernel) rfl
set_option maxRecDepth 100000 in
theorem zm_45 : Cond.code yX3_yardsHeldFor cX3_yardsHeldFor 3 (some FieldType.int) ∈ zB := zmk2 131 rfl rfl
set_option maxRecDepth 100000 in
theorem zm_46 : Cond.instanceMethod yX3_yardsHeldFor ∈ zB := zmk2 129 (by decide +kernel) rfl
set_option maxRecDepth 100000 in
theorem zm_47 : Cond.selects RX3 yX3_yardsHeldFor yX3_yardsHeldFor ∈ zB := zmk2 130 (by decide +kernel) rfl
set_option maxRecDepth 100000 in
theorem zm_48 : Cond.methodLink RX1 68 yX3_of ∈ zB := zmk2 201 (by decide +kernel) rfl
set_option maxRecDepth 100000 in
theorem zm_49 : Cond.methodLink RX1 87 yX3_secondsToOpen ∈ zB := zmk2 196 (by decide +kernel) rfl
set_option maxRecDepth 100000 in
theorem zm_50 : Cond.code yX3_secondsToOpen cX3_secondsToOpen 3 (some FieldType.int) ∈ zB := zmk2 199 rfl rfl
set_option maxRecDepth 100000 in
theorem zm_51 : Cond.instanceMethod yX3_secondsToOpen ∈ zB := zmk2 197 (by decide +kernel) rfl
set_option maxRecDepth 100000 in
theorem zm_52 : Cond.selects RX3 yX3_secondsToOpen yX3_secondsToOpen ∈ zB := zmk2 198 (by decide +kernel) rfl
set_option maxRecDepth 100000 in
theorem zm_53 : Cond.methodLink RX1 84 yX3_door ∈ zB := zmk2 195 (by decide +kernel) rfl
set_option maxRecDepth 100000 in
theorem zm_54 : Cond.methodLink RX1 79 Lib.Math.max.name ∈ zB := zmk2 194 (by decide +kernel) rfl
set_option maxRecDepth 100000 in
theorem zm_55 : Cond.methodLink RX1 76 yX1_goneAt ∈ zB := zmk2 190 (by decide +kernel) rfl
set_option maxRecDepth 100000 in
theorem zm_56 : Cond.code yX1_goneAt cX1_goneAt 2 (some FieldType.int) ∈ zB := zmk2 193 rfl rfl
set_option maxRecDepth 100000 in
theorem zm_57 : Cond.initialized RX1 ∈ zB := zmk1 5 (by decide +kernel) rfl
set_option maxRecDepth 100000 in
theorem zm_58 : Cond.instanceMethod yX1_goneAt ∈ zB := zmk2 191 (by decide +kernel) rfl
set_option maxRecDepth 100000 in
theorem zm_59 : Cond.selects RX1 yX1_goneAt yX1_goneAt ∈ zB := zmk2 192 (by decide +kernel) rfl
set_option maxRecDepth 100000 in
theorem zm_60 : Cond.methodLinkNest RX3 58 yX4_filmUpTo "DoorIsHeld" ∈ zN := by decide +kernel
set_option maxRecDepth 100000 in
theorem zm_61 : Cond.methodLink RX1 96 yX3_holdsUpTo ∈ zB := zmk2 210 (by decide +kernel) rfl
set_option maxRecDepth 100000 in
theorem zm_62 : Cond.code yX3_holdsUpTo cX3_holdsUpTo 6 (some FieldType.int) ∈ zB := zmk2 156 rfl rfl
set_option maxRecDepth 100000 in
theorem zm_63 : Cond.instanceMethod yX3_holdsUpTo ∈ zB := zmk2 154 (by decide +kernel) rfl
set_option maxRecDepth 100000 in
theorem zm_64 : Cond.selects RX3 yX3_holdsUpTo yX3_holdsUpTo ∈ zB := zmk2 155 (by decide +kernel) rfl
set_option maxRecDepth 100000 in
theorem zm_65 : Cond.methodLinkNest RX1 100 yX4_divideUp "DoorIsHeld" ∈ zN := by decide +kernel
set_option maxRecDepth 100000 in
theorem zm_66 : Cond.code yX4_divideUp cX4_divideUp 2 (some FieldType.int) ∈ zB := zmk2 170 rfl rfl
set_option maxRecDepth 100000 in
theorem zm_67 : Cond.static yX4_divideUp ∈ zB := zmk2 169 (by decide +kernel) rfl
set_option maxRecDepth 100000 in
theorem zm_68 : Cond.methodLink RX1 93 yX3_yardsToGo ∈ zB := zmk2 206 (by decide +kernel) rfl
set_option maxRecDepth 100000 in
theorem zm_69 : Cond.code yX3_yardsToGo cX3_yardsToGo 3 (some FieldType.int) ∈ zB := zmk2 209 rfl rfl
set_option maxRecDepth 100000 in
theorem zm_70 : Cond.instanceMethod yX3_yardsToGo ∈ zB := zmk2 207 (by decide +kernel) rfl
set_option maxRecDepth 100000 in
theorem zm_71 : Cond.selects RX3 yX3_yardsToGo yX3_yardsToGo ∈ zB := zmk2 208 (by decide +kernel) rfl
set_option maxRecDepth 100000 in
theorem zm_72 : Cond.methodLinkNest RX3 50 yX4_divideUp "DoorIsHeld" ∈ zN := by decide +kernel
set_option maxRecDepth 100000 in
theorem zm_73 : Cond.fieldLink RX1 33 "DoorIsHeld$Going" "loss" "[I" ∈ zB := zmk1 110 (by decide +kernel) rfl
set_option maxRecDepth 100000 in
theorem zm_74 : Cond.methodLink RX1 60 yX1_comeThrough ∈ zB := zmk2 186 (by decide +kernel) rfl
set_option maxRecDepth 100000 in
theorem zm_75 : Cond.code yX1_comeThrough cX1_comeThrough 10 none ∈ zB := zmk2 189 rfl rfl
set_option maxRecDepth 100000 in
theorem zm_76 : Cond.instanceMethod yX1_comeThrough ∈ zB := zmk2 188 (by decide +kernel) rfl
set_option maxRecDepth 100000 in
theorem zm_77 : Cond.selects RX1 yX1_comeThrough yX1_comeThrough ∈ zB := zmk0 13 (by decide +kernel) rfl
set_option maxRecDepth 100000 in
theorem zm_78 : Cond.fieldLink RX1 9 "DoorIsHeld$Going" "order" "[I" ∈ zB := zmk1 96 (by decide +kernel) rfl
set_option maxRecDepth 100000 in
theorem zm_79 : Cond.methodLink RX1 56 yX1_findNext ∈ zB := zmk2 181 (by decide +kernel) rfl
set_option maxRecDepth 100000 in
theorem zm_80 : Cond.code yX1_findNext cX1_findNext 5 (some FieldType.int) ∈ zB := zmk2 184 rfl rfl
set_option maxRecDepth 100000 in
theorem zm_81 : Cond.instanceMethod yX1_findNext ∈ zB := zmk2 183 (by decide +kernel) rfl
set_option maxRecDepth 100000 in
theorem zm_82 : Cond.selects RX1 yX1_findNext yX1_findNext ∈ zB := zmk0 12 (by decide +kernel) rfl
set_option maxRecDepth 100000 in
theorem zm_83 : Cond.methodLink RX1 64 yX1_secondsHeldFor ∈ zB := zmk2 202 (by decide +kernel) rfl
set_option maxRecDepth 100000 in
theorem zm_84 : Cond.code yX1_secondsHeldFor cX1_secondsHeldFor 6 (some FieldType.int) ∈ zB := zmk2 205 rfl rfl
set_option maxRecDepth 100000 in
theorem zm_85 : Cond.instanceMethod yX1_secondsHeldFor ∈ zB := zmk2 204 (by decide +kernel) rfl
set_option maxRecDepth 100000 in
theorem zm_86 : Cond.selects RX1 yX1_secondsHeldFor yX1_secondsHeldFor ∈ zB := zmk0 14 (by decide +kernel) rfl
set_option maxRecDepth 100000 in
theorem zm_87 : Cond.methodLink RX1 49 yX3_thereFrom ∈ zB := zmk2 179 (by decide +kernel) rfl
set_option maxRecDepth 100000 in
theorem zm_88 : Cond.code yX3_thereFrom cX3_thereFrom 2 (some FieldType.int) ∈ zB := zmk2 167 rfl rfl
set_option maxRecDepth 100000 in
theorem zm_89 : Cond.instanceMethod yX3_thereFrom ∈ zB := zmk2 165 (by decide +kernel) rfl
set_option maxRecDepth 100000 in
theorem zm_90 : Cond.selects RX3 yX3_thereFrom yX3_thereFrom ∈ zB := zmk2 166 (by decide +kernel) rfl
set_option maxRecDepth 100000 in
theorem zm_91 : Cond.fieldLinkNest RX1 46 "DoorIsHeld$Told" "walkers" "I" "DoorIsHeld" ∈ zN := by decide +kernel
set_option maxRecDepth 100000 in
theorem zm_92 : Cond.fieldLink RX2 9 "DoorIsHeld$Letters" "signs" "[I" ∈ zB := zmk1 73 (by decide +kernel) rfl
set_option maxRecDepth 100000 in
theorem zm_93 : Cond.fieldLink RX2 15 "DoorIsHeld$Letters" "count" "I" ∈ zB := zmk1 74 (by decide +kernel) rfl
set_option maxRecDepth 100000 in
theorem zm_94 : Cond.methodLinkNest RX2 29 yX4_put "DoorIsHeld" ∈ zN := by decide +kernel
set_option maxRecDepth 100000 in
theorem zm_95 : Cond.fieldLink RX2 19 "DoorIsHeld$Letters" "place" "I" ∈ zB := zmk1 76 (by decide +kernel) rfl
set_option maxRecDepth 100000 in
theorem zm_96 : Cond.fieldLink RX2 22 "DoorIsHeld$Letters" "failed" "Z" ∈ zB := zmk1 77 (by decide +kernel) rfl
set_option maxRecDepth 100000 in
theorem zm_97 : Cond.methodLink RX2 72 yX2_here ∈ zB := zmk1 208 (by decide +kernel) rfl
set_option maxRecDepth 100000 in
theorem zm_98 : Cond.code yX2_here cX2_here 1 (some FieldType.int) ∈ zB := zmk1 211 rfl rfl
set_option maxRecDepth 100000 in
theorem zm_99 : Cond.initialized RX2 ∈ zB := zmk1 4 (by decide +kernel) rfl
set_option maxRecDepth 100000 in
theorem zm_100 : Cond.instanceMethod yX2_here ∈ zB := zmk1 210 (by decide +kernel) rfl
set_option maxRecDepth 100000 in
theorem zm_101 : Cond.selects RX2 yX2_here yX2_here ∈ zB := zmk0 3 (by decide +kernel) rfl
set_option maxRecDepth 100000 in
theorem zm_102 : Cond.fieldLink RX2 26 "DoorIsHeld$Letters" "numbers" "[I" ∈ zB := zmk1 78 (by decide +kernel) rfl
set_option maxRecDepth 100000 in
theorem zm_103 : Cond.methodLink RX2 102 yX2_isDigitHere ∈ zB := zmk1 216 (by decide +kernel) rfl
set_option maxRecDepth 100000 in
theorem zm_104 : Cond.code yX2_isDigitHere cX2_isDigitHere 1 (some FieldType.boolean) ∈ zB := zmk1 219 rfl rfl
set_option maxRecDepth 100000 in
theorem zm_105 : Cond.instanceMethod yX2_isDigitHere ∈ zB := zmk1 218 (by decide +kernel) rfl
set_option maxRecDepth 100000 in
theorem zm_106 : Cond.selects RX2 yX2_isDigitHere yX2_isDigitHere ∈ zB := zmk0 5 (by decide +kernel) rfl
set_option maxRecDepth 100000 in
theorem zm_107 : Cond.methodLink RX2 98 yX2_take ∈ zB := zmk1 220 (by decide +kernel) rfl
set_option maxRecDepth 100000 in
theorem zm_108 : Cond.code yX2_take cX2_take 2 none ∈ zB := zmk1 223 rfl rfl
set_option maxRecDepth 100000 in
theorem zm_109 : Cond.instanceMethod yX2_take ∈ zB := zmk1 222 (by decide +kernel) rfl
set_option maxRecDepth 100000 in
theorem zm_110 : Cond.selects RX2 yX2_take yX2_take ∈ zB := zmk0 6 (by decide +kernel) rfl
set_option maxRecDepth 100000 in
theorem zm_111 : Cond.methodLink RX2 75 yX2_readDigits ∈ zB := zmk1 212 (by decide +kernel) rfl
set_option maxRecDepth 100000 in
theorem zm_112 : Cond.code yX2_readDigits cX2_readDigits 4 none ∈ zB := zmk1 215 rfl rfl
set_option maxRecDepth 100000 in
theorem zm_113 : Cond.instanceMethod yX2_readDigits ∈ zB := zmk1 214 (by decide +kernel) rfl
set_option maxRecDepth 100000 in
theorem zm_114 : Cond.selects RX2 yX2_readDigits yX2_readDigits ∈ zB := zmk0 4 (by decide +kernel) rfl
set_option maxRecDepth 100000 in
theorem zm_115 : Cond.methodLinkNest RX2 53 yX4_at "DoorIsHeld" ∈ zN := by decide +kernel
set_option maxRecDepth 100000 in
theorem zm_116 : Cond.methodLinkNest RX2 69 yX4_isBit "DoorIsHeld" ∈ zN := by decide +kernel
set_option maxRecDepth 100000 in
theorem zm_117 : Cond.code yX4_isBit cX4_isBit 1 (some FieldType.boolean) ∈ zB := zmk2 93 rfl rfl
set_option maxRecDepth 100000 in
theorem zm_118 : Cond.static yX4_isBit ∈ zB := zmk2 92 (by decide +kernel) rfl
set_option maxRecDepth 100000 in
theorem zm_119 : Cond.methodLinkNest RX2 65 yX4_isCustom "DoorIsHeld" ∈ zN := by decide +kernel
set_option maxRecDepth 100000 in
theorem zm_120 : Cond.code yX4_isCustom cX4_isCustom 1 (some FieldType.boolean) ∈ zB := zmk2 90 rfl rfl
set_option maxRecDepth 100000 in
theorem zm_121 : Cond.static yX4_isCustom ∈ zB := zmk2 89 (by decide +kernel) rfl
set_option maxRecDepth 100000 in
theorem zm_122 : Cond.methodLinkNest RX3 22 yX4_put "DoorIsHeld" ∈ zN := by decide +kernel
set_option maxRecDepth 100000 in
theorem zm_123 : Cond.fieldLink RX3 18 "DoorIsHeld$Told" "walkers" "I" ∈ zB := zmk1 32 (by decide +kernel) rfl
set_option maxRecDepth 100000 in
theorem zm_124 : Cond.methodLinkNest RX3 30 yX4_at "DoorIsHeld" ∈ zN := by decide +kernel
set_option maxRecDepth 100000 in
theorem zm_125 : Cond.methodLink RX3 34 yX3_tell ∈ zB := zmk2 115 (by decide +kernel) rfl
set_option maxRecDepth 100000 in
theorem zm_126 : Cond.code yX3_tell cX3_tell 4 none ∈ zB := zmk2 118 rfl rfl
set_option maxRecDepth 100000 in
theorem zm_127 : Cond.instanceMethod yX3_tell ∈ zB := zmk2 116 (by decide +kernel) rfl
set_option maxRecDepth 100000 in
theorem zm_128 : Cond.selects RX3 yX3_tell yX3_tell ∈ zB := zmk2 117 (by decide +kernel) rfl
set_option maxRecDepth 100000 in
theorem zm_129 : Cond.methodLink RX2 61 yX3_addWalker ∈ zB := zmk2 110 (by decide +kernel) rfl
set_option maxRecDepth 100000 in
theorem zm_130 : Cond.code yX3_addWalker cX3_addWalker 3 none ∈ zB := zmk2 113 rfl rfl
set_option maxRecDepth 100000 in
theorem zm_131 : Cond.instanceMethod yX3_addWalker ∈ zB := zmk2 111 (by decide +kernel) rfl
set_option maxRecDepth 100000 in
theorem zm_132 : Cond.selects RX3 yX3_addWalker yX3_addWalker ∈ zB := zmk2 112 (by decide +kernel) rfl
set_option maxRecDepth 100000 in
theorem zm_133 : Cond.methodLink RX2 57 yX3_change ∈ zB := zmk2 102 (by decide +kernel) rfl
set_option maxRecDepth 100000 in
theorem zm_134 : Cond.code yX3_change cX3_change 4 (some FieldType.int) ∈ zB := zmk2 105 rfl rfl
set_option maxRecDepth 100000 in
theorem zm_135 : Cond.instanceMethod yX3_change ∈ zB := zmk2 103 (by decide +kernel) rfl
set_option maxRecDepth 100000 in
theorem zm_136 : Cond.selects RX3 yX3_change yX3_change ∈ zB := zmk2 104 (by decide +kernel) rfl
set_option maxRecDepth 100000 in
theorem zm_137 : Cond.methodLink RX3 38 yX3_has ∈ zB := zmk3 97 (by decide +kernel) rfl
set_option maxRecDepth 100000 in
theorem zm_138 : Cond.code yX3_has cX3_has 2 (some FieldType.boolean) ∈ zB := zmk2 127 rfl rfl
set_option maxRecDepth 100000 in
theorem zm_139 : Cond.instanceMethod yX3_has ∈ zB := zmk2 125 (by decide +kernel) rfl
set_option maxRecDepth 100000 in
theorem zm_140 : Cond.selects RX3 yX3_has yX3_has ∈ zB := zmk2 126 (by decide +kernel) rfl
set_option maxRecDepth 100000 in
theorem zm_141 : Cond.methodLinkNest RX3 46 yX4_copyRow "DoorIsHeld" ∈ zN := by decide +kernel
set_option maxRecDepth 100000 in
theorem zm_142 : Cond.fieldLink RX4 61 "DoorIsHeld" "refusals" "[I" ∈ zB := zmk1 149 (by decide +kernel) rfl
set_option maxRecDepth 100000 in
theorem zm_143 : Cond.methodLink RX4 119 yX4_at ∈ zB := zmk1 183 (by decide +kernel) rfl
set_option maxRecDepth 100000 in
theorem zm_144 : Cond.methodLink RX4 175 yX4_put ∈ zB := zmk1 186 (by decide +kernel) rfl
set_option maxRecDepth 100000 in
theorem zm_145 : Cond.methodLink RX4 64 yX4_refuse ∈ zB := zmk1 179 (by decide +kernel) rfl
set_option maxRecDepth 100000 in
theorem zm_146 : Cond.code yX4_refuse cX4_refuse 3 (some FieldType.int) ∈ zB := zmk1 182 rfl rfl
set_option maxRecDepth 100000 in
theorem zm_147 : Cond.instanceMethod yX4_refuse ∈ zB := zmk1 181 (by decide +kernel) rfl
set_option maxRecDepth 100000 in
theorem zm_148 : Cond.selects RX4 yX4_refuse yX4_refuse ∈ zB := zmk0 0 (by decide +kernel) rfl
set_option maxRecDepth 100000 in
theorem zm_149 : Cond.fieldLink RX4 39 "DoorIsHeld" "letters" "LDoorIsHeld$Letters;" ∈ zB := zmk1 144 (by decide +kernel) rfl
set_option maxRecDepth 100000 in
theorem zm_150 : Cond.fieldLinkNest RX4 68 "DoorIsHeld$Letters" "count" "I" "DoorIsHeld" ∈ zN := by decide +kernel
set_option maxRecDepth 100000 in
theorem zm_151 : Cond.methodLink RX4 71 yX2_add ∈ zB := zmk1 187 (by decide +kernel) rfl
set_option maxRecDepth 100000 in
theorem zm_152 : Cond.code yX2_add cX2_add 2 none ∈ zB := zmk1 190 rfl rfl
set_option maxRecDepth 100000 in
theorem zm_153 : Cond.instanceMethod yX2_add ∈ zB := zmk1 188 (by decide +kernel) rfl
set_option maxRecDepth 100000 in
theorem zm_154 : Cond.selects RX2 yX2_add yX2_add ∈ zB := zmk1 189 (by decide +kernel) rfl
set_option maxRecDepth 100000 in
theorem zm_155 : Cond.fieldLink RX4 10 "DoorIsHeld" "now" "LDoorIsHeld$Told;" ∈ zB := zmk1 138 (by decide +kernel) rfl
set_option maxRecDepth 100000 in
theorem zm_156 : Cond.methodLink RX4 82 yX3_has ∈ zB := zmk2 124 (by decide +kernel) rfl
set_option maxRecDepth 100000 in
theorem zm_157 : Cond.methodLink RX4 89 yX3_of ∈ zB := zmk2 137 (by decide +kernel) rfl
set_option maxRecDepth 100000 in
theorem zm_158 : Cond.methodLink RX4 86 yX3_yardsHeldFor ∈ zB := zmk2 128 (by decide +kernel) rfl
set_option maxRecDepth 100000 in
theorem zm_159 : Cond.methodLink RX4 93 yX3_change ∈ zB := zmk2 142 (by decide +kernel) rfl
set_option maxRecDepth 100000 in
theorem zm_160 : Cond.methodLink RX4 96 yX4_isCustom ∈ zB := zmk2 147 (by decide +kernel) rfl
set_option maxRecDepth 100000 in
theorem zm_161 : Cond.methodLink RX4 102 yX3_holdsUpTo ∈ zB := zmk2 153 (by decide +kernel) rfl
set_option maxRecDepth 100000 in
theorem zm_162 : Cond.methodLink RX4 99 yX4_isBit ∈ zB := zmk2 152 (by decide +kernel) rfl
set_option maxRecDepth 100000 in
theorem zm_163 : Cond.methodLink RX4 106 yX3_thereFrom ∈ zB := zmk2 164 (by decide +kernel) rfl
set_option maxRecDepth 100000 in
theorem zm_164 : Cond.fieldLinkNest RX4 109 "DoorIsHeld$Told" "walkers" "I" "DoorIsHeld" ∈ zN := by decide +kernel
set_option maxRecDepth 100000 in
theorem zm_165 : Cond.fieldLink RX4 46 "DoorIsHeld" "going" "LDoorIsHeld$Going;" ∈ zB := zmk1 145 (by decide +kernel) rfl
set_option maxRecDepth 100000 in
theorem zm_166 : Cond.methodLink RX4 112 yX1_run ∈ zB := zmk2 175 (by decide +kernel) rfl
set_option maxRecDepth 100000 in
theorem zm_167 : Cond.code yX1_run cX1_run 7 none ∈ zB := zmk2 178 rfl rfl
set_option maxRecDepth 100000 in
theorem zm_168 : Cond.instanceMethod yX1_run ∈ zB := zmk2 176 (by decide +kernel) rfl
set_option maxRecDepth 100000 in
theorem zm_169 : Cond.selects RX1 yX1_run yX1_run ∈ zB := zmk2 177 (by decide +kernel) rfl
set_option maxRecDepth 100000 in
theorem zm_170 : Cond.fieldLinkNest RX4 116 "DoorIsHeld$Going" "order" "[I" "DoorIsHeld" ∈ zN := by decide +kernel
set_option maxRecDepth 100000 in
theorem zm_171 : Cond.fieldLinkNest RX4 123 "DoorIsHeld$Going" "comes" "[I" "DoorIsHeld" ∈ zN := by decide +kernel
set_option maxRecDepth 100000 in
theorem zm_172 : Cond.methodLink RX4 126 yX4_answerOf ∈ zB := zmk2 216 (by decide +kernel) rfl
set_option maxRecDepth 100000 in
theorem zm_173 : Cond.code yX4_answerOf cX4_answerOf 3 (some FieldType.int) ∈ zB := zmk2 219 rfl rfl
set_option maxRecDepth 100000 in
theorem zm_174 : Cond.instanceMethod yX4_answerOf ∈ zB := zmk2 218 (by decide +kernel) rfl
set_option maxRecDepth 100000 in
theorem zm_175 : Cond.selects RX4 yX4_answerOf yX4_answerOf ∈ zB := zmk0 15 (by decide +kernel) rfl
set_option maxRecDepth 100000 in
theorem zm_176 : Cond.fieldLinkNest RX4 129 "DoorIsHeld$Going" "through" "[I" "DoorIsHeld" ∈ zN := by decide +kernel
set_option maxRecDepth 100000 in
theorem zm_177 : Cond.fieldLinkNest RX4 132 "DoorIsHeld$Going" "opens" "[I" "DoorIsHeld" ∈ zN := by decide +kernel
set_option maxRecDepth 100000 in
theorem zm_178 : Cond.fieldLinkNest RX4 135 "DoorIsHeld$Going" "stands" "[I" "DoorIsHeld" ∈ zN := by decide +kernel
set_option maxRecDepth 100000 in
theorem zm_179 : Cond.fieldLinkNest RX4 138 "DoorIsHeld$Going" "by" "[I" "DoorIsHeld" ∈ zN := by decide +kernel
set_option maxRecDepth 100000 in
theorem zm_180 : Cond.fieldLinkNest RX4 141 "DoorIsHeld$Going" "runs" "[I" "DoorIsHeld" ∈ zN := by decide +kernel
set_option maxRecDepth 100000 in
theorem zm_181 : Cond.methodLink RX4 179 yX1_lossOfAll ∈ zB := zmk3 8 (by decide +kernel) rfl
set_option maxRecDepth 100000 in
theorem zm_182 : Cond.code yX1_lossOfAll cX1_lossOfAll 3 (some FieldType.int) ∈ zB := zmk3 11 rfl rfl
set_option maxRecDepth 100000 in
theorem zm_183 : Cond.instanceMethod yX1_lossOfAll ∈ zB := zmk3 9 (by decide +kernel) rfl
set_option maxRecDepth 100000 in
theorem zm_184 : Cond.selects RX1 yX1_lossOfAll yX1_lossOfAll ∈ zB := zmk3 10 (by decide +kernel) rfl
set_option maxRecDepth 100000 in
theorem zm_185 : Cond.fieldLinkNest RX4 147 "DoorIsHeld$Going" "loss" "[I" "DoorIsHeld" ∈ zN := by decide +kernel
set_option maxRecDepth 100000 in
theorem zm_186 : Cond.methodLink RX4 144 yX4_allLoss ∈ zB := zmk3 4 (by decide +kernel) rfl
set_option maxRecDepth 100000 in
theorem zm_187 : Cond.code yX4_allLoss cX4_allLoss 2 (some FieldType.int) ∈ zB := zmk3 7 rfl rfl
set_option maxRecDepth 100000 in
theorem zm_188 : Cond.instanceMethod yX4_allLoss ∈ zB := zmk3 6 (by decide +kernel) rfl
set_option maxRecDepth 100000 in
theorem zm_189 : Cond.selects RX4 yX4_allLoss yX4_allLoss ∈ zB := zmk0 16 (by decide +kernel) rfl
set_option maxRecDepth 100000 in
theorem zm_190 : Cond.methodLink RX4 150 yX1_countHeldFor ∈ zB := zmk3 16 (by decide +kernel) rfl
set_option maxRecDepth 100000 in
theorem zm_191 : Cond.code yX1_countHeldFor cX1_countHeldFor 3 (some FieldType.int) ∈ zB := zmk3 19 rfl rfl
set_option maxRecDepth 100000 in
theorem zm_192 : Cond.instanceMethod yX1_countHeldFor ∈ zB := zmk3 17 (by decide +kernel) rfl
set_option maxRecDepth 100000 in
theorem zm_193 : Cond.selects RX1 yX1_countHeldFor yX1_countHeldFor ∈ zB := zmk3 18 (by decide +kernel) rfl
set_option maxRecDepth 100000 in
theorem zm_194 : Cond.methodLink RX4 154 yX1_longestStand ∈ zB := zmk3 24 (by decide +kernel) rfl
set_option maxRecDepth 100000 in
theorem zm_195 : Cond.code yX1_longestStand cX1_longestStand 3 (some FieldType.int) ∈ zB := zmk3 27 rfl rfl
set_option maxRecDepth 100000 in
theorem zm_196 : Cond.instanceMethod yX1_longestStand ∈ zB := zmk3 25 (by decide +kernel) rfl
set_option maxRecDepth 100000 in
theorem zm_197 : Cond.selects RX1 yX1_longestStand yX1_longestStand ∈ zB := zmk3 26 (by decide +kernel) rfl
set_option maxRecDepth 100000 in
theorem zm_198 : Cond.methodLink RX4 157 yX1_goneAt ∈ zB := zmk3 32 (by decide +kernel) rfl
set_option maxRecDepth 100000 in
theorem zm_199 : Cond.methodLink RX4 160 yX3_door ∈ zB := zmk3 37 (by decide +kernel) rfl
set_option maxRecDepth 100000 in
theorem zm_200 : Cond.methodLink RX4 163 yX1_openSeconds ∈ zB := zmk3 38 (by decide +kernel) rfl
set_option maxRecDepth 100000 in
theorem zm_201 : Cond.code yX1_openSeconds cX1_openSeconds 7 (some FieldType.int) ∈ zB := zmk3 41 rfl rfl
set_option maxRecDepth 100000 in
theorem zm_202 : Cond.instanceMethod yX1_openSeconds ∈ zB := zmk3 39 (by decide +kernel) rfl
set_option maxRecDepth 100000 in
theorem zm_203 : Cond.selects RX1 yX1_openSeconds yX1_openSeconds ∈ zB := zmk3 40 (by decide +kernel) rfl
set_option maxRecDepth 100000 in
theorem zm_204 : Cond.fieldLink RX4 16 "DoorIsHeld" "mind" "LDoorIsHeld$Told;" ∈ zB := zmk1 139 (by decide +kernel) rfl
set_option maxRecDepth 100000 in
theorem zm_205 : Cond.methodLink RX4 166 yX3_become ∈ zB := zmk3 50 (by decide +kernel) rfl
set_option maxRecDepth 100000 in
theorem zm_206 : Cond.code yX3_become cX3_become 2 none ∈ zB := zmk3 53 rfl rfl
set_option maxRecDepth 100000 in
theorem zm_207 : Cond.instanceMethod yX3_become ∈ zB := zmk3 51 (by decide +kernel) rfl
set_option maxRecDepth 100000 in
theorem zm_208 : Cond.selects RX3 yX3_become yX3_become ∈ zB := zmk3 52 (by decide +kernel) rfl
set_option maxRecDepth 100000 in
theorem zm_209 : Cond.methodLink RX4 169 yX4_leastLossOver ∈ zB := zmk3 61 (by decide +kernel) rfl
set_option maxRecDepth 100000 in
theorem zm_210 : Cond.code yX4_leastLossOver cX4_leastLossOver 7 (some FieldType.int) ∈ zB := zmk3 64 rfl rfl
set_option maxRecDepth 100000 in
theorem zm_211 : Cond.instanceMethod yX4_leastLossOver ∈ zB := zmk3 63 (by decide +kernel) rfl
set_option maxRecDepth 100000 in
theorem zm_212 : Cond.selects RX4 yX4_leastLossOver yX4_leastLossOver ∈ zB := zmk0 17 (by decide +kernel) rfl
set_option maxRecDepth 100000 in
theorem zm_213 : Cond.fieldLink RX4 50 "DoorIsHeld" "lossByNever" "[I" ∈ zB := zmk1 146 (by decide +kernel) rfl
set_option maxRecDepth 100000 in
theorem zm_214 : Cond.methodLink RX4 172 yX4_runByNever ∈ zB := zmk3 77 (by decide +kernel) rfl
set_option maxRecDepth 100000 in
theorem zm_215 : Cond.code yX4_runByNever cX4_runByNever 1 none ∈ zB := zmk3 80 rfl rfl
set_option maxRecDepth 100000 in
theorem zm_216 : Cond.instanceMethod yX4_runByNever ∈ zB := zmk3 79 (by decide +kernel) rfl
set_option maxRecDepth 100000 in
theorem zm_217 : Cond.selects RX4 yX4_runByNever yX4_runByNever ∈ zB := zmk0 18 (by decide +kernel) rfl
set_option maxRecDepth 100000 in
theorem zm_218 : Cond.methodLink RX4 182 yX3_leaveOut ∈ zB := zmk3 93 (by decide +kernel) rfl
set_option maxRecDepth 100000 in
theorem zm_219 : Cond.code yX3_leaveOut cX3_leaveOut 4 none ∈ zB := zmk3 96 rfl rfl
set_option maxRecDepth 100000 in
theorem zm_220 : Cond.instanceMethod yX3_leaveOut ∈ zB := zmk3 94 (by decide +kernel) rfl
set_option maxRecDepth 100000 in
theorem zm_221 : Cond.selects RX3 yX3_leaveOut yX3_leaveOut ∈ zB := zmk3 95 (by decide +kernel) rfl
set_option maxRecDepth 100000 in
theorem zm_222 : Cond.fieldLink RX4 22 "DoorIsHeld" "films" "LDoorIsHeld$Films;" ∈ zB := zmk1 140 (by decide +kernel) rfl
set_option maxRecDepth 100000 in
theorem zm_223 : Cond.fieldLinkNest RX4 191 "DoorIsHeld$Films" "count" "I" "DoorIsHeld" ∈ zN := by decide +kernel
set_option maxRecDepth 100000 in
theorem zm_224 : Cond.methodLink RX4 185 yX4_refusalOfFilm ∈ zB := zmk3 102 (by decide +kernel) rfl
set_option maxRecDepth 100000 in
theorem zm_225 : Cond.code yX4_refusalOfFilm cX4_refusalOfFilm 4 (some FieldType.int) ∈ zB := zmk3 105 rfl rfl
set_option maxRecDepth 100000 in
theorem zm_226 : Cond.instanceMethod yX4_refusalOfFilm ∈ zB := zmk3 104 (by decide +kernel) rfl
set_option maxRecDepth 100000 in
theorem zm_227 : Cond.selects RX4 yX4_refusalOfFilm yX4_refusalOfFilm ∈ zB := zmk0 19 (by decide +kernel) rfl
set_option maxRecDepth 100000 in
theorem zm_228 : Cond.methodLink RX4 188 yX0_add ∈ zB := zmk3 106 (by decide +kernel) rfl
set_option maxRecDepth 100000 in
theorem zm_229 : Cond.code yX0_add cX0_add 5 none ∈ zB := zmk3 109 rfl rfl
set_option maxRecDepth 100000 in
theorem zm_230 : Cond.initialized RX0 ∈ zB := zmk1 3 (by decide +kernel) rfl
set_option maxRecDepth 100000 in
theorem zm_231 : Cond.instanceMethod yX0_add ∈ zB := zmk3 107 (by decide +kernel) rfl
set_option maxRecDepth 100000 in
theorem zm_232 : Cond.selects RX0 yX0_add yX0_add ∈ zB := zmk3 108 (by decide +kernel) rfl
set_option maxRecDepth 100000 in
theorem zm_233 : Cond.methodLink RX4 192 yX4_isFilmCustom ∈ zB := zmk3 115 (by decide +kernel) rfl
set_option maxRecDepth 100000 in
theorem zm_234 : Cond.code yX4_isFilmCustom cX4_isFilmCustom 1 (some FieldType.boolean) ∈ zB := zmk3 117 rfl rfl
set_option maxRecDepth 100000 in
theorem zm_235 : Cond.static yX4_isFilmCustom ∈ zB := zmk3 116 (by decide +kernel) rfl
set_option maxRecDepth 100000 in
theorem zm_236 : Cond.methodLink RX4 195 yX4_filmUpTo ∈ zB := zmk3 118 (by decide +kernel) rfl
set_option maxRecDepth 100000 in
theorem zm_237 : Cond.methodLink RX4 199 yX0_allAreSo ∈ zB := zmk3 123 (by decide +kernel) rfl
set_option maxRecDepth 100000 in
theorem zm_238 : Cond.code yX0_allAreSo cX0_allAreSo 5 (some FieldType.boolean) ∈ zB := zmk3 126 rfl rfl
set_option maxRecDepth 100000 in
theorem zm_239 : Cond.instanceMethod yX0_allAreSo ∈ zB := zmk3 124 (by decide +kernel) rfl
set_option maxRecDepth 100000 in
theorem zm_240 : Cond.selects RX0 yX0_allAreSo yX0_allAreSo ∈ zB := zmk3 125 (by decide +kernel) rfl
set_option maxRecDepth 100000 in
theorem zm_241 : Cond.constant RX4 203 (1664525) ∈ zB := zmk3 133 (by decide +kernel) rfl
set_option maxRecDepth 100000 in
theorem zm_242 : Cond.constant RX4 204 (1013904223) ∈ zB := zmk3 134 (by decide +kernel) rfl
set_option maxRecDepth 100000 in
theorem zm_243 : Cond.constant RX4 205 (2147483647) ∈ zB := zmk3 135 (by decide +kernel) rfl
set_option maxRecDepth 100000 in
theorem zm_244 : Cond.methodLink RX4 206 yX3_tell ∈ zB := zmk3 136 (by decide +kernel) rfl
set_option maxRecDepth 100000 in
theorem zm_245 : Cond.fieldLink RX4 57 "DoorIsHeld" "inRow" "I" ∈ zB := zmk1 148 (by decide +kernel) rfl
set_option maxRecDepth 100000 in
theorem zm_246 : Cond.fieldLink RX4 54 "DoorIsHeld" "rowNumbers" "[I" ∈ zB := zmk1 147 (by decide +kernel) rfl
set_option maxRecDepth 100000 in
theorem zm_247 : Cond.methodLink RX4 210 Lib.Math.min.name ∈ zB := zmk3 145 (by decide +kernel) rfl
set_option maxRecDepth 100000 in
theorem zm_248 : Cond.static Lib.Math.min.name ∈ zB := zmk2 26 (by decide +kernel) rfl
set_option maxRecDepth 100000 in
theorem zm_249 : Cond.code Lib.Math.min.name Lib.Math.min.code 2 (some FieldType.int) ∈ zB := zmk2 27 rfl rfl
set_option maxRecDepth 100000 in
theorem zm_250 : Cond.fieldLink RX4 26 "DoorIsHeld" "imageOfTold" "LDoorIsHeld$Told;" ∈ zB := zmk1 141 (by decide +kernel) rfl
set_option maxRecDepth 100000 in
theorem zm_251 : Cond.fieldLink RX4 29 "DoorIsHeld" "imageOfFilms" "LDoorIsHeld$Films;" ∈ zB := zmk1 142 (by decide +kernel) rfl
set_option maxRecDepth 100000 in
theorem zm_252 : Cond.methodLink RX4 215 yX0_become ∈ zB := zmk3 150 (by decide +kernel) rfl
set_option maxRecDepth 100000 in
theorem zm_253 : Cond.code yX0_become cX0_become 2 none ∈ zB := zmk3 153 rfl rfl
set_option maxRecDepth 100000 in
theorem zm_254 : Cond.instanceMethod yX0_become ∈ zB := zmk3 151 (by decide +kernel) rfl
set_option maxRecDepth 100000 in
theorem zm_255 : Cond.selects RX0 yX0_become yX0_become ∈ zB := zmk3 152 (by decide +kernel) rfl
set_option maxRecDepth 100000 in
theorem zm_256 : Cond.fieldLink RX4 32 "DoorIsHeld" "imageTaken" "Z" ∈ zB := zmk1 143 (by decide +kernel) rfl
set_option maxRecDepth 100000 in
theorem zm_257 : Cond.fieldLink RX5 7 "DoorIsHeldModel" "refused" "[I" ∈ zB := zmk3 169 (by decide +kernel) rfl
set_option maxRecDepth 100000 in
theorem zm_258 : Cond.fieldLink RX5 97 "DoorIsHeldModel" "walkers" "I" ∈ zB := zmk3 182 (by decide +kernel) rfl
set_option maxRecDepth 100000 in
theorem zm_259 : Cond.fieldLink RX5 49 "DoorIsHeldModel" "tape" "[I" ∈ zB := zmk3 184 (by decide +kernel) rfl
set_option maxRecDepth 100000 in
theorem zm_260 : Cond.fieldLink RX5 105 "DoorIsHeldModel" "taped" "I" ∈ zB := zmk3 188 (by decide +kernel) rfl
set_option maxRecDepth 100000 in
theorem zm_261 : Cond.methodLink RX5 108 yX5_no ∈ zB := zmk4 60 (by decide +kernel) rfl
set_option maxRecDepth 100000 in
theorem zm_262 : Cond.code yX5_no cX5_no 2 (some FieldType.int) ∈ zB := zmk4 63 rfl rfl
set_option maxRecDepth 100000 in
theorem zm_263 : Cond.initialized RX5 ∈ zB := zmk1 6 (by decide +kernel) rfl
set_option maxRecDepth 100000 in
theorem zm_264 : Cond.instanceMethod yX5_no ∈ zB := zmk4 62 (by decide +kernel) rfl
set_option maxRecDepth 100000 in
theorem zm_265 : Cond.selects RX5 yX5_no yX5_no ∈ zB := zmk0 20 (by decide +kernel) rfl
set_option maxRecDepth 100000 in
theorem zm_266 : Cond.methodLink RX5 101 yX5_bound ∈ zB := zmk4 57 (by decide +kernel) rfl
set_option maxRecDepth 100000 in
theorem zm_267 : Cond.code yX5_bound cX5_bound 3 (some FieldType.int) ∈ zB := zmk4 59 rfl rfl
set_option maxRecDepth 100000 in
theorem zm_268 : Cond.static yX5_bound ∈ zB := zmk4 58 (by decide +kernel) rfl
set_option maxRecDepth 100000 in
theorem zm_269 : Cond.fieldLink RX5 112 "DoorIsHeldModel" "at" "I" ∈ zB := zmk3 189 (by decide +kernel) rfl
set_option maxRecDepth 100000 in
theorem zm_270 : Cond.methodLink RX5 115 yX5_next ∈ zB := zmk4 72 (by decide +kernel) rfl
set_option maxRecDepth 100000 in
theorem zm_271 : Cond.code yX5_next cX5_next 1 (some FieldType.int) ∈ zB := zmk4 75 rfl rfl
set_option maxRecDepth 100000 in
theorem zm_272 : Cond.instanceMethod yX5_next ∈ zB := zmk4 74 (by decide +kernel) rfl
set_option maxRecDepth 100000 in
theorem zm_273 : Cond.selects RX5 yX5_next yX5_next ∈ zB := zmk0 22 (by decide +kernel) rfl
set_option maxRecDepth 100000 in
theorem zm_274 : Cond.fieldLink RX5 58 "DoorIsHeldModel" "number" "[I" ∈ zB := zmk3 187 (by decide +kernel) rfl
set_option maxRecDepth 100000 in
theorem zm_275 : Cond.methodLink RX5 119 yX5_isIn ∈ zB := zmk4 84 (by decide +kernel) rfl
set_option maxRecDepth 100000 in
theorem zm_276 : Cond.code yX5_isIn cX5_isIn 3 (some FieldType.boolean) ∈ zB := zmk4 86 rfl rfl
set_option maxRecDepth 100000 in
theorem zm_277 : Cond.static yX5_isIn ∈ zB := zmk4 85 (by decide +kernel) rfl
set_option maxRecDepth 100000 in
theorem zm_278 : Cond.methodLink RX5 123 yX5_reads ∈ zB := zmk4 80 (by decide +kernel) rfl
set_option maxRecDepth 100000 in
theorem zm_279 : Cond.code yX5_reads cX5_reads 5 (some FieldType.boolean) ∈ zB := zmk4 83 rfl rfl
set_option maxRecDepth 100000 in
theorem zm_280 : Cond.instanceMethod yX5_reads ∈ zB := zmk4 82 (by decide +kernel) rfl
set_option maxRecDepth 100000 in
theorem zm_281 : Cond.selects RX5 yX5_reads yX5_reads ∈ zB := zmk0 24 (by decide +kernel) rfl
set_option maxRecDepth 100000 in
theorem zm_282 : Cond.methodLink RX5 127 yX5_kindOf ∈ zB := zmk4 91 (by decide +kernel) rfl
set_option maxRecDepth 100000 in
theorem zm_283 : Cond.code yX5_kindOf cX5_kindOf 1 (some FieldType.int) ∈ zB := zmk4 93 rfl rfl
set_option maxRecDepth 100000 in
theorem zm_284 : Cond.static yX5_kindOf ∈ zB := zmk4 92 (by decide +kernel) rfl
set_option maxRecDepth 100000 in
theorem zm_285 : Cond.methodLink RX5 130 yX5_isNext ∈ zB := zmk4 94 (by decide +kernel) rfl
set_option maxRecDepth 100000 in
theorem zm_286 : Cond.code yX5_isNext cX5_isNext 2 (some FieldType.boolean) ∈ zB := zmk4 97 rfl rfl
set_option maxRecDepth 100000 in
theorem zm_287 : Cond.instanceMethod yX5_isNext ∈ zB := zmk4 96 (by decide +kernel) rfl
set_option maxRecDepth 100000 in
theorem zm_288 : Cond.selects RX5 yX5_isNext yX5_isNext ∈ zB := zmk0 26 (by decide +kernel) rfl
set_option maxRecDepth 100000 in
theorem zm_289 : Cond.methodLink RX5 134 yX5_readsOnes ∈ zB := zmk4 76 (by decide +kernel) rfl
set_option maxRecDepth 100000 in
theorem zm_290 : Cond.code yX5_readsOnes cX5_readsOnes 4 (some FieldType.boolean) ∈ zB := zmk4 79 rfl rfl
set_option maxRecDepth 100000 in
theorem zm_291 : Cond.instanceMethod yX5_readsOnes ∈ zB := zmk4 78 (by decide +kernel) rfl
set_option maxRecDepth 100000 in
theorem zm_292 : Cond.selects RX5 yX5_readsOnes yX5_readsOnes ∈ zB := zmk0 23 (by decide +kernel) rfl
set_option maxRecDepth 100000 in
theorem zm_293 : Cond.fieldLink RX5 52 "DoorIsHeldModel" "letter" "[I" ∈ zB := zmk3 185 (by decide +kernel) rfl
set_option maxRecDepth 100000 in
theorem zm_294 : Cond.fieldLink RX5 137 "DoorIsHeldModel" "statements" "I" ∈ zB := zmk3 190 (by decide +kernel) rfl
set_option maxRecDepth 100000 in
theorem zm_295 : Cond.fieldLink RX5 55 "DoorIsHeldModel" "letterAt" "[I" ∈ zB := zmk3 186 (by decide +kernel) rfl
set_option maxRecDepth 100000 in
theorem zm_296 : Cond.methodLink RX5 140 yX5_readsWalker ∈ zB := zmk4 87 (by decide +kernel) rfl
set_option maxRecDepth 100000 in
theorem zm_297 : Cond.code yX5_readsWalker cX5_readsWalker 2 (some FieldType.boolean) ∈ zB := zmk4 90 rfl rfl
set_option maxRecDepth 100000 in
theorem zm_298 : Cond.instanceMethod yX5_readsWalker ∈ zB := zmk4 89 (by decide +kernel) rfl
set_option maxRecDepth 100000 in
theorem zm_299 : Cond.selects RX5 yX5_readsWalker yX5_readsWalker ∈ zB := zmk0 25 (by decide +kernel) rfl
set_option maxRecDepth 100000 in
theorem zm_300 : Cond.fieldLink RX5 13 "DoorIsHeldModel" "kind" "[I" ∈ zB := zmk3 170 (by decide +kernel) rfl
set_option maxRecDepth 100000 in
theorem zm_301 : Cond.fieldLink RX5 16 "DoorIsHeldModel" "start" "[I" ∈ zB := zmk3 171 (by decide +kernel) rfl
set_option maxRecDepth 100000 in
theorem zm_302 : Cond.fieldLink RX5 19 "DoorIsHeldModel" "yards" "[I" ∈ zB := zmk3 172 (by decide +kernel) rfl
set_option maxRecDepth 100000 in
theorem zm_303 : Cond.fieldLink RX5 22 "DoorIsHeldModel" "pace" "[I" ∈ zB := zmk3 173 (by decide +kernel) rfl
set_option maxRecDepth 100000 in
theorem zm_304 : Cond.fieldLink RX5 25 "DoorIsHeldModel" "bags" "[I" ∈ zB := zmk3 174 (by decide +kernel) rfl
set_option maxRecDepth 100000 in
theorem zm_305 : Cond.fieldLink RX5 28 "DoorIsHeldModel" "looks" "[I" ∈ zB := zmk3 175 (by decide +kernel) rfl
set_option maxRecDepth 100000 in
theorem zm_306 : Cond.fieldLink RX5 31 "DoorIsHeldModel" "worth" "[I" ∈ zB := zmk3 176 (by decide +kernel) rfl
set_option maxRecDepth 100000 in
theorem zm_307 : Cond.fieldLink RX5 34 "DoorIsHeldModel" "setting" "[I" ∈ zB := zmk3 177 (by decide +kernel) rfl
set_option maxRecDepth 100000 in
theorem zm_308 : Cond.methodLink RX5 143 yX5_comesWalker ∈ zB := zmk4 114 (by decide +kernel) rfl
set_option maxRecDepth 100000 in
theorem zm_309 : Cond.code yX5_comesWalker cX5_comesWalker 2 (some FieldType.boolean) ∈ zB := zmk4 117 rfl rfl
set_option maxRecDepth 100000 in
theorem zm_310 : Cond.instanceMethod yX5_comesWalker ∈ zB := zmk4 116 (by decide +kernel) rfl
set_option maxRecDepth 100000 in
theorem zm_311 : Cond.selects RX5 yX5_comesWalker yX5_comesWalker ∈ zB := zmk0 31 (by decide +kernel) rfl
set_option maxRecDepth 100000 in
theorem zm_312 : Cond.fieldLink RX5 161 "DoorIsHeldModel" "cursor" "I" ∈ zB := zmk3 194 (by decide +kernel) rfl
set_option maxRecDepth 100000 in
theorem zm_313 : Cond.fieldLink RX5 157 "DoorIsHeldModel" "isKeeping" "Z" ∈ zB := zmk3 193 (by decide +kernel) rfl
set_option maxRecDepth 100000 in
theorem zm_314 : Cond.fieldLink RX5 61 "DoorIsHeldModel" "kept" "[I" ∈ zB := zmk3 191 (by decide +kernel) rfl
set_option maxRecDepth 100000 in
theorem zm_315 : Cond.methodLink RX5 164 yX5_passes ∈ zB := zmk4 102 (by decide +kernel) rfl
set_option maxRecDepth 100000 in
theorem zm_316 : Cond.code yX5_passes cX5_passes 3 none ∈ zB := zmk4 105 rfl rfl
set_option maxRecDepth 100000 in
theorem zm_317 : Cond.instanceMethod yX5_passes ∈ zB := zmk4 104 (by decide +kernel) rfl
set_option maxRecDepth 100000 in
theorem zm_318 : Cond.selects RX5 yX5_passes yX5_passes ∈ zB := zmk0 28 (by decide +kernel) rfl
set_option maxRecDepth 100000 in
theorem zm_319 : Cond.fieldLink RX5 37 "DoorIsHeldModel" "filmYards" "[I" ∈ zB := zmk3 178 (by decide +kernel) rfl
set_option maxRecDepth 100000 in
theorem zm_320 : Cond.fieldLink RX5 40 "DoorIsHeldModel" "filmLooks" "[I" ∈ zB := zmk3 179 (by decide +kernel) rfl
set_option maxRecDepth 100000 in
theorem zm_321 : Cond.fieldLink RX5 43 "DoorIsHeldModel" "filmBags" "[I" ∈ zB := zmk3 180 (by decide +kernel) rfl
set_option maxRecDepth 100000 in
theorem zm_322 : Cond.fieldLink RX5 46 "DoorIsHeldModel" "filmHeld" "[I" ∈ zB := zmk3 181 (by decide +kernel) rfl
set_option maxRecDepth 100000 in
theorem zm_323 : Cond.methodLink RX5 168 yX5_passOne ∈ zB := zmk4 106 (by decide +kernel) rfl
set_option maxRecDepth 100000 in
theorem zm_324 : Cond.code yX5_passOne cX5_passOne 3 (some FieldType.int) ∈ zB := zmk4 109 rfl rfl
set_option maxRecDepth 100000 in
theorem zm_325 : Cond.instanceMethod yX5_passOne ∈ zB := zmk4 108 (by decide +kernel) rfl
set_option maxRecDepth 100000 in
theorem zm_326 : Cond.selects RX5 yX5_passOne yX5_passOne ∈ zB := zmk0 29 (by decide +kernel) rfl
set_option maxRecDepth 100000 in
theorem zm_327 : Cond.fieldLink RX5 171 "DoorIsHeldModel" "films" "I" ∈ zB := zmk3 183 (by decide +kernel) rfl
set_option maxRecDepth 100000 in
theorem zm_328 : Cond.methodLink RX5 150 yX5_passesAll ∈ zB := zmk4 98 (by decide +kernel) rfl
set_option maxRecDepth 100000 in
theorem zm_329 : Cond.code yX5_passesAll cX5_passesAll 3 none ∈ zB := zmk4 101 rfl rfl
set_option maxRecDepth 100000 in
theorem zm_330 : Cond.instanceMethod yX5_passesAll ∈ zB := zmk4 100 (by decide +kernel) rfl
set_option maxRecDepth 100000 in
theorem zm_331 : Cond.selects RX5 yX5_passesAll yX5_passesAll ∈ zB := zmk0 27 (by decide +kernel) rfl
set_option maxRecDepth 100000 in
theorem zm_332 : Cond.methodLink RX5 154 yX5_comesAs ∈ zB := zmk4 110 (by decide +kernel) rfl
set_option maxRecDepth 100000 in
theorem zm_333 : Cond.code yX5_comesAs cX5_comesAs 4 (some FieldType.boolean) ∈ zB := zmk4 113 rfl rfl
set_option maxRecDepth 100000 in
theorem zm_334 : Cond.instanceMethod yX5_comesAs ∈ zB := zmk4 112 (by decide +kernel) rfl
set_option maxRecDepth 100000 in
theorem zm_335 : Cond.selects RX5 yX5_comesAs yX5_comesAs ∈ zB := zmk0 30 (by decide +kernel) rfl
set_option maxRecDepth 100000 in
theorem zm_336 : Cond.methodLink RX5 146 yX5_statement ∈ zB := zmk4 68 (by decide +kernel) rfl
set_option maxRecDepth 100000 in
theorem zm_337 : Cond.code yX5_statement cX5_statement 4 (some FieldType.boolean) ∈ zB := zmk4 71 rfl rfl
set_option maxRecDepth 100000 in
theorem zm_338 : Cond.instanceMethod yX5_statement ∈ zB := zmk4 70 (by decide +kernel) rfl
set_option maxRecDepth 100000 in
theorem zm_339 : Cond.selects RX5 yX5_statement yX5_statement ∈ zB := zmk0 21 (by decide +kernel) rfl
set_option maxRecDepth 100000 in
theorem zm_340 : Cond.fieldLink RX5 174 "DoorIsHeldModel" "hasImage" "Z" ∈ zB := zmk3 192 (by decide +kernel) rfl
set_option maxRecDepth 100000 in
theorem zm_341 : Cond.methodLink RX5 177 yX5_isWalker ∈ zB := zmk4 130 (by decide +kernel) rfl
set_option maxRecDepth 100000 in
theorem zm_342 : Cond.code yX5_isWalker cX5_isWalker 2 (some FieldType.boolean) ∈ zB := zmk4 133 rfl rfl
set_option maxRecDepth 100000 in
theorem zm_343 : Cond.instanceMethod yX5_isWalker ∈ zB := zmk4 132 (by decide +kernel) rfl
set_option maxRecDepth 100000 in
theorem zm_344 : Cond.selects RX5 yX5_isWalker yX5_isWalker ∈ zB := zmk0 32 (by decide +kernel) rfl
set_option maxRecDepth 100000 in
theorem zm_345 : Cond.methodLink RX5 180 yX5_heldYards ∈ zB := zmk4 134 (by decide +kernel) rfl
set_option maxRecDepth 100000 in
theorem zm_346 : Cond.code yX5_heldYards cX5_heldYards 2 (some FieldType.int) ∈ zB := zmk4 137 rfl rfl
set_option maxRecDepth 100000 in
theorem zm_347 : Cond.instanceMethod yX5_heldYards ∈ zB := zmk4 136 (by decide +kernel) rfl
set_option maxRecDepth 100000 in
theorem zm_348 : Cond.selects RX5 yX5_heldYards yX5_heldYards ∈ zB := zmk0 33 (by decide +kernel) rfl
set_option maxRecDepth 100000 in
theorem zm_349 : Cond.methodLink RX5 189 yX5_areTwo ∈ zB := zmk4 154 (by decide +kernel) rfl
set_option maxRecDepth 100000 in
theorem zm_350 : Cond.code yX5_areTwo cX5_areTwo 3 (some FieldType.boolean) ∈ zB := zmk4 157 rfl rfl
set_option maxRecDepth 100000 in
theorem zm_351 : Cond.instanceMethod yX5_areTwo ∈ zB := zmk4 156 (by decide +kernel) rfl
set_option maxRecDepth 100000 in
theorem zm_352 : Cond.selects RX5 yX5_areTwo yX5_areTwo ∈ zB := zmk0 34 (by decide +kernel) rfl
set_option maxRecDepth 100000 in
theorem zm_353 : Cond.methodLink RX5 192 yX5_farOf ∈ zB := zmk4 158 (by decide +kernel) rfl
set_option maxRecDepth 100000 in
theorem zm_354 : Cond.code yX5_farOf cX5_farOf 7 (some FieldType.int) ∈ zB := zmk4 161 rfl rfl
set_option maxRecDepth 100000 in
theorem zm_355 : Cond.instanceMethod yX5_farOf ∈ zB := zmk4 160 (by decide +kernel) rfl
set_option maxRecDepth 100000 in
theorem zm_356 : Cond.selects RX5 yX5_farOf yX5_farOf ∈ zB := zmk0 35 (by decide +kernel) rfl
set_option maxRecDepth 100000 in
theorem zm_357 : Cond.methodLink RX5 195 yX5_upBy ∈ zB := zmk4 170 (by decide +kernel) rfl
set_option maxRecDepth 100000 in
theorem zm_358 : Cond.code yX5_upBy cX5_upBy 2 (some FieldType.int) ∈ zB := zmk4 172 rfl rfl
set_option maxRecDepth 100000 in
theorem zm_359 : Cond.static yX5_upBy ∈ zB := zmk4 171 (by decide +kernel) rfl
set_option maxRecDepth 100000 in
theorem zm_360 : Cond.methodLink RX5 199 yX5_thereOf ∈ zB := zmk4 166 (by decide +kernel) rfl
set_option maxRecDepth 100000 in
theorem zm_361 : Cond.code yX5_thereOf cX5_thereOf 2 (some FieldType.int) ∈ zB := zmk4 169 rfl rfl
set_option maxRecDepth 100000 in
theorem zm_362 : Cond.instanceMethod yX5_thereOf ∈ zB := zmk4 168 (by decide +kernel) rfl
set_option maxRecDepth 100000 in
theorem zm_363 : Cond.selects RX5 yX5_thereOf yX5_thereOf ∈ zB := zmk0 36 (by decide +kernel) rfl
set_option maxRecDepth 100000 in
theorem zm_364 : Cond.fieldLink RX5 70 "DoorIsHeldModel" "past" "[I" ∈ zB := zmk3 197 (by decide +kernel) rfl
set_option maxRecDepth 100000 in
theorem zm_365 : Cond.fieldLink RX5 79 "DoorIsHeldModel" "holder" "[I" ∈ zB := zmk3 200 (by decide +kernel) rfl
set_option maxRecDepth 100000 in
theorem zm_366 : Cond.fieldLink RX5 67 "DoorIsHeldModel" "coming" "[I" ∈ zB := zmk3 196 (by decide +kernel) rfl
set_option maxRecDepth 100000 in
theorem zm_367 : Cond.fieldLink RX5 73 "DoorIsHeldModel" "opening" "[I" ∈ zB := zmk3 198 (by decide +kernel) rfl
set_option maxRecDepth 100000 in
theorem zm_368 : Cond.fieldLink RX5 82 "DoorIsHeldModel" "running" "[I" ∈ zB := zmk3 201 (by decide +kernel) rfl
set_option maxRecDepth 100000 in
theorem zm_369 : Cond.fieldLink RX5 205 "DoorIsHeldModel" "orderMany" "I" ∈ zB := zmk3 205 (by decide +kernel) rfl
set_option maxRecDepth 100000 in
theorem zm_370 : Cond.fieldLink RX5 202 "DoorIsHeldModel" "gone" "I" ∈ zB := zmk3 204 (by decide +kernel) rfl
set_option maxRecDepth 100000 in
theorem zm_371 : Cond.fieldLink RX5 76 "DoorIsHeldModel" "standing" "[I" ∈ zB := zmk3 199 (by decide +kernel) rfl
set_option maxRecDepth 100000 in
theorem zm_372 : Cond.fieldLink RX5 88 "DoorIsHeldModel" "chainTo" "[I" ∈ zB := zmk3 203 (by decide +kernel) rfl
set_option maxRecDepth 100000 in
theorem zm_373 : Cond.fieldLink RX5 208 "DoorIsHeldModel" "chains" "I" ∈ zB := zmk3 206 (by decide +kernel) rfl
set_option maxRecDepth 100000 in
theorem zm_374 : Cond.methodLink RX5 221 yX5_isHeldFor ∈ zB := zmk4 197 (by decide +kernel) rfl
set_option maxRecDepth 100000 in
theorem zm_375 : Cond.code yX5_isHeldFor cX5_isHeldFor 4 none ∈ zB := zmk4 200 rfl rfl
set_option maxRecDepth 100000 in
theorem zm_376 : Cond.instanceMethod yX5_isHeldFor ∈ zB := zmk4 199 (by decide +kernel) rfl
set_option maxRecDepth 100000 in
theorem zm_377 : Cond.selects RX5 yX5_isHeldFor yX5_isHeldFor ∈ zB := zmk0 42 (by decide +kernel) rfl
set_option maxRecDepth 100000 in
theorem zm_378 : Cond.fieldLink RX5 64 "DoorIsHeldModel" "order" "[I" ∈ zB := zmk3 195 (by decide +kernel) rfl
set_option maxRecDepth 100000 in
theorem zm_379 : Cond.methodLink RX5 211 yX5_firstOf ∈ zB := zmk4 185 (by decide +kernel) rfl
set_option maxRecDepth 100000 in
theorem zm_380 : Cond.code yX5_firstOf cX5_firstOf 4 (some FieldType.int) ∈ zB := zmk4 188 rfl rfl
set_option maxRecDepth 100000 in
theorem zm_381 : Cond.instanceMethod yX5_firstOf ∈ zB := zmk4 187 (by decide +kernel) rfl
set_option maxRecDepth 100000 in
theorem zm_382 : Cond.selects RX5 yX5_firstOf yX5_firstOf ∈ zB := zmk0 39 (by decide +kernel) rfl
set_option maxRecDepth 100000 in
theorem zm_383 : Cond.methodLink RX5 218 yX5_holdsFor ∈ zB := zmk4 193 (by decide +kernel) rfl
set_option maxRecDepth 100000 in
theorem zm_384 : Cond.code yX5_holdsFor cX5_holdsFor 5 (some FieldType.int) ∈ zB := zmk4 196 rfl rfl
set_option maxRecDepth 100000 in
theorem zm_385 : Cond.instanceMethod yX5_holdsFor ∈ zB := zmk4 195 (by decide +kernel) rfl
set_option maxRecDepth 100000 in
theorem zm_386 : Cond.selects RX5 yX5_holdsFor yX5_holdsFor ∈ zB := zmk0 41 (by decide +kernel) rfl
set_option maxRecDepth 100000 in
theorem zm_387 : Cond.methodLink RX5 214 yX5_opensFor ∈ zB := zmk4 189 (by decide +kernel) rfl
set_option maxRecDepth 100000 in
theorem zm_388 : Cond.code yX5_opensFor cX5_opensFor 5 none ∈ zB := zmk4 192 rfl rfl
set_option maxRecDepth 100000 in
theorem zm_389 : Cond.instanceMethod yX5_opensFor ∈ zB := zmk4 191 (by decide +kernel) rfl
set_option maxRecDepth 100000 in
theorem zm_390 : Cond.selects RX5 yX5_opensFor yX5_opensFor ∈ zB := zmk0 40 (by decide +kernel) rfl
set_option maxRecDepth 100000 in
theorem zm_391 : Cond.fieldLink RX5 85 "DoorIsHeldModel" "chainFrom" "[I" ∈ zB := zmk3 202 (by decide +kernel) rfl
set_option maxRecDepth 100000 in
theorem zm_392 : Cond.methodLink RX5 225 yX5_goes ∈ zB := zmk4 181 (by decide +kernel) rfl
set_option maxRecDepth 100000 in
theorem zm_393 : Cond.code yX5_goes cX5_goes 6 none ∈ zB := zmk4 184 rfl rfl
set_option maxRecDepth 100000 in
theorem zm_394 : Cond.instanceMethod yX5_goes ∈ zB := zmk4 183 (by decide +kernel) rfl
set_option maxRecDepth 100000 in
theorem zm_395 : Cond.selects RX5 yX5_goes yX5_goes ∈ zB := zmk0 38 (by decide +kernel) rfl
set_option maxRecDepth 100000 in
theorem zm_396 : Cond.methodLink RX5 228 yX5_lossOf ∈ zB := zmk4 233 (by decide +kernel) rfl
set_option maxRecDepth 100000 in
theorem zm_397 : Cond.code yX5_lossOf cX5_lossOf 2 (some FieldType.int) ∈ zB := zmk4 236 rfl rfl
set_option maxRecDepth 100000 in
theorem zm_398 : Cond.instanceMethod yX5_lossOf ∈ zB := zmk4 235 (by decide +kernel) rfl
set_option maxRecDepth 100000 in
theorem zm_399 : Cond.selects RX5 yX5_lossOf yX5_lossOf ∈ zB := zmk0 44 (by decide +kernel) rfl
set_option maxRecDepth 100000 in
theorem zm_400 : Cond.methodLink RX5 231 yX5_goesAll ∈ zB := zmk4 177 (by decide +kernel) rfl
set_option maxRecDepth 100000 in
theorem zm_401 : Cond.code yX5_goesAll cX5_goesAll 1 none ∈ zB := zmk4 180 rfl rfl
set_option maxRecDepth 100000 in
theorem zm_402 : Cond.instanceMethod yX5_goesAll ∈ zB := zmk4 179 (by decide +kernel) rfl
set_option maxRecDepth 100000 in
theorem zm_403 : Cond.selects RX5 yX5_goesAll yX5_goesAll ∈ zB := zmk0 37 (by decide +kernel) rfl
set_option maxRecDepth 100000 in
theorem zm_404 : Cond.methodLink RX5 234 yX5_lossOfAll ∈ zB := zmk4 229 (by decide +kernel) rfl
set_option maxRecDepth 100000 in
theorem zm_405 : Cond.code yX5_lossOfAll cX5_lossOfAll 3 (some FieldType.int) ∈ zB := zmk4 232 rfl rfl
set_option maxRecDepth 100000 in
theorem zm_406 : Cond.instanceMethod yX5_lossOfAll ∈ zB := zmk4 231 (by decide +kernel) rfl
set_option maxRecDepth 100000 in
theorem zm_407 : Cond.selects RX5 yX5_lossOfAll yX5_lossOfAll ∈ zB := zmk0 43 (by decide +kernel) rfl
set_option maxRecDepth 100000 in
theorem zm_408 : Cond.methodLink RX5 237 yX5_heldMany ∈ zB := zmk5 1 (by decide +kernel) rfl
set_option maxRecDepth 100000 in
theorem zm_409 : Cond.code yX5_heldMany cX5_heldMany 3 (some FieldType.int) ∈ zB := zmk5 4 rfl rfl
set_option maxRecDepth 100000 in
theorem zm_410 : Cond.instanceMethod yX5_heldMany ∈ zB := zmk5 3 (by decide +kernel) rfl
set_option maxRecDepth 100000 in
theorem zm_411 : Cond.selects RX5 yX5_heldMany yX5_heldMany ∈ zB := zmk0 45 (by decide +kernel) rfl
set_option maxRecDepth 100000 in
theorem zm_412 : Cond.methodLink RX5 240 yX5_openSeconds ∈ zB := zmk5 17 (by decide +kernel) rfl
set_option maxRecDepth 100000 in
theorem zm_413 : Cond.code yX5_openSeconds cX5_openSeconds 5 (some FieldType.int) ∈ zB := zmk5 20 rfl rfl
set_option maxRecDepth 100000 in
theorem zm_414 : Cond.instanceMethod yX5_openSeconds ∈ zB := zmk5 19 (by decide +kernel) rfl
set_option maxRecDepth 100000 in
theorem zm_415 : Cond.selects RX5 yX5_openSeconds yX5_openSeconds ∈ zB := zmk0 46 (by decide +kernel) rfl
set_option maxRecDepth 100000 in
theorem zm_416 : Cond.methodLink RX5 243 yX5_lossBy ∈ zB := zmk5 29 (by decide +kernel) rfl
set_option maxRecDepth 100000 in
theorem zm_417 : Cond.code yX5_lossBy cX5_lossBy 5 (some FieldType.int) ∈ zB := zmk5 32 rfl rfl
set_option maxRecDepth 100000 in
theorem zm_418 : Cond.instanceMethod yX5_lossBy ∈ zB := zmk5 31 (by decide +kernel) rfl
set_option maxRecDepth 100000 in
theorem zm_419 : Cond.selects RX5 yX5_lossBy yX5_lossBy ∈ zB := zmk0 47 (by decide +kernel) rfl
set_option maxRecDepth 100000 in
theorem zm_420 : Cond.fieldLink RX5 91 "DoorIsHeldModel" "never" "[I" ∈ zB := zmk3 207 (by decide +kernel) rfl
set_option maxRecDepth 100000 in
theorem zm_421 : Cond.methodLink RX5 250 yX5_addsFilm ∈ zB := zmk5 68 (by decide +kernel) rfl
set_option maxRecDepth 100000 in
theorem zm_422 : Cond.code yX5_addsFilm cX5_addsFilm 5 none ∈ zB := zmk5 71 rfl rfl
set_option maxRecDepth 100000 in
theorem zm_423 : Cond.instanceMethod yX5_addsFilm ∈ zB := zmk5 70 (by decide +kernel) rfl
set_option maxRecDepth 100000 in
theorem zm_424 : Cond.selects RX5 yX5_addsFilm yX5_addsFilm ∈ zB := zmk0 48 (by decide +kernel) rfl
set_option maxRecDepth 100000 in
theorem zm_425 : Cond.methodLink RX5 246 yX5_notFilm ∈ zB := zmk5 65 (by decide +kernel) rfl
set_option maxRecDepth 100000 in
theorem zm_426 : Cond.code yX5_notFilm cX5_notFilm 4 (some FieldType.int) ∈ zB := zmk5 67 rfl rfl
set_option maxRecDepth 100000 in
theorem zm_427 : Cond.static yX5_notFilm ∈ zB := zmk5 66 (by decide +kernel) rfl
set_option maxRecDepth 100000 in
theorem zm_428 : Cond.methodLink RX5 254 yX5_filmFar ∈ zB := zmk5 76 (by decide +kernel) rfl
set_option maxRecDepth 100000 in
theorem zm_429 : Cond.code yX5_filmFar cX5_filmFar 4 (some FieldType.int) ∈ zB := zmk5 78 rfl rfl
set_option maxRecDepth 100000 in
theorem zm_430 : Cond.static yX5_filmFar ∈ zB := zmk5 77 (by decide +kernel) rfl
set_option maxRecDepth 100000 in
theorem zm_431 : Cond.methodLink RX5 257 yX5_doFit ∈ zB := zmk5 83 (by decide +kernel) rfl
set_option maxRecDepth 100000 in
theorem zm_432 : Cond.code yX5_doFit cX5_doFit 5 (some FieldType.boolean) ∈ zB := zmk5 86 rfl rfl
set_option maxRecDepth 100000 in
theorem zm_433 : Cond.instanceMethod yX5_doFit ∈ zB := zmk5 85 (by decide +kernel) rfl
set_option maxRecDepth 100000 in
theorem zm_434 : Cond.selects RX5 yX5_doFit yX5_doFit ∈ zB := zmk0 49 (by decide +kernel) rfl
set_option maxRecDepth 100000 in
theorem zm_435 : Cond.constant RX5 260 (1664525) ∈ zB := zmk5 91 (by decide +kernel) rfl
set_option maxRecDepth 100000 in
theorem zm_436 : Cond.constant RX5 261 (1013904223) ∈ zB := zmk5 92 (by decide +kernel) rfl
set_option maxRecDepth 100000 in
theorem zm_437 : Cond.constant RX5 262 (2147483647) ∈ zB := zmk5 93 (by decide +kernel) rfl
set_option maxRecDepth 100000 in
theorem zm_438 : Cond.fieldLink RX5 94 "DoorIsHeldModel" "row" "[I" ∈ zB := zmk3 208 (by decide +kernel) rfl
set_option maxRecDepth 100000 in
theorem zm_439 : Cond.fieldLink RX5 263 "DoorIsHeldModel" "rowMany" "I" ∈ zB := zmk3 209 (by decide +kernel) rfl
