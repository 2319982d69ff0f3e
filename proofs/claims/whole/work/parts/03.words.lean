/-- the words of the tables that a call may hand on -/
def lw_u : List Cond := lw_tbl.filter goodWord
theorem lw_m0 {w : Cond} (h : w ∈ k2_sels lw_privs) (g : goodWord w = true) : w ∈ lw_u := List.mem_filter.mpr ⟨List.mem_append_left _ h, g⟩
theorem lw_m1 {w : Cond} (h : w ∈ tables_1_1) (g : goodWord w = true) : w ∈ lw_u := List.mem_filter.mpr ⟨List.mem_append_right _ (List.mem_append_left _ h), g⟩
theorem lw_m2 {w : Cond} (h : w ∈ tables_1_2) (g : goodWord w = true) : w ∈ lw_u := List.mem_filter.mpr ⟨List.mem_append_right _ (List.mem_append_right _ (List.mem_append_left _ h)), g⟩
theorem lw_m3 {w : Cond} (h : w ∈ tables_1_3) (g : goodWord w = true) : w ∈ lw_u := List.mem_filter.mpr ⟨List.mem_append_right _ (List.mem_append_right _ (List.mem_append_right _ (List.mem_append_left _ h))), g⟩
theorem lw_m4 {w : Cond} (h : w ∈ tables_1_4) (g : goodWord w = true) : w ∈ lw_u := List.mem_filter.mpr ⟨List.mem_append_right _ (List.mem_append_right _ (List.mem_append_right _ (List.mem_append_right _ (List.mem_append_left _ h)))), g⟩
theorem lw_m5 {w : Cond} (h : w ∈ tables_1_5) (g : goodWord w = true) : w ∈ lw_u := List.mem_filter.mpr ⟨List.mem_append_right _ (List.mem_append_right _ (List.mem_append_right _ (List.mem_append_right _ (List.mem_append_right _ h)))), g⟩
theorem lw_t {w : Cond} (h : w ∈ tables_1) (g : goodWord w = true) : w ∈ lw_u := List.mem_filter.mpr ⟨List.mem_append_right _ h, g⟩
theorem lw_good : GoodIn lw_u lw_u := fun _ h => ⟨h, good_of_word (List.mem_filter.mp h).2⟩
theorem lw_G {w : Cond} (h : w ∈ lw_u) : GoodIn lw_u (w :: lw_u) := fun x hx => (List.mem_cons.mp hx).elim (fun e => e ▸ lw_good w h) (lw_good x)
theorem lw_in_X0 : ∀ w ∈ u_ws RX0 TX0 3, w ∈ lw_u := by
  have h : ∀ w ∈ u_ws RX0 TX0 3, w ∈ tables_1 ∧ goodWord w = true := by decide +kernel
  exact fun w hw => lw_t (h w hw).1 (h w hw).2
theorem lw_in_X1 : ∀ w ∈ u_ws RX1 TX1 9, w ∈ lw_u := by
  have h : ∀ w ∈ u_ws RX1 TX1 9, w ∈ tables_1 ∧ goodWord w = true := by decide +kernel
  exact fun w hw => lw_t (h w hw).1 (h w hw).2
theorem lw_in_X2 : ∀ w ∈ u_ws RX2 TX2 4, w ∈ lw_u := by
  have h : ∀ w ∈ u_ws RX2 TX2 4, w ∈ tables_1 ∧ goodWord w = true := by decide +kernel
  exact fun w hw => lw_t (h w hw).1 (h w hw).2
theorem lw_in_X3 : ∀ w ∈ u_ws RX3 TX3 5, w ∈ lw_u := by
  have h : ∀ w ∈ u_ws RX3 TX3 5, w ∈ tables_1 ∧ goodWord w = true := by decide +kernel
  exact fun w hw => lw_t (h w hw).1 (h w hw).2
theorem lw_in_X4 : ∀ w ∈ u_ws RX4 TX4 11, w ∈ lw_u := by
  have h : ∀ w ∈ u_ws RX4 TX4 11, w ∈ tables_1 ∧ goodWord w = true := by decide +kernel
  exact fun w hw => lw_t (h w hw).1 (h w hw).2
theorem lw_in_X5 : ∀ w ∈ u_ws RX5 TX5 27, w ∈ lw_u := by
  have h : ∀ w ∈ u_ws RX5 TX5 27, w ∈ tables_1 ∧ goodWord w = true := by decide +kernel
  exact fun w hw => lw_t (h w hw).1 (h w hw).2
theorem uw_0 : Cond.initialized RL ∈ lw_u := lw_m1 (List.mem_of_getElem? (i := 0) (by decide +kernel)) rfl
theorem uw_1 : Cond.initialized RX4 ∈ lw_u := lw_m1 (List.mem_of_getElem? (i := 1) (by decide +kernel)) rfl
theorem uw_2 : Cond.initialized RX3 ∈ lw_u := lw_m1 (List.mem_of_getElem? (i := 2) (by decide +kernel)) rfl
theorem uw_3 : Cond.initialized RX1 ∈ lw_u := lw_m1 (List.mem_of_getElem? (i := 3) (by decide +kernel)) rfl
theorem uw_4 : Cond.initialized RX0 ∈ lw_u := lw_m1 (List.mem_of_getElem? (i := 4) (by decide +kernel)) rfl
theorem uw_5 : Cond.initialized RX2 ∈ lw_u := lw_m1 (List.mem_of_getElem? (i := 5) (by decide +kernel)) rfl
theorem uw_6 : Cond.initialized RX5 ∈ lw_u := lw_m1 (List.mem_of_getElem? (i := 6) (by decide +kernel)) rfl
theorem uw_7 : Cond.initialized RJ10 ∈ lw_u := lw_m1 (List.mem_of_getElem? (i := 7) (by decide +kernel)) rfl
theorem uw_8 : Cond.initialized RJ9 ∈ lw_u := lw_m1 (List.mem_of_getElem? (i := 8) (by decide +kernel)) rfl
theorem uw_9 : Cond.initialized RJ6 ∈ lw_u := lw_m1 (List.mem_of_getElem? (i := 9) (by decide +kernel)) rfl
theorem uw_10 : Cond.classLink RL 7 RX4 ∈ lw_u := lw_m1 (List.mem_of_getElem? (i := 10) (by decide +kernel)) rfl
theorem uw_11 : Cond.instantiable RX4 11 ∈ lw_u := lw_m1 (List.mem_of_getElem? (i := 11) (by decide +kernel)) rfl
theorem uw_12 : Cond.methodLink RL 9 yX4_init ∈ lw_u := lw_m1 (List.mem_of_getElem? (i := 12) (by decide +kernel)) rfl
theorem uw_13 : Cond.instanceMethod yX4_init ∈ lw_u := lw_m1 (List.mem_of_getElem? (i := 13) (by decide +kernel)) rfl
theorem uw_14 : Cond.code yX4_init cX4_init 2 none ∈ lw_u := lw_m1 (List.mem_of_getElem? (i := 14) rfl) rfl
theorem uw_15 : Cond.methodLink RX4 1 objectInit ∈ lw_u := lw_m1 (List.mem_of_getElem? (i := 15) (by decide +kernel)) rfl
theorem uw_16 : Cond.instanceMethod objectInit ∈ lw_u := lw_m1 (List.mem_of_getElem? (i := 16) (by decide +kernel)) rfl
theorem uw_17 : Cond.code objectInit ⟨#[0xb1]⟩ 1 none ∈ lw_u := lw_m1 (List.mem_of_getElem? (i := 17) rfl) rfl
theorem uw_18 : Cond.classLink RX4 9 RX2 ∈ lw_u := lw_m1 (List.mem_of_getElem? (i := 18) (by decide +kernel)) rfl
theorem uw_19 : Cond.classLink RX4 15 RX3 ∈ lw_u := lw_m1 (List.mem_of_getElem? (i := 20) (by decide +kernel)) rfl
theorem uw_20 : Cond.instantiable RX3 5 ∈ lw_u := lw_m1 (List.mem_of_getElem? (i := 21) (by decide +kernel)) rfl
theorem uw_21 : Cond.instanceMethod yX3_init ∈ lw_u := lw_m1 (List.mem_of_getElem? (i := 23) (by decide +kernel)) rfl
theorem uw_22 : Cond.code yX3_init cX3_init 1 none ∈ lw_u := lw_m1 (List.mem_of_getElem? (i := 24) rfl) rfl
theorem uw_23 : Cond.methodLink RX3 3 objectInit ∈ lw_u := lw_m1 (List.mem_of_getElem? (i := 25) (by decide +kernel)) rfl
theorem uw_24 : Cond.fieldLink RX3 9 "LampLogs$Tape" "bytes" "[I" ∈ lw_u := lw_m1 (List.mem_of_getElem? (i := 26) (by decide +kernel)) rfl
theorem uw_25 : Cond.fieldLink RX3 15 "LampLogs$Tape" "length" "I" ∈ lw_u := lw_m1 (List.mem_of_getElem? (i := 27) (by decide +kernel)) rfl
theorem uw_26 : Cond.fieldLink RX4 97 "LampLogs$Tape" "length" "I" ∈ lw_u := lw_m1 (List.mem_of_getElem? (i := 28) (by decide +kernel)) rfl
theorem uw_27 : Cond.fieldLink RX3 19 "LampLogs$Tape" "at" "I" ∈ lw_u := lw_m1 (List.mem_of_getElem? (i := 29) (by decide +kernel)) rfl
theorem uw_28 : Cond.fieldLink RX3 40 "LampLogs$Tape" "faultNumber" "I" ∈ lw_u := lw_m1 (List.mem_of_getElem? (i := 30) (by decide +kernel)) rfl
theorem uw_29 : Cond.fieldLink RX4 106 "LampLogs$Tape" "faultNumber" "I" ∈ lw_u := lw_m1 (List.mem_of_getElem? (i := 31) (by decide +kernel)) rfl
theorem uw_30 : Cond.fieldLink RX3 37 "LampLogs$Tape" "faultPlace" "I" ∈ lw_u := lw_m1 (List.mem_of_getElem? (i := 32) (by decide +kernel)) rfl
theorem uw_31 : Cond.fieldLink RX4 113 "LampLogs$Tape" "faultPlace" "I" ∈ lw_u := lw_m1 (List.mem_of_getElem? (i := 33) (by decide +kernel)) rfl
theorem uw_32 : Cond.arrayClass .int ∈ lw_u := lw_m1 (List.mem_of_getElem? (i := 45) (by decide +kernel)) rfl
theorem uw_33 : Cond.classLink RX4 22 RX1 ∈ lw_u := lw_m1 (List.mem_of_getElem? (i := 46) (by decide +kernel)) rfl
theorem uw_34 : Cond.instantiable RX1 9 ∈ lw_u := lw_m1 (List.mem_of_getElem? (i := 47) (by decide +kernel)) rfl
theorem uw_35 : Cond.instanceMethod yX1_init ∈ lw_u := lw_m1 (List.mem_of_getElem? (i := 49) (by decide +kernel)) rfl
theorem uw_36 : Cond.code yX1_init cX1_init 1 none ∈ lw_u := lw_m1 (List.mem_of_getElem? (i := 50) rfl) rfl
theorem uw_37 : Cond.methodLink RX1 3 objectInit ∈ lw_u := lw_m1 (List.mem_of_getElem? (i := 51) (by decide +kernel)) rfl
theorem uw_38 : Cond.fieldLink RX1 9 "LampLogs$Light" "thicks" "[I" ∈ lw_u := lw_m1 (List.mem_of_getElem? (i := 52) (by decide +kernel)) rfl
theorem uw_39 : Cond.fieldLink RX3 72 "LampLogs$Light" "thicks" "[I" ∈ lw_u := lw_m1 (List.mem_of_getElem? (i := 53) (by decide +kernel)) rfl
theorem uw_40 : Cond.fieldLink RX4 164 "LampLogs$Light" "thicks" "[I" ∈ lw_u := lw_m1 (List.mem_of_getElem? (i := 54) (by decide +kernel)) rfl
theorem uw_41 : Cond.fieldLink RX1 15 "LampLogs$Light" "kinds" "[I" ∈ lw_u := lw_m1 (List.mem_of_getElem? (i := 55) (by decide +kernel)) rfl
theorem uw_42 : Cond.fieldLink RX3 82 "LampLogs$Light" "kinds" "[I" ∈ lw_u := lw_m1 (List.mem_of_getElem? (i := 56) (by decide +kernel)) rfl
theorem uw_43 : Cond.fieldLink RX4 275 "LampLogs$Light" "kinds" "[I" ∈ lw_u := lw_m1 (List.mem_of_getElem? (i := 57) (by decide +kernel)) rfl
theorem uw_44 : Cond.fieldLink RX1 18 "LampLogs$Light" "places" "[I" ∈ lw_u := lw_m1 (List.mem_of_getElem? (i := 58) (by decide +kernel)) rfl
theorem uw_45 : Cond.fieldLink RX3 85 "LampLogs$Light" "places" "[I" ∈ lw_u := lw_m1 (List.mem_of_getElem? (i := 59) (by decide +kernel)) rfl
theorem uw_46 : Cond.fieldLink RX4 173 "LampLogs$Light" "places" "[I" ∈ lw_u := lw_m1 (List.mem_of_getElem? (i := 60) (by decide +kernel)) rfl
theorem uw_47 : Cond.fieldLink RX1 25 "LampLogs$Light" "cellCount" "I" ∈ lw_u := lw_m1 (List.mem_of_getElem? (i := 61) (by decide +kernel)) rfl
theorem uw_48 : Cond.fieldLink RX3 63 "LampLogs$Light" "cellCount" "I" ∈ lw_u := lw_m1 (List.mem_of_getElem? (i := 62) (by decide +kernel)) rfl
theorem uw_49 : Cond.fieldLink RX4 170 "LampLogs$Light" "cellCount" "I" ∈ lw_u := lw_m1 (List.mem_of_getElem? (i := 63) (by decide +kernel)) rfl
theorem uw_50 : Cond.fieldLink RX1 28 "LampLogs$Light" "eyesight" "I" ∈ lw_u := lw_m1 (List.mem_of_getElem? (i := 64) (by decide +kernel)) rfl
theorem uw_51 : Cond.fieldLink RX3 66 "LampLogs$Light" "eyesight" "I" ∈ lw_u := lw_m1 (List.mem_of_getElem? (i := 65) (by decide +kernel)) rfl
theorem uw_52 : Cond.fieldLink RX4 167 "LampLogs$Light" "eyesight" "I" ∈ lw_u := lw_m1 (List.mem_of_getElem? (i := 66) (by decide +kernel)) rfl
theorem uw_53 : Cond.fieldLink RX1 31 "LampLogs$Light" "oil" "I" ∈ lw_u := lw_m1 (List.mem_of_getElem? (i := 67) (by decide +kernel)) rfl
theorem uw_54 : Cond.fieldLink RX3 69 "LampLogs$Light" "oil" "I" ∈ lw_u := lw_m1 (List.mem_of_getElem? (i := 68) (by decide +kernel)) rfl
theorem uw_55 : Cond.fieldLink RX4 158 "LampLogs$Light" "oil" "I" ∈ lw_u := lw_m1 (List.mem_of_getElem? (i := 69) (by decide +kernel)) rfl
theorem uw_56 : Cond.fieldLink RX1 34 "LampLogs$Light" "watch" "I" ∈ lw_u := lw_m1 (List.mem_of_getElem? (i := 70) (by decide +kernel)) rfl
theorem uw_57 : Cond.fieldLink RX4 142 "LampLogs$Light" "watch" "I" ∈ lw_u := lw_m1 (List.mem_of_getElem? (i := 71) (by decide +kernel)) rfl
theorem uw_58 : Cond.fieldLink RX1 21 "LampLogs$Light" "fogCount" "I" ∈ lw_u := lw_m1 (List.mem_of_getElem? (i := 72) (by decide +kernel)) rfl
theorem uw_59 : Cond.fieldLink RX3 75 "LampLogs$Light" "fogCount" "I" ∈ lw_u := lw_m1 (List.mem_of_getElem? (i := 73) (by decide +kernel)) rfl
theorem uw_60 : Cond.fieldLink RX4 161 "LampLogs$Light" "fogCount" "I" ∈ lw_u := lw_m1 (List.mem_of_getElem? (i := 74) (by decide +kernel)) rfl
theorem uw_61 : Cond.fieldLink RX1 37 "LampLogs$Light" "shipCount" "I" ∈ lw_u := lw_m1 (List.mem_of_getElem? (i := 75) (by decide +kernel)) rfl
theorem uw_62 : Cond.fieldLink RX4 123 "LampLogs$Light" "shipCount" "I" ∈ lw_u := lw_m1 (List.mem_of_getElem? (i := 76) (by decide +kernel)) rfl
theorem uw_63 : Cond.fieldLink RX3 88 "LampLogs$Light" "shipCount" "I" ∈ lw_u := lw_m1 (List.mem_of_getElem? (i := 77) (by decide +kernel)) rfl
theorem uw_64 : Cond.classLink RX4 35 RX0 ∈ lw_u := lw_m1 (List.mem_of_getElem? (i := 97) (by decide +kernel)) rfl
theorem uw_65 : Cond.instantiable RX0 3 ∈ lw_u := lw_m1 (List.mem_of_getElem? (i := 98) (by decide +kernel)) rfl
theorem uw_66 : Cond.methodLink RX4 37 yX0_init ∈ lw_u := lw_m1 (List.mem_of_getElem? (i := 99) (by decide +kernel)) rfl
theorem uw_67 : Cond.instanceMethod yX0_init ∈ lw_u := lw_m1 (List.mem_of_getElem? (i := 100) (by decide +kernel)) rfl
theorem uw_68 : Cond.code yX0_init cX0_init 2 none ∈ lw_u := lw_m1 (List.mem_of_getElem? (i := 101) rfl) rfl
theorem uw_69 : Cond.methodLink RX0 3 objectInit ∈ lw_u := lw_m1 (List.mem_of_getElem? (i := 102) (by decide +kernel)) rfl
theorem uw_70 : Cond.classLink RX0 9 RX1 ∈ lw_u := lw_m1 (List.mem_of_getElem? (i := 103) (by decide +kernel)) rfl
theorem uw_71 : Cond.fieldLink RX0 11 "LampLogs$Acts" "ring" "[LLampLogs$Light;" ∈ lw_u := lw_m1 (List.mem_of_getElem? (i := 106) (by decide +kernel)) rfl
theorem uw_72 : Cond.fieldLink RX0 22 "LampLogs$Acts" "next" "I" ∈ lw_u := lw_m1 (List.mem_of_getElem? (i := 107) (by decide +kernel)) rfl
theorem uw_73 : Cond.fieldLink RX0 18 "LampLogs$Acts" "kept" "I" ∈ lw_u := lw_m1 (List.mem_of_getElem? (i := 108) (by decide +kernel)) rfl
theorem uw_74 : Cond.fieldLink RX4 126 "LampLogs$Acts" "kept" "I" ∈ lw_u := lw_m1 (List.mem_of_getElem? (i := 109) (by decide +kernel)) rfl
theorem uw_75 : Cond.instantiable RX2 4 ∈ lw_u := lw_m1 (List.mem_of_getElem? (i := 117) (by decide +kernel)) rfl
theorem uw_76 : Cond.instanceMethod yX2_init ∈ lw_u := lw_m1 (List.mem_of_getElem? (i := 119) (by decide +kernel)) rfl
theorem uw_77 : Cond.code yX2_init cX2_init 1 none ∈ lw_u := lw_m1 (List.mem_of_getElem? (i := 120) rfl) rfl
theorem uw_78 : Cond.methodLink RX2 3 objectInit ∈ lw_u := lw_m1 (List.mem_of_getElem? (i := 121) (by decide +kernel)) rfl
theorem uw_79 : Cond.fieldLink RX2 9 "LampLogs$Row" "items" "[I" ∈ lw_u := lw_m1 (List.mem_of_getElem? (i := 122) (by decide +kernel)) rfl
theorem uw_80 : Cond.fieldLink RX4 85 "LampLogs$Row" "items" "[I" ∈ lw_u := lw_m1 (List.mem_of_getElem? (i := 123) (by decide +kernel)) rfl
theorem uw_81 : Cond.fieldLink RX2 15 "LampLogs$Row" "missing" "Z" ∈ lw_u := lw_m1 (List.mem_of_getElem? (i := 124) (by decide +kernel)) rfl
theorem uw_82 : Cond.fieldLink RX4 74 "LampLogs$Row" "missing" "Z" ∈ lw_u := lw_m1 (List.mem_of_getElem? (i := 125) (by decide +kernel)) rfl
theorem uw_83 : Cond.fieldLink RX2 19 "LampLogs$Row" "lane" "I" ∈ lw_u := lw_m1 (List.mem_of_getElem? (i := 126) (by decide +kernel)) rfl
theorem uw_84 : Cond.fieldLink RX4 78 "LampLogs$Row" "lane" "I" ∈ lw_u := lw_m1 (List.mem_of_getElem? (i := 127) (by decide +kernel)) rfl
theorem uw_85 : Cond.fieldLink RX2 23 "LampLogs$Row" "length" "I" ∈ lw_u := lw_m1 (List.mem_of_getElem? (i := 128) (by decide +kernel)) rfl
theorem uw_86 : Cond.fieldLink RX4 94 "LampLogs$Row" "length" "I" ∈ lw_u := lw_m1 (List.mem_of_getElem? (i := 129) (by decide +kernel)) rfl
theorem uw_87 : Cond.fieldLink RX4 11 "LampLogs" "rows" "[LLampLogs$Row;" ∈ lw_u := lw_m1 (List.mem_of_getElem? (i := 139) (by decide +kernel)) rfl
theorem uw_88 : Cond.fieldLink RX4 18 "LampLogs" "tape" "LLampLogs$Tape;" ∈ lw_u := lw_m1 (List.mem_of_getElem? (i := 140) (by decide +kernel)) rfl
theorem uw_89 : Cond.fieldLink RX4 25 "LampLogs" "now" "LLampLogs$Light;" ∈ lw_u := lw_m1 (List.mem_of_getElem? (i := 141) (by decide +kernel)) rfl
theorem uw_90 : Cond.fieldLink RX4 29 "LampLogs" "probe" "LLampLogs$Light;" ∈ lw_u := lw_m1 (List.mem_of_getElem? (i := 142) (by decide +kernel)) rfl
theorem uw_91 : Cond.fieldLink RX4 32 "LampLogs" "later" "LLampLogs$Light;" ∈ lw_u := lw_m1 (List.mem_of_getElem? (i := 143) (by decide +kernel)) rfl
theorem uw_92 : Cond.fieldLink RX4 38 "LampLogs" "acts" "LLampLogs$Acts;" ∈ lw_u := lw_m1 (List.mem_of_getElem? (i := 144) (by decide +kernel)) rfl
theorem uw_93 : Cond.fieldLink RX4 42 "LampLogs" "images" "[LLampLogs$Light;" ∈ lw_u := lw_m1 (List.mem_of_getElem? (i := 145) (by decide +kernel)) rfl
theorem uw_94 : Cond.fieldLink RX4 46 "LampLogs" "steps" "[I" ∈ lw_u := lw_m1 (List.mem_of_getElem? (i := 146) (by decide +kernel)) rfl
theorem uw_95 : Cond.fieldLink RX4 281 "LampLogs" "stepCount" "I" ∈ lw_u := lw_m1 (List.mem_of_getElem? (i := 147) (by decide +kernel)) rfl
theorem uw_96 : Cond.fieldLink RX4 109 "LampLogs" "latestFault" "I" ∈ lw_u := lw_m1 (List.mem_of_getElem? (i := 148) (by decide +kernel)) rfl
theorem uw_97 : Cond.fieldLink RX4 294 "LampLogs" "latestFinding" "I" ∈ lw_u := lw_m1 (List.mem_of_getElem? (i := 149) (by decide +kernel)) rfl
theorem uw_98 : Cond.methodLink RL 13 yX4_row ∈ lw_u := lw_m1 (List.mem_of_getElem? (i := 173) (by decide +kernel)) rfl
theorem uw_99 : Cond.instanceMethod yX4_row ∈ lw_u := lw_m1 (List.mem_of_getElem? (i := 174) (by decide +kernel)) rfl
theorem uw_100 : Cond.selects RX4 yX4_row yX4_row ∈ lw_u := lw_m1 (List.mem_of_getElem? (i := 175) (by decide +kernel)) rfl
theorem uw_101 : Cond.code yX4_row cX4_row 4 (some .int) ∈ lw_u := lw_m1 (List.mem_of_getElem? (i := 176) rfl) rfl
theorem uw_102 : Cond.methodLink RX4 51 yX4_isBelow ∈ lw_u := lw_m1 (List.mem_of_getElem? (i := 177) (by decide +kernel)) rfl
theorem uw_103 : Cond.static yX4_isBelow ∈ lw_u := lw_m1 (List.mem_of_getElem? (i := 178) (by decide +kernel)) rfl
theorem uw_104 : Cond.code yX4_isBelow cX4_isBelow 2 (some .boolean) ∈ lw_u := lw_m1 (List.mem_of_getElem? (i := 179) rfl) rfl
theorem uw_105 : Cond.constant RX4 55 (-1000001) ∈ lw_u := lw_m1 (List.mem_of_getElem? (i := 180) (by decide +kernel)) rfl
theorem uw_106 : Cond.methodLink RX4 56 yX4_found ∈ lw_u := lw_m1 (List.mem_of_getElem? (i := 181) (by decide +kernel)) rfl
theorem uw_107 : Cond.instanceMethod yX4_found ∈ lw_u := lw_m1 (List.mem_of_getElem? (i := 183) (by decide +kernel)) rfl
theorem uw_108 : Cond.code yX4_found cX4_found 2 (some .int) ∈ lw_u := lw_m1 (List.mem_of_getElem? (i := 184) rfl) rfl
theorem uw_109 : Cond.constant RX4 297 (-1000010) ∈ lw_u := lw_m1 (List.mem_of_getElem? (i := 185) (by decide +kernel)) rfl
theorem uw_110 : Cond.methodLink RX4 60 yX2_begin ∈ lw_u := lw_m1 (List.mem_of_getElem? (i := 186) (by decide +kernel)) rfl
theorem uw_111 : Cond.instanceMethod yX2_begin ∈ lw_u := lw_m1 (List.mem_of_getElem? (i := 187) (by decide +kernel)) rfl
theorem uw_112 : Cond.selects RX2 yX2_begin yX2_begin ∈ lw_u := lw_m1 (List.mem_of_getElem? (i := 188) (by decide +kernel)) rfl
theorem uw_113 : Cond.code yX2_begin cX2_begin 4 none ∈ lw_u := lw_m1 (List.mem_of_getElem? (i := 189) rfl) rfl
theorem uw_114 : Cond.methodLink RX4 64 yX4_unfound ∈ lw_u := lw_m1 (List.mem_of_getElem? (i := 190) (by decide +kernel)) rfl
theorem uw_115 : Cond.instanceMethod yX4_unfound ∈ lw_u := lw_m1 (List.mem_of_getElem? (i := 192) (by decide +kernel)) rfl
theorem uw_116 : Cond.code yX4_unfound cX4_unfound 2 (some .int) ∈ lw_u := lw_m1 (List.mem_of_getElem? (i := 193) rfl) rfl
theorem uw_117 : Cond.methodLink RL 18 yX4_set ∈ lw_u := lw_m1 (List.mem_of_getElem? (i := 194) (by decide +kernel)) rfl
theorem uw_118 : Cond.instanceMethod yX4_set ∈ lw_u := lw_m1 (List.mem_of_getElem? (i := 195) (by decide +kernel)) rfl
theorem uw_119 : Cond.selects RX4 yX4_set yX4_set ∈ lw_u := lw_m1 (List.mem_of_getElem? (i := 196) (by decide +kernel)) rfl
theorem uw_120 : Cond.code yX4_set cX4_set 6 (some .int) ∈ lw_u := lw_m1 (List.mem_of_getElem? (i := 197) rfl) rfl
theorem uw_121 : Cond.methodLink RX4 67 yX2_findingOf ∈ lw_u := lw_m1 (List.mem_of_getElem? (i := 198) (by decide +kernel)) rfl
theorem uw_122 : Cond.instanceMethod yX2_findingOf ∈ lw_u := lw_m1 (List.mem_of_getElem? (i := 199) (by decide +kernel)) rfl
theorem uw_123 : Cond.selects RX2 yX2_findingOf yX2_findingOf ∈ lw_u := lw_m1 (List.mem_of_getElem? (i := 200) (by decide +kernel)) rfl
theorem uw_124 : Cond.code yX2_findingOf cX2_findingOf 3 (some .int) ∈ lw_u := lw_m1 (List.mem_of_getElem? (i := 201) rfl) rfl
theorem uw_125 : Cond.methodLink RX2 26 yX2_hasSpan ∈ lw_u := lw_m1 (List.mem_of_getElem? (i := 202) (by decide +kernel)) rfl
theorem uw_126 : Cond.instanceMethod yX2_hasSpan ∈ lw_u := lw_m1 (List.mem_of_getElem? (i := 203) (by decide +kernel)) rfl
theorem uw_127 : Cond.selects RX2 yX2_hasSpan yX2_hasSpan ∈ lw_u := lw_m1 (List.mem_of_getElem? (i := 204) (by decide +kernel)) rfl
theorem uw_128 : Cond.code yX2_hasSpan cX2_hasSpan 3 (some .boolean) ∈ lw_u := lw_m1 (List.mem_of_getElem? (i := 205) rfl) rfl
theorem uw_129 : Cond.methodLink RX4 71 yX2_put ∈ lw_u := lw_m1 (List.mem_of_getElem? (i := 206) (by decide +kernel)) rfl
theorem uw_130 : Cond.instanceMethod yX2_put ∈ lw_u := lw_m1 (List.mem_of_getElem? (i := 207) (by decide +kernel)) rfl
theorem uw_131 : Cond.selects RX2 yX2_put yX2_put ∈ lw_u := lw_m1 (List.mem_of_getElem? (i := 208) (by decide +kernel)) rfl
theorem uw_132 : Cond.code yX2_put cX2_put 4 (some .int) ∈ lw_u := lw_m1 (List.mem_of_getElem? (i := 209) rfl) rfl
theorem uw_133 : Cond.methodLink RL 22 yX4_copy ∈ lw_u := lw_m1 (List.mem_of_getElem? (i := 210) (by decide +kernel)) rfl
theorem uw_134 : Cond.instanceMethod yX4_copy ∈ lw_u := lw_m1 (List.mem_of_getElem? (i := 211) (by decide +kernel)) rfl
theorem uw_135 : Cond.selects RX4 yX4_copy yX4_copy ∈ lw_u := lw_m1 (List.mem_of_getElem? (i := 212) (by decide +kernel)) rfl
theorem uw_136 : Cond.code yX4_copy cX4_copy 8 (some .int) ∈ lw_u := lw_m1 (List.mem_of_getElem? (i := 213) rfl) rfl
theorem uw_137 : Cond.methodLink RX4 82 yX2_hasSpan ∈ lw_u := lw_m1 (List.mem_of_getElem? (i := 214) (by decide +kernel)) rfl
theorem uw_138 : Cond.methodLink RX4 88 arraycopyName ∈ lw_u := lw_m1 (List.mem_of_getElem? (i := 215) (by decide +kernel)) rfl
theorem uw_139 : Cond.static arraycopyName ∈ lw_u := lw_m1 (List.mem_of_getElem? (i := 216) (by decide +kernel)) rfl
theorem uw_140 : Cond.native arraycopyName ∈ lw_u := lw_m1 (List.mem_of_getElem? (i := 217) (by decide +kernel)) rfl
theorem uw_141 : Cond.methodLink RL 27 yX4_drop ∈ lw_u := lw_m1 (List.mem_of_getElem? (i := 218) (by decide +kernel)) rfl
theorem uw_142 : Cond.instanceMethod yX4_drop ∈ lw_u := lw_m1 (List.mem_of_getElem? (i := 219) (by decide +kernel)) rfl
theorem uw_143 : Cond.selects RX4 yX4_drop yX4_drop ∈ lw_u := lw_m1 (List.mem_of_getElem? (i := 220) (by decide +kernel)) rfl
theorem uw_144 : Cond.code yX4_drop cX4_drop 3 (some .int) ∈ lw_u := lw_m1 (List.mem_of_getElem? (i := 221) rfl) rfl
theorem uw_145 : Cond.methodLink RL 32 yX4_feed ∈ lw_u := lw_m1 (List.mem_of_getElem? (i := 222) (by decide +kernel)) rfl
theorem uw_146 : Cond.instanceMethod yX4_feed ∈ lw_u := lw_m1 (List.mem_of_getElem? (i := 223) (by decide +kernel)) rfl
theorem uw_147 : Cond.selects RX4 yX4_feed yX4_feed ∈ lw_u := lw_m1 (List.mem_of_getElem? (i := 224) (by decide +kernel)) rfl
theorem uw_148 : Cond.code yX4_feed cX4_feed 2 (some .int) ∈ lw_u := lw_m1 (List.mem_of_getElem? (i := 225) rfl) rfl
theorem uw_149 : Cond.constant RX4 98 (-1000003) ∈ lw_u := lw_m1 (List.mem_of_getElem? (i := 226) (by decide +kernel)) rfl
theorem uw_150 : Cond.methodLink RX4 99 yX3_append ∈ lw_u := lw_m1 (List.mem_of_getElem? (i := 227) (by decide +kernel)) rfl
theorem uw_151 : Cond.instanceMethod yX3_append ∈ lw_u := lw_m1 (List.mem_of_getElem? (i := 228) (by decide +kernel)) rfl
theorem uw_152 : Cond.selects RX3 yX3_append yX3_append ∈ lw_u := lw_m1 (List.mem_of_getElem? (i := 229) (by decide +kernel)) rfl
theorem uw_153 : Cond.code yX3_append cX3_append 2 (some .int) ∈ lw_u := lw_m1 (List.mem_of_getElem? (i := 230) rfl) rfl
theorem uw_154 : Cond.methodLink RL 36 yX4_light ∈ lw_u := lw_m1 (List.mem_of_getElem? (i := 231) (by decide +kernel)) rfl
theorem uw_155 : Cond.instanceMethod yX4_light ∈ lw_u := lw_m1 (List.mem_of_getElem? (i := 232) (by decide +kernel)) rfl
theorem uw_156 : Cond.selects RX4 yX4_light yX4_light ∈ lw_u := lw_m1 (List.mem_of_getElem? (i := 233) (by decide +kernel)) rfl
theorem uw_157 : Cond.code yX4_light cX4_light 2 (some .int) ∈ lw_u := lw_m1 (List.mem_of_getElem? (i := 234) rfl) rfl
theorem uw_158 : Cond.methodLink RX4 102 yX3_readInto ∈ lw_u := lw_m1 (List.mem_of_getElem? (i := 235) (by decide +kernel)) rfl
theorem uw_159 : Cond.instanceMethod yX3_readInto ∈ lw_u := lw_m1 (List.mem_of_getElem? (i := 236) (by decide +kernel)) rfl
theorem uw_160 : Cond.selects RX3 yX3_readInto yX3_readInto ∈ lw_u := lw_m1 (List.mem_of_getElem? (i := 237) (by decide +kernel)) rfl
theorem uw_161 : Cond.code yX3_readInto cX3_readInto 2 (some .boolean) ∈ lw_u := lw_m1 (List.mem_of_getElem? (i := 238) rfl) rfl
theorem uw_162 : Cond.methodLink RX3 22 yX1_clear ∈ lw_u := lw_m1 (List.mem_of_getElem? (i := 239) (by decide +kernel)) rfl
theorem uw_163 : Cond.instanceMethod yX1_clear ∈ lw_u := lw_m2 (List.mem_of_getElem? (i := 0) (by decide +kernel)) rfl
theorem uw_164 : Cond.selects RX1 yX1_clear yX1_clear ∈ lw_u := lw_m2 (List.mem_of_getElem? (i := 1) (by decide +kernel)) rfl
theorem uw_165 : Cond.code yX1_clear cX1_clear 1 none ∈ lw_u := lw_m2 (List.mem_of_getElem? (i := 2) rfl) rfl
theorem uw_166 : Cond.methodLink RX3 27 yX3_readLaw ∈ lw_u := lw_m2 (List.mem_of_getElem? (i := 3) (by decide +kernel)) rfl
theorem uw_167 : Cond.instanceMethod yX3_readLaw ∈ lw_u := lw_m2 (List.mem_of_getElem? (i := 5) (by decide +kernel)) rfl
theorem uw_168 : Cond.code yX3_readLaw cX3_readLaw 2 (some .boolean) ∈ lw_u := lw_m2 (List.mem_of_getElem? (i := 6) rfl) rfl
theorem uw_169 : Cond.methodLink RX3 55 yX3_readSign ∈ lw_u := lw_m2 (List.mem_of_getElem? (i := 7) (by decide +kernel)) rfl
theorem uw_170 : Cond.instanceMethod yX3_readSign ∈ lw_u := lw_m2 (List.mem_of_getElem? (i := 9) (by decide +kernel)) rfl
theorem uw_171 : Cond.code yX3_readSign cX3_readSign 2 (some .boolean) ∈ lw_u := lw_m2 (List.mem_of_getElem? (i := 10) rfl) rfl
theorem uw_172 : Cond.methodLink RX3 43 yX3_byteHere ∈ lw_u := lw_m2 (List.mem_of_getElem? (i := 11) (by decide +kernel)) rfl
theorem uw_173 : Cond.instanceMethod yX3_byteHere ∈ lw_u := lw_m2 (List.mem_of_getElem? (i := 13) (by decide +kernel)) rfl
theorem uw_174 : Cond.code yX3_byteHere cX3_byteHere 1 (some .int) ∈ lw_u := lw_m2 (List.mem_of_getElem? (i := 14) rfl) rfl
theorem uw_175 : Cond.methodLink RX3 47 yX3_failAt ∈ lw_u := lw_m2 (List.mem_of_getElem? (i := 15) (by decide +kernel)) rfl
theorem uw_176 : Cond.instanceMethod yX3_failAt ∈ lw_u := lw_m2 (List.mem_of_getElem? (i := 17) (by decide +kernel)) rfl
theorem uw_177 : Cond.code yX3_failAt cX3_failAt 3 (some .boolean) ∈ lw_u := lw_m2 (List.mem_of_getElem? (i := 18) rfl) rfl
theorem uw_178 : Cond.methodLink RX3 59 yX3_readNumber ∈ lw_u := lw_m2 (List.mem_of_getElem? (i := 19) (by decide +kernel)) rfl
theorem uw_179 : Cond.instanceMethod yX3_readNumber ∈ lw_u := lw_m2 (List.mem_of_getElem? (i := 21) (by decide +kernel)) rfl
theorem uw_180 : Cond.code yX3_readNumber cX3_readNumber 5 (some .int) ∈ lw_u := lw_m2 (List.mem_of_getElem? (i := 22) rfl) rfl
theorem uw_181 : Cond.static yX4_isWithin ∈ lw_u := lw_m2 (List.mem_of_getElem? (i := 24) (by decide +kernel)) rfl
theorem uw_182 : Cond.code yX4_isWithin cX4_isWithin 3 (some .boolean) ∈ lw_u := lw_m2 (List.mem_of_getElem? (i := 25) rfl) rfl
theorem uw_183 : Cond.methodLink RX3 31 yX3_readFogs ∈ lw_u := lw_m2 (List.mem_of_getElem? (i := 26) (by decide +kernel)) rfl
theorem uw_184 : Cond.instanceMethod yX3_readFogs ∈ lw_u := lw_m2 (List.mem_of_getElem? (i := 28) (by decide +kernel)) rfl
theorem uw_185 : Cond.code yX3_readFogs cX3_readFogs 3 (some .boolean) ∈ lw_u := lw_m2 (List.mem_of_getElem? (i := 29) rfl) rfl
theorem uw_186 : Cond.methodLink RX3 34 yX3_readShips ∈ lw_u := lw_m2 (List.mem_of_getElem? (i := 30) (by decide +kernel)) rfl
theorem uw_187 : Cond.instanceMethod yX3_readShips ∈ lw_u := lw_m2 (List.mem_of_getElem? (i := 32) (by decide +kernel)) rfl
theorem uw_188 : Cond.code yX3_readShips cX3_readShips 4 (some .boolean) ∈ lw_u := lw_m2 (List.mem_of_getElem? (i := 33) rfl) rfl
theorem uw_189 : Cond.methodLink RX3 78 yX3_kindOfSort ∈ lw_u := lw_m2 (List.mem_of_getElem? (i := 34) (by decide +kernel)) rfl
theorem uw_190 : Cond.static yX3_kindOfSort ∈ lw_u := lw_m2 (List.mem_of_getElem? (i := 35) (by decide +kernel)) rfl
theorem uw_191 : Cond.code yX3_kindOfSort cX3_kindOfSort 1 (some .int) ∈ lw_u := lw_m2 (List.mem_of_getElem? (i := 36) rfl) rfl
theorem uw_192 : Cond.constant RX4 112 (-1000100) ∈ lw_u := lw_m2 (List.mem_of_getElem? (i := 37) (by decide +kernel)) rfl
theorem uw_193 : Cond.methodLink RX4 116 yX1_takeFrom ∈ lw_u := lw_m2 (List.mem_of_getElem? (i := 38) (by decide +kernel)) rfl
theorem uw_194 : Cond.instanceMethod yX1_takeFrom ∈ lw_u := lw_m2 (List.mem_of_getElem? (i := 39) (by decide +kernel)) rfl
theorem uw_195 : Cond.selects RX1 yX1_takeFrom yX1_takeFrom ∈ lw_u := lw_m2 (List.mem_of_getElem? (i := 40) (by decide +kernel)) rfl
theorem uw_196 : Cond.code yX1_takeFrom cX1_takeFrom 2 none ∈ lw_u := lw_m2 (List.mem_of_getElem? (i := 41) rfl) rfl
theorem uw_197 : Cond.methodLink RX1 40 yX1_takeSea ∈ lw_u := lw_m2 (List.mem_of_getElem? (i := 42) (by decide +kernel)) rfl
theorem uw_198 : Cond.instanceMethod yX1_takeSea ∈ lw_u := lw_m2 (List.mem_of_getElem? (i := 44) (by decide +kernel)) rfl
theorem uw_199 : Cond.code yX1_takeSea cX1_takeSea 3 none ∈ lw_u := lw_m2 (List.mem_of_getElem? (i := 45) rfl) rfl
theorem uw_200 : Cond.methodLink RX1 44 yX1_takeShips ∈ lw_u := lw_m2 (List.mem_of_getElem? (i := 46) (by decide +kernel)) rfl
theorem uw_201 : Cond.instanceMethod yX1_takeShips ∈ lw_u := lw_m2 (List.mem_of_getElem? (i := 47) (by decide +kernel)) rfl
theorem uw_202 : Cond.selects RX1 yX1_takeShips yX1_takeShips ∈ lw_u := lw_m2 (List.mem_of_getElem? (i := 48) (by decide +kernel)) rfl
theorem uw_203 : Cond.code yX1_takeShips cX1_takeShips 3 none ∈ lw_u := lw_m2 (List.mem_of_getElem? (i := 49) rfl) rfl
theorem uw_204 : Cond.methodLink RX4 120 yX0_forget ∈ lw_u := lw_m2 (List.mem_of_getElem? (i := 50) (by decide +kernel)) rfl
theorem uw_205 : Cond.instanceMethod yX0_forget ∈ lw_u := lw_m2 (List.mem_of_getElem? (i := 51) (by decide +kernel)) rfl
theorem uw_206 : Cond.selects RX0 yX0_forget yX0_forget ∈ lw_u := lw_m2 (List.mem_of_getElem? (i := 52) (by decide +kernel)) rfl
theorem uw_207 : Cond.code yX0_forget cX0_forget 1 none ∈ lw_u := lw_m2 (List.mem_of_getElem? (i := 53) rfl) rfl
theorem uw_208 : Cond.methodLink RL 41 yX4_fault ∈ lw_u := lw_m2 (List.mem_of_getElem? (i := 54) (by decide +kernel)) rfl
theorem uw_209 : Cond.instanceMethod yX4_fault ∈ lw_u := lw_m2 (List.mem_of_getElem? (i := 55) (by decide +kernel)) rfl
theorem uw_210 : Cond.selects RX4 yX4_fault yX4_fault ∈ lw_u := lw_m2 (List.mem_of_getElem? (i := 56) (by decide +kernel)) rfl
theorem uw_211 : Cond.code yX4_fault cX4_fault 1 (some .int) ∈ lw_u := lw_m2 (List.mem_of_getElem? (i := 57) rfl) rfl
theorem uw_212 : Cond.methodLink RL 45 yX4_undo ∈ lw_u := lw_m2 (List.mem_of_getElem? (i := 58) (by decide +kernel)) rfl
theorem uw_213 : Cond.instanceMethod yX4_undo ∈ lw_u := lw_m2 (List.mem_of_getElem? (i := 59) (by decide +kernel)) rfl
theorem uw_214 : Cond.selects RX4 yX4_undo yX4_undo ∈ lw_u := lw_m2 (List.mem_of_getElem? (i := 60) (by decide +kernel)) rfl
theorem uw_215 : Cond.code yX4_undo cX4_undo 1 (some .int) ∈ lw_u := lw_m2 (List.mem_of_getElem? (i := 61) rfl) rfl
theorem uw_216 : Cond.constant RX4 129 (-1000002) ∈ lw_u := lw_m2 (List.mem_of_getElem? (i := 62) (by decide +kernel)) rfl
theorem uw_217 : Cond.methodLink RX4 130 yX0_takeBack ∈ lw_u := lw_m2 (List.mem_of_getElem? (i := 63) (by decide +kernel)) rfl
theorem uw_218 : Cond.instanceMethod yX0_takeBack ∈ lw_u := lw_m2 (List.mem_of_getElem? (i := 64) (by decide +kernel)) rfl
theorem uw_219 : Cond.selects RX0 yX0_takeBack yX0_takeBack ∈ lw_u := lw_m2 (List.mem_of_getElem? (i := 65) (by decide +kernel)) rfl
theorem uw_220 : Cond.code yX0_takeBack cX0_takeBack 2 (some .int) ∈ lw_u := lw_m2 (List.mem_of_getElem? (i := 66) rfl) rfl
theorem uw_221 : Cond.methodLink RX0 25 yX1_takeFrom ∈ lw_u := lw_m2 (List.mem_of_getElem? (i := 67) (by decide +kernel)) rfl
theorem uw_222 : Cond.methodLink RL 49 yX4_watches ∈ lw_u := lw_m2 (List.mem_of_getElem? (i := 68) (by decide +kernel)) rfl
theorem uw_223 : Cond.instanceMethod yX4_watches ∈ lw_u := lw_m2 (List.mem_of_getElem? (i := 69) (by decide +kernel)) rfl
theorem uw_224 : Cond.selects RX4 yX4_watches yX4_watches ∈ lw_u := lw_m2 (List.mem_of_getElem? (i := 70) (by decide +kernel)) rfl
theorem uw_225 : Cond.code yX4_watches cX4_watches 3 (some .int) ∈ lw_u := lw_m2 (List.mem_of_getElem? (i := 71) rfl) rfl
theorem uw_226 : Cond.methodLink RX4 134 yX1_isLit ∈ lw_u := lw_m2 (List.mem_of_getElem? (i := 72) (by decide +kernel)) rfl
theorem uw_227 : Cond.instanceMethod yX1_isLit ∈ lw_u := lw_m2 (List.mem_of_getElem? (i := 73) (by decide +kernel)) rfl
theorem uw_228 : Cond.selects RX1 yX1_isLit yX1_isLit ∈ lw_u := lw_m2 (List.mem_of_getElem? (i := 74) (by decide +kernel)) rfl
theorem uw_229 : Cond.code yX1_isLit cX1_isLit 1 (some .boolean) ∈ lw_u := lw_m2 (List.mem_of_getElem? (i := 75) rfl) rfl
theorem uw_230 : Cond.methodLink RX4 138 yX4_isWithin ∈ lw_u := lw_m2 (List.mem_of_getElem? (i := 76) (by decide +kernel)) rfl
theorem uw_231 : Cond.methodLink RX4 145 yX0_keep ∈ lw_u := lw_m2 (List.mem_of_getElem? (i := 77) (by decide +kernel)) rfl
theorem uw_232 : Cond.instanceMethod yX0_keep ∈ lw_u := lw_m2 (List.mem_of_getElem? (i := 78) (by decide +kernel)) rfl
theorem uw_233 : Cond.selects RX0 yX0_keep yX0_keep ∈ lw_u := lw_m2 (List.mem_of_getElem? (i := 79) (by decide +kernel)) rfl
theorem uw_234 : Cond.code yX0_keep cX0_keep 2 none ∈ lw_u := lw_m2 (List.mem_of_getElem? (i := 80) rfl) rfl
theorem uw_235 : Cond.methodLink RX0 29 Lib.Math.min.name ∈ lw_u := lw_m2 (List.mem_of_getElem? (i := 81) (by decide +kernel)) rfl
theorem uw_236 : Cond.static Lib.Math.min.name ∈ lw_u := lw_m2 (List.mem_of_getElem? (i := 82) (by decide +kernel)) rfl
theorem uw_237 : Cond.code Lib.Math.min.name Lib.Math.min.code 2 (some .int) ∈ lw_u := lw_m2 (List.mem_of_getElem? (i := 83) rfl) rfl
theorem uw_238 : Cond.methodLink RX4 148 yX1_passWatch ∈ lw_u := lw_m2 (List.mem_of_getElem? (i := 84) (by decide +kernel)) rfl
theorem uw_239 : Cond.instanceMethod yX1_passWatch ∈ lw_u := lw_m2 (List.mem_of_getElem? (i := 85) (by decide +kernel)) rfl
theorem uw_240 : Cond.selects RX1 yX1_passWatch yX1_passWatch ∈ lw_u := lw_m2 (List.mem_of_getElem? (i := 86) (by decide +kernel)) rfl
theorem uw_241 : Cond.code yX1_passWatch cX1_passWatch 2 none ∈ lw_u := lw_m2 (List.mem_of_getElem? (i := 87) rfl) rfl
theorem uw_242 : Cond.methodLink RX1 77 yX1_nextPlaceOf ∈ lw_u := lw_m2 (List.mem_of_getElem? (i := 88) (by decide +kernel)) rfl
theorem uw_243 : Cond.instanceMethod yX1_nextPlaceOf ∈ lw_u := lw_m2 (List.mem_of_getElem? (i := 89) (by decide +kernel)) rfl
theorem uw_244 : Cond.selects RX1 yX1_nextPlaceOf yX1_nextPlaceOf ∈ lw_u := lw_m2 (List.mem_of_getElem? (i := 90) (by decide +kernel)) rfl
theorem uw_245 : Cond.code yX1_nextPlaceOf cX1_nextPlaceOf 3 (some .int) ∈ lw_u := lw_m2 (List.mem_of_getElem? (i := 91) rfl) rfl
theorem uw_246 : Cond.methodLink RX1 62 yX1_inward ∈ lw_u := lw_m2 (List.mem_of_getElem? (i := 92) (by decide +kernel)) rfl
theorem uw_247 : Cond.static yX1_inward ∈ lw_u := lw_m2 (List.mem_of_getElem? (i := 93) (by decide +kernel)) rfl
theorem uw_248 : Cond.code yX1_inward cX1_inward 2 (some .int) ∈ lw_u := lw_m2 (List.mem_of_getElem? (i := 94) rfl) rfl
theorem uw_249 : Cond.methodLink RX1 69 Lib.Math.max.name ∈ lw_u := lw_m2 (List.mem_of_getElem? (i := 95) (by decide +kernel)) rfl
theorem uw_250 : Cond.static Lib.Math.max.name ∈ lw_u := lw_m2 (List.mem_of_getElem? (i := 96) (by decide +kernel)) rfl
theorem uw_251 : Cond.code Lib.Math.max.name Lib.Math.max.code 2 (some .int) ∈ lw_u := lw_m2 (List.mem_of_getElem? (i := 97) rfl) rfl
theorem uw_252 : Cond.methodLink RX1 66 yX1_outward ∈ lw_u := lw_m2 (List.mem_of_getElem? (i := 98) (by decide +kernel)) rfl
theorem uw_253 : Cond.instanceMethod yX1_outward ∈ lw_u := lw_m2 (List.mem_of_getElem? (i := 100) (by decide +kernel)) rfl
theorem uw_254 : Cond.code yX1_outward cX1_outward 3 (some .int) ∈ lw_u := lw_m2 (List.mem_of_getElem? (i := 101) rfl) rfl
theorem uw_255 : Cond.methodLink RX1 74 Lib.Math.min.name ∈ lw_u := lw_m2 (List.mem_of_getElem? (i := 102) (by decide +kernel)) rfl
theorem uw_256 : Cond.methodLink RX1 47 yX1_thickOf ∈ lw_u := lw_m2 (List.mem_of_getElem? (i := 103) (by decide +kernel)) rfl
theorem uw_257 : Cond.instanceMethod yX1_thickOf ∈ lw_u := lw_m2 (List.mem_of_getElem? (i := 104) (by decide +kernel)) rfl
theorem uw_258 : Cond.selects RX1 yX1_thickOf yX1_thickOf ∈ lw_u := lw_m2 (List.mem_of_getElem? (i := 105) (by decide +kernel)) rfl
theorem uw_259 : Cond.code yX1_thickOf cX1_thickOf 2 (some .int) ∈ lw_u := lw_m2 (List.mem_of_getElem? (i := 106) rfl) rfl
theorem uw_260 : Cond.methodLink RX4 151 yX1_shipsSeen ∈ lw_u := lw_m2 (List.mem_of_getElem? (i := 107) (by decide +kernel)) rfl
theorem uw_261 : Cond.instanceMethod yX1_shipsSeen ∈ lw_u := lw_m2 (List.mem_of_getElem? (i := 108) (by decide +kernel)) rfl
theorem uw_262 : Cond.selects RX1 yX1_shipsSeen yX1_shipsSeen ∈ lw_u := lw_m2 (List.mem_of_getElem? (i := 109) (by decide +kernel)) rfl
theorem uw_263 : Cond.code yX1_shipsSeen cX1_shipsSeen 4 (some .int) ∈ lw_u := lw_m2 (List.mem_of_getElem? (i := 110) rfl) rfl
theorem uw_264 : Cond.methodLink RX1 51 yX1_loggedOf ∈ lw_u := lw_m2 (List.mem_of_getElem? (i := 111) (by decide +kernel)) rfl
theorem uw_265 : Cond.instanceMethod yX1_loggedOf ∈ lw_u := lw_m2 (List.mem_of_getElem? (i := 112) (by decide +kernel)) rfl
theorem uw_266 : Cond.selects RX1 yX1_loggedOf yX1_loggedOf ∈ lw_u := lw_m2 (List.mem_of_getElem? (i := 113) (by decide +kernel)) rfl
theorem uw_267 : Cond.code yX1_loggedOf cX1_loggedOf 6 (some .int) ∈ lw_u := lw_m2 (List.mem_of_getElem? (i := 114) rfl) rfl
theorem uw_268 : Cond.static yX4_isSeenBy ∈ lw_u := lw_m2 (List.mem_of_getElem? (i := 116) (by decide +kernel)) rfl
theorem uw_269 : Cond.code yX4_isSeenBy cX4_isSeenBy 2 (some .boolean) ∈ lw_u := lw_m2 (List.mem_of_getElem? (i := 117) rfl) rfl
theorem uw_270 : Cond.static yX4_bitIf ∈ lw_u := lw_m2 (List.mem_of_getElem? (i := 119) (by decide +kernel)) rfl
theorem uw_271 : Cond.code yX4_bitIf cX4_bitIf 2 (some .int) ∈ lw_u := lw_m2 (List.mem_of_getElem? (i := 120) rfl) rfl
theorem uw_272 : Cond.methodLink RL 53 yX4_pour ∈ lw_u := lw_m2 (List.mem_of_getElem? (i := 121) (by decide +kernel)) rfl
theorem uw_273 : Cond.instanceMethod yX4_pour ∈ lw_u := lw_m2 (List.mem_of_getElem? (i := 122) (by decide +kernel)) rfl
theorem uw_274 : Cond.selects RX4 yX4_pour yX4_pour ∈ lw_u := lw_m2 (List.mem_of_getElem? (i := 123) (by decide +kernel)) rfl
theorem uw_275 : Cond.code yX4_pour cX4_pour 2 (some .int) ∈ lw_u := lw_m2 (List.mem_of_getElem? (i := 124) rfl) rfl
theorem uw_276 : Cond.methodLink RX4 154 yX1_addOil ∈ lw_u := lw_m2 (List.mem_of_getElem? (i := 125) (by decide +kernel)) rfl
theorem uw_277 : Cond.instanceMethod yX1_addOil ∈ lw_u := lw_m2 (List.mem_of_getElem? (i := 126) (by decide +kernel)) rfl
theorem uw_278 : Cond.selects RX1 yX1_addOil yX1_addOil ∈ lw_u := lw_m2 (List.mem_of_getElem? (i := 127) (by decide +kernel)) rfl
theorem uw_279 : Cond.code yX1_addOil cX1_addOil 2 none ∈ lw_u := lw_m2 (List.mem_of_getElem? (i := 128) rfl) rfl
theorem uw_280 : Cond.methodLink RL 57 yX4_fog ∈ lw_u := lw_m2 (List.mem_of_getElem? (i := 129) (by decide +kernel)) rfl
theorem uw_281 : Cond.instanceMethod yX4_fog ∈ lw_u := lw_m2 (List.mem_of_getElem? (i := 130) (by decide +kernel)) rfl
theorem uw_282 : Cond.selects RX4 yX4_fog yX4_fog ∈ lw_u := lw_m2 (List.mem_of_getElem? (i := 131) (by decide +kernel)) rfl
theorem uw_283 : Cond.code yX4_fog cX4_fog 4 (some .int) ∈ lw_u := lw_m2 (List.mem_of_getElem? (i := 132) rfl) rfl
theorem uw_284 : Cond.methodLink RL 62 yX4_eyes ∈ lw_u := lw_m2 (List.mem_of_getElem? (i := 133) (by decide +kernel)) rfl
theorem uw_285 : Cond.instanceMethod yX4_eyes ∈ lw_u := lw_m2 (List.mem_of_getElem? (i := 134) (by decide +kernel)) rfl
theorem uw_286 : Cond.selects RX4 yX4_eyes yX4_eyes ∈ lw_u := lw_m2 (List.mem_of_getElem? (i := 135) (by decide +kernel)) rfl
theorem uw_287 : Cond.code yX4_eyes cX4_eyes 3 (some .int) ∈ lw_u := lw_m2 (List.mem_of_getElem? (i := 136) rfl) rfl
theorem uw_288 : Cond.methodLink RL 66 yX4_move ∈ lw_u := lw_m2 (List.mem_of_getElem? (i := 137) (by decide +kernel)) rfl
theorem uw_289 : Cond.instanceMethod yX4_move ∈ lw_u := lw_m2 (List.mem_of_getElem? (i := 138) (by decide +kernel)) rfl
theorem uw_290 : Cond.selects RX4 yX4_move yX4_move ∈ lw_u := lw_m2 (List.mem_of_getElem? (i := 139) (by decide +kernel)) rfl
theorem uw_291 : Cond.code yX4_move cX4_move 4 (some .int) ∈ lw_u := lw_m2 (List.mem_of_getElem? (i := 140) rfl) rfl
theorem uw_292 : Cond.methodLink RL 70 yX4_ship ∈ lw_u := lw_m2 (List.mem_of_getElem? (i := 141) (by decide +kernel)) rfl
theorem uw_293 : Cond.instanceMethod yX4_ship ∈ lw_u := lw_m2 (List.mem_of_getElem? (i := 142) (by decide +kernel)) rfl
theorem uw_294 : Cond.selects RX4 yX4_ship yX4_ship ∈ lw_u := lw_m2 (List.mem_of_getElem? (i := 143) (by decide +kernel)) rfl
theorem uw_295 : Cond.code yX4_ship cX4_ship 3 (some .int) ∈ lw_u := lw_m2 (List.mem_of_getElem? (i := 144) rfl) rfl
theorem uw_296 : Cond.methodLink RX4 176 yX1_loggedOf ∈ lw_u := lw_m2 (List.mem_of_getElem? (i := 145) (by decide +kernel)) rfl
theorem uw_297 : Cond.methodLink RX4 179 yX1_nextPlaceOf ∈ lw_u := lw_m2 (List.mem_of_getElem? (i := 146) (by decide +kernel)) rfl
theorem uw_298 : Cond.methodLink RL 74 yX4_stand ∈ lw_u := lw_m2 (List.mem_of_getElem? (i := 147) (by decide +kernel)) rfl
theorem uw_299 : Cond.instanceMethod yX4_stand ∈ lw_u := lw_m2 (List.mem_of_getElem? (i := 148) (by decide +kernel)) rfl
theorem uw_300 : Cond.selects RX4 yX4_stand yX4_stand ∈ lw_u := lw_m2 (List.mem_of_getElem? (i := 149) (by decide +kernel)) rfl
theorem uw_301 : Cond.code yX4_stand cX4_stand 2 (some .int) ∈ lw_u := lw_m2 (List.mem_of_getElem? (i := 150) rfl) rfl
theorem uw_302 : Cond.methodLink RX4 182 yX1_thickOf ∈ lw_u := lw_m2 (List.mem_of_getElem? (i := 151) (by decide +kernel)) rfl
theorem uw_303 : Cond.methodLink RL 78 yX4_thick ∈ lw_u := lw_m2 (List.mem_of_getElem? (i := 152) (by decide +kernel)) rfl
theorem uw_304 : Cond.instanceMethod yX4_thick ∈ lw_u := lw_m2 (List.mem_of_getElem? (i := 153) (by decide +kernel)) rfl
theorem uw_305 : Cond.selects RX4 yX4_thick yX4_thick ∈ lw_u := lw_m2 (List.mem_of_getElem? (i := 154) (by decide +kernel)) rfl
theorem uw_306 : Cond.code yX4_thick cX4_thick 2 (some .int) ∈ lw_u := lw_m2 (List.mem_of_getElem? (i := 155) rfl) rfl
theorem uw_307 : Cond.methodLink RL 82 yX4_ahead ∈ lw_u := lw_m2 (List.mem_of_getElem? (i := 156) (by decide +kernel)) rfl
theorem uw_308 : Cond.instanceMethod yX4_ahead ∈ lw_u := lw_m2 (List.mem_of_getElem? (i := 157) (by decide +kernel)) rfl
theorem uw_309 : Cond.selects RX4 yX4_ahead yX4_ahead ∈ lw_u := lw_m2 (List.mem_of_getElem? (i := 158) (by decide +kernel)) rfl
theorem uw_310 : Cond.code yX4_ahead cX4_ahead 4 (some .int) ∈ lw_u := lw_m2 (List.mem_of_getElem? (i := 159) rfl) rfl
theorem uw_311 : Cond.methodLink RX4 185 yX1_takeOneShip ∈ lw_u := lw_m2 (List.mem_of_getElem? (i := 160) (by decide +kernel)) rfl
theorem uw_312 : Cond.instanceMethod yX1_takeOneShip ∈ lw_u := lw_m2 (List.mem_of_getElem? (i := 161) (by decide +kernel)) rfl
theorem uw_313 : Cond.selects RX1 yX1_takeOneShip yX1_takeOneShip ∈ lw_u := lw_m2 (List.mem_of_getElem? (i := 162) (by decide +kernel)) rfl
theorem uw_314 : Cond.code yX1_takeOneShip cX1_takeOneShip 3 none ∈ lw_u := lw_m2 (List.mem_of_getElem? (i := 163) rfl) rfl
theorem uw_315 : Cond.methodLink RX4 189 yX1_passWatches ∈ lw_u := lw_m2 (List.mem_of_getElem? (i := 164) (by decide +kernel)) rfl
theorem uw_316 : Cond.instanceMethod yX1_passWatches ∈ lw_u := lw_m2 (List.mem_of_getElem? (i := 165) (by decide +kernel)) rfl
theorem uw_317 : Cond.selects RX1 yX1_passWatches yX1_passWatches ∈ lw_u := lw_m2 (List.mem_of_getElem? (i := 166) (by decide +kernel)) rfl
theorem uw_318 : Cond.code yX1_passWatches cX1_passWatches 3 none ∈ lw_u := lw_m2 (List.mem_of_getElem? (i := 167) rfl) rfl
theorem uw_319 : Cond.methodLink RX1 80 yX1_passWatch ∈ lw_u := lw_m2 (List.mem_of_getElem? (i := 168) (by decide +kernel)) rfl
theorem uw_320 : Cond.methodLink RL 86 yX4_written ∈ lw_u := lw_m2 (List.mem_of_getElem? (i := 169) (by decide +kernel)) rfl
theorem uw_321 : Cond.instanceMethod yX4_written ∈ lw_u := lw_m2 (List.mem_of_getElem? (i := 170) (by decide +kernel)) rfl
theorem uw_322 : Cond.selects RX4 yX4_written yX4_written ∈ lw_u := lw_m2 (List.mem_of_getElem? (i := 171) (by decide +kernel)) rfl
theorem uw_323 : Cond.code yX4_written cX4_written 3 (some .int) ∈ lw_u := lw_m2 (List.mem_of_getElem? (i := 172) rfl) rfl
theorem uw_324 : Cond.methodLink RL 90 yX4_when ∈ lw_u := lw_m2 (List.mem_of_getElem? (i := 173) (by decide +kernel)) rfl
theorem uw_325 : Cond.instanceMethod yX4_when ∈ lw_u := lw_m2 (List.mem_of_getElem? (i := 174) (by decide +kernel)) rfl
theorem uw_326 : Cond.selects RX4 yX4_when yX4_when ∈ lw_u := lw_m2 (List.mem_of_getElem? (i := 175) (by decide +kernel)) rfl
theorem uw_327 : Cond.code yX4_when cX4_when 5 (some .int) ∈ lw_u := lw_m2 (List.mem_of_getElem? (i := 176) rfl) rfl
theorem uw_328 : Cond.methodLink RX4 192 yX1_differOn ∈ lw_u := lw_m2 (List.mem_of_getElem? (i := 177) (by decide +kernel)) rfl
theorem uw_329 : Cond.instanceMethod yX1_differOn ∈ lw_u := lw_m2 (List.mem_of_getElem? (i := 178) (by decide +kernel)) rfl
theorem uw_330 : Cond.selects RX1 yX1_differOn yX1_differOn ∈ lw_u := lw_m2 (List.mem_of_getElem? (i := 179) (by decide +kernel)) rfl
theorem uw_331 : Cond.code yX1_differOn cX1_differOn 2 (some .boolean) ∈ lw_u := lw_m2 (List.mem_of_getElem? (i := 180) rfl) rfl
theorem uw_332 : Cond.constant RX4 196 (-1000000) ∈ lw_u := lw_m2 (List.mem_of_getElem? (i := 181) (by decide +kernel)) rfl
theorem uw_333 : Cond.methodLink RL 94 yX4_quarrel ∈ lw_u := lw_m2 (List.mem_of_getElem? (i := 182) (by decide +kernel)) rfl
theorem uw_334 : Cond.instanceMethod yX4_quarrel ∈ lw_u := lw_m2 (List.mem_of_getElem? (i := 183) (by decide +kernel)) rfl
theorem uw_335 : Cond.selects RX4 yX4_quarrel yX4_quarrel ∈ lw_u := lw_m2 (List.mem_of_getElem? (i := 184) (by decide +kernel)) rfl
theorem uw_336 : Cond.code yX4_quarrel cX4_quarrel 4 (some .int) ∈ lw_u := lw_m2 (List.mem_of_getElem? (i := 185) rfl) rfl
theorem uw_337 : Cond.methodLink RX4 197 yJ6_numberOfTrailingZeros_0f7a4 ∈ lw_u := lw_m2 (List.mem_of_getElem? (i := 186) (by decide +kernel)) rfl
theorem uw_338 : Cond.static yJ6_numberOfTrailingZeros_0f7a4 ∈ lw_u := lw_m2 (List.mem_of_getElem? (i := 187) (by decide +kernel)) rfl
theorem uw_339 : Cond.code yJ6_numberOfTrailingZeros_0f7a4 cJ6_numberOfTrailingZeros_0f7a4 2 (some .int) ∈ lw_u := lw_m2 (List.mem_of_getElem? (i := 188) rfl) rfl
theorem uw_340 : Cond.constant RJ6 264 (65536) ∈ lw_u := lw_m2 (List.mem_of_getElem? (i := 189) (by decide +kernel)) rfl
theorem uw_341 : Cond.methodLink RL 98 yX4_pours ∈ lw_u := lw_m2 (List.mem_of_getElem? (i := 190) (by decide +kernel)) rfl
theorem uw_342 : Cond.instanceMethod yX4_pours ∈ lw_u := lw_m2 (List.mem_of_getElem? (i := 191) (by decide +kernel)) rfl
theorem uw_343 : Cond.selects RX4 yX4_pours yX4_pours ∈ lw_u := lw_m2 (List.mem_of_getElem? (i := 192) (by decide +kernel)) rfl
theorem uw_344 : Cond.code yX4_pours cX4_pours 4 (some .int) ∈ lw_u := lw_m2 (List.mem_of_getElem? (i := 193) rfl) rfl
theorem uw_345 : Cond.methodLink RX4 202 yX4_isSeenBy ∈ lw_u := lw_m2 (List.mem_of_getElem? (i := 194) (by decide +kernel)) rfl
theorem uw_346 : Cond.methodLink RL 102 yX4_lift ∈ lw_u := lw_m2 (List.mem_of_getElem? (i := 195) (by decide +kernel)) rfl
theorem uw_347 : Cond.instanceMethod yX4_lift ∈ lw_u := lw_m2 (List.mem_of_getElem? (i := 196) (by decide +kernel)) rfl
theorem uw_348 : Cond.selects RX4 yX4_lift yX4_lift ∈ lw_u := lw_m2 (List.mem_of_getElem? (i := 197) (by decide +kernel)) rfl
theorem uw_349 : Cond.code yX4_lift cX4_lift 7 (some .int) ∈ lw_u := lw_m2 (List.mem_of_getElem? (i := 198) rfl) rfl
theorem uw_350 : Cond.methodLink RX4 205 yX4_differencesIfLifted ∈ lw_u := lw_m2 (List.mem_of_getElem? (i := 199) (by decide +kernel)) rfl
theorem uw_351 : Cond.instanceMethod yX4_differencesIfLifted ∈ lw_u := lw_m2 (List.mem_of_getElem? (i := 201) (by decide +kernel)) rfl
theorem uw_352 : Cond.code yX4_differencesIfLifted cX4_differencesIfLifted 5 (some .int) ∈ lw_u := lw_m2 (List.mem_of_getElem? (i := 202) rfl) rfl
theorem uw_353 : Cond.methodLink RX4 208 yJ6_bitCount_0f7a4 ∈ lw_u := lw_m2 (List.mem_of_getElem? (i := 203) (by decide +kernel)) rfl
theorem uw_354 : Cond.static yJ6_bitCount_0f7a4 ∈ lw_u := lw_m2 (List.mem_of_getElem? (i := 204) (by decide +kernel)) rfl
theorem uw_355 : Cond.code yJ6_bitCount_0f7a4 cJ6_bitCount_0f7a4 1 (some .int) ∈ lw_u := lw_m2 (List.mem_of_getElem? (i := 205) rfl) rfl
theorem uw_356 : Cond.constant RJ6 265 (1431655765) ∈ lw_u := lw_m2 (List.mem_of_getElem? (i := 206) (by decide +kernel)) rfl
theorem uw_357 : Cond.constant RJ6 266 (858993459) ∈ lw_u := lw_m2 (List.mem_of_getElem? (i := 207) (by decide +kernel)) rfl
theorem uw_358 : Cond.constant RJ6 267 (252645135) ∈ lw_u := lw_m2 (List.mem_of_getElem? (i := 208) (by decide +kernel)) rfl
theorem uw_359 : Cond.methodLink RL 106 yX4_sent ∈ lw_u := lw_m2 (List.mem_of_getElem? (i := 209) (by decide +kernel)) rfl
theorem uw_360 : Cond.instanceMethod yX4_sent ∈ lw_u := lw_m2 (List.mem_of_getElem? (i := 210) (by decide +kernel)) rfl
theorem uw_361 : Cond.selects RX4 yX4_sent yX4_sent ∈ lw_u := lw_m2 (List.mem_of_getElem? (i := 211) (by decide +kernel)) rfl
theorem uw_362 : Cond.code yX4_sent cX4_sent 5 (some .int) ∈ lw_u := lw_m2 (List.mem_of_getElem? (i := 212) rfl) rfl
theorem uw_363 : Cond.methodLink RL 110 yX4_share ∈ lw_u := lw_m2 (List.mem_of_getElem? (i := 213) (by decide +kernel)) rfl
theorem uw_364 : Cond.instanceMethod yX4_share ∈ lw_u := lw_m2 (List.mem_of_getElem? (i := 214) (by decide +kernel)) rfl
theorem uw_365 : Cond.selects RX4 yX4_share yX4_share ∈ lw_u := lw_m2 (List.mem_of_getElem? (i := 215) (by decide +kernel)) rfl
theorem uw_366 : Cond.code yX4_share cX4_share 7 (some .int) ∈ lw_u := lw_m2 (List.mem_of_getElem? (i := 216) rfl) rfl
theorem uw_367 : Cond.methodLink RX4 211 yX1_allThick ∈ lw_u := lw_m2 (List.mem_of_getElem? (i := 217) (by decide +kernel)) rfl
theorem uw_368 : Cond.instanceMethod yX1_allThick ∈ lw_u := lw_m2 (List.mem_of_getElem? (i := 218) (by decide +kernel)) rfl
theorem uw_369 : Cond.selects RX1 yX1_allThick yX1_allThick ∈ lw_u := lw_m2 (List.mem_of_getElem? (i := 219) (by decide +kernel)) rfl
theorem uw_370 : Cond.code yX1_allThick cX1_allThick 3 (some .int) ∈ lw_u := lw_m2 (List.mem_of_getElem? (i := 220) rfl) rfl
theorem uw_371 : Cond.methodLink RL 114 yX4_byTurns ∈ lw_u := lw_m2 (List.mem_of_getElem? (i := 221) (by decide +kernel)) rfl
theorem uw_372 : Cond.instanceMethod yX4_byTurns ∈ lw_u := lw_m2 (List.mem_of_getElem? (i := 222) (by decide +kernel)) rfl
theorem uw_373 : Cond.selects RX4 yX4_byTurns yX4_byTurns ∈ lw_u := lw_m2 (List.mem_of_getElem? (i := 223) (by decide +kernel)) rfl
theorem uw_374 : Cond.code yX4_byTurns cX4_byTurns 3 (some .int) ∈ lw_u := lw_m2 (List.mem_of_getElem? (i := 224) rfl) rfl
theorem uw_375 : Cond.methodLink RX4 215 yX4_bestTurn ∈ lw_u := lw_m2 (List.mem_of_getElem? (i := 225) (by decide +kernel)) rfl
theorem uw_376 : Cond.instanceMethod yX4_bestTurn ∈ lw_u := lw_m2 (List.mem_of_getElem? (i := 227) (by decide +kernel)) rfl
theorem uw_377 : Cond.code yX4_bestTurn cX4_bestTurn 8 (some .int) ∈ lw_u := lw_m2 (List.mem_of_getElem? (i := 228) rfl) rfl
theorem uw_378 : Cond.methodLink RX4 298 yX4_balanceBehind ∈ lw_u := lw_m2 (List.mem_of_getElem? (i := 229) (by decide +kernel)) rfl
theorem uw_379 : Cond.instanceMethod yX4_balanceBehind ∈ lw_u := lw_m2 (List.mem_of_getElem? (i := 231) (by decide +kernel)) rfl
theorem uw_380 : Cond.code yX4_balanceBehind cX4_balanceBehind 2 (some .int) ∈ lw_u := lw_m2 (List.mem_of_getElem? (i := 232) rfl) rfl
theorem uw_381 : Cond.methodLink RX4 301 Lib.Math.max.name ∈ lw_u := lw_m2 (List.mem_of_getElem? (i := 233) (by decide +kernel)) rfl
theorem uw_382 : Cond.methodLink RX4 303 Lib.Math.min.name ∈ lw_u := lw_m2 (List.mem_of_getElem? (i := 234) (by decide +kernel)) rfl
theorem uw_383 : Cond.methodLink RL 118 yX4_who ∈ lw_u := lw_m2 (List.mem_of_getElem? (i := 235) (by decide +kernel)) rfl
theorem uw_384 : Cond.instanceMethod yX4_who ∈ lw_u := lw_m2 (List.mem_of_getElem? (i := 236) (by decide +kernel)) rfl
theorem uw_385 : Cond.selects RX4 yX4_who yX4_who ∈ lw_u := lw_m2 (List.mem_of_getElem? (i := 237) (by decide +kernel)) rfl
theorem uw_386 : Cond.code yX4_who cX4_who 8 (some .int) ∈ lw_u := lw_m2 (List.mem_of_getElem? (i := 238) rfl) rfl
theorem uw_387 : Cond.methodLink RX4 219 yX4_isLog ∈ lw_u := lw_m2 (List.mem_of_getElem? (i := 239) (by decide +kernel)) rfl
theorem uw_388 : Cond.static yX4_isLog ∈ lw_u := lw_m3 (List.mem_of_getElem? (i := 0) (by decide +kernel)) rfl
theorem uw_389 : Cond.code yX4_isLog cX4_isLog 2 (some .boolean) ∈ lw_u := lw_m3 (List.mem_of_getElem? (i := 1) rfl) rfl
theorem uw_390 : Cond.methodLink RX4 222 yX4_kindsThatFit ∈ lw_u := lw_m3 (List.mem_of_getElem? (i := 2) (by decide +kernel)) rfl
theorem uw_391 : Cond.instanceMethod yX4_kindsThatFit ∈ lw_u := lw_m3 (List.mem_of_getElem? (i := 4) (by decide +kernel)) rfl
theorem uw_392 : Cond.code yX4_kindsThatFit cX4_kindsThatFit 7 (some .int) ∈ lw_u := lw_m3 (List.mem_of_getElem? (i := 5) rfl) rfl
theorem uw_393 : Cond.methodLink RX4 229 yX4_probeFits ∈ lw_u := lw_m3 (List.mem_of_getElem? (i := 6) (by decide +kernel)) rfl
theorem uw_394 : Cond.instanceMethod yX4_probeFits ∈ lw_u := lw_m3 (List.mem_of_getElem? (i := 8) (by decide +kernel)) rfl
theorem uw_395 : Cond.code yX4_probeFits cX4_probeFits 5 (some .boolean) ∈ lw_u := lw_m3 (List.mem_of_getElem? (i := 9) rfl) rfl
theorem uw_396 : Cond.methodLink RX4 233 yX4_bitIf ∈ lw_u := lw_m3 (List.mem_of_getElem? (i := 10) (by decide +kernel)) rfl
theorem uw_397 : Cond.methodLink RX4 226 yX4_cellsThatFit ∈ lw_u := lw_m3 (List.mem_of_getElem? (i := 11) (by decide +kernel)) rfl
theorem uw_398 : Cond.instanceMethod yX4_cellsThatFit ∈ lw_u := lw_m3 (List.mem_of_getElem? (i := 13) (by decide +kernel)) rfl
theorem uw_399 : Cond.code yX4_cellsThatFit cX4_cellsThatFit 7 (some .int) ∈ lw_u := lw_m3 (List.mem_of_getElem? (i := 14) rfl) rfl
theorem uw_400 : Cond.methodLink RL 122 yX4_fogs ∈ lw_u := lw_m3 (List.mem_of_getElem? (i := 15) (by decide +kernel)) rfl
theorem uw_401 : Cond.instanceMethod yX4_fogs ∈ lw_u := lw_m3 (List.mem_of_getElem? (i := 16) (by decide +kernel)) rfl
theorem uw_402 : Cond.selects RX4 yX4_fogs yX4_fogs ∈ lw_u := lw_m3 (List.mem_of_getElem? (i := 17) (by decide +kernel)) rfl
theorem uw_403 : Cond.code yX4_fogs cX4_fogs 10 (some .int) ∈ lw_u := lw_m3 (List.mem_of_getElem? (i := 18) rfl) rfl
theorem uw_404 : Cond.methodLink RL 126 yX4_sights ∈ lw_u := lw_m3 (List.mem_of_getElem? (i := 19) (by decide +kernel)) rfl
theorem uw_405 : Cond.instanceMethod yX4_sights ∈ lw_u := lw_m3 (List.mem_of_getElem? (i := 20) (by decide +kernel)) rfl
theorem uw_406 : Cond.selects RX4 yX4_sights yX4_sights ∈ lw_u := lw_m3 (List.mem_of_getElem? (i := 21) (by decide +kernel)) rfl
theorem uw_407 : Cond.code yX4_sights cX4_sights 8 (some .int) ∈ lw_u := lw_m3 (List.mem_of_getElem? (i := 22) rfl) rfl
theorem uw_408 : Cond.methodLink RX4 237 yX4_eyesThatFit ∈ lw_u := lw_m3 (List.mem_of_getElem? (i := 23) (by decide +kernel)) rfl
theorem uw_409 : Cond.instanceMethod yX4_eyesThatFit ∈ lw_u := lw_m3 (List.mem_of_getElem? (i := 25) (by decide +kernel)) rfl
theorem uw_410 : Cond.code yX4_eyesThatFit cX4_eyesThatFit 7 (some .int) ∈ lw_u := lw_m3 (List.mem_of_getElem? (i := 26) rfl) rfl
theorem uw_411 : Cond.methodLink RX4 240 yX4_oilsThatFit ∈ lw_u := lw_m3 (List.mem_of_getElem? (i := 27) (by decide +kernel)) rfl
theorem uw_412 : Cond.instanceMethod yX4_oilsThatFit ∈ lw_u := lw_m3 (List.mem_of_getElem? (i := 29) (by decide +kernel)) rfl
theorem uw_413 : Cond.code yX4_oilsThatFit cX4_oilsThatFit 9 (some .int) ∈ lw_u := lw_m3 (List.mem_of_getElem? (i := 30) rfl) rfl
theorem uw_414 : Cond.methodLink RL 130 yX4_fair ∈ lw_u := lw_m3 (List.mem_of_getElem? (i := 31) (by decide +kernel)) rfl
theorem uw_415 : Cond.instanceMethod yX4_fair ∈ lw_u := lw_m3 (List.mem_of_getElem? (i := 32) (by decide +kernel)) rfl
theorem uw_416 : Cond.selects RX4 yX4_fair yX4_fair ∈ lw_u := lw_m3 (List.mem_of_getElem? (i := 33) (by decide +kernel)) rfl
theorem uw_417 : Cond.code yX4_fair cX4_fair 10 (some .long) ∈ lw_u := lw_m3 (List.mem_of_getElem? (i := 34) rfl) rfl
theorem uw_418 : Cond.constantLong RX4 244 (-1000002) ∈ lw_u := lw_m3 (List.mem_of_getElem? (i := 35) (by decide +kernel)) rfl
theorem uw_419 : Cond.constantLong RX4 246 (-1000001) ∈ lw_u := lw_m3 (List.mem_of_getElem? (i := 36) (by decide +kernel)) rfl
theorem uw_420 : Cond.methodLink RX4 248 yX4_isSameIfLifted ∈ lw_u := lw_m3 (List.mem_of_getElem? (i := 37) (by decide +kernel)) rfl
theorem uw_421 : Cond.instanceMethod yX4_isSameIfLifted ∈ lw_u := lw_m3 (List.mem_of_getElem? (i := 39) (by decide +kernel)) rfl
theorem uw_422 : Cond.code yX4_isSameIfLifted cX4_isSameIfLifted 4 (some .boolean) ∈ lw_u := lw_m3 (List.mem_of_getElem? (i := 40) rfl) rfl
theorem uw_423 : Cond.methodLink RX4 306 yX1_takeShips ∈ lw_u := lw_m3 (List.mem_of_getElem? (i := 41) (by decide +kernel)) rfl
theorem uw_424 : Cond.methodLink RX4 251 yX4_casesOf ∈ lw_u := lw_m3 (List.mem_of_getElem? (i := 42) (by decide +kernel)) rfl
theorem uw_425 : Cond.instanceMethod yX4_casesOf ∈ lw_u := lw_m3 (List.mem_of_getElem? (i := 44) (by decide +kernel)) rfl
theorem uw_426 : Cond.code yX4_casesOf cX4_casesOf 6 (some .long) ∈ lw_u := lw_m3 (List.mem_of_getElem? (i := 45) rfl) rfl
theorem uw_427 : Cond.constantLong RX4 255 (10) ∈ lw_u := lw_m3 (List.mem_of_getElem? (i := 46) (by decide +kernel)) rfl
theorem uw_428 : Cond.methodLink RX4 257 yX4_commonDivisor ∈ lw_u := lw_m3 (List.mem_of_getElem? (i := 47) (by decide +kernel)) rfl
theorem uw_429 : Cond.static yX4_commonDivisor ∈ lw_u := lw_m3 (List.mem_of_getElem? (i := 48) (by decide +kernel)) rfl
theorem uw_430 : Cond.code yX4_commonDivisor cX4_commonDivisor 11 (some .long) ∈ lw_u := lw_m3 (List.mem_of_getElem? (i := 49) rfl) rfl
theorem uw_431 : Cond.methodLink RX4 261 Lib.MathLoose.max_long.x ∈ lw_u := lw_m3 (List.mem_of_getElem? (i := 50) (by decide +kernel)) rfl
theorem uw_432 : Cond.static Lib.MathLoose.max_long.x ∈ lw_u := lw_m3 (List.mem_of_getElem? (i := 51) (by decide +kernel)) rfl
theorem uw_433 : Cond.code Lib.MathLoose.max_long.x Lib.MathLoose.max_long.code 4 (some .long) ∈ lw_u := lw_m3 (List.mem_of_getElem? (i := 52) rfl) rfl
theorem uw_434 : Cond.methodLink RL 135 yX4_drawn ∈ lw_u := lw_m3 (List.mem_of_getElem? (i := 53) (by decide +kernel)) rfl
theorem uw_435 : Cond.instanceMethod yX4_drawn ∈ lw_u := lw_m3 (List.mem_of_getElem? (i := 54) (by decide +kernel)) rfl
theorem uw_436 : Cond.selects RX4 yX4_drawn yX4_drawn ∈ lw_u := lw_m3 (List.mem_of_getElem? (i := 55) (by decide +kernel)) rfl
theorem uw_437 : Cond.code yX4_drawn cX4_drawn 8 (some .int) ∈ lw_u := lw_m3 (List.mem_of_getElem? (i := 56) rfl) rfl
theorem uw_438 : Cond.constant RX4 266 (999999) ∈ lw_u := lw_m3 (List.mem_of_getElem? (i := 57) (by decide +kernel)) rfl
theorem uw_439 : Cond.constantLong RX4 267 (16807) ∈ lw_u := lw_m3 (List.mem_of_getElem? (i := 58) (by decide +kernel)) rfl
theorem uw_440 : Cond.constantLong RX4 269 (2147483647) ∈ lw_u := lw_m3 (List.mem_of_getElem? (i := 59) (by decide +kernel)) rfl
theorem uw_441 : Cond.methodLink RX4 271 yX1_befall ∈ lw_u := lw_m3 (List.mem_of_getElem? (i := 60) (by decide +kernel)) rfl
theorem uw_442 : Cond.instanceMethod yX1_befall ∈ lw_u := lw_m3 (List.mem_of_getElem? (i := 61) (by decide +kernel)) rfl
theorem uw_443 : Cond.selects RX1 yX1_befall yX1_befall ∈ lw_u := lw_m3 (List.mem_of_getElem? (i := 62) (by decide +kernel)) rfl
theorem uw_444 : Cond.code yX1_befall cX1_befall 4 none ∈ lw_u := lw_m3 (List.mem_of_getElem? (i := 63) rfl) rfl
theorem uw_445 : Cond.constantLong RX1 83 (3) ∈ lw_u := lw_m3 (List.mem_of_getElem? (i := 64) (by decide +kernel)) rfl
theorem uw_446 : Cond.constantLong RX1 85 (10) ∈ lw_u := lw_m3 (List.mem_of_getElem? (i := 65) (by decide +kernel)) rfl
theorem uw_447 : Cond.methodLink RX1 87 yX1_addOil ∈ lw_u := lw_m3 (List.mem_of_getElem? (i := 66) (by decide +kernel)) rfl
theorem uw_448 : Cond.methodLink RL 139 yX4_image ∈ lw_u := lw_m3 (List.mem_of_getElem? (i := 67) (by decide +kernel)) rfl
theorem uw_449 : Cond.instanceMethod yX4_image ∈ lw_u := lw_m3 (List.mem_of_getElem? (i := 68) (by decide +kernel)) rfl
theorem uw_450 : Cond.selects RX4 yX4_image yX4_image ∈ lw_u := lw_m3 (List.mem_of_getElem? (i := 69) (by decide +kernel)) rfl
theorem uw_451 : Cond.code yX4_image cX4_image 2 (some .int) ∈ lw_u := lw_m3 (List.mem_of_getElem? (i := 70) rfl) rfl
theorem uw_452 : Cond.methodLink RL 143 yX4_restore ∈ lw_u := lw_m3 (List.mem_of_getElem? (i := 71) (by decide +kernel)) rfl
theorem uw_453 : Cond.instanceMethod yX4_restore ∈ lw_u := lw_m3 (List.mem_of_getElem? (i := 72) (by decide +kernel)) rfl
theorem uw_454 : Cond.selects RX4 yX4_restore yX4_restore ∈ lw_u := lw_m3 (List.mem_of_getElem? (i := 73) (by decide +kernel)) rfl
theorem uw_455 : Cond.code yX4_restore cX4_restore 2 (some .int) ∈ lw_u := lw_m3 (List.mem_of_getElem? (i := 74) rfl) rfl
theorem uw_456 : Cond.methodLink RL 147 yX4_kind ∈ lw_u := lw_m3 (List.mem_of_getElem? (i := 75) (by decide +kernel)) rfl
theorem uw_457 : Cond.instanceMethod yX4_kind ∈ lw_u := lw_m3 (List.mem_of_getElem? (i := 76) (by decide +kernel)) rfl
theorem uw_458 : Cond.selects RX4 yX4_kind yX4_kind ∈ lw_u := lw_m3 (List.mem_of_getElem? (i := 77) (by decide +kernel)) rfl
theorem uw_459 : Cond.code yX4_kind cX4_kind 2 (some .int) ∈ lw_u := lw_m3 (List.mem_of_getElem? (i := 78) rfl) rfl
theorem uw_460 : Cond.methodLink RL 151 yX4_as ∈ lw_u := lw_m3 (List.mem_of_getElem? (i := 79) (by decide +kernel)) rfl
theorem uw_461 : Cond.instanceMethod yX4_as ∈ lw_u := lw_m3 (List.mem_of_getElem? (i := 80) (by decide +kernel)) rfl
theorem uw_462 : Cond.selects RX4 yX4_as yX4_as ∈ lw_u := lw_m3 (List.mem_of_getElem? (i := 81) (by decide +kernel)) rfl
theorem uw_463 : Cond.code yX4_as cX4_as 3 (some .int) ∈ lw_u := lw_m3 (List.mem_of_getElem? (i := 82) rfl) rfl
theorem uw_464 : Cond.methodLink RX4 278 yX4_isOfKind ∈ lw_u := lw_m3 (List.mem_of_getElem? (i := 83) (by decide +kernel)) rfl
theorem uw_465 : Cond.static yX4_isOfKind ∈ lw_u := lw_m3 (List.mem_of_getElem? (i := 84) (by decide +kernel)) rfl
theorem uw_466 : Cond.code yX4_isOfKind cX4_isOfKind 4 (some .boolean) ∈ lw_u := lw_m3 (List.mem_of_getElem? (i := 85) rfl) rfl
theorem uw_467 : Cond.fieldLink RX4 309 "LampLogs" "PARENT" "[I" ∈ lw_u := lw_m3 (List.mem_of_getElem? (i := 86) (by decide +kernel)) rfl
theorem uw_468 : Cond.methodLink RL 155 yX4_ask ∈ lw_u := lw_m3 (List.mem_of_getElem? (i := 88) (by decide +kernel)) rfl
theorem uw_469 : Cond.instanceMethod yX4_ask ∈ lw_u := lw_m3 (List.mem_of_getElem? (i := 89) (by decide +kernel)) rfl
theorem uw_470 : Cond.selects RX4 yX4_ask yX4_ask ∈ lw_u := lw_m3 (List.mem_of_getElem? (i := 90) (by decide +kernel)) rfl
theorem uw_471 : Cond.code yX4_ask cX4_ask 3 (some .int) ∈ lw_u := lw_m3 (List.mem_of_getElem? (i := 91) rfl) rfl
theorem uw_472 : Cond.methodLink RX4 284 yX4_asked ∈ lw_u := lw_m3 (List.mem_of_getElem? (i := 92) (by decide +kernel)) rfl
theorem uw_473 : Cond.instanceMethod yX4_asked ∈ lw_u := lw_m3 (List.mem_of_getElem? (i := 94) (by decide +kernel)) rfl
theorem uw_474 : Cond.code yX4_asked cX4_asked 5 (some .int) ∈ lw_u := lw_m3 (List.mem_of_getElem? (i := 95) rfl) rfl
theorem uw_475 : Cond.fieldLink RX4 312 "LampLogs" "SIZE_BODY" "[I" ∈ lw_u := lw_m3 (List.mem_of_getElem? (i := 96) (by decide +kernel)) rfl
theorem uw_476 : Cond.fieldLink RX4 315 "LampLogs" "MARK_BODY" "[I" ∈ lw_u := lw_m3 (List.mem_of_getElem? (i := 98) (by decide +kernel)) rfl
theorem uw_477 : Cond.methodLink RX4 318 yX4_begun ∈ lw_u := lw_m3 (List.mem_of_getElem? (i := 100) (by decide +kernel)) rfl
theorem uw_478 : Cond.instanceMethod yX4_begun ∈ lw_u := lw_m3 (List.mem_of_getElem? (i := 102) (by decide +kernel)) rfl
theorem uw_479 : Cond.code yX4_begun cX4_begun 5 (some .int) ∈ lw_u := lw_m3 (List.mem_of_getElem? (i := 103) rfl) rfl
theorem uw_480 : Cond.methodLink RX4 321 yX4_leave ∈ lw_u := lw_m3 (List.mem_of_getElem? (i := 104) (by decide +kernel)) rfl
theorem uw_481 : Cond.instanceMethod yX4_leave ∈ lw_u := lw_m3 (List.mem_of_getElem? (i := 106) (by decide +kernel)) rfl
theorem uw_482 : Cond.code yX4_leave cX4_leave 2 none ∈ lw_u := lw_m3 (List.mem_of_getElem? (i := 107) rfl) rfl
theorem uw_483 : Cond.methodLink RL 159 yX4_trace ∈ lw_u := lw_m3 (List.mem_of_getElem? (i := 108) (by decide +kernel)) rfl
theorem uw_484 : Cond.instanceMethod yX4_trace ∈ lw_u := lw_m3 (List.mem_of_getElem? (i := 109) (by decide +kernel)) rfl
theorem uw_485 : Cond.selects RX4 yX4_trace yX4_trace ∈ lw_u := lw_m3 (List.mem_of_getElem? (i := 110) (by decide +kernel)) rfl
theorem uw_486 : Cond.code yX4_trace cX4_trace 2 (some .int) ∈ lw_u := lw_m3 (List.mem_of_getElem? (i := 111) rfl) rfl
theorem uw_487 : Cond.methodLink RL 163 yX4_count ∈ lw_u := lw_m3 (List.mem_of_getElem? (i := 112) (by decide +kernel)) rfl
theorem uw_488 : Cond.instanceMethod yX4_count ∈ lw_u := lw_m3 (List.mem_of_getElem? (i := 113) (by decide +kernel)) rfl
theorem uw_489 : Cond.selects RX4 yX4_count yX4_count ∈ lw_u := lw_m3 (List.mem_of_getElem? (i := 114) (by decide +kernel)) rfl
theorem uw_490 : Cond.code yX4_count cX4_count 2 (some .int) ∈ lw_u := lw_m3 (List.mem_of_getElem? (i := 115) rfl) rfl
theorem uw_491 : Cond.methodLink RX4 288 yX4_rowsThere ∈ lw_u := lw_m3 (List.mem_of_getElem? (i := 116) (by decide +kernel)) rfl
theorem uw_492 : Cond.instanceMethod yX4_rowsThere ∈ lw_u := lw_m3 (List.mem_of_getElem? (i := 118) (by decide +kernel)) rfl
theorem uw_493 : Cond.code yX4_rowsThere cX4_rowsThere 3 (some .int) ∈ lw_u := lw_m3 (List.mem_of_getElem? (i := 119) rfl) rfl
theorem uw_494 : Cond.methodLink RX4 291 yX1_shipsAshore ∈ lw_u := lw_m3 (List.mem_of_getElem? (i := 120) (by decide +kernel)) rfl
theorem uw_495 : Cond.instanceMethod yX1_shipsAshore ∈ lw_u := lw_m3 (List.mem_of_getElem? (i := 121) (by decide +kernel)) rfl
theorem uw_496 : Cond.selects RX1 yX1_shipsAshore yX1_shipsAshore ∈ lw_u := lw_m3 (List.mem_of_getElem? (i := 122) (by decide +kernel)) rfl
theorem uw_497 : Cond.code yX1_shipsAshore cX1_shipsAshore 3 (some .int) ∈ lw_u := lw_m3 (List.mem_of_getElem? (i := 123) rfl) rfl
theorem uw_498 : Cond.methodLink RL 167 yX4_status ∈ lw_u := lw_m3 (List.mem_of_getElem? (i := 124) (by decide +kernel)) rfl
theorem uw_499 : Cond.instanceMethod yX4_status ∈ lw_u := lw_m3 (List.mem_of_getElem? (i := 125) (by decide +kernel)) rfl
theorem uw_500 : Cond.selects RX4 yX4_status yX4_status ∈ lw_u := lw_m3 (List.mem_of_getElem? (i := 126) (by decide +kernel)) rfl
theorem uw_501 : Cond.code yX4_status cX4_status 1 (some .int) ∈ lw_u := lw_m3 (List.mem_of_getElem? (i := 127) rfl) rfl
theorem uw_502 : Cond.classLink RL 10 RX5 ∈ lw_u := lw_m3 (List.mem_of_getElem? (i := 128) (by decide +kernel)) rfl
theorem uw_503 : Cond.instantiable RX5 27 ∈ lw_u := lw_m3 (List.mem_of_getElem? (i := 129) (by decide +kernel)) rfl
theorem uw_504 : Cond.methodLink RL 12 yX5_init ∈ lw_u := lw_m3 (List.mem_of_getElem? (i := 130) (by decide +kernel)) rfl
theorem uw_505 : Cond.instanceMethod yX5_init ∈ lw_u := lw_m3 (List.mem_of_getElem? (i := 131) (by decide +kernel)) rfl
theorem uw_506 : Cond.code yX5_init cX5_init 1 none ∈ lw_u := lw_m3 (List.mem_of_getElem? (i := 132) rfl) rfl
theorem uw_507 : Cond.methodLink RX5 1 objectInit ∈ lw_u := lw_m3 (List.mem_of_getElem? (i := 133) (by decide +kernel)) rfl
theorem uw_508 : Cond.fieldLink RX5 47 "LampLogsModel" "thrown" "I" ∈ lw_u := lw_m3 (List.mem_of_getElem? (i := 134) (by decide +kernel)) rfl
theorem uw_509 : Cond.fieldLink RX5 51 "LampLogsModel" "status" "I" ∈ lw_u := lw_m3 (List.mem_of_getElem? (i := 135) (by decide +kernel)) rfl
theorem uw_510 : Cond.fieldLink RX5 7 "LampLogsModel" "lane" "[I" ∈ lw_u := lw_m3 (List.mem_of_getElem? (i := 136) (by decide +kernel)) rfl
theorem uw_511 : Cond.fieldLink RX5 13 "LampLogsModel" "many" "[I" ∈ lw_u := lw_m3 (List.mem_of_getElem? (i := 137) (by decide +kernel)) rfl
theorem uw_512 : Cond.fieldLink RX5 16 "LampLogsModel" "item" "[I" ∈ lw_u := lw_m3 (List.mem_of_getElem? (i := 138) (by decide +kernel)) rfl
theorem uw_513 : Cond.fieldLink RX5 19 "LampLogsModel" "light" "[I" ∈ lw_u := lw_m3 (List.mem_of_getElem? (i := 139) (by decide +kernel)) rfl
theorem uw_514 : Cond.fieldLink RX5 22 "LampLogsModel" "fresh" "[I" ∈ lw_u := lw_m3 (List.mem_of_getElem? (i := 140) (by decide +kernel)) rfl
theorem uw_515 : Cond.fieldLink RX5 25 "LampLogsModel" "then" "[I" ∈ lw_u := lw_m3 (List.mem_of_getElem? (i := 141) (by decide +kernel)) rfl
theorem uw_516 : Cond.fieldLink RX5 28 "LampLogsModel" "was" "[I" ∈ lw_u := lw_m3 (List.mem_of_getElem? (i := 142) (by decide +kernel)) rfl
theorem uw_517 : Cond.fieldLink RX5 149 "LampLogsModel" "acts" "I" ∈ lw_u := lw_m3 (List.mem_of_getElem? (i := 143) (by decide +kernel)) rfl
theorem uw_518 : Cond.fieldLink RX5 31 "LampLogsModel" "tape" "[I" ∈ lw_u := lw_m3 (List.mem_of_getElem? (i := 144) (by decide +kernel)) rfl
theorem uw_519 : Cond.fieldLink RX5 74 "LampLogsModel" "taped" "I" ∈ lw_u := lw_m3 (List.mem_of_getElem? (i := 145) (by decide +kernel)) rfl
theorem uw_520 : Cond.fieldLink RX5 87 "LampLogsModel" "cursor" "I" ∈ lw_u := lw_m3 (List.mem_of_getElem? (i := 146) (by decide +kernel)) rfl
theorem uw_521 : Cond.fieldLink RX5 81 "LampLogsModel" "start" "I" ∈ lw_u := lw_m3 (List.mem_of_getElem? (i := 147) (by decide +kernel)) rfl
theorem uw_522 : Cond.fieldLink RX5 102 "LampLogsModel" "token" "I" ∈ lw_u := lw_m3 (List.mem_of_getElem? (i := 148) (by decide +kernel)) rfl
theorem uw_523 : Cond.fieldLink RX5 91 "LampLogsModel" "value" "I" ∈ lw_u := lw_m3 (List.mem_of_getElem? (i := 149) (by decide +kernel)) rfl
theorem uw_524 : Cond.fieldLink RX5 78 "LampLogsModel" "fault" "I" ∈ lw_u := lw_m3 (List.mem_of_getElem? (i := 150) (by decide +kernel)) rfl
theorem uw_525 : Cond.fieldLink RX5 84 "LampLogsModel" "faultAt" "I" ∈ lw_u := lw_m3 (List.mem_of_getElem? (i := 151) (by decide +kernel)) rfl
theorem uw_526 : Cond.fieldLink RX5 116 "LampLogsModel" "latest" "I" ∈ lw_u := lw_m3 (List.mem_of_getElem? (i := 152) (by decide +kernel)) rfl
theorem uw_527 : Cond.fieldLink RX5 34 "LampLogsModel" "worth" "[I" ∈ lw_u := lw_m3 (List.mem_of_getElem? (i := 153) (by decide +kernel)) rfl
theorem uw_528 : Cond.fieldLink RX5 232 "LampLogsModel" "setSo" "I" ∈ lw_u := lw_m3 (List.mem_of_getElem? (i := 154) (by decide +kernel)) rfl
theorem uw_529 : Cond.fieldLink RX5 235 "LampLogsModel" "muchSo" "I" ∈ lw_u := lw_m3 (List.mem_of_getElem? (i := 155) (by decide +kernel)) rfl
theorem uw_530 : Cond.fieldLink RX5 238 "LampLogsModel" "leastSo" "I" ∈ lw_u := lw_m3 (List.mem_of_getElem? (i := 156) (by decide +kernel)) rfl
theorem uw_531 : Cond.fieldLink RX5 37 "LampLogsModel" "isKept" "[Z" ∈ lw_u := lw_m3 (List.mem_of_getElem? (i := 157) (by decide +kernel)) rfl
theorem uw_532 : Cond.fieldLink RX5 41 "LampLogsModel" "kept" "[I" ∈ lw_u := lw_m3 (List.mem_of_getElem? (i := 158) (by decide +kernel)) rfl
theorem uw_533 : Cond.fieldLink RX5 44 "LampLogsModel" "trace" "[I" ∈ lw_u := lw_m3 (List.mem_of_getElem? (i := 159) (by decide +kernel)) rfl
theorem uw_534 : Cond.fieldLink RX5 272 "LampLogsModel" "traced" "I" ∈ lw_u := lw_m3 (List.mem_of_getElem? (i := 160) (by decide +kernel)) rfl
theorem uw_535 : Cond.arrayClass .boolean ∈ lw_u := lw_m3 (List.mem_of_getElem? (i := 216) (by decide +kernel)) rfl
theorem uw_536 : Cond.methodLink RL 17 yX5_row ∈ lw_u := lw_m3 (List.mem_of_getElem? (i := 217) (by decide +kernel)) rfl
theorem uw_537 : Cond.instanceMethod yX5_row ∈ lw_u := lw_m3 (List.mem_of_getElem? (i := 218) (by decide +kernel)) rfl
theorem uw_538 : Cond.selects RX5 yX5_row yX5_row ∈ lw_u := lw_m3 (List.mem_of_getElem? (i := 219) (by decide +kernel)) rfl
theorem uw_539 : Cond.code yX5_row cX5_row 5 (some .int) ∈ lw_u := lw_m3 (List.mem_of_getElem? (i := 220) rfl) rfl
theorem uw_540 : Cond.methodLink RX5 61 yX5_isRow ∈ lw_u := lw_m3 (List.mem_of_getElem? (i := 221) (by decide +kernel)) rfl
theorem uw_541 : Cond.static yX5_isRow ∈ lw_u := lw_m3 (List.mem_of_getElem? (i := 222) (by decide +kernel)) rfl
theorem uw_542 : Cond.code yX5_isRow cX5_isRow 1 (some .boolean) ∈ lw_u := lw_m3 (List.mem_of_getElem? (i := 223) rfl) rfl
theorem uw_543 : Cond.constantLong RX5 55 (7) ∈ lw_u := lw_m3 (List.mem_of_getElem? (i := 224) (by decide +kernel)) rfl
theorem uw_544 : Cond.methodLink RX5 57 yX5_in ∈ lw_u := lw_m3 (List.mem_of_getElem? (i := 225) (by decide +kernel)) rfl
theorem uw_545 : Cond.static yX5_in ∈ lw_u := lw_m3 (List.mem_of_getElem? (i := 226) (by decide +kernel)) rfl
theorem uw_546 : Cond.code yX5_in cX5_in 6 (some .boolean) ∈ lw_u := lw_m3 (List.mem_of_getElem? (i := 227) rfl) rfl
theorem uw_547 : Cond.constantLong RX5 65 (2) ∈ lw_u := lw_m3 (List.mem_of_getElem? (i := 228) (by decide +kernel)) rfl
theorem uw_548 : Cond.constant RX5 67 (-1000001) ∈ lw_u := lw_m3 (List.mem_of_getElem? (i := 229) (by decide +kernel)) rfl
theorem uw_549 : Cond.methodLink RX5 68 yX5_finding ∈ lw_u := lw_m3 (List.mem_of_getElem? (i := 230) (by decide +kernel)) rfl
theorem uw_550 : Cond.instanceMethod yX5_finding ∈ lw_u := lw_m3 (List.mem_of_getElem? (i := 232) (by decide +kernel)) rfl
theorem uw_551 : Cond.code yX5_finding cX5_finding 2 (some .int) ∈ lw_u := lw_m3 (List.mem_of_getElem? (i := 233) rfl) rfl
theorem uw_552 : Cond.constant RX5 54 (-1000010) ∈ lw_u := lw_m3 (List.mem_of_getElem? (i := 234) (by decide +kernel)) rfl
theorem uw_553 : Cond.methodLink RL 21 yX5_set ∈ lw_u := lw_m3 (List.mem_of_getElem? (i := 235) (by decide +kernel)) rfl
theorem uw_554 : Cond.instanceMethod yX5_set ∈ lw_u := lw_m3 (List.mem_of_getElem? (i := 236) (by decide +kernel)) rfl
theorem uw_555 : Cond.selects RX5 yX5_set yX5_set ∈ lw_u := lw_m3 (List.mem_of_getElem? (i := 237) (by decide +kernel)) rfl
theorem uw_556 : Cond.code yX5_set cX5_set 4 (some .int) ∈ lw_u := lw_m3 (List.mem_of_getElem? (i := 238) rfl) rfl
theorem uw_557 : Cond.methodLink RL 26 yX5_copy ∈ lw_u := lw_m3 (List.mem_of_getElem? (i := 239) (by decide +kernel)) rfl
theorem uw_558 : Cond.instanceMethod yX5_copy ∈ lw_u := lw_m4 (List.mem_of_getElem? (i := 0) (by decide +kernel)) rfl
theorem uw_559 : Cond.selects RX5 yX5_copy yX5_copy ∈ lw_u := lw_m4 (List.mem_of_getElem? (i := 1) (by decide +kernel)) rfl
theorem uw_560 : Cond.code yX5_copy cX5_copy 9 (some .int) ∈ lw_u := lw_m4 (List.mem_of_getElem? (i := 2) rfl) rfl
theorem uw_561 : Cond.methodLink RL 31 yX5_drop ∈ lw_u := lw_m4 (List.mem_of_getElem? (i := 3) (by decide +kernel)) rfl
theorem uw_562 : Cond.instanceMethod yX5_drop ∈ lw_u := lw_m4 (List.mem_of_getElem? (i := 4) (by decide +kernel)) rfl
theorem uw_563 : Cond.selects RX5 yX5_drop yX5_drop ∈ lw_u := lw_m4 (List.mem_of_getElem? (i := 5) (by decide +kernel)) rfl
theorem uw_564 : Cond.code yX5_drop cX5_drop 2 (some .int) ∈ lw_u := lw_m4 (List.mem_of_getElem? (i := 6) rfl) rfl
theorem uw_565 : Cond.methodLink RL 35 yX5_feed ∈ lw_u := lw_m4 (List.mem_of_getElem? (i := 7) (by decide +kernel)) rfl
theorem uw_566 : Cond.instanceMethod yX5_feed ∈ lw_u := lw_m4 (List.mem_of_getElem? (i := 8) (by decide +kernel)) rfl
theorem uw_567 : Cond.selects RX5 yX5_feed yX5_feed ∈ lw_u := lw_m4 (List.mem_of_getElem? (i := 9) (by decide +kernel)) rfl
theorem uw_568 : Cond.code yX5_feed cX5_feed 2 (some .int) ∈ lw_u := lw_m4 (List.mem_of_getElem? (i := 10) rfl) rfl
theorem uw_569 : Cond.constantLong RX5 72 (255) ∈ lw_u := lw_m4 (List.mem_of_getElem? (i := 11) (by decide +kernel)) rfl
theorem uw_570 : Cond.constant RX5 77 (-1000003) ∈ lw_u := lw_m4 (List.mem_of_getElem? (i := 12) (by decide +kernel)) rfl
theorem uw_571 : Cond.methodLink RL 44 yX5_fault ∈ lw_u := lw_m4 (List.mem_of_getElem? (i := 13) (by decide +kernel)) rfl
theorem uw_572 : Cond.instanceMethod yX5_fault ∈ lw_u := lw_m4 (List.mem_of_getElem? (i := 14) (by decide +kernel)) rfl
theorem uw_573 : Cond.selects RX5 yX5_fault yX5_fault ∈ lw_u := lw_m4 (List.mem_of_getElem? (i := 15) (by decide +kernel)) rfl
theorem uw_574 : Cond.code yX5_fault cX5_fault 1 (some .int) ∈ lw_u := lw_m4 (List.mem_of_getElem? (i := 16) rfl) rfl
theorem uw_575 : Cond.methodLink RL 40 yX5_light ∈ lw_u := lw_m4 (List.mem_of_getElem? (i := 17) (by decide +kernel)) rfl
theorem uw_576 : Cond.instanceMethod yX5_light ∈ lw_u := lw_m4 (List.mem_of_getElem? (i := 18) (by decide +kernel)) rfl
theorem uw_577 : Cond.selects RX5 yX5_light yX5_light ∈ lw_u := lw_m4 (List.mem_of_getElem? (i := 19) (by decide +kernel)) rfl
theorem uw_578 : Cond.code yX5_light cX5_light 2 (some .int) ∈ lw_u := lw_m4 (List.mem_of_getElem? (i := 20) rfl) rfl
theorem uw_579 : Cond.methodLink RX5 132 yX5_begin ∈ lw_u := lw_m4 (List.mem_of_getElem? (i := 21) (by decide +kernel)) rfl
theorem uw_580 : Cond.instanceMethod yX5_begin ∈ lw_u := lw_m4 (List.mem_of_getElem? (i := 23) (by decide +kernel)) rfl
theorem uw_581 : Cond.code yX5_begin cX5_begin 1 none ∈ lw_u := lw_m4 (List.mem_of_getElem? (i := 24) rfl) rfl
theorem uw_582 : Cond.methodLink RX5 109 yX5_nextToken ∈ lw_u := lw_m4 (List.mem_of_getElem? (i := 25) (by decide +kernel)) rfl
theorem uw_583 : Cond.instanceMethod yX5_nextToken ∈ lw_u := lw_m4 (List.mem_of_getElem? (i := 27) (by decide +kernel)) rfl
theorem uw_584 : Cond.code yX5_nextToken cX5_nextToken 1 none ∈ lw_u := lw_m4 (List.mem_of_getElem? (i := 28) rfl) rfl
theorem uw_585 : Cond.constant RX5 90 (-1000000) ∈ lw_u := lw_m4 (List.mem_of_getElem? (i := 29) (by decide +kernel)) rfl
theorem uw_586 : Cond.constantLong RX5 94 (97) ∈ lw_u := lw_m4 (List.mem_of_getElem? (i := 30) (by decide +kernel)) rfl
theorem uw_587 : Cond.constantLong RX5 96 (122) ∈ lw_u := lw_m4 (List.mem_of_getElem? (i := 31) (by decide +kernel)) rfl
theorem uw_588 : Cond.constantLong RX5 98 (48) ∈ lw_u := lw_m4 (List.mem_of_getElem? (i := 32) (by decide +kernel)) rfl
theorem uw_589 : Cond.constantLong RX5 100 (57) ∈ lw_u := lw_m4 (List.mem_of_getElem? (i := 33) (by decide +kernel)) rfl
theorem uw_590 : Cond.methodLink RX5 122 yX5_isLetter ∈ lw_u := lw_m4 (List.mem_of_getElem? (i := 34) (by decide +kernel)) rfl
theorem uw_591 : Cond.instanceMethod yX5_isLetter ∈ lw_u := lw_m4 (List.mem_of_getElem? (i := 36) (by decide +kernel)) rfl
theorem uw_592 : Cond.code yX5_isLetter cX5_isLetter 2 (some .boolean) ∈ lw_u := lw_m4 (List.mem_of_getElem? (i := 37) rfl) rfl
theorem uw_593 : Cond.methodLink RX5 112 yX5_must ∈ lw_u := lw_m4 (List.mem_of_getElem? (i := 38) (by decide +kernel)) rfl
theorem uw_594 : Cond.instanceMethod yX5_must ∈ lw_u := lw_m4 (List.mem_of_getElem? (i := 40) (by decide +kernel)) rfl
theorem uw_595 : Cond.code yX5_must cX5_must 2 none ∈ lw_u := lw_m4 (List.mem_of_getElem? (i := 41) rfl) rfl
theorem uw_596 : Cond.methodLink RX5 105 yX5_bad ∈ lw_u := lw_m4 (List.mem_of_getElem? (i := 42) (by decide +kernel)) rfl
theorem uw_597 : Cond.instanceMethod yX5_bad ∈ lw_u := lw_m4 (List.mem_of_getElem? (i := 44) (by decide +kernel)) rfl
theorem uw_598 : Cond.code yX5_bad cX5_bad 2 none ∈ lw_u := lw_m4 (List.mem_of_getElem? (i := 45) rfl) rfl
theorem uw_599 : Cond.methodLink RX5 125 yX5_number ∈ lw_u := lw_m4 (List.mem_of_getElem? (i := 46) (by decide +kernel)) rfl
theorem uw_600 : Cond.instanceMethod yX5_number ∈ lw_u := lw_m4 (List.mem_of_getElem? (i := 48) (by decide +kernel)) rfl
theorem uw_601 : Cond.code yX5_number cX5_number 4 (some .int) ∈ lw_u := lw_m4 (List.mem_of_getElem? (i := 49) rfl) rfl
theorem uw_602 : Cond.methodLink RX5 129 yX5_mustSign ∈ lw_u := lw_m4 (List.mem_of_getElem? (i := 50) (by decide +kernel)) rfl
theorem uw_603 : Cond.instanceMethod yX5_mustSign ∈ lw_u := lw_m4 (List.mem_of_getElem? (i := 52) (by decide +kernel)) rfl
theorem uw_604 : Cond.code yX5_mustSign cX5_mustSign 2 none ∈ lw_u := lw_m4 (List.mem_of_getElem? (i := 53) rfl) rfl
theorem uw_605 : Cond.methodLink RX5 135 yX5_readFog ∈ lw_u := lw_m4 (List.mem_of_getElem? (i := 54) (by decide +kernel)) rfl
theorem uw_606 : Cond.instanceMethod yX5_readFog ∈ lw_u := lw_m4 (List.mem_of_getElem? (i := 56) (by decide +kernel)) rfl
theorem uw_607 : Cond.code yX5_readFog cX5_readFog 2 none ∈ lw_u := lw_m4 (List.mem_of_getElem? (i := 57) rfl) rfl
theorem uw_608 : Cond.methodLink RX5 138 yX5_isSort ∈ lw_u := lw_m4 (List.mem_of_getElem? (i := 58) (by decide +kernel)) rfl
theorem uw_609 : Cond.instanceMethod yX5_isSort ∈ lw_u := lw_m4 (List.mem_of_getElem? (i := 60) (by decide +kernel)) rfl
theorem uw_610 : Cond.code yX5_isSort cX5_isSort 1 (some .boolean) ∈ lw_u := lw_m4 (List.mem_of_getElem? (i := 61) rfl) rfl
theorem uw_611 : Cond.methodLink RX5 119 yX5_kindBy ∈ lw_u := lw_m4 (List.mem_of_getElem? (i := 62) (by decide +kernel)) rfl
theorem uw_612 : Cond.static yX5_kindBy ∈ lw_u := lw_m4 (List.mem_of_getElem? (i := 63) (by decide +kernel)) rfl
theorem uw_613 : Cond.code yX5_kindBy cX5_kindBy 1 (some .int) ∈ lw_u := lw_m4 (List.mem_of_getElem? (i := 64) rfl) rfl
theorem uw_614 : Cond.methodLink RX5 142 yX5_readShip ∈ lw_u := lw_m4 (List.mem_of_getElem? (i := 65) (by decide +kernel)) rfl
theorem uw_615 : Cond.instanceMethod yX5_readShip ∈ lw_u := lw_m4 (List.mem_of_getElem? (i := 67) (by decide +kernel)) rfl
theorem uw_616 : Cond.code yX5_readShip cX5_readShip 3 none ∈ lw_u := lw_m4 (List.mem_of_getElem? (i := 68) rfl) rfl
theorem uw_617 : Cond.methodLink RX5 145 yX5_failed ∈ lw_u := lw_m4 (List.mem_of_getElem? (i := 69) (by decide +kernel)) rfl
theorem uw_618 : Cond.instanceMethod yX5_failed ∈ lw_u := lw_m4 (List.mem_of_getElem? (i := 71) (by decide +kernel)) rfl
theorem uw_619 : Cond.code yX5_failed cX5_failed 1 (some .boolean) ∈ lw_u := lw_m4 (List.mem_of_getElem? (i := 72) rfl) rfl
theorem uw_620 : Cond.constant RX5 148 (-1000100) ∈ lw_u := lw_m4 (List.mem_of_getElem? (i := 73) (by decide +kernel)) rfl
theorem uw_621 : Cond.methodLink RL 52 yX5_watches ∈ lw_u := lw_m4 (List.mem_of_getElem? (i := 74) (by decide +kernel)) rfl
theorem uw_622 : Cond.instanceMethod yX5_watches ∈ lw_u := lw_m4 (List.mem_of_getElem? (i := 75) (by decide +kernel)) rfl
theorem uw_623 : Cond.selects RX5 yX5_watches yX5_watches ∈ lw_u := lw_m4 (List.mem_of_getElem? (i := 76) (by decide +kernel)) rfl
theorem uw_624 : Cond.code yX5_watches cX5_watches 3 (some .int) ∈ lw_u := lw_m4 (List.mem_of_getElem? (i := 77) rfl) rfl
theorem uw_625 : Cond.methodLink RX5 177 yX5_isThere ∈ lw_u := lw_m4 (List.mem_of_getElem? (i := 78) (by decide +kernel)) rfl
theorem uw_626 : Cond.instanceMethod yX5_isThere ∈ lw_u := lw_m4 (List.mem_of_getElem? (i := 80) (by decide +kernel)) rfl
theorem uw_627 : Cond.code yX5_isThere cX5_isThere 1 (some .boolean) ∈ lw_u := lw_m4 (List.mem_of_getElem? (i := 81) rfl) rfl
theorem uw_628 : Cond.constant RX5 180 (-1000002) ∈ lw_u := lw_m4 (List.mem_of_getElem? (i := 82) (by decide +kernel)) rfl
theorem uw_629 : Cond.constantLong RX5 181 (24) ∈ lw_u := lw_m4 (List.mem_of_getElem? (i := 83) (by decide +kernel)) rfl
theorem uw_630 : Cond.methodLink RX5 183 yX5_keep ∈ lw_u := lw_m4 (List.mem_of_getElem? (i := 84) (by decide +kernel)) rfl
theorem uw_631 : Cond.instanceMethod yX5_keep ∈ lw_u := lw_m4 (List.mem_of_getElem? (i := 86) (by decide +kernel)) rfl
theorem uw_632 : Cond.code yX5_keep cX5_keep 2 none ∈ lw_u := lw_m4 (List.mem_of_getElem? (i := 87) rfl) rfl
theorem uw_633 : Cond.methodLink RX5 173 yX5_watchOf ∈ lw_u := lw_m4 (List.mem_of_getElem? (i := 88) (by decide +kernel)) rfl
theorem uw_634 : Cond.static yX5_watchOf ∈ lw_u := lw_m4 (List.mem_of_getElem? (i := 89) (by decide +kernel)) rfl
theorem uw_635 : Cond.code yX5_watchOf cX5_watchOf 2 none ∈ lw_u := lw_m4 (List.mem_of_getElem? (i := 90) rfl) rfl
theorem uw_636 : Cond.methodLink RX5 170 yX5_nextCell ∈ lw_u := lw_m4 (List.mem_of_getElem? (i := 91) (by decide +kernel)) rfl
theorem uw_637 : Cond.static yX5_nextCell ∈ lw_u := lw_m4 (List.mem_of_getElem? (i := 92) (by decide +kernel)) rfl
theorem uw_638 : Cond.code yX5_nextCell cX5_nextCell 5 (some .int) ∈ lw_u := lw_m4 (List.mem_of_getElem? (i := 93) rfl) rfl
theorem uw_639 : Cond.methodLink RX5 152 yX5_of ∈ lw_u := lw_m4 (List.mem_of_getElem? (i := 94) (by decide +kernel)) rfl
theorem uw_640 : Cond.static yX5_of ∈ lw_u := lw_m4 (List.mem_of_getElem? (i := 95) (by decide +kernel)) rfl
theorem uw_641 : Cond.code yX5_of cX5_of 3 (some .int) ∈ lw_u := lw_m4 (List.mem_of_getElem? (i := 96) rfl) rfl
theorem uw_642 : Cond.methodLink RX5 156 yX5_thickOf ∈ lw_u := lw_m4 (List.mem_of_getElem? (i := 97) (by decide +kernel)) rfl
theorem uw_643 : Cond.static yX5_thickOf ∈ lw_u := lw_m4 (List.mem_of_getElem? (i := 98) (by decide +kernel)) rfl
theorem uw_644 : Cond.code yX5_thickOf cX5_thickOf 2 (some .int) ∈ lw_u := lw_m4 (List.mem_of_getElem? (i := 99) rfl) rfl
theorem uw_645 : Cond.methodLink RX5 186 yX5_differ ∈ lw_u := lw_m4 (List.mem_of_getElem? (i := 100) (by decide +kernel)) rfl
theorem uw_646 : Cond.static yX5_differ ∈ lw_u := lw_m4 (List.mem_of_getElem? (i := 101) (by decide +kernel)) rfl
theorem uw_647 : Cond.code yX5_differ cX5_differ 1 (some .int) ∈ lw_u := lw_m4 (List.mem_of_getElem? (i := 102) rfl) rfl
theorem uw_648 : Cond.methodLink RX5 167 yX5_seenBy ∈ lw_u := lw_m4 (List.mem_of_getElem? (i := 103) (by decide +kernel)) rfl
theorem uw_649 : Cond.static yX5_seenBy ∈ lw_u := lw_m4 (List.mem_of_getElem? (i := 104) (by decide +kernel)) rfl
theorem uw_650 : Cond.code yX5_seenBy cX5_seenBy 4 (some .int) ∈ lw_u := lw_m4 (List.mem_of_getElem? (i := 105) rfl) rfl
theorem uw_651 : Cond.methodLink RX5 160 yX5_loggedOf ∈ lw_u := lw_m4 (List.mem_of_getElem? (i := 106) (by decide +kernel)) rfl
theorem uw_652 : Cond.static yX5_loggedOf ∈ lw_u := lw_m4 (List.mem_of_getElem? (i := 107) (by decide +kernel)) rfl
theorem uw_653 : Cond.code yX5_loggedOf cX5_loggedOf 6 (some .int) ∈ lw_u := lw_m4 (List.mem_of_getElem? (i := 108) rfl) rfl
theorem uw_654 : Cond.methodLink RX5 163 yX5_has ∈ lw_u := lw_m4 (List.mem_of_getElem? (i := 109) (by decide +kernel)) rfl
theorem uw_655 : Cond.static yX5_has ∈ lw_u := lw_m4 (List.mem_of_getElem? (i := 110) (by decide +kernel)) rfl
theorem uw_656 : Cond.code yX5_has cX5_has 2 (some .boolean) ∈ lw_u := lw_m4 (List.mem_of_getElem? (i := 111) rfl) rfl
theorem uw_657 : Cond.methodLink RL 56 yX5_pour ∈ lw_u := lw_m4 (List.mem_of_getElem? (i := 112) (by decide +kernel)) rfl
theorem uw_658 : Cond.instanceMethod yX5_pour ∈ lw_u := lw_m4 (List.mem_of_getElem? (i := 113) (by decide +kernel)) rfl
theorem uw_659 : Cond.selects RX5 yX5_pour yX5_pour ∈ lw_u := lw_m4 (List.mem_of_getElem? (i := 114) (by decide +kernel)) rfl
theorem uw_660 : Cond.code yX5_pour cX5_pour 2 (some .int) ∈ lw_u := lw_m4 (List.mem_of_getElem? (i := 115) rfl) rfl
theorem uw_661 : Cond.constantLong RX5 190 (60) ∈ lw_u := lw_m4 (List.mem_of_getElem? (i := 116) (by decide +kernel)) rfl
theorem uw_662 : Cond.methodLink RX5 192 yX5_pourInto ∈ lw_u := lw_m4 (List.mem_of_getElem? (i := 117) (by decide +kernel)) rfl
theorem uw_663 : Cond.static yX5_pourInto ∈ lw_u := lw_m4 (List.mem_of_getElem? (i := 118) (by decide +kernel)) rfl
theorem uw_664 : Cond.code yX5_pourInto cX5_pourInto 2 none ∈ lw_u := lw_m4 (List.mem_of_getElem? (i := 119) rfl) rfl
theorem uw_665 : Cond.methodLink RL 61 yX5_fog ∈ lw_u := lw_m4 (List.mem_of_getElem? (i := 120) (by decide +kernel)) rfl
theorem uw_666 : Cond.instanceMethod yX5_fog ∈ lw_u := lw_m4 (List.mem_of_getElem? (i := 121) (by decide +kernel)) rfl
theorem uw_667 : Cond.selects RX5 yX5_fog yX5_fog ∈ lw_u := lw_m4 (List.mem_of_getElem? (i := 122) (by decide +kernel)) rfl
theorem uw_668 : Cond.code yX5_fog cX5_fog 4 (some .int) ∈ lw_u := lw_m4 (List.mem_of_getElem? (i := 123) rfl) rfl
theorem uw_669 : Cond.methodLink RX5 196 yX5_isFog ∈ lw_u := lw_m4 (List.mem_of_getElem? (i := 124) (by decide +kernel)) rfl
theorem uw_670 : Cond.instanceMethod yX5_isFog ∈ lw_u := lw_m4 (List.mem_of_getElem? (i := 126) (by decide +kernel)) rfl
theorem uw_671 : Cond.code yX5_isFog cX5_isFog 2 (some .boolean) ∈ lw_u := lw_m4 (List.mem_of_getElem? (i := 127) rfl) rfl
theorem uw_672 : Cond.constantLong RX5 199 (9) ∈ lw_u := lw_m4 (List.mem_of_getElem? (i := 128) (by decide +kernel)) rfl
theorem uw_673 : Cond.methodLink RL 65 yX5_eyes ∈ lw_u := lw_m4 (List.mem_of_getElem? (i := 129) (by decide +kernel)) rfl
theorem uw_674 : Cond.instanceMethod yX5_eyes ∈ lw_u := lw_m4 (List.mem_of_getElem? (i := 130) (by decide +kernel)) rfl
theorem uw_675 : Cond.selects RX5 yX5_eyes yX5_eyes ∈ lw_u := lw_m4 (List.mem_of_getElem? (i := 131) (by decide +kernel)) rfl
theorem uw_676 : Cond.code yX5_eyes cX5_eyes 3 (some .int) ∈ lw_u := lw_m4 (List.mem_of_getElem? (i := 132) rfl) rfl
theorem uw_677 : Cond.constantLong RX5 201 (12) ∈ lw_u := lw_m4 (List.mem_of_getElem? (i := 133) (by decide +kernel)) rfl
theorem uw_678 : Cond.methodLink RL 69 yX5_move ∈ lw_u := lw_m4 (List.mem_of_getElem? (i := 134) (by decide +kernel)) rfl
theorem uw_679 : Cond.instanceMethod yX5_move ∈ lw_u := lw_m4 (List.mem_of_getElem? (i := 135) (by decide +kernel)) rfl
theorem uw_680 : Cond.selects RX5 yX5_move yX5_move ∈ lw_u := lw_m4 (List.mem_of_getElem? (i := 136) (by decide +kernel)) rfl
theorem uw_681 : Cond.code yX5_move cX5_move 4 (some .int) ∈ lw_u := lw_m4 (List.mem_of_getElem? (i := 137) rfl) rfl
theorem uw_682 : Cond.methodLink RX5 203 yX5_isShip ∈ lw_u := lw_m4 (List.mem_of_getElem? (i := 138) (by decide +kernel)) rfl
theorem uw_683 : Cond.instanceMethod yX5_isShip ∈ lw_u := lw_m4 (List.mem_of_getElem? (i := 140) (by decide +kernel)) rfl
theorem uw_684 : Cond.code yX5_isShip cX5_isShip 2 (some .boolean) ∈ lw_u := lw_m4 (List.mem_of_getElem? (i := 141) rfl) rfl
theorem uw_685 : Cond.methodLink RX5 206 yX5_isCell ∈ lw_u := lw_m4 (List.mem_of_getElem? (i := 142) (by decide +kernel)) rfl
theorem uw_686 : Cond.instanceMethod yX5_isCell ∈ lw_u := lw_m4 (List.mem_of_getElem? (i := 144) (by decide +kernel)) rfl
theorem uw_687 : Cond.code yX5_isCell cX5_isCell 2 (some .boolean) ∈ lw_u := lw_m4 (List.mem_of_getElem? (i := 145) rfl) rfl
theorem uw_688 : Cond.methodLink RL 48 yX5_undo ∈ lw_u := lw_m4 (List.mem_of_getElem? (i := 146) (by decide +kernel)) rfl
theorem uw_689 : Cond.instanceMethod yX5_undo ∈ lw_u := lw_m4 (List.mem_of_getElem? (i := 147) (by decide +kernel)) rfl
theorem uw_690 : Cond.selects RX5 yX5_undo yX5_undo ∈ lw_u := lw_m4 (List.mem_of_getElem? (i := 148) (by decide +kernel)) rfl
theorem uw_691 : Cond.code yX5_undo cX5_undo 2 (some .int) ∈ lw_u := lw_m4 (List.mem_of_getElem? (i := 149) rfl) rfl
theorem uw_692 : Cond.methodLink RL 73 yX5_ship ∈ lw_u := lw_m4 (List.mem_of_getElem? (i := 150) (by decide +kernel)) rfl
theorem uw_693 : Cond.instanceMethod yX5_ship ∈ lw_u := lw_m4 (List.mem_of_getElem? (i := 151) (by decide +kernel)) rfl
theorem uw_694 : Cond.selects RX5 yX5_ship yX5_ship ∈ lw_u := lw_m4 (List.mem_of_getElem? (i := 152) (by decide +kernel)) rfl
theorem uw_695 : Cond.code yX5_ship cX5_ship 3 (some .int) ∈ lw_u := lw_m4 (List.mem_of_getElem? (i := 153) rfl) rfl
theorem uw_696 : Cond.methodLink RL 77 yX5_stand ∈ lw_u := lw_m4 (List.mem_of_getElem? (i := 154) (by decide +kernel)) rfl
theorem uw_697 : Cond.instanceMethod yX5_stand ∈ lw_u := lw_m4 (List.mem_of_getElem? (i := 155) (by decide +kernel)) rfl
theorem uw_698 : Cond.selects RX5 yX5_stand yX5_stand ∈ lw_u := lw_m4 (List.mem_of_getElem? (i := 156) (by decide +kernel)) rfl
theorem uw_699 : Cond.code yX5_stand cX5_stand 2 (some .int) ∈ lw_u := lw_m4 (List.mem_of_getElem? (i := 157) rfl) rfl
theorem uw_700 : Cond.methodLink RL 81 yX5_thick ∈ lw_u := lw_m4 (List.mem_of_getElem? (i := 158) (by decide +kernel)) rfl
theorem uw_701 : Cond.instanceMethod yX5_thick ∈ lw_u := lw_m4 (List.mem_of_getElem? (i := 159) (by decide +kernel)) rfl
theorem uw_702 : Cond.selects RX5 yX5_thick yX5_thick ∈ lw_u := lw_m4 (List.mem_of_getElem? (i := 160) (by decide +kernel)) rfl
theorem uw_703 : Cond.code yX5_thick cX5_thick 2 (some .int) ∈ lw_u := lw_m4 (List.mem_of_getElem? (i := 161) rfl) rfl
theorem uw_704 : Cond.methodLink RL 85 yX5_ahead ∈ lw_u := lw_m4 (List.mem_of_getElem? (i := 162) (by decide +kernel)) rfl
theorem uw_705 : Cond.instanceMethod yX5_ahead ∈ lw_u := lw_m4 (List.mem_of_getElem? (i := 163) (by decide +kernel)) rfl
theorem uw_706 : Cond.selects RX5 yX5_ahead yX5_ahead ∈ lw_u := lw_m4 (List.mem_of_getElem? (i := 164) (by decide +kernel)) rfl
theorem uw_707 : Cond.code yX5_ahead cX5_ahead 4 (some .int) ∈ lw_u := lw_m4 (List.mem_of_getElem? (i := 165) rfl) rfl
theorem uw_708 : Cond.methodLink RX5 209 yX5_layThen ∈ lw_u := lw_m4 (List.mem_of_getElem? (i := 166) (by decide +kernel)) rfl
theorem uw_709 : Cond.instanceMethod yX5_layThen ∈ lw_u := lw_m4 (List.mem_of_getElem? (i := 168) (by decide +kernel)) rfl
theorem uw_710 : Cond.code yX5_layThen cX5_layThen 2 none ∈ lw_u := lw_m4 (List.mem_of_getElem? (i := 169) rfl) rfl
theorem uw_711 : Cond.methodLink RX5 212 yX5_watchesOf ∈ lw_u := lw_m4 (List.mem_of_getElem? (i := 170) (by decide +kernel)) rfl
theorem uw_712 : Cond.static yX5_watchesOf ∈ lw_u := lw_m4 (List.mem_of_getElem? (i := 171) (by decide +kernel)) rfl
theorem uw_713 : Cond.code yX5_watchesOf cX5_watchesOf 3 none ∈ lw_u := lw_m4 (List.mem_of_getElem? (i := 172) rfl) rfl
theorem uw_714 : Cond.methodLink RL 89 yX5_written ∈ lw_u := lw_m4 (List.mem_of_getElem? (i := 173) (by decide +kernel)) rfl
theorem uw_715 : Cond.instanceMethod yX5_written ∈ lw_u := lw_m4 (List.mem_of_getElem? (i := 174) (by decide +kernel)) rfl
theorem uw_716 : Cond.selects RX5 yX5_written yX5_written ∈ lw_u := lw_m4 (List.mem_of_getElem? (i := 175) (by decide +kernel)) rfl
theorem uw_717 : Cond.code yX5_written cX5_written 3 (some .int) ∈ lw_u := lw_m4 (List.mem_of_getElem? (i := 176) rfl) rfl
theorem uw_718 : Cond.constantLong RX5 215 (3) ∈ lw_u := lw_m4 (List.mem_of_getElem? (i := 177) (by decide +kernel)) rfl
theorem uw_719 : Cond.methodLink RL 93 yX5_when ∈ lw_u := lw_m4 (List.mem_of_getElem? (i := 178) (by decide +kernel)) rfl
theorem uw_720 : Cond.instanceMethod yX5_when ∈ lw_u := lw_m4 (List.mem_of_getElem? (i := 179) (by decide +kernel)) rfl
theorem uw_721 : Cond.selects RX5 yX5_when yX5_when ∈ lw_u := lw_m4 (List.mem_of_getElem? (i := 180) (by decide +kernel)) rfl
theorem uw_722 : Cond.code yX5_when cX5_when 4 (some .int) ∈ lw_u := lw_m4 (List.mem_of_getElem? (i := 181) rfl) rfl
theorem uw_723 : Cond.methodLink RL 97 yX5_quarrel ∈ lw_u := lw_m4 (List.mem_of_getElem? (i := 182) (by decide +kernel)) rfl
theorem uw_724 : Cond.instanceMethod yX5_quarrel ∈ lw_u := lw_m4 (List.mem_of_getElem? (i := 183) (by decide +kernel)) rfl
theorem uw_725 : Cond.selects RX5 yX5_quarrel yX5_quarrel ∈ lw_u := lw_m4 (List.mem_of_getElem? (i := 184) (by decide +kernel)) rfl
theorem uw_726 : Cond.code yX5_quarrel cX5_quarrel 5 (some .int) ∈ lw_u := lw_m4 (List.mem_of_getElem? (i := 185) rfl) rfl
theorem uw_727 : Cond.methodLink RL 101 yX5_pours ∈ lw_u := lw_m4 (List.mem_of_getElem? (i := 186) (by decide +kernel)) rfl
theorem uw_728 : Cond.instanceMethod yX5_pours ∈ lw_u := lw_m4 (List.mem_of_getElem? (i := 187) (by decide +kernel)) rfl
theorem uw_729 : Cond.selects RX5 yX5_pours yX5_pours ∈ lw_u := lw_m4 (List.mem_of_getElem? (i := 188) (by decide +kernel)) rfl
theorem uw_730 : Cond.code yX5_pours cX5_pours 4 (some .int) ∈ lw_u := lw_m4 (List.mem_of_getElem? (i := 189) rfl) rfl
theorem uw_731 : Cond.constantLong RX5 217 (30) ∈ lw_u := lw_m4 (List.mem_of_getElem? (i := 190) (by decide +kernel)) rfl
theorem uw_732 : Cond.methodLink RL 105 yX5_lift ∈ lw_u := lw_m4 (List.mem_of_getElem? (i := 191) (by decide +kernel)) rfl
theorem uw_733 : Cond.instanceMethod yX5_lift ∈ lw_u := lw_m4 (List.mem_of_getElem? (i := 192) (by decide +kernel)) rfl
theorem uw_734 : Cond.selects RX5 yX5_lift yX5_lift ∈ lw_u := lw_m4 (List.mem_of_getElem? (i := 193) (by decide +kernel)) rfl
theorem uw_735 : Cond.code yX5_lift cX5_lift 8 (some .int) ∈ lw_u := lw_m4 (List.mem_of_getElem? (i := 194) rfl) rfl
theorem uw_736 : Cond.methodLink RX5 219 yX5_bits ∈ lw_u := lw_m4 (List.mem_of_getElem? (i := 195) (by decide +kernel)) rfl
theorem uw_737 : Cond.static yX5_bits ∈ lw_u := lw_m4 (List.mem_of_getElem? (i := 196) (by decide +kernel)) rfl
theorem uw_738 : Cond.code yX5_bits cX5_bits 3 (some .int) ∈ lw_u := lw_m4 (List.mem_of_getElem? (i := 197) rfl) rfl
theorem uw_739 : Cond.methodLink RL 109 yX5_sent ∈ lw_u := lw_m4 (List.mem_of_getElem? (i := 198) (by decide +kernel)) rfl
theorem uw_740 : Cond.instanceMethod yX5_sent ∈ lw_u := lw_m4 (List.mem_of_getElem? (i := 199) (by decide +kernel)) rfl
theorem uw_741 : Cond.selects RX5 yX5_sent yX5_sent ∈ lw_u := lw_m4 (List.mem_of_getElem? (i := 200) (by decide +kernel)) rfl
theorem uw_742 : Cond.code yX5_sent cX5_sent 5 (some .int) ∈ lw_u := lw_m4 (List.mem_of_getElem? (i := 201) rfl) rfl
theorem uw_743 : Cond.methodLink RL 113 yX5_share ∈ lw_u := lw_m4 (List.mem_of_getElem? (i := 202) (by decide +kernel)) rfl
theorem uw_744 : Cond.instanceMethod yX5_share ∈ lw_u := lw_m4 (List.mem_of_getElem? (i := 203) (by decide +kernel)) rfl
theorem uw_745 : Cond.selects RX5 yX5_share yX5_share ∈ lw_u := lw_m4 (List.mem_of_getElem? (i := 204) (by decide +kernel)) rfl
theorem uw_746 : Cond.code yX5_share cX5_share 7 (some .int) ∈ lw_u := lw_m4 (List.mem_of_getElem? (i := 205) rfl) rfl
theorem uw_747 : Cond.constantLong RX5 222 (999) ∈ lw_u := lw_m4 (List.mem_of_getElem? (i := 206) (by decide +kernel)) rfl
theorem uw_748 : Cond.methodLink RL 117 yX5_byTurns ∈ lw_u := lw_m4 (List.mem_of_getElem? (i := 207) (by decide +kernel)) rfl
theorem uw_749 : Cond.instanceMethod yX5_byTurns ∈ lw_u := lw_m4 (List.mem_of_getElem? (i := 208) (by decide +kernel)) rfl
theorem uw_750 : Cond.selects RX5 yX5_byTurns yX5_byTurns ∈ lw_u := lw_m4 (List.mem_of_getElem? (i := 209) (by decide +kernel)) rfl
theorem uw_751 : Cond.code yX5_byTurns cX5_byTurns 8 (some .int) ∈ lw_u := lw_m4 (List.mem_of_getElem? (i := 210) rfl) rfl
theorem uw_752 : Cond.constantLong RX5 224 (4) ∈ lw_u := lw_m4 (List.mem_of_getElem? (i := 211) (by decide +kernel)) rfl
theorem uw_753 : Cond.constantLong RX5 226 (20) ∈ lw_u := lw_m4 (List.mem_of_getElem? (i := 212) (by decide +kernel)) rfl
theorem uw_754 : Cond.methodLink RX5 228 yX5_afterTurns ∈ lw_u := lw_m4 (List.mem_of_getElem? (i := 213) (by decide +kernel)) rfl
theorem uw_755 : Cond.instanceMethod yX5_afterTurns ∈ lw_u := lw_m4 (List.mem_of_getElem? (i := 215) (by decide +kernel)) rfl
theorem uw_756 : Cond.code yX5_afterTurns cX5_afterTurns 5 (some .int) ∈ lw_u := lw_m4 (List.mem_of_getElem? (i := 216) rfl) rfl
theorem uw_757 : Cond.methodLink RL 121 yX5_who ∈ lw_u := lw_m4 (List.mem_of_getElem? (i := 217) (by decide +kernel)) rfl
theorem uw_758 : Cond.instanceMethod yX5_who ∈ lw_u := lw_m4 (List.mem_of_getElem? (i := 218) (by decide +kernel)) rfl
theorem uw_759 : Cond.selects RX5 yX5_who yX5_who ∈ lw_u := lw_m4 (List.mem_of_getElem? (i := 219) (by decide +kernel)) rfl
theorem uw_760 : Cond.code yX5_who cX5_who 7 (some .int) ∈ lw_u := lw_m4 (List.mem_of_getElem? (i := 220) rfl) rfl
theorem uw_761 : Cond.methodLink RX5 245 yX5_isMany ∈ lw_u := lw_m4 (List.mem_of_getElem? (i := 221) (by decide +kernel)) rfl
theorem uw_762 : Cond.static yX5_isMany ∈ lw_u := lw_m4 (List.mem_of_getElem? (i := 222) (by decide +kernel)) rfl
theorem uw_763 : Cond.code yX5_isMany cX5_isMany 2 (some .boolean) ∈ lw_u := lw_m4 (List.mem_of_getElem? (i := 223) rfl) rfl
theorem uw_764 : Cond.methodLink RX5 248 yX5_rowFound ∈ lw_u := lw_m4 (List.mem_of_getElem? (i := 224) (by decide +kernel)) rfl
theorem uw_765 : Cond.instanceMethod yX5_rowFound ∈ lw_u := lw_m4 (List.mem_of_getElem? (i := 226) (by decide +kernel)) rfl
theorem uw_766 : Cond.code yX5_rowFound cX5_rowFound 4 (some .int) ∈ lw_u := lw_m4 (List.mem_of_getElem? (i := 227) rfl) rfl
theorem uw_767 : Cond.methodLink RX5 251 yX5_tryAll ∈ lw_u := lw_m4 (List.mem_of_getElem? (i := 228) (by decide +kernel)) rfl
theorem uw_768 : Cond.instanceMethod yX5_tryAll ∈ lw_u := lw_m4 (List.mem_of_getElem? (i := 230) (by decide +kernel)) rfl
theorem uw_769 : Cond.code yX5_tryAll cX5_tryAll 8 none ∈ lw_u := lw_m4 (List.mem_of_getElem? (i := 231) rfl) rfl
theorem uw_770 : Cond.methodLink RX5 241 yX5_isSo ∈ lw_u := lw_m4 (List.mem_of_getElem? (i := 232) (by decide +kernel)) rfl
theorem uw_771 : Cond.instanceMethod yX5_isSo ∈ lw_u := lw_m4 (List.mem_of_getElem? (i := 234) (by decide +kernel)) rfl
theorem uw_772 : Cond.code yX5_isSo cX5_isSo 6 (some .boolean) ∈ lw_u := lw_m4 (List.mem_of_getElem? (i := 235) rfl) rfl
theorem uw_773 : Cond.methodLink RL 125 yX5_fogs ∈ lw_u := lw_m4 (List.mem_of_getElem? (i := 236) (by decide +kernel)) rfl
theorem uw_774 : Cond.instanceMethod yX5_fogs ∈ lw_u := lw_m4 (List.mem_of_getElem? (i := 237) (by decide +kernel)) rfl
theorem uw_775 : Cond.selects RX5 yX5_fogs yX5_fogs ∈ lw_u := lw_m4 (List.mem_of_getElem? (i := 238) (by decide +kernel)) rfl
theorem uw_776 : Cond.code yX5_fogs cX5_fogs 7 (some .int) ∈ lw_u := lw_m4 (List.mem_of_getElem? (i := 239) rfl) rfl
theorem uw_777 : Cond.methodLink RL 129 yX5_sights ∈ lw_u := lw_m5 (List.mem_of_getElem? (i := 0) (by decide +kernel)) rfl
theorem uw_778 : Cond.instanceMethod yX5_sights ∈ lw_u := lw_m5 (List.mem_of_getElem? (i := 1) (by decide +kernel)) rfl
theorem uw_779 : Cond.selects RX5 yX5_sights yX5_sights ∈ lw_u := lw_m5 (List.mem_of_getElem? (i := 2) (by decide +kernel)) rfl
theorem uw_780 : Cond.code yX5_sights cX5_sights 7 (some .int) ∈ lw_u := lw_m5 (List.mem_of_getElem? (i := 3) rfl) rfl
theorem uw_781 : Cond.methodLink RL 134 yX5_fair ∈ lw_u := lw_m5 (List.mem_of_getElem? (i := 4) (by decide +kernel)) rfl
theorem uw_782 : Cond.instanceMethod yX5_fair ∈ lw_u := lw_m5 (List.mem_of_getElem? (i := 5) (by decide +kernel)) rfl
theorem uw_783 : Cond.selects RX5 yX5_fair yX5_fair ∈ lw_u := lw_m5 (List.mem_of_getElem? (i := 6) (by decide +kernel)) rfl
theorem uw_784 : Cond.code yX5_fair cX5_fair 14 (some .long) ∈ lw_u := lw_m5 (List.mem_of_getElem? (i := 7) rfl) rfl
theorem uw_785 : Cond.constantLong RX5 255 (-1000002) ∈ lw_u := lw_m5 (List.mem_of_getElem? (i := 8) (by decide +kernel)) rfl
theorem uw_786 : Cond.constantLong RX5 257 (10) ∈ lw_u := lw_m5 (List.mem_of_getElem? (i := 9) (by decide +kernel)) rfl
theorem uw_787 : Cond.constantLong RX5 259 (-1000001) ∈ lw_u := lw_m5 (List.mem_of_getElem? (i := 10) (by decide +kernel)) rfl
theorem uw_788 : Cond.methodLink RL 138 yX5_drawn ∈ lw_u := lw_m5 (List.mem_of_getElem? (i := 11) (by decide +kernel)) rfl
theorem uw_789 : Cond.instanceMethod yX5_drawn ∈ lw_u := lw_m5 (List.mem_of_getElem? (i := 12) (by decide +kernel)) rfl
theorem uw_790 : Cond.selects RX5 yX5_drawn yX5_drawn ∈ lw_u := lw_m5 (List.mem_of_getElem? (i := 13) (by decide +kernel)) rfl
theorem uw_791 : Cond.code yX5_drawn cX5_drawn 9 (some .int) ∈ lw_u := lw_m5 (List.mem_of_getElem? (i := 14) rfl) rfl
theorem uw_792 : Cond.constantLong RX5 261 (999999) ∈ lw_u := lw_m5 (List.mem_of_getElem? (i := 15) (by decide +kernel)) rfl
theorem uw_793 : Cond.constantLong RX5 263 (16807) ∈ lw_u := lw_m5 (List.mem_of_getElem? (i := 16) (by decide +kernel)) rfl
theorem uw_794 : Cond.constantLong RX5 265 (2147483647) ∈ lw_u := lw_m5 (List.mem_of_getElem? (i := 17) (by decide +kernel)) rfl
theorem uw_795 : Cond.methodLink RL 142 yX5_image ∈ lw_u := lw_m5 (List.mem_of_getElem? (i := 18) (by decide +kernel)) rfl
theorem uw_796 : Cond.instanceMethod yX5_image ∈ lw_u := lw_m5 (List.mem_of_getElem? (i := 19) (by decide +kernel)) rfl
theorem uw_797 : Cond.selects RX5 yX5_image yX5_image ∈ lw_u := lw_m5 (List.mem_of_getElem? (i := 20) (by decide +kernel)) rfl
theorem uw_798 : Cond.code yX5_image cX5_image 3 (some .int) ∈ lw_u := lw_m5 (List.mem_of_getElem? (i := 21) rfl) rfl
theorem uw_799 : Cond.methodLink RL 146 yX5_restore ∈ lw_u := lw_m5 (List.mem_of_getElem? (i := 22) (by decide +kernel)) rfl
theorem uw_800 : Cond.instanceMethod yX5_restore ∈ lw_u := lw_m5 (List.mem_of_getElem? (i := 23) (by decide +kernel)) rfl
theorem uw_801 : Cond.selects RX5 yX5_restore yX5_restore ∈ lw_u := lw_m5 (List.mem_of_getElem? (i := 24) (by decide +kernel)) rfl
theorem uw_802 : Cond.code yX5_restore cX5_restore 3 (some .int) ∈ lw_u := lw_m5 (List.mem_of_getElem? (i := 25) rfl) rfl
theorem uw_803 : Cond.methodLink RL 150 yX5_kind ∈ lw_u := lw_m5 (List.mem_of_getElem? (i := 26) (by decide +kernel)) rfl
theorem uw_804 : Cond.instanceMethod yX5_kind ∈ lw_u := lw_m5 (List.mem_of_getElem? (i := 27) (by decide +kernel)) rfl
theorem uw_805 : Cond.selects RX5 yX5_kind yX5_kind ∈ lw_u := lw_m5 (List.mem_of_getElem? (i := 28) (by decide +kernel)) rfl
theorem uw_806 : Cond.code yX5_kind cX5_kind 2 (some .int) ∈ lw_u := lw_m5 (List.mem_of_getElem? (i := 29) rfl) rfl
theorem uw_807 : Cond.methodLink RL 154 yX5_as ∈ lw_u := lw_m5 (List.mem_of_getElem? (i := 30) (by decide +kernel)) rfl
theorem uw_808 : Cond.instanceMethod yX5_as ∈ lw_u := lw_m5 (List.mem_of_getElem? (i := 31) (by decide +kernel)) rfl
theorem uw_809 : Cond.selects RX5 yX5_as yX5_as ∈ lw_u := lw_m5 (List.mem_of_getElem? (i := 32) (by decide +kernel)) rfl
theorem uw_810 : Cond.code yX5_as cX5_as 3 (some .int) ∈ lw_u := lw_m5 (List.mem_of_getElem? (i := 33) rfl) rfl
theorem uw_811 : Cond.constantLong RX5 267 (5) ∈ lw_u := lw_m5 (List.mem_of_getElem? (i := 34) (by decide +kernel)) rfl
theorem uw_812 : Cond.methodLink RX5 269 yX5_isOf ∈ lw_u := lw_m5 (List.mem_of_getElem? (i := 35) (by decide +kernel)) rfl
theorem uw_813 : Cond.static yX5_isOf ∈ lw_u := lw_m5 (List.mem_of_getElem? (i := 36) (by decide +kernel)) rfl
theorem uw_814 : Cond.code yX5_isOf cX5_isOf 2 (some .boolean) ∈ lw_u := lw_m5 (List.mem_of_getElem? (i := 37) rfl) rfl
theorem uw_815 : Cond.methodLink RL 158 yX5_ask ∈ lw_u := lw_m5 (List.mem_of_getElem? (i := 38) (by decide +kernel)) rfl
theorem uw_816 : Cond.instanceMethod yX5_ask ∈ lw_u := lw_m5 (List.mem_of_getElem? (i := 39) (by decide +kernel)) rfl
theorem uw_817 : Cond.selects RX5 yX5_ask yX5_ask ∈ lw_u := lw_m5 (List.mem_of_getElem? (i := 40) (by decide +kernel)) rfl
theorem uw_818 : Cond.code yX5_ask cX5_ask 3 (some .int) ∈ lw_u := lw_m5 (List.mem_of_getElem? (i := 41) rfl) rfl
theorem uw_819 : Cond.methodLink RX5 287 yX5_sizeOf ∈ lw_u := lw_m5 (List.mem_of_getElem? (i := 42) (by decide +kernel)) rfl
theorem uw_820 : Cond.instanceMethod yX5_sizeOf ∈ lw_u := lw_m5 (List.mem_of_getElem? (i := 44) (by decide +kernel)) rfl
theorem uw_821 : Cond.code yX5_sizeOf cX5_sizeOf 4 (some .int) ∈ lw_u := lw_m5 (List.mem_of_getElem? (i := 45) rfl) rfl
theorem uw_822 : Cond.methodLink RX5 281 yX5_gullSize ∈ lw_u := lw_m5 (List.mem_of_getElem? (i := 46) (by decide +kernel)) rfl
theorem uw_823 : Cond.instanceMethod yX5_gullSize ∈ lw_u := lw_m5 (List.mem_of_getElem? (i := 48) (by decide +kernel)) rfl
theorem uw_824 : Cond.code yX5_gullSize cX5_gullSize 4 (some .int) ∈ lw_u := lw_m5 (List.mem_of_getElem? (i := 49) rfl) rfl
theorem uw_825 : Cond.methodLink RX5 275 yX5_began ∈ lw_u := lw_m5 (List.mem_of_getElem? (i := 50) (by decide +kernel)) rfl
theorem uw_826 : Cond.instanceMethod yX5_began ∈ lw_u := lw_m5 (List.mem_of_getElem? (i := 52) (by decide +kernel)) rfl
theorem uw_827 : Cond.code yX5_began cX5_began 2 none ∈ lw_u := lw_m5 (List.mem_of_getElem? (i := 53) rfl) rfl
theorem uw_828 : Cond.methodLink RX5 278 yX5_plainSize ∈ lw_u := lw_m5 (List.mem_of_getElem? (i := 54) (by decide +kernel)) rfl
theorem uw_829 : Cond.instanceMethod yX5_plainSize ∈ lw_u := lw_m5 (List.mem_of_getElem? (i := 56) (by decide +kernel)) rfl
theorem uw_830 : Cond.code yX5_plainSize cX5_plainSize 2 (some .int) ∈ lw_u := lw_m5 (List.mem_of_getElem? (i := 57) rfl) rfl
theorem uw_831 : Cond.methodLink RX5 284 yX5_markOf ∈ lw_u := lw_m5 (List.mem_of_getElem? (i := 58) (by decide +kernel)) rfl
theorem uw_832 : Cond.instanceMethod yX5_markOf ∈ lw_u := lw_m5 (List.mem_of_getElem? (i := 60) (by decide +kernel)) rfl
theorem uw_833 : Cond.code yX5_markOf cX5_markOf 4 (some .int) ∈ lw_u := lw_m5 (List.mem_of_getElem? (i := 61) rfl) rfl
theorem uw_834 : Cond.methodLink RL 162 yX5_trace ∈ lw_u := lw_m5 (List.mem_of_getElem? (i := 62) (by decide +kernel)) rfl
theorem uw_835 : Cond.instanceMethod yX5_trace ∈ lw_u := lw_m5 (List.mem_of_getElem? (i := 63) (by decide +kernel)) rfl
theorem uw_836 : Cond.selects RX5 yX5_trace yX5_trace ∈ lw_u := lw_m5 (List.mem_of_getElem? (i := 64) (by decide +kernel)) rfl
theorem uw_837 : Cond.code yX5_trace cX5_trace 2 (some .int) ∈ lw_u := lw_m5 (List.mem_of_getElem? (i := 65) rfl) rfl
theorem uw_838 : Cond.methodLink RL 166 yX5_count ∈ lw_u := lw_m5 (List.mem_of_getElem? (i := 66) (by decide +kernel)) rfl
theorem uw_839 : Cond.instanceMethod yX5_count ∈ lw_u := lw_m5 (List.mem_of_getElem? (i := 67) (by decide +kernel)) rfl
theorem uw_840 : Cond.selects RX5 yX5_count yX5_count ∈ lw_u := lw_m5 (List.mem_of_getElem? (i := 68) (by decide +kernel)) rfl
theorem uw_841 : Cond.code yX5_count cX5_count 4 (some .int) ∈ lw_u := lw_m5 (List.mem_of_getElem? (i := 69) rfl) rfl
theorem uw_842 : Cond.methodLink RL 170 yX5_status ∈ lw_u := lw_m5 (List.mem_of_getElem? (i := 70) (by decide +kernel)) rfl
theorem uw_843 : Cond.instanceMethod yX5_status ∈ lw_u := lw_m5 (List.mem_of_getElem? (i := 71) (by decide +kernel)) rfl
theorem uw_844 : Cond.selects RX5 yX5_status yX5_status ∈ lw_u := lw_m5 (List.mem_of_getElem? (i := 72) (by decide +kernel)) rfl
theorem uw_845 : Cond.code yX5_status cX5_status 1 (some .int) ∈ lw_u := lw_m5 (List.mem_of_getElem? (i := 73) rfl) rfl
theorem uw_846 : Cond.selects RX4 yX4_found yX4_found ∈ lw_u := lw_m0 (List.mem_of_getElem? (i := 0) (by decide +kernel)) rfl
theorem uw_847 : Cond.selects RX4 yX4_unfound yX4_unfound ∈ lw_u := lw_m0 (List.mem_of_getElem? (i := 1) (by decide +kernel)) rfl
theorem uw_848 : Cond.selects RX3 yX3_readLaw yX3_readLaw ∈ lw_u := lw_m0 (List.mem_of_getElem? (i := 2) (by decide +kernel)) rfl
theorem uw_849 : Cond.selects RX3 yX3_readSign yX3_readSign ∈ lw_u := lw_m0 (List.mem_of_getElem? (i := 3) (by decide +kernel)) rfl
theorem uw_850 : Cond.selects RX3 yX3_byteHere yX3_byteHere ∈ lw_u := lw_m0 (List.mem_of_getElem? (i := 4) (by decide +kernel)) rfl
theorem uw_851 : Cond.selects RX3 yX3_failAt yX3_failAt ∈ lw_u := lw_m0 (List.mem_of_getElem? (i := 5) (by decide +kernel)) rfl
theorem uw_852 : Cond.selects RX3 yX3_readNumber yX3_readNumber ∈ lw_u := lw_m0 (List.mem_of_getElem? (i := 6) (by decide +kernel)) rfl
theorem uw_853 : Cond.selects RX3 yX3_readFogs yX3_readFogs ∈ lw_u := lw_m0 (List.mem_of_getElem? (i := 7) (by decide +kernel)) rfl
theorem uw_854 : Cond.selects RX3 yX3_readShips yX3_readShips ∈ lw_u := lw_m0 (List.mem_of_getElem? (i := 8) (by decide +kernel)) rfl
theorem uw_855 : Cond.selects RX1 yX1_takeSea yX1_takeSea ∈ lw_u := lw_m0 (List.mem_of_getElem? (i := 9) (by decide +kernel)) rfl
theorem uw_856 : Cond.selects RX1 yX1_outward yX1_outward ∈ lw_u := lw_m0 (List.mem_of_getElem? (i := 10) (by decide +kernel)) rfl
theorem uw_857 : Cond.selects RX4 yX4_differencesIfLifted yX4_differencesIfLifted ∈ lw_u := lw_m0 (List.mem_of_getElem? (i := 11) (by decide +kernel)) rfl
theorem uw_858 : Cond.selects RX4 yX4_bestTurn yX4_bestTurn ∈ lw_u := lw_m0 (List.mem_of_getElem? (i := 12) (by decide +kernel)) rfl
theorem uw_859 : Cond.selects RX4 yX4_balanceBehind yX4_balanceBehind ∈ lw_u := lw_m0 (List.mem_of_getElem? (i := 13) (by decide +kernel)) rfl
theorem uw_860 : Cond.selects RX4 yX4_kindsThatFit yX4_kindsThatFit ∈ lw_u := lw_m0 (List.mem_of_getElem? (i := 14) (by decide +kernel)) rfl
theorem uw_861 : Cond.selects RX4 yX4_probeFits yX4_probeFits ∈ lw_u := lw_m0 (List.mem_of_getElem? (i := 15) (by decide +kernel)) rfl
theorem uw_862 : Cond.selects RX4 yX4_cellsThatFit yX4_cellsThatFit ∈ lw_u := lw_m0 (List.mem_of_getElem? (i := 16) (by decide +kernel)) rfl
theorem uw_863 : Cond.selects RX4 yX4_eyesThatFit yX4_eyesThatFit ∈ lw_u := lw_m0 (List.mem_of_getElem? (i := 17) (by decide +kernel)) rfl
theorem uw_864 : Cond.selects RX4 yX4_oilsThatFit yX4_oilsThatFit ∈ lw_u := lw_m0 (List.mem_of_getElem? (i := 18) (by decide +kernel)) rfl
theorem uw_865 : Cond.selects RX4 yX4_isSameIfLifted yX4_isSameIfLifted ∈ lw_u := lw_m0 (List.mem_of_getElem? (i := 19) (by decide +kernel)) rfl
theorem uw_866 : Cond.selects RX4 yX4_casesOf yX4_casesOf ∈ lw_u := lw_m0 (List.mem_of_getElem? (i := 20) (by decide +kernel)) rfl
theorem uw_867 : Cond.selects RX4 yX4_asked yX4_asked ∈ lw_u := lw_m0 (List.mem_of_getElem? (i := 21) (by decide +kernel)) rfl
theorem uw_868 : Cond.selects RX4 yX4_begun yX4_begun ∈ lw_u := lw_m0 (List.mem_of_getElem? (i := 22) (by decide +kernel)) rfl
theorem uw_869 : Cond.selects RX4 yX4_leave yX4_leave ∈ lw_u := lw_m0 (List.mem_of_getElem? (i := 23) (by decide +kernel)) rfl
theorem uw_870 : Cond.selects RX4 yX4_rowsThere yX4_rowsThere ∈ lw_u := lw_m0 (List.mem_of_getElem? (i := 24) (by decide +kernel)) rfl
theorem uw_871 : Cond.selects RX5 yX5_finding yX5_finding ∈ lw_u := lw_m0 (List.mem_of_getElem? (i := 25) (by decide +kernel)) rfl
theorem uw_872 : Cond.selects RX5 yX5_begin yX5_begin ∈ lw_u := lw_m0 (List.mem_of_getElem? (i := 26) (by decide +kernel)) rfl
theorem uw_873 : Cond.selects RX5 yX5_nextToken yX5_nextToken ∈ lw_u := lw_m0 (List.mem_of_getElem? (i := 27) (by decide +kernel)) rfl
theorem uw_874 : Cond.selects RX5 yX5_isLetter yX5_isLetter ∈ lw_u := lw_m0 (List.mem_of_getElem? (i := 28) (by decide +kernel)) rfl
theorem uw_875 : Cond.selects RX5 yX5_must yX5_must ∈ lw_u := lw_m0 (List.mem_of_getElem? (i := 29) (by decide +kernel)) rfl
theorem uw_876 : Cond.selects RX5 yX5_bad yX5_bad ∈ lw_u := lw_m0 (List.mem_of_getElem? (i := 30) (by decide +kernel)) rfl
theorem uw_877 : Cond.selects RX5 yX5_number yX5_number ∈ lw_u := lw_m0 (List.mem_of_getElem? (i := 31) (by decide +kernel)) rfl
theorem uw_878 : Cond.selects RX5 yX5_mustSign yX5_mustSign ∈ lw_u := lw_m0 (List.mem_of_getElem? (i := 32) (by decide +kernel)) rfl
theorem uw_879 : Cond.selects RX5 yX5_readFog yX5_readFog ∈ lw_u := lw_m0 (List.mem_of_getElem? (i := 33) (by decide +kernel)) rfl
theorem uw_880 : Cond.selects RX5 yX5_isSort yX5_isSort ∈ lw_u := lw_m0 (List.mem_of_getElem? (i := 34) (by decide +kernel)) rfl
theorem uw_881 : Cond.selects RX5 yX5_readShip yX5_readShip ∈ lw_u := lw_m0 (List.mem_of_getElem? (i := 35) (by decide +kernel)) rfl
theorem uw_882 : Cond.selects RX5 yX5_failed yX5_failed ∈ lw_u := lw_m0 (List.mem_of_getElem? (i := 36) (by decide +kernel)) rfl
theorem uw_883 : Cond.selects RX5 yX5_isThere yX5_isThere ∈ lw_u := lw_m0 (List.mem_of_getElem? (i := 37) (by decide +kernel)) rfl
theorem uw_884 : Cond.selects RX5 yX5_keep yX5_keep ∈ lw_u := lw_m0 (List.mem_of_getElem? (i := 38) (by decide +kernel)) rfl
theorem uw_885 : Cond.selects RX5 yX5_isFog yX5_isFog ∈ lw_u := lw_m0 (List.mem_of_getElem? (i := 39) (by decide +kernel)) rfl
theorem uw_886 : Cond.selects RX5 yX5_isShip yX5_isShip ∈ lw_u := lw_m0 (List.mem_of_getElem? (i := 40) (by decide +kernel)) rfl
theorem uw_887 : Cond.selects RX5 yX5_isCell yX5_isCell ∈ lw_u := lw_m0 (List.mem_of_getElem? (i := 41) (by decide +kernel)) rfl
theorem uw_888 : Cond.selects RX5 yX5_layThen yX5_layThen ∈ lw_u := lw_m0 (List.mem_of_getElem? (i := 42) (by decide +kernel)) rfl
theorem uw_889 : Cond.selects RX5 yX5_afterTurns yX5_afterTurns ∈ lw_u := lw_m0 (List.mem_of_getElem? (i := 43) (by decide +kernel)) rfl
theorem uw_890 : Cond.selects RX5 yX5_rowFound yX5_rowFound ∈ lw_u := lw_m0 (List.mem_of_getElem? (i := 44) (by decide +kernel)) rfl
theorem uw_891 : Cond.selects RX5 yX5_tryAll yX5_tryAll ∈ lw_u := lw_m0 (List.mem_of_getElem? (i := 45) (by decide +kernel)) rfl
theorem uw_892 : Cond.selects RX5 yX5_isSo yX5_isSo ∈ lw_u := lw_m0 (List.mem_of_getElem? (i := 46) (by decide +kernel)) rfl
theorem uw_893 : Cond.selects RX5 yX5_sizeOf yX5_sizeOf ∈ lw_u := lw_m0 (List.mem_of_getElem? (i := 47) (by decide +kernel)) rfl
theorem uw_894 : Cond.selects RX5 yX5_gullSize yX5_gullSize ∈ lw_u := lw_m0 (List.mem_of_getElem? (i := 48) (by decide +kernel)) rfl
theorem uw_895 : Cond.selects RX5 yX5_began yX5_began ∈ lw_u := lw_m0 (List.mem_of_getElem? (i := 49) (by decide +kernel)) rfl
theorem uw_896 : Cond.selects RX5 yX5_plainSize yX5_plainSize ∈ lw_u := lw_m0 (List.mem_of_getElem? (i := 50) (by decide +kernel)) rfl
theorem uw_897 : Cond.selects RX5 yX5_markOf yX5_markOf ∈ lw_u := lw_m0 (List.mem_of_getElem? (i := 51) (by decide +kernel)) rfl
