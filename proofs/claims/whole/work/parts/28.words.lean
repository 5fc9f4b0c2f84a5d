theorem opk_f {gp : GX → Prop} {y : MethodName} {cc : ByteArray} {nL rt pc : Nat} {f : Fn} (h1 : FM f) (h2 : FOK gp f y cc nL rt pc) : OPK gp y cc nL rt pc (Sum.inl f) := ⟨h1, h2⟩
theorem opk_c {gp : GX → Prop} {y : MethodName} {cc : ByteArray} {nL rt pc j k nx cv : Nat} (h : CLK y cc pc j k nx cv) : OPK gp y cc nL rt pc (Sum.inr (j, k, nx, cv)) := h
theorem ok_list (l : List Int) (h : l.all (fun z => decide (-2147483648 ≤ z ∧ z < 2147483648)) = true) (j : Nat) : okI (l.getD j 0) := by
  rw [List.getD_eq_getElem?_getD]
  cases hj : l[j]? with
  | none => exact okI_0
  | some z => exact of_decide_eq_true (p := -2147483648 ≤ z ∧ z < 2147483648) (List.all_eq_true.mp h z (List.mem_of_getElem? hj))
theorem ok_steps (j : Nat) : okI (k_steps j) := ok_list _ (by decide) j
theorem ok_digits (j : Nat) : okI (k_digits j) := ok_list _ (by decide) j
theorem wd_0 : Cond.selects RX6 yX6_feedWord yX6_feedWord ∈ lw_g := in_g (List.mem_of_getElem? (i := 0) (by decide +kernel)) rfl
theorem wd_1 : Cond.selects RX5 yX5_takeUnit yX5_takeUnit ∈ lw_g := in_g (List.mem_of_getElem? (i := 1) (by decide +kernel)) rfl
theorem wd_2 : Cond.selects RX5 yX5_byteAt yX5_byteAt ∈ lw_g := in_g (List.mem_of_getElem? (i := 2) (by decide +kernel)) rfl
theorem wd_3 : Cond.selects RX5 yX5_takeChord yX5_takeChord ∈ lw_g := in_g (List.mem_of_getElem? (i := 3) (by decide +kernel)) rfl
theorem wd_4 : Cond.selects RX5 yX5_blame yX5_blame ∈ lw_g := in_g (List.mem_of_getElem? (i := 4) (by decide +kernel)) rfl
theorem wd_5 : Cond.selects RX5 yX5_takeNote yX5_takeNote ∈ lw_g := in_g (List.mem_of_getElem? (i := 5) (by decide +kernel)) rfl
theorem wd_6 : Cond.selects RX5 yX5_keepNote yX5_keepNote ∈ lw_g := in_g (List.mem_of_getElem? (i := 6) (by decide +kernel)) rfl
theorem wd_7 : Cond.selects RX5 yX5_takeLength yX5_takeLength ∈ lw_g := in_g (List.mem_of_getElem? (i := 7) (by decide +kernel)) rfl
theorem wd_8 : Cond.selects RX6 yX6_isTold yX6_isTold ∈ lw_g := in_g (List.mem_of_getElem? (i := 8) (by decide +kernel)) rfl
theorem wd_9 : Cond.selects RX1 yX1_canPlay yX1_canPlay ∈ lw_g := in_g (List.mem_of_getElem? (i := 9) (by decide +kernel)) rfl
theorem wd_10 : Cond.selects RX6 yX6_movedBy yX6_movedBy ∈ lw_g := in_g (List.mem_of_getElem? (i := 10) (by decide +kernel)) rfl
theorem wd_11 : Cond.selects RX3 yX3_giveStrokesBells yX3_giveStrokesBells ∈ lw_g := in_g (List.mem_of_getElem? (i := 11) (by decide +kernel)) rfl
theorem wd_12 : Cond.selects RX3 yX3_giveStrokesHoles yX3_giveStrokesHoles ∈ lw_g := in_g (List.mem_of_getElem? (i := 12) (by decide +kernel)) rfl
theorem wd_13 : Cond.selects RX3 yX3_isTooHeavy yX3_isTooHeavy ∈ lw_g := in_g (List.mem_of_getElem? (i := 13) (by decide +kernel)) rfl
theorem wd_14 : Cond.selects RX3 yX3_isTooOften yX3_isTooOften ∈ lw_g := in_g (List.mem_of_getElem? (i := 14) (by decide +kernel)) rfl
theorem wd_15 : Cond.selects RX3 yX3_giveStrokesHammers yX3_giveStrokesHammers ∈ lw_g := in_g (List.mem_of_getElem? (i := 15) (by decide +kernel)) rfl
theorem wd_16 : Cond.selects RX3 yX3_gather yX3_gather ∈ lw_g := in_g (List.mem_of_getElem? (i := 16) (by decide +kernel)) rfl
theorem wd_17 : Cond.selects RX2 yX2_findClashes yX2_findClashes ∈ lw_g := in_g (List.mem_of_getElem? (i := 17) (by decide +kernel)) rfl
theorem wd_18 : Cond.selects RX2 yX2_decideStroke yX2_decideStroke ∈ lw_g := in_g (List.mem_of_getElem? (i := 18) (by decide +kernel)) rfl
theorem wd_19 : Cond.selects RX2 yX2_busyHammers yX2_busyHammers ∈ lw_g := in_g (List.mem_of_getElem? (i := 19) (by decide +kernel)) rfl
theorem wd_20 : Cond.selects RX2 yX2_decide yX2_decide ∈ lw_g := in_g (List.mem_of_getElem? (i := 20) (by decide +kernel)) rfl
theorem wd_21 : Cond.selects RX2 yX2_followBest yX2_followBest ∈ lw_g := in_g (List.mem_of_getElem? (i := 21) (by decide +kernel)) rfl
theorem wd_22 : Cond.selects RX6 yX6_isPlace yX6_isPlace ∈ lw_g := in_g (List.mem_of_getElem? (i := 22) (by decide +kernel)) rfl
theorem wd_23 : Cond.selects RX6 yX6_strikesAt yX6_strikesAt ∈ lw_g := in_g (List.mem_of_getElem? (i := 23) (by decide +kernel)) rfl
theorem wd_24 : Cond.selects RX0 yX0_willStrike yX0_willStrike ∈ lw_g := in_g (List.mem_of_getElem? (i := 24) (by decide +kernel)) rfl
theorem wd_25 : Cond.selects RX4 yX4_add yX4_add ∈ lw_g := in_g (List.mem_of_getElem? (i := 25) (by decide +kernel)) rfl
theorem wd_26 : Cond.selects RX4 yX4_addNotes yX4_addNotes ∈ lw_g := in_g (List.mem_of_getElem? (i := 26) (by decide +kernel)) rfl
theorem wd_27 : Cond.selects RX7 yX7_bellAt yX7_bellAt ∈ lw_g := in_g (List.mem_of_getElem? (i := 27) (by decide +kernel)) rfl
theorem wd_28 : Cond.selects RX7 yX7_isBell yX7_isBell ∈ lw_g := in_g (List.mem_of_getElem? (i := 28) (by decide +kernel)) rfl
theorem wd_29 : Cond.selects RX7 yX7_isThere yX7_isThere ∈ lw_g := in_g (List.mem_of_getElem? (i := 29) (by decide +kernel)) rfl
theorem wd_30 : Cond.selects RX7 yX7_isHole yX7_isHole ∈ lw_g := in_g (List.mem_of_getElem? (i := 30) (by decide +kernel)) rfl
theorem wd_31 : Cond.selects RX7 yX7_apart yX7_apart ∈ lw_g := in_g (List.mem_of_getElem? (i := 31) (by decide +kernel)) rfl
theorem wd_32 : Cond.selects RX7 yX7_puts yX7_puts ∈ lw_g := in_g (List.mem_of_getElem? (i := 32) (by decide +kernel)) rfl
theorem wd_33 : Cond.selects RX7 yX7_types yX7_types ∈ lw_g := in_g (List.mem_of_getElem? (i := 33) (by decide +kernel)) rfl
theorem wd_34 : Cond.selects RX7 yX7_readsUnit yX7_readsUnit ∈ lw_g := in_g (List.mem_of_getElem? (i := 34) (by decide +kernel)) rfl
theorem wd_35 : Cond.selects RX7 yX7_sign yX7_sign ∈ lw_g := in_g (List.mem_of_getElem? (i := 35) (by decide +kernel)) rfl
theorem wd_36 : Cond.selects RX7 yX7_readsChord yX7_readsChord ∈ lw_g := in_g (List.mem_of_getElem? (i := 36) (by decide +kernel)) rfl
theorem wd_37 : Cond.selects RX7 yX7_wrong yX7_wrong ∈ lw_g := in_g (List.mem_of_getElem? (i := 37) (by decide +kernel)) rfl
theorem wd_38 : Cond.selects RX7 yX7_readsNote yX7_readsNote ∈ lw_g := in_g (List.mem_of_getElem? (i := 38) (by decide +kernel)) rfl
theorem wd_39 : Cond.selects RX7 yX7_isTune yX7_isTune ∈ lw_g := in_g (List.mem_of_getElem? (i := 39) (by decide +kernel)) rfl
theorem wd_40 : Cond.selects RX7 yX7_isGood yX7_isGood ∈ lw_g := in_g (List.mem_of_getElem? (i := 40) (by decide +kernel)) rfl
theorem wd_41 : Cond.selects RX7 yX7_tries yX7_tries ∈ lw_g := in_g (List.mem_of_getElem? (i := 41) (by decide +kernel)) rfl
theorem wd_42 : Cond.selects RX7 yX7_isTooHeavy yX7_isTooHeavy ∈ lw_g := in_g (List.mem_of_getElem? (i := 42) (by decide +kernel)) rfl
theorem wd_43 : Cond.selects RX7 yX7_isTooMany yX7_isTooMany ∈ lw_g := in_g (List.mem_of_getElem? (i := 43) (by decide +kernel)) rfl
theorem wd_44 : Cond.selects RX7 yX7_finds yX7_finds ∈ lw_g := in_g (List.mem_of_getElem? (i := 44) (by decide +kernel)) rfl
theorem wd_45 : Cond.selects RX7 yX7_holeOf yX7_holeOf ∈ lw_g := in_g (List.mem_of_getElem? (i := 45) (by decide +kernel)) rfl
theorem wd_46 : Cond.selects RX7 yX7_chooses yX7_chooses ∈ lw_g := in_g (List.mem_of_getElem? (i := 46) (by decide +kernel)) rfl
theorem wd_47 : Cond.selects RX7 yX7_areApart yX7_areApart ∈ lw_g := in_g (List.mem_of_getElem? (i := 47) (by decide +kernel)) rfl
theorem wd_48 : Cond.selects RX7 yX7_moved yX7_moved ∈ lw_g := in_g (List.mem_of_getElem? (i := 48) (by decide +kernel)) rfl
theorem wd_49 : Cond.selects RX7 yX7_strikesNow yX7_strikesNow ∈ lw_g := in_g (List.mem_of_getElem? (i := 49) (by decide +kernel)) rfl
theorem wd_50 : Cond.selects RX7 yX7_saysHole yX7_saysHole ∈ lw_g := in_g (List.mem_of_getElem? (i := 50) (by decide +kernel)) rfl
theorem wd_51 : Cond.selects RX7 yX7_heardIn yX7_heardIn ∈ lw_g := in_g (List.mem_of_getElem? (i := 51) (by decide +kernel)) rfl
theorem wd_52 : Cond.selects RX7 yX7_isHeard yX7_isHeard ∈ lw_g := in_g (List.mem_of_getElem? (i := 52) (by decide +kernel)) rfl
theorem wd_53 : Cond.selects RX7 yX7_says yX7_says ∈ lw_g := in_g (List.mem_of_getElem? (i := 53) (by decide +kernel)) rfl
theorem wd_54 : Cond.selects RX7 yX7_saysNote yX7_saysNote ∈ lw_g := in_g (List.mem_of_getElem? (i := 54) (by decide +kernel)) rfl
theorem wd_55 : Cond.selects RX7 yX7_pinsOf yX7_pinsOf ∈ lw_g := in_g (List.mem_of_getElem? (i := 55) (by decide +kernel)) rfl
theorem wd_57 : Cond.initialized RX6 ∈ lw_g := in_g (List.mem_of_getElem? (i := 57) (by decide +kernel)) rfl
theorem wd_58 : Cond.initialized RX1 ∈ lw_g := in_g (List.mem_of_getElem? (i := 58) (by decide +kernel)) rfl
theorem wd_59 : Cond.initialized RJ7 ∈ lw_g := in_g (List.mem_of_getElem? (i := 59) (by decide +kernel)) rfl
theorem wd_60 : Cond.initialized RX0 ∈ lw_g := in_g (List.mem_of_getElem? (i := 60) (by decide +kernel)) rfl
theorem wd_61 : Cond.initialized RX3 ∈ lw_g := in_g (List.mem_of_getElem? (i := 61) (by decide +kernel)) rfl
theorem wd_62 : Cond.initialized RX2 ∈ lw_g := in_g (List.mem_of_getElem? (i := 62) (by decide +kernel)) rfl
theorem wd_63 : Cond.initialized RX4 ∈ lw_g := in_g (List.mem_of_getElem? (i := 63) (by decide +kernel)) rfl
theorem wd_64 : Cond.initialized RX5 ∈ lw_g := in_g (List.mem_of_getElem? (i := 64) (by decide +kernel)) rfl
theorem wd_65 : Cond.initialized RX7 ∈ lw_g := in_g (List.mem_of_getElem? (i := 65) (by decide +kernel)) rfl
theorem wd_66 : Cond.initialized RJ9 ∈ lw_g := in_g (List.mem_of_getElem? (i := 66) (by decide +kernel)) rfl
theorem wd_71 : Cond.classLink RL 7 RX6 ∈ lw_g := in_g (List.mem_of_getElem? (i := 71) (by decide +kernel)) rfl
theorem wd_72 : Cond.instantiable RX6 10 ∈ lw_g := in_g (List.mem_of_getElem? (i := 72) (by decide +kernel)) rfl
theorem wd_73 : Cond.methodLink RL 9 yX6_init ∈ lw_g := in_g (List.mem_of_getElem? (i := 73) (by decide +kernel)) rfl
theorem wd_74 : Cond.instanceMethod yX6_init ∈ lw_g := in_g (List.mem_of_getElem? (i := 74) (by decide +kernel)) rfl
theorem wd_75 : Cond.code yX6_init cX6_init 2 none ∈ lw_g := in_g (List.mem_of_getElem? (i := 75) (by decide +kernel)) rfl
theorem wd_76 : Cond.methodLink RX6 1 Lib.objectInit ∈ lw_g := in_g (List.mem_of_getElem? (i := 76) (by decide +kernel)) rfl
theorem wd_77 : Cond.instanceMethod Lib.objectInit ∈ lw_g := in_g (List.mem_of_getElem? (i := 77) (by decide +kernel)) rfl
theorem wd_78 : Cond.code Lib.objectInit ⟨#[0xb1]⟩ 1 none ∈ lw_g := in_g (List.mem_of_getElem? (i := 78) (by decide +kernel)) rfl
theorem wd_79 : Cond.classLink RX6 7 RX1 ∈ lw_g := in_g (List.mem_of_getElem? (i := 79) (by decide +kernel)) rfl
theorem wd_80 : Cond.instantiable RX1 9 ∈ lw_g := in_g (List.mem_of_getElem? (i := 80) (by decide +kernel)) rfl
theorem wd_81 : Cond.methodLink RX6 9 yX1_init ∈ lw_g := in_g (List.mem_of_getElem? (i := 81) (by decide +kernel)) rfl
theorem wd_82 : Cond.instanceMethod yX1_init ∈ lw_g := in_g (List.mem_of_getElem? (i := 82) (by decide +kernel)) rfl
theorem wd_83 : Cond.code yX1_init cX1_init 1 none ∈ lw_g := in_g (List.mem_of_getElem? (i := 83) (by decide +kernel)) rfl
theorem wd_84 : Cond.methodLink RX1 3 Lib.objectInit ∈ lw_g := in_g (List.mem_of_getElem? (i := 84) (by decide +kernel)) rfl
theorem wd_85 : Cond.methodLink RX1 34 yJ7_fill_53178 ∈ lw_g := in_g (List.mem_of_getElem? (i := 85) (by decide +kernel)) rfl
theorem wd_86 : Cond.static yJ7_fill_53178 ∈ lw_g := in_g (List.mem_of_getElem? (i := 86) (by decide +kernel)) rfl
theorem wd_87 : Cond.code yJ7_fill_53178 cJ7_fill_53178 4 none ∈ lw_g := in_g (List.mem_of_getElem? (i := 87) (by decide +kernel)) rfl
theorem wd_88 : Cond.fieldLink RX1 11 "ChimeDrum$Bells" "pitch" "[I" ∈ lw_g := in_g (List.mem_of_getElem? (i := 88) (by decide +kernel)) rfl
theorem wd_89 : Cond.fieldLink RX0 73 "ChimeDrum$Bells" "pitch" "[I" ∈ lw_g := in_g (List.mem_of_getElem? (i := 89) (by decide +kernel)) rfl
theorem wd_90 : Cond.fieldLink RX6 180 "ChimeDrum$Bells" "pitch" "[I" ∈ lw_g := in_g (List.mem_of_getElem? (i := 90) (by decide +kernel)) rfl
theorem wd_91 : Cond.fieldLink RX1 15 "ChimeDrum$Bells" "weight" "[I" ∈ lw_g := in_g (List.mem_of_getElem? (i := 91) (by decide +kernel)) rfl
theorem wd_92 : Cond.fieldLink RX3 87 "ChimeDrum$Bells" "weight" "[I" ∈ lw_g := in_g (List.mem_of_getElem? (i := 92) (by decide +kernel)) rfl
theorem wd_93 : Cond.fieldLink RX6 183 "ChimeDrum$Bells" "weight" "[I" ∈ lw_g := in_g (List.mem_of_getElem? (i := 93) (by decide +kernel)) rfl
theorem wd_94 : Cond.fieldLink RX1 18 "ChimeDrum$Bells" "hammers" "[I" ∈ lw_g := in_g (List.mem_of_getElem? (i := 94) (by decide +kernel)) rfl
theorem wd_95 : Cond.fieldLink RX3 115 "ChimeDrum$Bells" "hammers" "[I" ∈ lw_g := in_g (List.mem_of_getElem? (i := 95) (by decide +kernel)) rfl
theorem wd_96 : Cond.fieldLink RX6 177 "ChimeDrum$Bells" "hammers" "[I" ∈ lw_g := in_g (List.mem_of_getElem? (i := 96) (by decide +kernel)) rfl
theorem wd_97 : Cond.fieldLink RX1 21 "ChimeDrum$Bells" "firstTrack" "[I" ∈ lw_g := in_g (List.mem_of_getElem? (i := 97) (by decide +kernel)) rfl
theorem wd_98 : Cond.fieldLink RX3 105 "ChimeDrum$Bells" "firstTrack" "[I" ∈ lw_g := in_g (List.mem_of_getElem? (i := 98) (by decide +kernel)) rfl
theorem wd_99 : Cond.fieldLink RX6 174 "ChimeDrum$Bells" "firstTrack" "[I" ∈ lw_g := in_g (List.mem_of_getElem? (i := 99) (by decide +kernel)) rfl
theorem wd_100 : Cond.fieldLink RX1 24 "ChimeDrum$Bells" "cracked" "[Z" ∈ lw_g := in_g (List.mem_of_getElem? (i := 100) (by decide +kernel)) rfl
theorem wd_101 : Cond.fieldLink RX6 74 "ChimeDrum$Bells" "cracked" "[Z" ∈ lw_g := in_g (List.mem_of_getElem? (i := 101) (by decide +kernel)) rfl
theorem wd_102 : Cond.fieldLink RX0 66 "ChimeDrum$Bells" "cracked" "[Z" ∈ lw_g := in_g (List.mem_of_getElem? (i := 102) (by decide +kernel)) rfl
theorem wd_103 : Cond.fieldLink RX1 28 "ChimeDrum$Bells" "bellOfTrack" "[I" ∈ lw_g := in_g (List.mem_of_getElem? (i := 103) (by decide +kernel)) rfl
theorem wd_104 : Cond.fieldLink RX0 70 "ChimeDrum$Bells" "bellOfTrack" "[I" ∈ lw_g := in_g (List.mem_of_getElem? (i := 104) (by decide +kernel)) rfl
theorem wd_105 : Cond.fieldLink RX1 31 "ChimeDrum$Bells" "bellOfPitch" "[I" ∈ lw_g := in_g (List.mem_of_getElem? (i := 105) (by decide +kernel)) rfl
theorem wd_106 : Cond.fieldLink RX1 40 "ChimeDrum$Bells" "size" "I" ∈ lw_g := in_g (List.mem_of_getElem? (i := 106) (by decide +kernel)) rfl
theorem wd_107 : Cond.fieldLink RX3 90 "ChimeDrum$Bells" "size" "I" ∈ lw_g := in_g (List.mem_of_getElem? (i := 107) (by decide +kernel)) rfl
theorem wd_108 : Cond.fieldLink RX6 205 "ChimeDrum$Bells" "size" "I" ∈ lw_g := in_g (List.mem_of_getElem? (i := 108) (by decide +kernel)) rfl
theorem wd_109 : Cond.fieldLink RX1 44 "ChimeDrum$Bells" "tracks" "I" ∈ lw_g := in_g (List.mem_of_getElem? (i := 109) (by decide +kernel)) rfl
theorem wd_110 : Cond.fieldLink RX0 60 "ChimeDrum$Bells" "tracks" "I" ∈ lw_g := in_g (List.mem_of_getElem? (i := 110) (by decide +kernel)) rfl
theorem wd_111 : Cond.fieldLink RX6 206 "ChimeDrum$Bells" "tracks" "I" ∈ lw_g := in_g (List.mem_of_getElem? (i := 111) (by decide +kernel)) rfl
theorem wd_131 : Cond.arrayClass .int ∈ lw_g := in_g (List.mem_of_getElem? (i := 131) (by decide +kernel)) rfl
theorem wd_132 : Cond.arrayClass .boolean ∈ lw_g := in_g (List.mem_of_getElem? (i := 132) (by decide +kernel)) rfl
theorem wd_133 : Cond.classLink RX6 16 RX0 ∈ lw_g := in_g (List.mem_of_getElem? (i := 133) (by decide +kernel)) rfl
theorem wd_134 : Cond.instantiable RX0 6 ∈ lw_g := in_g (List.mem_of_getElem? (i := 134) (by decide +kernel)) rfl
theorem wd_135 : Cond.methodLink RX6 18 yX0_init ∈ lw_g := in_g (List.mem_of_getElem? (i := 135) (by decide +kernel)) rfl
theorem wd_136 : Cond.instanceMethod yX0_init ∈ lw_g := in_g (List.mem_of_getElem? (i := 136) (by decide +kernel)) rfl
theorem wd_137 : Cond.code yX0_init cX0_init 1 none ∈ lw_g := in_g (List.mem_of_getElem? (i := 137) (by decide +kernel)) rfl
theorem wd_138 : Cond.methodLink RX0 3 Lib.objectInit ∈ lw_g := in_g (List.mem_of_getElem? (i := 138) (by decide +kernel)) rfl
theorem wd_139 : Cond.methodLink RX0 32 yJ7_fill_53178 ∈ lw_g := in_g (List.mem_of_getElem? (i := 139) (by decide +kernel)) rfl
theorem wd_140 : Cond.fieldLink RX0 13 "ChimeDrum$Barrel" "made" "[I" ∈ lw_g := in_g (List.mem_of_getElem? (i := 140) (by decide +kernel)) rfl
theorem wd_141 : Cond.fieldLink RX6 146 "ChimeDrum$Barrel" "made" "[I" ∈ lw_g := in_g (List.mem_of_getElem? (i := 141) (by decide +kernel)) rfl
theorem wd_142 : Cond.fieldLink RX0 19 "ChimeDrum$Barrel" "kept" "[I" ∈ lw_g := in_g (List.mem_of_getElem? (i := 142) (by decide +kernel)) rfl
theorem wd_143 : Cond.fieldLink RX0 22 "ChimeDrum$Barrel" "ring" "I" ∈ lw_g := in_g (List.mem_of_getElem? (i := 143) (by decide +kernel)) rfl
theorem wd_144 : Cond.fieldLink RX3 43 "ChimeDrum$Barrel" "ring" "I" ∈ lw_g := in_g (List.mem_of_getElem? (i := 144) (by decide +kernel)) rfl
theorem wd_145 : Cond.fieldLink RX6 78 "ChimeDrum$Barrel" "ring" "I" ∈ lw_g := in_g (List.mem_of_getElem? (i := 145) (by decide +kernel)) rfl
theorem wd_146 : Cond.fieldLink RX0 26 "ChimeDrum$Barrel" "needed" "I" ∈ lw_g := in_g (List.mem_of_getElem? (i := 146) (by decide +kernel)) rfl
theorem wd_147 : Cond.fieldLink RX6 84 "ChimeDrum$Barrel" "needed" "I" ∈ lw_g := in_g (List.mem_of_getElem? (i := 147) (by decide +kernel)) rfl
theorem wd_148 : Cond.fieldLink RX0 29 "ChimeDrum$Barrel" "borne" "I" ∈ lw_g := in_g (List.mem_of_getElem? (i := 148) (by decide +kernel)) rfl
theorem wd_149 : Cond.fieldLink RX6 87 "ChimeDrum$Barrel" "borne" "I" ∈ lw_g := in_g (List.mem_of_getElem? (i := 149) (by decide +kernel)) rfl
theorem wd_150 : Cond.fieldLink RX0 42 "ChimeDrum$Barrel" "pins" "I" ∈ lw_g := in_g (List.mem_of_getElem? (i := 150) (by decide +kernel)) rfl
theorem wd_151 : Cond.fieldLink RX6 209 "ChimeDrum$Barrel" "pins" "I" ∈ lw_g := in_g (List.mem_of_getElem? (i := 151) (by decide +kernel)) rfl
theorem wd_165 : Cond.classLink RX6 23 RX3 ∈ lw_g := in_g (List.mem_of_getElem? (i := 165) (by decide +kernel)) rfl
theorem wd_166 : Cond.instantiable RX3 7 ∈ lw_g := in_g (List.mem_of_getElem? (i := 166) (by decide +kernel)) rfl
theorem wd_168 : Cond.instanceMethod yX3_init ∈ lw_g := in_g (List.mem_of_getElem? (i := 168) (by decide +kernel)) rfl
theorem wd_169 : Cond.code yX3_init cX3_init 1 none ∈ lw_g := in_g (List.mem_of_getElem? (i := 169) (by decide +kernel)) rfl
theorem wd_170 : Cond.methodLink RX3 3 Lib.objectInit ∈ lw_g := in_g (List.mem_of_getElem? (i := 170) (by decide +kernel)) rfl
theorem wd_171 : Cond.classLink RX3 23 RX2 ∈ lw_g := in_g (List.mem_of_getElem? (i := 171) (by decide +kernel)) rfl
theorem wd_172 : Cond.instantiable RX2 8 ∈ lw_g := in_g (List.mem_of_getElem? (i := 172) (by decide +kernel)) rfl
theorem wd_174 : Cond.instanceMethod yX2_init ∈ lw_g := in_g (List.mem_of_getElem? (i := 174) (by decide +kernel)) rfl
theorem wd_175 : Cond.code yX2_init cX2_init 1 none ∈ lw_g := in_g (List.mem_of_getElem? (i := 175) (by decide +kernel)) rfl
theorem wd_176 : Cond.methodLink RX2 1 Lib.objectInit ∈ lw_g := in_g (List.mem_of_getElem? (i := 176) (by decide +kernel)) rfl
theorem wd_177 : Cond.fieldLink RX2 9 "ChimeDrum$HammerChoice" "hammer" "[I" ∈ lw_g := in_g (List.mem_of_getElem? (i := 177) (by decide +kernel)) rfl
theorem wd_178 : Cond.fieldLink RX3 108 "ChimeDrum$HammerChoice" "hammer" "[I" ∈ lw_g := in_g (List.mem_of_getElem? (i := 178) (by decide +kernel)) rfl
theorem wd_179 : Cond.fieldLink RX2 32 "ChimeDrum$HammerChoice" "strokes" "I" ∈ lw_g := in_g (List.mem_of_getElem? (i := 179) (by decide +kernel)) rfl
theorem wd_180 : Cond.fieldLink RX3 104 "ChimeDrum$HammerChoice" "strokes" "I" ∈ lw_g := in_g (List.mem_of_getElem? (i := 180) (by decide +kernel)) rfl
theorem wd_181 : Cond.fieldLink RX2 28 "ChimeDrum$HammerChoice" "hammers" "I" ∈ lw_g := in_g (List.mem_of_getElem? (i := 181) (by decide +kernel)) rfl
theorem wd_182 : Cond.fieldLink RX2 13 "ChimeDrum$HammerChoice" "hole" "[I" ∈ lw_g := in_g (List.mem_of_getElem? (i := 182) (by decide +kernel)) rfl
theorem wd_183 : Cond.fieldLink RX2 16 "ChimeDrum$HammerChoice" "lacks" "[I" ∈ lw_g := in_g (List.mem_of_getElem? (i := 183) (by decide +kernel)) rfl
theorem wd_184 : Cond.fieldLink RX2 19 "ChimeDrum$HammerChoice" "clashes" "[I" ∈ lw_g := in_g (List.mem_of_getElem? (i := 184) (by decide +kernel)) rfl
theorem wd_185 : Cond.fieldLink RX2 22 "ChimeDrum$HammerChoice" "fewest" "[I" ∈ lw_g := in_g (List.mem_of_getElem? (i := 185) (by decide +kernel)) rfl
theorem wd_186 : Cond.fieldLink RX2 25 "ChimeDrum$HammerChoice" "bestState" "[I" ∈ lw_g := in_g (List.mem_of_getElem? (i := 186) (by decide +kernel)) rfl
theorem wd_204 : Cond.fieldLink RX3 11 "ChimeDrum$Layout" "cells" "[I" ∈ lw_g := in_g (List.mem_of_getElem? (i := 204) (by decide +kernel)) rfl
theorem wd_205 : Cond.fieldLink RX6 109 "ChimeDrum$Layout" "cells" "[I" ∈ lw_g := in_g (List.mem_of_getElem? (i := 205) (by decide +kernel)) rfl
theorem wd_206 : Cond.fieldLink RX3 17 "ChimeDrum$Layout" "bellOfStroke" "[I" ∈ lw_g := in_g (List.mem_of_getElem? (i := 206) (by decide +kernel)) rfl
theorem wd_207 : Cond.fieldLink RX3 20 "ChimeDrum$Layout" "holeOfStroke" "[I" ∈ lw_g := in_g (List.mem_of_getElem? (i := 207) (by decide +kernel)) rfl
theorem wd_208 : Cond.fieldLink RX3 25 "ChimeDrum$Layout" "members" "[I" ∈ lw_g := in_g (List.mem_of_getElem? (i := 208) (by decide +kernel)) rfl
theorem wd_209 : Cond.fieldLink RX3 29 "ChimeDrum$Layout" "choice" "LChimeDrum$HammerChoice;" ∈ lw_g := in_g (List.mem_of_getElem? (i := 209) (by decide +kernel)) rfl
theorem wd_210 : Cond.fieldLink RX3 71 "ChimeDrum$Layout" "strokes" "I" ∈ lw_g := in_g (List.mem_of_getElem? (i := 210) (by decide +kernel)) rfl
theorem wd_211 : Cond.fieldLink RX6 112 "ChimeDrum$Layout" "strokes" "I" ∈ lw_g := in_g (List.mem_of_getElem? (i := 211) (by decide +kernel)) rfl
theorem wd_212 : Cond.fieldLink RX3 93 "ChimeDrum$Layout" "lacking" "I" ∈ lw_g := in_g (List.mem_of_getElem? (i := 212) (by decide +kernel)) rfl
theorem wd_213 : Cond.fieldLink RX6 212 "ChimeDrum$Layout" "lacking" "I" ∈ lw_g := in_g (List.mem_of_getElem? (i := 213) (by decide +kernel)) rfl
theorem wd_229 : Cond.classLink RX6 30 RX4 ∈ lw_g := in_g (List.mem_of_getElem? (i := 229) (by decide +kernel)) rfl
theorem wd_230 : Cond.instantiable RX4 2 ∈ lw_g := in_g (List.mem_of_getElem? (i := 230) (by decide +kernel)) rfl
theorem wd_232 : Cond.instanceMethod yX4_init ∈ lw_g := in_g (List.mem_of_getElem? (i := 232) (by decide +kernel)) rfl
theorem wd_233 : Cond.code yX4_init cX4_init 1 none ∈ lw_g := in_g (List.mem_of_getElem? (i := 233) (by decide +kernel)) rfl
theorem wd_234 : Cond.methodLink RX4 1 Lib.objectInit ∈ lw_g := in_g (List.mem_of_getElem? (i := 234) (by decide +kernel)) rfl
theorem wd_235 : Cond.fieldLink RX4 9 "ChimeDrum$Text" "bytes" "[I" ∈ lw_g := in_g (List.mem_of_getElem? (i := 235) (by decide +kernel)) rfl
theorem wd_236 : Cond.fieldLink RX6 171 "ChimeDrum$Text" "bytes" "[I" ∈ lw_g := in_g (List.mem_of_getElem? (i := 236) (by decide +kernel)) rfl
theorem wd_237 : Cond.fieldLink RX4 39 "ChimeDrum$Text" "size" "I" ∈ lw_g := in_g (List.mem_of_getElem? (i := 237) (by decide +kernel)) rfl
theorem wd_238 : Cond.fieldLink RX6 160 "ChimeDrum$Text" "size" "I" ∈ lw_g := in_g (List.mem_of_getElem? (i := 238) (by decide +kernel)) rfl
theorem wd_244 : Cond.classLink RX6 37 RX5 ∈ lw_g := in_g (List.mem_of_getElem? (i := 244) (by decide +kernel)) rfl
theorem wd_246 : Cond.instantiable RX5 8 ∈ lw_g := in_g (List.mem_of_getElem? (i := 246) (by decide +kernel)) rfl
theorem wd_248 : Cond.instanceMethod yX5_init ∈ lw_g := in_g (List.mem_of_getElem? (i := 248) (by decide +kernel)) rfl
theorem wd_249 : Cond.code yX5_init cX5_init 1 none ∈ lw_g := in_g (List.mem_of_getElem? (i := 249) (by decide +kernel)) rfl
theorem wd_250 : Cond.methodLink RX5 5 Lib.objectInit ∈ lw_g := in_g (List.mem_of_getElem? (i := 250) (by decide +kernel)) rfl
theorem wd_251 : Cond.fieldLink RX5 11 "ChimeDrum$Tune" "length" "[I" ∈ lw_g := in_g (List.mem_of_getElem? (i := 251) (by decide +kernel)) rfl
theorem wd_252 : Cond.fieldLink RX3 84 "ChimeDrum$Tune" "length" "[I" ∈ lw_g := in_g (List.mem_of_getElem? (i := 252) (by decide +kernel)) rfl
theorem wd_253 : Cond.fieldLink RX5 15 "ChimeDrum$Tune" "pitch" "[I" ∈ lw_g := in_g (List.mem_of_getElem? (i := 253) (by decide +kernel)) rfl
theorem wd_254 : Cond.fieldLink RX3 74 "ChimeDrum$Tune" "pitch" "[I" ∈ lw_g := in_g (List.mem_of_getElem? (i := 254) (by decide +kernel)) rfl
theorem wd_255 : Cond.fieldLink RX1 56 "ChimeDrum$Tune" "pitch" "[I" ∈ lw_g := in_g (List.mem_of_getElem? (i := 255) (by decide +kernel)) rfl
theorem wd_256 : Cond.fieldLink RX5 18 "ChimeDrum$Tune" "unitOfNote" "[I" ∈ lw_g := in_g (List.mem_of_getElem? (i := 256) (by decide +kernel)) rfl
theorem wd_257 : Cond.fieldLink RX3 81 "ChimeDrum$Tune" "unitOfNote" "[I" ∈ lw_g := in_g (List.mem_of_getElem? (i := 257) (by decide +kernel)) rfl
theorem wd_258 : Cond.fieldLink RX5 21 "ChimeDrum$Tune" "units" "I" ∈ lw_g := in_g (List.mem_of_getElem? (i := 258) (by decide +kernel)) rfl
theorem wd_259 : Cond.fieldLink RX6 189 "ChimeDrum$Tune" "units" "I" ∈ lw_g := in_g (List.mem_of_getElem? (i := 259) (by decide +kernel)) rfl
theorem wd_260 : Cond.fieldLink RX5 25 "ChimeDrum$Tune" "notes" "I" ∈ lw_g := in_g (List.mem_of_getElem? (i := 260) (by decide +kernel)) rfl
theorem wd_261 : Cond.fieldLink RX3 68 "ChimeDrum$Tune" "notes" "I" ∈ lw_g := in_g (List.mem_of_getElem? (i := 261) (by decide +kernel)) rfl
theorem wd_262 : Cond.fieldLink RX1 51 "ChimeDrum$Tune" "notes" "I" ∈ lw_g := in_g (List.mem_of_getElem? (i := 262) (by decide +kernel)) rfl
theorem wd_263 : Cond.fieldLink RX6 192 "ChimeDrum$Tune" "notes" "I" ∈ lw_g := in_g (List.mem_of_getElem? (i := 263) (by decide +kernel)) rfl
theorem wd_264 : Cond.fieldLink RX5 28 "ChimeDrum$Tune" "span" "I" ∈ lw_g := in_g (List.mem_of_getElem? (i := 264) (by decide +kernel)) rfl
theorem wd_265 : Cond.fieldLink RX3 39 "ChimeDrum$Tune" "span" "I" ∈ lw_g := in_g (List.mem_of_getElem? (i := 265) (by decide +kernel)) rfl
theorem wd_266 : Cond.fieldLink RX6 195 "ChimeDrum$Tune" "span" "I" ∈ lw_g := in_g (List.mem_of_getElem? (i := 266) (by decide +kernel)) rfl
theorem wd_267 : Cond.fieldLink RX5 31 "ChimeDrum$Tune" "place" "I" ∈ lw_g := in_g (List.mem_of_getElem? (i := 267) (by decide +kernel)) rfl
theorem wd_268 : Cond.fieldLink RX5 34 "ChimeDrum$Tune" "fault" "I" ∈ lw_g := in_g (List.mem_of_getElem? (i := 268) (by decide +kernel)) rfl
theorem wd_286 : Cond.fieldLink RX6 10 "ChimeDrum" "bells" "LChimeDrum$Bells;" ∈ lw_g := in_g (List.mem_of_getElem? (i := 286) (by decide +kernel)) rfl
theorem wd_287 : Cond.fieldLink RX6 19 "ChimeDrum" "barrel" "LChimeDrum$Barrel;" ∈ lw_g := in_g (List.mem_of_getElem? (i := 287) (by decide +kernel)) rfl
theorem wd_288 : Cond.fieldLink RX6 26 "ChimeDrum" "layout" "LChimeDrum$Layout;" ∈ lw_g := in_g (List.mem_of_getElem? (i := 288) (by decide +kernel)) rfl
theorem wd_289 : Cond.fieldLink RX6 33 "ChimeDrum" "text" "LChimeDrum$Text;" ∈ lw_g := in_g (List.mem_of_getElem? (i := 289) (by decide +kernel)) rfl
theorem wd_290 : Cond.fieldLink RX6 39 "ChimeDrum" "tunes" "[LChimeDrum$Tune;" ∈ lw_g := in_g (List.mem_of_getElem? (i := 290) (by decide +kernel)) rfl
theorem wd_291 : Cond.fieldLink RX6 48 "ChimeDrum" "tape" "[I" ∈ lw_g := in_g (List.mem_of_getElem? (i := 291) (by decide +kernel)) rfl
theorem wd_292 : Cond.fieldLink RX6 44 "ChimeDrum" "draft" "LChimeDrum$Tune;" ∈ lw_g := in_g (List.mem_of_getElem? (i := 292) (by decide +kernel)) rfl
theorem wd_293 : Cond.fieldLink RX6 52 "ChimeDrum" "tapeSize" "I" ∈ lw_g := in_g (List.mem_of_getElem? (i := 293) (by decide +kernel)) rfl
theorem wd_294 : Cond.fieldLink RX6 56 "ChimeDrum" "lift" "I" ∈ lw_g := in_g (List.mem_of_getElem? (i := 294) (by decide +kernel)) rfl
theorem wd_295 : Cond.fieldLink RX6 59 "ChimeDrum" "movedEver" "I" ∈ lw_g := in_g (List.mem_of_getElem? (i := 295) (by decide +kernel)) rfl
theorem wd_317 : Cond.methodLink RL 13 yX6_bell ∈ lw_g := in_g (List.mem_of_getElem? (i := 317) (by decide +kernel)) rfl
theorem wd_318 : Cond.instanceMethod yX6_bell ∈ lw_g := in_g (List.mem_of_getElem? (i := 318) (by decide +kernel)) rfl
theorem wd_319 : Cond.selects RX6 yX6_bell yX6_bell ∈ lw_g := in_g (List.mem_of_getElem? (i := 319) (by decide +kernel)) rfl
theorem wd_320 : Cond.code yX6_bell cX6_bell 5 (some .int) ∈ lw_g := in_g (List.mem_of_getElem? (i := 320) (by decide +kernel)) rfl
theorem wd_321 : Cond.methodLink RX6 62 yX6_isWithin ∈ lw_g := in_g (List.mem_of_getElem? (i := 321) (by decide +kernel)) rfl
theorem wd_322 : Cond.static yX6_isWithin ∈ lw_g := in_g (List.mem_of_getElem? (i := 322) (by decide +kernel)) rfl
theorem wd_323 : Cond.code yX6_isWithin cX6_isWithin 3 (some .boolean) ∈ lw_g := in_g (List.mem_of_getElem? (i := 323) (by decide +kernel)) rfl
theorem wd_324 : Cond.methodLink RX6 66 yX1_hang ∈ lw_g := in_g (List.mem_of_getElem? (i := 324) (by decide +kernel)) rfl
theorem wd_325 : Cond.instanceMethod yX1_hang ∈ lw_g := in_g (List.mem_of_getElem? (i := 325) (by decide +kernel)) rfl
theorem wd_326 : Cond.selects RX1 yX1_hang yX1_hang ∈ lw_g := in_g (List.mem_of_getElem? (i := 326) (by decide +kernel)) rfl
theorem wd_327 : Cond.code yX1_hang cX1_hang 6 (some .int) ∈ lw_g := in_g (List.mem_of_getElem? (i := 327) (by decide +kernel)) rfl
theorem wd_328 : Cond.methodLink RL 18 yX6_crack ∈ lw_g := in_g (List.mem_of_getElem? (i := 328) (by decide +kernel)) rfl
theorem wd_329 : Cond.instanceMethod yX6_crack ∈ lw_g := in_g (List.mem_of_getElem? (i := 329) (by decide +kernel)) rfl
theorem wd_330 : Cond.selects RX6 yX6_crack yX6_crack ∈ lw_g := in_g (List.mem_of_getElem? (i := 330) (by decide +kernel)) rfl
theorem wd_331 : Cond.code yX6_crack cX6_crack 3 (some .boolean) ∈ lw_g := in_g (List.mem_of_getElem? (i := 331) (by decide +kernel)) rfl
theorem wd_332 : Cond.methodLink RX6 70 yX1_has ∈ lw_g := in_g (List.mem_of_getElem? (i := 332) (by decide +kernel)) rfl
theorem wd_333 : Cond.instanceMethod yX1_has ∈ lw_g := in_g (List.mem_of_getElem? (i := 333) (by decide +kernel)) rfl
theorem wd_334 : Cond.selects RX1 yX1_has yX1_has ∈ lw_g := in_g (List.mem_of_getElem? (i := 334) (by decide +kernel)) rfl
theorem wd_335 : Cond.code yX1_has cX1_has 2 (some .boolean) ∈ lw_g := in_g (List.mem_of_getElem? (i := 335) (by decide +kernel)) rfl
theorem wd_336 : Cond.methodLink RL 23 yX6_holes ∈ lw_g := in_g (List.mem_of_getElem? (i := 336) (by decide +kernel)) rfl
theorem wd_337 : Cond.instanceMethod yX6_holes ∈ lw_g := in_g (List.mem_of_getElem? (i := 337) (by decide +kernel)) rfl
theorem wd_338 : Cond.selects RX6 yX6_holes yX6_holes ∈ lw_g := in_g (List.mem_of_getElem? (i := 338) (by decide +kernel)) rfl
theorem wd_339 : Cond.code yX6_holes cX6_holes 2 (some .boolean) ∈ lw_g := in_g (List.mem_of_getElem? (i := 339) (by decide +kernel)) rfl
theorem wd_340 : Cond.methodLink RX6 81 yX0_clear ∈ lw_g := in_g (List.mem_of_getElem? (i := 340) (by decide +kernel)) rfl
theorem wd_341 : Cond.instanceMethod yX0_clear ∈ lw_g := in_g (List.mem_of_getElem? (i := 341) (by decide +kernel)) rfl
theorem wd_342 : Cond.selects RX0 yX0_clear yX0_clear ∈ lw_g := in_g (List.mem_of_getElem? (i := 342) (by decide +kernel)) rfl
theorem wd_343 : Cond.code yX0_clear cX0_clear 1 none ∈ lw_g := in_g (List.mem_of_getElem? (i := 343) (by decide +kernel)) rfl
theorem wd_344 : Cond.methodLink RL 28 yX6_rest ∈ lw_g := in_g (List.mem_of_getElem? (i := 344) (by decide +kernel)) rfl
theorem wd_345 : Cond.instanceMethod yX6_rest ∈ lw_g := in_g (List.mem_of_getElem? (i := 345) (by decide +kernel)) rfl
theorem wd_346 : Cond.selects RX6 yX6_rest yX6_rest ∈ lw_g := in_g (List.mem_of_getElem? (i := 346) (by decide +kernel)) rfl
theorem wd_347 : Cond.code yX6_rest cX6_rest 2 (some .boolean) ∈ lw_g := in_g (List.mem_of_getElem? (i := 347) (by decide +kernel)) rfl
theorem wd_348 : Cond.methodLink RL 32 yX6_force ∈ lw_g := in_g (List.mem_of_getElem? (i := 348) (by decide +kernel)) rfl
theorem wd_349 : Cond.instanceMethod yX6_force ∈ lw_g := in_g (List.mem_of_getElem? (i := 349) (by decide +kernel)) rfl
theorem wd_350 : Cond.selects RX6 yX6_force yX6_force ∈ lw_g := in_g (List.mem_of_getElem? (i := 350) (by decide +kernel)) rfl
theorem wd_351 : Cond.code yX6_force cX6_force 2 (some .boolean) ∈ lw_g := in_g (List.mem_of_getElem? (i := 351) (by decide +kernel)) rfl
theorem wd_352 : Cond.methodLink RL 36 yX6_life ∈ lw_g := in_g (List.mem_of_getElem? (i := 352) (by decide +kernel)) rfl
theorem wd_353 : Cond.instanceMethod yX6_life ∈ lw_g := in_g (List.mem_of_getElem? (i := 353) (by decide +kernel)) rfl
theorem wd_354 : Cond.selects RX6 yX6_life yX6_life ∈ lw_g := in_g (List.mem_of_getElem? (i := 354) (by decide +kernel)) rfl
theorem wd_355 : Cond.code yX6_life cX6_life 2 (some .boolean) ∈ lw_g := in_g (List.mem_of_getElem? (i := 355) (by decide +kernel)) rfl
theorem wd_356 : Cond.methodLink RL 40 yX6_feed ∈ lw_g := in_g (List.mem_of_getElem? (i := 356) (by decide +kernel)) rfl
theorem wd_357 : Cond.instanceMethod yX6_feed ∈ lw_g := in_g (List.mem_of_getElem? (i := 357) (by decide +kernel)) rfl
theorem wd_358 : Cond.selects RX6 yX6_feed yX6_feed ∈ lw_g := in_g (List.mem_of_getElem? (i := 358) (by decide +kernel)) rfl
theorem wd_359 : Cond.code yX6_feed cX6_feed 6 (some .int) ∈ lw_g := in_g (List.mem_of_getElem? (i := 359) (by decide +kernel)) rfl
theorem wd_360 : Cond.methodLink RX6 90 yX6_feedWord ∈ lw_g := in_g (List.mem_of_getElem? (i := 360) (by decide +kernel)) rfl
theorem wd_362 : Cond.instanceMethod yX6_feedWord ∈ lw_g := in_g (List.mem_of_getElem? (i := 362) (by decide +kernel)) rfl
theorem wd_363 : Cond.code yX6_feedWord cX6_feedWord 3 none ∈ lw_g := in_g (List.mem_of_getElem? (i := 363) (by decide +kernel)) rfl
theorem wd_364 : Cond.methodLink RL 45 yX6_tune ∈ lw_g := in_g (List.mem_of_getElem? (i := 364) (by decide +kernel)) rfl
theorem wd_365 : Cond.instanceMethod yX6_tune ∈ lw_g := in_g (List.mem_of_getElem? (i := 365) (by decide +kernel)) rfl
theorem wd_366 : Cond.selects RX6 yX6_tune yX6_tune ∈ lw_g := in_g (List.mem_of_getElem? (i := 366) (by decide +kernel)) rfl
theorem wd_367 : Cond.code yX6_tune cX6_tune 5 (some .int) ∈ lw_g := in_g (List.mem_of_getElem? (i := 367) (by decide +kernel)) rfl
theorem wd_368 : Cond.methodLink RX6 94 yX5_take ∈ lw_g := in_g (List.mem_of_getElem? (i := 368) (by decide +kernel)) rfl
theorem wd_369 : Cond.instanceMethod yX5_take ∈ lw_g := in_g (List.mem_of_getElem? (i := 369) (by decide +kernel)) rfl
theorem wd_370 : Cond.selects RX5 yX5_take yX5_take ∈ lw_g := in_g (List.mem_of_getElem? (i := 370) (by decide +kernel)) rfl
theorem wd_371 : Cond.code yX5_take cX5_take 4 (some .int) ∈ lw_g := in_g (List.mem_of_getElem? (i := 371) (by decide +kernel)) rfl
theorem wd_372 : Cond.methodLink RX5 37 yX5_takeUnit ∈ lw_g := in_g (List.mem_of_getElem? (i := 372) (by decide +kernel)) rfl
theorem wd_374 : Cond.instanceMethod yX5_takeUnit ∈ lw_g := in_g (List.mem_of_getElem? (i := 374) (by decide +kernel)) rfl
theorem wd_375 : Cond.code yX5_takeUnit cX5_takeUnit 4 none ∈ lw_g := in_g (List.mem_of_getElem? (i := 375) (by decide +kernel)) rfl
theorem wd_376 : Cond.methodLink RX5 50 yX5_byteAt ∈ lw_g := in_g (List.mem_of_getElem? (i := 376) (by decide +kernel)) rfl
theorem wd_378 : Cond.instanceMethod yX5_byteAt ∈ lw_g := in_g (List.mem_of_getElem? (i := 378) (by decide +kernel)) rfl
theorem wd_379 : Cond.code yX5_byteAt cX5_byteAt 3 (some .int) ∈ lw_g := in_g (List.mem_of_getElem? (i := 379) (by decide +kernel)) rfl
theorem wd_380 : Cond.methodLink RX5 54 yX5_takeChord ∈ lw_g := in_g (List.mem_of_getElem? (i := 380) (by decide +kernel)) rfl
theorem wd_382 : Cond.instanceMethod yX5_takeChord ∈ lw_g := in_g (List.mem_of_getElem? (i := 382) (by decide +kernel)) rfl
theorem wd_383 : Cond.code yX5_takeChord cX5_takeChord 5 none ∈ lw_g := in_g (List.mem_of_getElem? (i := 383) (by decide +kernel)) rfl
theorem wd_384 : Cond.methodLink RX5 63 yX5_isLetter ∈ lw_g := in_g (List.mem_of_getElem? (i := 384) (by decide +kernel)) rfl
theorem wd_385 : Cond.static yX5_isLetter ∈ lw_g := in_g (List.mem_of_getElem? (i := 385) (by decide +kernel)) rfl
theorem wd_386 : Cond.code yX5_isLetter cX5_isLetter 1 (some .boolean) ∈ lw_g := in_g (List.mem_of_getElem? (i := 386) (by decide +kernel)) rfl
theorem wd_387 : Cond.methodLink RX5 67 yX5_blame ∈ lw_g := in_g (List.mem_of_getElem? (i := 387) (by decide +kernel)) rfl
theorem wd_389 : Cond.instanceMethod yX5_blame ∈ lw_g := in_g (List.mem_of_getElem? (i := 389) (by decide +kernel)) rfl
theorem wd_390 : Cond.code yX5_blame cX5_blame 3 none ∈ lw_g := in_g (List.mem_of_getElem? (i := 390) (by decide +kernel)) rfl
theorem wd_391 : Cond.methodLink RX5 57 yX5_takeNote ∈ lw_g := in_g (List.mem_of_getElem? (i := 391) (by decide +kernel)) rfl
theorem wd_393 : Cond.instanceMethod yX5_takeNote ∈ lw_g := in_g (List.mem_of_getElem? (i := 393) (by decide +kernel)) rfl
theorem wd_394 : Cond.code yX5_takeNote cX5_takeNote 7 none ∈ lw_g := in_g (List.mem_of_getElem? (i := 394) (by decide +kernel)) rfl
theorem wd_395 : Cond.fieldLink RX5 71 "ChimeDrum$Tune" "STEPS" "[I" ∈ lw_g := in_g (List.mem_of_getElem? (i := 395) (by decide +kernel)) rfl
theorem wd_397 : Cond.methodLink RX5 74 yX5_keepNote ∈ lw_g := in_g (List.mem_of_getElem? (i := 397) (by decide +kernel)) rfl
theorem wd_399 : Cond.instanceMethod yX5_keepNote ∈ lw_g := in_g (List.mem_of_getElem? (i := 399) (by decide +kernel)) rfl
theorem wd_400 : Cond.code yX5_keepNote cX5_keepNote 4 none ∈ lw_g := in_g (List.mem_of_getElem? (i := 400) (by decide +kernel)) rfl
theorem wd_401 : Cond.methodLink RX5 60 yX5_takeLength ∈ lw_g := in_g (List.mem_of_getElem? (i := 401) (by decide +kernel)) rfl
theorem wd_403 : Cond.instanceMethod yX5_takeLength ∈ lw_g := in_g (List.mem_of_getElem? (i := 403) (by decide +kernel)) rfl
theorem wd_404 : Cond.code yX5_takeLength cX5_takeLength 4 none ∈ lw_g := in_g (List.mem_of_getElem? (i := 404) (by decide +kernel)) rfl
theorem wd_405 : Cond.methodLink RL 50 yX6_shift ∈ lw_g := in_g (List.mem_of_getElem? (i := 405) (by decide +kernel)) rfl
theorem wd_406 : Cond.instanceMethod yX6_shift ∈ lw_g := in_g (List.mem_of_getElem? (i := 406) (by decide +kernel)) rfl
theorem wd_407 : Cond.selects RX6 yX6_shift yX6_shift ∈ lw_g := in_g (List.mem_of_getElem? (i := 407) (by decide +kernel)) rfl
theorem wd_408 : Cond.code yX6_shift cX6_shift 2 (some .int) ∈ lw_g := in_g (List.mem_of_getElem? (i := 408) (by decide +kernel)) rfl
theorem wd_409 : Cond.methodLink RX6 98 yX6_isTold ∈ lw_g := in_g (List.mem_of_getElem? (i := 409) (by decide +kernel)) rfl
theorem wd_411 : Cond.instanceMethod yX6_isTold ∈ lw_g := in_g (List.mem_of_getElem? (i := 411) (by decide +kernel)) rfl
theorem wd_412 : Cond.code yX6_isTold cX6_isTold 2 (some .boolean) ∈ lw_g := in_g (List.mem_of_getElem? (i := 412) (by decide +kernel)) rfl
theorem wd_413 : Cond.methodLink RX6 101 yX1_bestShift ∈ lw_g := in_g (List.mem_of_getElem? (i := 413) (by decide +kernel)) rfl
theorem wd_414 : Cond.instanceMethod yX1_bestShift ∈ lw_g := in_g (List.mem_of_getElem? (i := 414) (by decide +kernel)) rfl
theorem wd_415 : Cond.selects RX1 yX1_bestShift yX1_bestShift ∈ lw_g := in_g (List.mem_of_getElem? (i := 415) (by decide +kernel)) rfl
theorem wd_416 : Cond.code yX1_bestShift cX1_bestShift 3 (some .int) ∈ lw_g := in_g (List.mem_of_getElem? (i := 416) (by decide +kernel)) rfl
theorem wd_417 : Cond.methodLink RX1 47 yX1_canPlay ∈ lw_g := in_g (List.mem_of_getElem? (i := 417) (by decide +kernel)) rfl
theorem wd_419 : Cond.instanceMethod yX1_canPlay ∈ lw_g := in_g (List.mem_of_getElem? (i := 419) (by decide +kernel)) rfl
theorem wd_420 : Cond.code yX1_canPlay cX1_canPlay 4 (some .boolean) ∈ lw_g := in_g (List.mem_of_getElem? (i := 420) (by decide +kernel)) rfl
theorem wd_421 : Cond.methodLink RX1 57 yX1_wholeAt ∈ lw_g := in_g (List.mem_of_getElem? (i := 421) (by decide +kernel)) rfl
theorem wd_422 : Cond.instanceMethod yX1_wholeAt ∈ lw_g := in_g (List.mem_of_getElem? (i := 422) (by decide +kernel)) rfl
theorem wd_423 : Cond.selects RX1 yX1_wholeAt yX1_wholeAt ∈ lw_g := in_g (List.mem_of_getElem? (i := 423) (by decide +kernel)) rfl
theorem wd_424 : Cond.code yX1_wholeAt cX1_wholeAt 3 (some .int) ∈ lw_g := in_g (List.mem_of_getElem? (i := 424) (by decide +kernel)) rfl
theorem wd_425 : Cond.methodLink RL 55 yX6_set ∈ lw_g := in_g (List.mem_of_getElem? (i := 425) (by decide +kernel)) rfl
theorem wd_426 : Cond.instanceMethod yX6_set ∈ lw_g := in_g (List.mem_of_getElem? (i := 426) (by decide +kernel)) rfl
theorem wd_427 : Cond.selects RX6 yX6_set yX6_set ∈ lw_g := in_g (List.mem_of_getElem? (i := 427) (by decide +kernel)) rfl
theorem wd_428 : Cond.code yX6_set cX6_set 4 (some .int) ∈ lw_g := in_g (List.mem_of_getElem? (i := 428) (by decide +kernel)) rfl
theorem wd_429 : Cond.methodLink RX6 105 yX6_movedBy ∈ lw_g := in_g (List.mem_of_getElem? (i := 429) (by decide +kernel)) rfl
theorem wd_431 : Cond.instanceMethod yX6_movedBy ∈ lw_g := in_g (List.mem_of_getElem? (i := 431) (by decide +kernel)) rfl
theorem wd_432 : Cond.code yX6_movedBy cX6_movedBy 4 (some .int) ∈ lw_g := in_g (List.mem_of_getElem? (i := 432) (by decide +kernel)) rfl
theorem wd_433 : Cond.methodLink RX6 119 yX0_hasHole ∈ lw_g := in_g (List.mem_of_getElem? (i := 433) (by decide +kernel)) rfl
theorem wd_434 : Cond.instanceMethod yX0_hasHole ∈ lw_g := in_g (List.mem_of_getElem? (i := 434) (by decide +kernel)) rfl
theorem wd_435 : Cond.selects RX0 yX0_hasHole yX0_hasHole ∈ lw_g := in_g (List.mem_of_getElem? (i := 435) (by decide +kernel)) rfl
theorem wd_436 : Cond.code yX0_hasHole cX0_hasHole 2 (some .boolean) ∈ lw_g := in_g (List.mem_of_getElem? (i := 436) (by decide +kernel)) rfl
theorem wd_437 : Cond.methodLink RX6 122 yX3_plan ∈ lw_g := in_g (List.mem_of_getElem? (i := 437) (by decide +kernel)) rfl
theorem wd_438 : Cond.instanceMethod yX3_plan ∈ lw_g := in_g (List.mem_of_getElem? (i := 438) (by decide +kernel)) rfl
theorem wd_439 : Cond.selects RX3 yX3_plan yX3_plan ∈ lw_g := in_g (List.mem_of_getElem? (i := 439) (by decide +kernel)) rfl
theorem wd_440 : Cond.code yX3_plan cX3_plan 7 (some .int) ∈ lw_g := in_g (List.mem_of_getElem? (i := 440) (by decide +kernel)) rfl
theorem wd_441 : Cond.methodLink RX3 33 yX1_bestShift ∈ lw_g := in_g (List.mem_of_getElem? (i := 441) (by decide +kernel)) rfl
theorem wd_442 : Cond.methodLink RX3 48 yX3_giveStrokesBells ∈ lw_g := in_g (List.mem_of_getElem? (i := 442) (by decide +kernel)) rfl
theorem wd_444 : Cond.instanceMethod yX3_giveStrokesBells ∈ lw_g := in_g (List.mem_of_getElem? (i := 444) (by decide +kernel)) rfl
theorem wd_445 : Cond.code yX3_giveStrokesBells cX3_giveStrokesBells 5 none ∈ lw_g := in_g (List.mem_of_getElem? (i := 445) (by decide +kernel)) rfl
theorem wd_446 : Cond.methodLink RX3 77 yX1_wholeAt ∈ lw_g := in_g (List.mem_of_getElem? (i := 446) (by decide +kernel)) rfl
theorem wd_447 : Cond.methodLink RX3 52 yX3_giveStrokesHoles ∈ lw_g := in_g (List.mem_of_getElem? (i := 447) (by decide +kernel)) rfl
theorem wd_449 : Cond.instanceMethod yX3_giveStrokesHoles ∈ lw_g := in_g (List.mem_of_getElem? (i := 449) (by decide +kernel)) rfl
theorem wd_450 : Cond.code yX3_giveStrokesHoles cX3_giveStrokesHoles 7 none ∈ lw_g := in_g (List.mem_of_getElem? (i := 450) (by decide +kernel)) rfl
theorem wd_451 : Cond.methodLink RX3 56 yX3_isTooHeavy ∈ lw_g := in_g (List.mem_of_getElem? (i := 451) (by decide +kernel)) rfl
theorem wd_453 : Cond.instanceMethod yX3_isTooHeavy ∈ lw_g := in_g (List.mem_of_getElem? (i := 453) (by decide +kernel)) rfl
theorem wd_454 : Cond.code yX3_isTooHeavy cX3_isTooHeavy 6 (some .boolean) ∈ lw_g := in_g (List.mem_of_getElem? (i := 454) (by decide +kernel)) rfl
theorem wd_455 : Cond.methodLink RX3 60 yX3_isTooOften ∈ lw_g := in_g (List.mem_of_getElem? (i := 455) (by decide +kernel)) rfl
theorem wd_457 : Cond.instanceMethod yX3_isTooOften ∈ lw_g := in_g (List.mem_of_getElem? (i := 457) (by decide +kernel)) rfl
theorem wd_458 : Cond.code yX3_isTooOften cX3_isTooOften 5 (some .boolean) ∈ lw_g := in_g (List.mem_of_getElem? (i := 458) (by decide +kernel)) rfl
theorem wd_459 : Cond.methodLink RX3 64 yX3_giveStrokesHammers ∈ lw_g := in_g (List.mem_of_getElem? (i := 459) (by decide +kernel)) rfl
theorem wd_461 : Cond.instanceMethod yX3_giveStrokesHammers ∈ lw_g := in_g (List.mem_of_getElem? (i := 461) (by decide +kernel)) rfl
theorem wd_462 : Cond.code yX3_giveStrokesHammers cX3_giveStrokesHammers 7 (some .boolean) ∈ lw_g := in_g (List.mem_of_getElem? (i := 462) (by decide +kernel)) rfl
theorem wd_463 : Cond.methodLink RX3 96 yX3_gather ∈ lw_g := in_g (List.mem_of_getElem? (i := 463) (by decide +kernel)) rfl
theorem wd_465 : Cond.instanceMethod yX3_gather ∈ lw_g := in_g (List.mem_of_getElem? (i := 465) (by decide +kernel)) rfl
theorem wd_466 : Cond.code yX3_gather cX3_gather 5 none ∈ lw_g := in_g (List.mem_of_getElem? (i := 466) (by decide +kernel)) rfl
theorem wd_467 : Cond.methodLink RX3 118 yX2_begin ∈ lw_g := in_g (List.mem_of_getElem? (i := 467) (by decide +kernel)) rfl
theorem wd_468 : Cond.instanceMethod yX2_begin ∈ lw_g := in_g (List.mem_of_getElem? (i := 468) (by decide +kernel)) rfl
theorem wd_469 : Cond.selects RX2 yX2_begin yX2_begin ∈ lw_g := in_g (List.mem_of_getElem? (i := 469) (by decide +kernel)) rfl
theorem wd_470 : Cond.code yX2_begin cX2_begin 2 none ∈ lw_g := in_g (List.mem_of_getElem? (i := 470) (by decide +kernel)) rfl
theorem wd_471 : Cond.methodLink RX3 122 yX2_add ∈ lw_g := in_g (List.mem_of_getElem? (i := 471) (by decide +kernel)) rfl
theorem wd_472 : Cond.instanceMethod yX2_add ∈ lw_g := in_g (List.mem_of_getElem? (i := 472) (by decide +kernel)) rfl
theorem wd_473 : Cond.selects RX2 yX2_add yX2_add ∈ lw_g := in_g (List.mem_of_getElem? (i := 473) (by decide +kernel)) rfl
theorem wd_474 : Cond.code yX2_add cX2_add 6 none ∈ lw_g := in_g (List.mem_of_getElem? (i := 474) (by decide +kernel)) rfl
theorem wd_475 : Cond.methodLink RX2 35 yX0_hasPin ∈ lw_g := in_g (List.mem_of_getElem? (i := 475) (by decide +kernel)) rfl
theorem wd_476 : Cond.instanceMethod yX0_hasPin ∈ lw_g := in_g (List.mem_of_getElem? (i := 476) (by decide +kernel)) rfl
theorem wd_477 : Cond.selects RX0 yX0_hasPin yX0_hasPin ∈ lw_g := in_g (List.mem_of_getElem? (i := 477) (by decide +kernel)) rfl
theorem wd_478 : Cond.code yX0_hasPin cX0_hasPin 3 (some .boolean) ∈ lw_g := in_g (List.mem_of_getElem? (i := 478) (by decide +kernel)) rfl
theorem wd_479 : Cond.methodLink RX0 38 yX0_cell ∈ lw_g := in_g (List.mem_of_getElem? (i := 479) (by decide +kernel)) rfl
theorem wd_480 : Cond.static yX0_cell ∈ lw_g := in_g (List.mem_of_getElem? (i := 480) (by decide +kernel)) rfl
theorem wd_481 : Cond.code yX0_cell cX0_cell 2 (some .int) ∈ lw_g := in_g (List.mem_of_getElem? (i := 481) (by decide +kernel)) rfl
theorem wd_482 : Cond.methodLink RX3 100 yX2_choose ∈ lw_g := in_g (List.mem_of_getElem? (i := 482) (by decide +kernel)) rfl
theorem wd_483 : Cond.instanceMethod yX2_choose ∈ lw_g := in_g (List.mem_of_getElem? (i := 483) (by decide +kernel)) rfl
theorem wd_484 : Cond.selects RX2 yX2_choose yX2_choose ∈ lw_g := in_g (List.mem_of_getElem? (i := 484) (by decide +kernel)) rfl
theorem wd_485 : Cond.code yX2_choose cX2_choose 3 (some .int) ∈ lw_g := in_g (List.mem_of_getElem? (i := 485) (by decide +kernel)) rfl
theorem wd_486 : Cond.methodLink RX2 41 yX2_findClashes ∈ lw_g := in_g (List.mem_of_getElem? (i := 486) (by decide +kernel)) rfl
theorem wd_488 : Cond.instanceMethod yX2_findClashes ∈ lw_g := in_g (List.mem_of_getElem? (i := 488) (by decide +kernel)) rfl
theorem wd_489 : Cond.code yX2_findClashes cX2_findClashes 4 (some .boolean) ∈ lw_g := in_g (List.mem_of_getElem? (i := 489) (by decide +kernel)) rfl
theorem wd_490 : Cond.methodLink RX2 52 yX0_isTooNear ∈ lw_g := in_g (List.mem_of_getElem? (i := 490) (by decide +kernel)) rfl
theorem wd_491 : Cond.instanceMethod yX0_isTooNear ∈ lw_g := in_g (List.mem_of_getElem? (i := 491) (by decide +kernel)) rfl
theorem wd_492 : Cond.selects RX0 yX0_isTooNear yX0_isTooNear ∈ lw_g := in_g (List.mem_of_getElem? (i := 492) (by decide +kernel)) rfl
theorem wd_493 : Cond.code yX0_isTooNear cX0_isTooNear 4 (some .boolean) ∈ lw_g := in_g (List.mem_of_getElem? (i := 493) (by decide +kernel)) rfl
theorem wd_494 : Cond.methodLink RX2 55 Lib.Math.min.name ∈ lw_g := in_g (List.mem_of_getElem? (i := 494) (by decide +kernel)) rfl
theorem wd_495 : Cond.static Lib.Math.min.name ∈ lw_g := in_g (List.mem_of_getElem? (i := 495) (by decide +kernel)) rfl
theorem wd_496 : Cond.code Lib.Math.min.name Lib.Math.min.code 2 (some .int) ∈ lw_g := in_g (List.mem_of_getElem? (i := 496) (by decide +kernel)) rfl
theorem wd_497 : Cond.methodLink RX2 45 yX2_decideStroke ∈ lw_g := in_g (List.mem_of_getElem? (i := 497) (by decide +kernel)) rfl
theorem wd_499 : Cond.instanceMethod yX2_decideStroke ∈ lw_g := in_g (List.mem_of_getElem? (i := 499) (by decide +kernel)) rfl
theorem wd_500 : Cond.code yX2_decideStroke cX2_decideStroke 11 none ∈ lw_g := in_g (List.mem_of_getElem? (i := 500) (by decide +kernel)) rfl
theorem wd_501 : Cond.methodLink RX2 61 yX2_busyHammers ∈ lw_g := in_g (List.mem_of_getElem? (i := 501) (by decide +kernel)) rfl
theorem wd_503 : Cond.instanceMethod yX2_busyHammers ∈ lw_g := in_g (List.mem_of_getElem? (i := 503) (by decide +kernel)) rfl
theorem wd_504 : Cond.code yX2_busyHammers cX2_busyHammers 5 (some .int) ∈ lw_g := in_g (List.mem_of_getElem? (i := 504) (by decide +kernel)) rfl
theorem wd_505 : Cond.methodLink RX2 64 yX2_decide ∈ lw_g := in_g (List.mem_of_getElem? (i := 505) (by decide +kernel)) rfl
theorem wd_507 : Cond.instanceMethod yX2_decide ∈ lw_g := in_g (List.mem_of_getElem? (i := 507) (by decide +kernel)) rfl
theorem wd_508 : Cond.code yX2_decide cX2_decide 10 none ∈ lw_g := in_g (List.mem_of_getElem? (i := 508) (by decide +kernel)) rfl
theorem wd_509 : Cond.fieldLink RX2 68 "ChimeDrum$HammerChoice" "DIGITS" "[I" ∈ lw_g := in_g (List.mem_of_getElem? (i := 509) (by decide +kernel)) rfl
theorem wd_511 : Cond.methodLink RX2 49 yX2_followBest ∈ lw_g := in_g (List.mem_of_getElem? (i := 511) (by decide +kernel)) rfl
theorem wd_513 : Cond.instanceMethod yX2_followBest ∈ lw_g := in_g (List.mem_of_getElem? (i := 513) (by decide +kernel)) rfl
theorem wd_514 : Cond.code yX2_followBest cX2_followBest 3 none ∈ lw_g := in_g (List.mem_of_getElem? (i := 514) (by decide +kernel)) rfl
theorem wd_515 : Cond.methodLink RX2 71 yX2_hammerOf ∈ lw_g := in_g (List.mem_of_getElem? (i := 515) (by decide +kernel)) rfl
theorem wd_516 : Cond.static yX2_hammerOf ∈ lw_g := in_g (List.mem_of_getElem? (i := 516) (by decide +kernel)) rfl
theorem wd_517 : Cond.code yX2_hammerOf cX2_hammerOf 2 (some .int) ∈ lw_g := in_g (List.mem_of_getElem? (i := 517) (by decide +kernel)) rfl
theorem wd_518 : Cond.methodLink RX3 111 yX0_cell ∈ lw_g := in_g (List.mem_of_getElem? (i := 518) (by decide +kernel)) rfl
theorem wd_519 : Cond.methodLink RX6 115 yX0_keepOnly ∈ lw_g := in_g (List.mem_of_getElem? (i := 519) (by decide +kernel)) rfl
theorem wd_520 : Cond.instanceMethod yX0_keepOnly ∈ lw_g := in_g (List.mem_of_getElem? (i := 520) (by decide +kernel)) rfl
theorem wd_521 : Cond.selects RX0 yX0_keepOnly yX0_keepOnly ∈ lw_g := in_g (List.mem_of_getElem? (i := 521) (by decide +kernel)) rfl
theorem wd_522 : Cond.code yX0_keepOnly cX0_keepOnly 4 none ∈ lw_g := in_g (List.mem_of_getElem? (i := 522) (by decide +kernel)) rfl
theorem wd_523 : Cond.methodLink RX0 52 Lib.Math.max.name ∈ lw_g := in_g (List.mem_of_getElem? (i := 523) (by decide +kernel)) rfl
theorem wd_524 : Cond.static Lib.Math.max.name ∈ lw_g := in_g (List.mem_of_getElem? (i := 524) (by decide +kernel)) rfl
theorem wd_525 : Cond.code Lib.Math.max.name Lib.Math.max.code 2 (some .int) ∈ lw_g := in_g (List.mem_of_getElem? (i := 525) (by decide +kernel)) rfl
theorem wd_526 : Cond.methodLink RX0 57 yX0_clear ∈ lw_g := in_g (List.mem_of_getElem? (i := 526) (by decide +kernel)) rfl
theorem wd_527 : Cond.methodLink RL 59 yX6_moves ∈ lw_g := in_g (List.mem_of_getElem? (i := 527) (by decide +kernel)) rfl
theorem wd_528 : Cond.instanceMethod yX6_moves ∈ lw_g := in_g (List.mem_of_getElem? (i := 528) (by decide +kernel)) rfl
theorem wd_529 : Cond.selects RX6 yX6_moves yX6_moves ∈ lw_g := in_g (List.mem_of_getElem? (i := 529) (by decide +kernel)) rfl
theorem wd_530 : Cond.code yX6_moves cX6_moves 3 (some .int) ∈ lw_g := in_g (List.mem_of_getElem? (i := 530) (by decide +kernel)) rfl
theorem wd_531 : Cond.methodLink RL 63 yX6_why ∈ lw_g := in_g (List.mem_of_getElem? (i := 531) (by decide +kernel)) rfl
theorem wd_532 : Cond.instanceMethod yX6_why ∈ lw_g := in_g (List.mem_of_getElem? (i := 532) (by decide +kernel)) rfl
theorem wd_533 : Cond.selects RX6 yX6_why yX6_why ∈ lw_g := in_g (List.mem_of_getElem? (i := 533) (by decide +kernel)) rfl
theorem wd_534 : Cond.code yX6_why cX6_why 3 (some .int) ∈ lw_g := in_g (List.mem_of_getElem? (i := 534) (by decide +kernel)) rfl
theorem wd_535 : Cond.methodLink RL 67 yX6_nearest ∈ lw_g := in_g (List.mem_of_getElem? (i := 535) (by decide +kernel)) rfl
theorem wd_536 : Cond.instanceMethod yX6_nearest ∈ lw_g := in_g (List.mem_of_getElem? (i := 536) (by decide +kernel)) rfl
theorem wd_537 : Cond.selects RX6 yX6_nearest yX6_nearest ∈ lw_g := in_g (List.mem_of_getElem? (i := 537) (by decide +kernel)) rfl
theorem wd_538 : Cond.code yX6_nearest cX6_nearest 6 (some .int) ∈ lw_g := in_g (List.mem_of_getElem? (i := 538) (by decide +kernel)) rfl
theorem wd_539 : Cond.methodLink RL 71 yX6_pin ∈ lw_g := in_g (List.mem_of_getElem? (i := 539) (by decide +kernel)) rfl
theorem wd_540 : Cond.instanceMethod yX6_pin ∈ lw_g := in_g (List.mem_of_getElem? (i := 540) (by decide +kernel)) rfl
theorem wd_541 : Cond.selects RX6 yX6_pin yX6_pin ∈ lw_g := in_g (List.mem_of_getElem? (i := 541) (by decide +kernel)) rfl
theorem wd_542 : Cond.code yX6_pin cX6_pin 4 (some .boolean) ∈ lw_g := in_g (List.mem_of_getElem? (i := 542) (by decide +kernel)) rfl
theorem wd_543 : Cond.methodLink RX6 126 yX6_isPlace ∈ lw_g := in_g (List.mem_of_getElem? (i := 543) (by decide +kernel)) rfl
theorem wd_545 : Cond.instanceMethod yX6_isPlace ∈ lw_g := in_g (List.mem_of_getElem? (i := 545) (by decide +kernel)) rfl
theorem wd_546 : Cond.code yX6_isPlace cX6_isPlace 3 (some .boolean) ∈ lw_g := in_g (List.mem_of_getElem? (i := 546) (by decide +kernel)) rfl
theorem wd_547 : Cond.methodLink RX6 130 yX0_hasPin ∈ lw_g := in_g (List.mem_of_getElem? (i := 547) (by decide +kernel)) rfl
theorem wd_548 : Cond.methodLink RX6 133 yX0_takeOut ∈ lw_g := in_g (List.mem_of_getElem? (i := 548) (by decide +kernel)) rfl
theorem wd_549 : Cond.instanceMethod yX0_takeOut ∈ lw_g := in_g (List.mem_of_getElem? (i := 549) (by decide +kernel)) rfl
theorem wd_550 : Cond.selects RX0 yX0_takeOut yX0_takeOut ∈ lw_g := in_g (List.mem_of_getElem? (i := 550) (by decide +kernel)) rfl
theorem wd_551 : Cond.code yX0_takeOut cX0_takeOut 3 none ∈ lw_g := in_g (List.mem_of_getElem? (i := 551) (by decide +kernel)) rfl
theorem wd_552 : Cond.methodLink RX6 137 yX0_isCrowded ∈ lw_g := in_g (List.mem_of_getElem? (i := 552) (by decide +kernel)) rfl
theorem wd_553 : Cond.instanceMethod yX0_isCrowded ∈ lw_g := in_g (List.mem_of_getElem? (i := 553) (by decide +kernel)) rfl
theorem wd_554 : Cond.selects RX0 yX0_isCrowded yX0_isCrowded ∈ lw_g := in_g (List.mem_of_getElem? (i := 554) (by decide +kernel)) rfl
theorem wd_555 : Cond.code yX0_isCrowded cX0_isCrowded 4 (some .boolean) ∈ lw_g := in_g (List.mem_of_getElem? (i := 555) (by decide +kernel)) rfl
theorem wd_556 : Cond.methodLink RX0 45 yX0_hasPin ∈ lw_g := in_g (List.mem_of_getElem? (i := 556) (by decide +kernel)) rfl
theorem wd_557 : Cond.methodLink RX0 49 yX0_isTooNear ∈ lw_g := in_g (List.mem_of_getElem? (i := 557) (by decide +kernel)) rfl
theorem wd_558 : Cond.methodLink RX6 140 yX0_putIn ∈ lw_g := in_g (List.mem_of_getElem? (i := 558) (by decide +kernel)) rfl
theorem wd_559 : Cond.instanceMethod yX0_putIn ∈ lw_g := in_g (List.mem_of_getElem? (i := 559) (by decide +kernel)) rfl
theorem wd_560 : Cond.selects RX0 yX0_putIn yX0_putIn ∈ lw_g := in_g (List.mem_of_getElem? (i := 560) (by decide +kernel)) rfl
theorem wd_561 : Cond.code yX0_putIn cX0_putIn 3 none ∈ lw_g := in_g (List.mem_of_getElem? (i := 561) (by decide +kernel)) rfl
theorem wd_562 : Cond.methodLink RL 76 yX6_mend ∈ lw_g := in_g (List.mem_of_getElem? (i := 562) (by decide +kernel)) rfl
theorem wd_563 : Cond.instanceMethod yX6_mend ∈ lw_g := in_g (List.mem_of_getElem? (i := 563) (by decide +kernel)) rfl
theorem wd_564 : Cond.selects RX6 yX6_mend yX6_mend ∈ lw_g := in_g (List.mem_of_getElem? (i := 564) (by decide +kernel)) rfl
theorem wd_565 : Cond.code yX6_mend cX6_mend 4 (some .int) ∈ lw_g := in_g (List.mem_of_getElem? (i := 565) (by decide +kernel)) rfl
theorem wd_566 : Cond.methodLink RX6 143 yX6_strikesAt ∈ lw_g := in_g (List.mem_of_getElem? (i := 566) (by decide +kernel)) rfl
theorem wd_568 : Cond.instanceMethod yX6_strikesAt ∈ lw_g := in_g (List.mem_of_getElem? (i := 568) (by decide +kernel)) rfl
theorem wd_569 : Cond.code yX6_strikesAt cX6_strikesAt 3 (some .int) ∈ lw_g := in_g (List.mem_of_getElem? (i := 569) (by decide +kernel)) rfl
theorem wd_570 : Cond.methodLink RX6 149 yX0_cell ∈ lw_g := in_g (List.mem_of_getElem? (i := 570) (by decide +kernel)) rfl
theorem wd_571 : Cond.methodLink RL 80 yX6_turn ∈ lw_g := in_g (List.mem_of_getElem? (i := 571) (by decide +kernel)) rfl
theorem wd_572 : Cond.instanceMethod yX6_turn ∈ lw_g := in_g (List.mem_of_getElem? (i := 572) (by decide +kernel)) rfl
theorem wd_573 : Cond.selects RX6 yX6_turn yX6_turn ∈ lw_g := in_g (List.mem_of_getElem? (i := 573) (by decide +kernel)) rfl
theorem wd_574 : Cond.code yX6_turn cX6_turn 6 (some .int) ∈ lw_g := in_g (List.mem_of_getElem? (i := 574) (by decide +kernel)) rfl
theorem wd_575 : Cond.methodLink RX6 152 yX0_strikeHole ∈ lw_g := in_g (List.mem_of_getElem? (i := 575) (by decide +kernel)) rfl
theorem wd_576 : Cond.instanceMethod yX0_strikeHole ∈ lw_g := in_g (List.mem_of_getElem? (i := 576) (by decide +kernel)) rfl
theorem wd_577 : Cond.selects RX0 yX0_strikeHole yX0_strikeHole ∈ lw_g := in_g (List.mem_of_getElem? (i := 577) (by decide +kernel)) rfl
theorem wd_578 : Cond.code yX0_strikeHole cX0_strikeHole 5 (some .int) ∈ lw_g := in_g (List.mem_of_getElem? (i := 578) (by decide +kernel)) rfl
theorem wd_579 : Cond.methodLink RX0 63 yX0_willStrike ∈ lw_g := in_g (List.mem_of_getElem? (i := 579) (by decide +kernel)) rfl
theorem wd_581 : Cond.instanceMethod yX0_willStrike ∈ lw_g := in_g (List.mem_of_getElem? (i := 581) (by decide +kernel)) rfl
theorem wd_582 : Cond.code yX0_willStrike cX0_willStrike 3 (some .boolean) ∈ lw_g := in_g (List.mem_of_getElem? (i := 582) (by decide +kernel)) rfl
theorem wd_583 : Cond.methodLink RX6 156 yX0_next ∈ lw_g := in_g (List.mem_of_getElem? (i := 583) (by decide +kernel)) rfl
theorem wd_584 : Cond.instanceMethod yX0_next ∈ lw_g := in_g (List.mem_of_getElem? (i := 584) (by decide +kernel)) rfl
theorem wd_585 : Cond.selects RX0 yX0_next yX0_next ∈ lw_g := in_g (List.mem_of_getElem? (i := 585) (by decide +kernel)) rfl
theorem wd_586 : Cond.code yX0_next cX0_next 2 (some .int) ∈ lw_g := in_g (List.mem_of_getElem? (i := 586) (by decide +kernel)) rfl
theorem wd_587 : Cond.methodLink RL 84 yX6_read ∈ lw_g := in_g (List.mem_of_getElem? (i := 587) (by decide +kernel)) rfl
theorem wd_588 : Cond.instanceMethod yX6_read ∈ lw_g := in_g (List.mem_of_getElem? (i := 588) (by decide +kernel)) rfl
theorem wd_589 : Cond.selects RX6 yX6_read yX6_read ∈ lw_g := in_g (List.mem_of_getElem? (i := 589) (by decide +kernel)) rfl
theorem wd_590 : Cond.code yX6_read cX6_read 10 (some .int) ∈ lw_g := in_g (List.mem_of_getElem? (i := 590) (by decide +kernel)) rfl
theorem wd_591 : Cond.methodLink RX6 163 yX0_soundAt ∈ lw_g := in_g (List.mem_of_getElem? (i := 591) (by decide +kernel)) rfl
theorem wd_592 : Cond.instanceMethod yX0_soundAt ∈ lw_g := in_g (List.mem_of_getElem? (i := 592) (by decide +kernel)) rfl
theorem wd_593 : Cond.selects RX0 yX0_soundAt yX0_soundAt ∈ lw_g := in_g (List.mem_of_getElem? (i := 593) (by decide +kernel)) rfl
theorem wd_594 : Cond.code yX0_soundAt cX0_soundAt 7 (some .long) ∈ lw_g := in_g (List.mem_of_getElem? (i := 594) (by decide +kernel)) rfl
theorem wd_595 : Cond.methodLink RX6 167 yX4_addUnit ∈ lw_g := in_g (List.mem_of_getElem? (i := 595) (by decide +kernel)) rfl
theorem wd_596 : Cond.instanceMethod yX4_addUnit ∈ lw_g := in_g (List.mem_of_getElem? (i := 596) (by decide +kernel)) rfl
theorem wd_597 : Cond.selects RX4 yX4_addUnit yX4_addUnit ∈ lw_g := in_g (List.mem_of_getElem? (i := 597) (by decide +kernel)) rfl
theorem wd_598 : Cond.code yX4_addUnit cX4_addUnit 5 none ∈ lw_g := in_g (List.mem_of_getElem? (i := 598) (by decide +kernel)) rfl
theorem wd_599 : Cond.methodLink RX4 13 yX4_add ∈ lw_g := in_g (List.mem_of_getElem? (i := 599) (by decide +kernel)) rfl
theorem wd_601 : Cond.instanceMethod yX4_add ∈ lw_g := in_g (List.mem_of_getElem? (i := 601) (by decide +kernel)) rfl
theorem wd_602 : Cond.code yX4_add cX4_add 2 none ∈ lw_g := in_g (List.mem_of_getElem? (i := 602) (by decide +kernel)) rfl
theorem wd_603 : Cond.methodLink RX4 17 yX4_addNotes ∈ lw_g := in_g (List.mem_of_getElem? (i := 603) (by decide +kernel)) rfl
theorem wd_605 : Cond.instanceMethod yX4_addNotes ∈ lw_g := in_g (List.mem_of_getElem? (i := 605) (by decide +kernel)) rfl
theorem wd_606 : Cond.code yX4_addNotes cX4_addNotes 5 none ∈ lw_g := in_g (List.mem_of_getElem? (i := 606) (by decide +kernel)) rfl
theorem wd_608 : Cond.methodLink RX4 31 yJ0_charAt_5068e ∈ lw_g := in_g (List.mem_of_getElem? (i := 608) (by decide +kernel)) rfl
theorem wd_649 : Cond.methodLink RX4 21 Lib.Math.min.name ∈ lw_g := in_g (List.mem_of_getElem? (i := 649) (by decide +kernel)) rfl
theorem wd_650 : Cond.arrayClass .byte ∈ lw_g := in_g (List.mem_of_getElem? (i := 650) (by decide +kernel)) rfl
theorem wd_651 : Cond.methodLink RL 88 yX6_octet ∈ lw_g := in_g (List.mem_of_getElem? (i := 651) (by decide +kernel)) rfl
theorem wd_652 : Cond.instanceMethod yX6_octet ∈ lw_g := in_g (List.mem_of_getElem? (i := 652) (by decide +kernel)) rfl
theorem wd_653 : Cond.selects RX6 yX6_octet yX6_octet ∈ lw_g := in_g (List.mem_of_getElem? (i := 653) (by decide +kernel)) rfl
theorem wd_654 : Cond.code yX6_octet cX6_octet 2 (some .int) ∈ lw_g := in_g (List.mem_of_getElem? (i := 654) (by decide +kernel)) rfl
theorem wd_655 : Cond.methodLink RL 92 yX6_strikes ∈ lw_g := in_g (List.mem_of_getElem? (i := 655) (by decide +kernel)) rfl
theorem wd_656 : Cond.instanceMethod yX6_strikes ∈ lw_g := in_g (List.mem_of_getElem? (i := 656) (by decide +kernel)) rfl
theorem wd_657 : Cond.selects RX6 yX6_strikes yX6_strikes ∈ lw_g := in_g (List.mem_of_getElem? (i := 657) (by decide +kernel)) rfl
theorem wd_658 : Cond.code yX6_strikes cX6_strikes 3 (some .int) ∈ lw_g := in_g (List.mem_of_getElem? (i := 658) (by decide +kernel)) rfl
theorem wd_659 : Cond.methodLink RL 96 yX6_look ∈ lw_g := in_g (List.mem_of_getElem? (i := 659) (by decide +kernel)) rfl
theorem wd_660 : Cond.instanceMethod yX6_look ∈ lw_g := in_g (List.mem_of_getElem? (i := 660) (by decide +kernel)) rfl
theorem wd_661 : Cond.selects RX6 yX6_look yX6_look ∈ lw_g := in_g (List.mem_of_getElem? (i := 661) (by decide +kernel)) rfl
theorem wd_662 : Cond.code yX6_look cX6_look 5 (some .int) ∈ lw_g := in_g (List.mem_of_getElem? (i := 662) (by decide +kernel)) rfl
theorem wd_663 : Cond.methodLink RX6 186 yX0_pinsWith ∈ lw_g := in_g (List.mem_of_getElem? (i := 663) (by decide +kernel)) rfl
theorem wd_664 : Cond.instanceMethod yX0_pinsWith ∈ lw_g := in_g (List.mem_of_getElem? (i := 664) (by decide +kernel)) rfl
theorem wd_665 : Cond.selects RX0 yX0_pinsWith yX0_pinsWith ∈ lw_g := in_g (List.mem_of_getElem? (i := 665) (by decide +kernel)) rfl
theorem wd_666 : Cond.code yX0_pinsWith cX0_pinsWith 7 (some .int) ∈ lw_g := in_g (List.mem_of_getElem? (i := 666) (by decide +kernel)) rfl
theorem wd_667 : Cond.methodLink RL 100 yX6_told ∈ lw_g := in_g (List.mem_of_getElem? (i := 667) (by decide +kernel)) rfl
theorem wd_668 : Cond.instanceMethod yX6_told ∈ lw_g := in_g (List.mem_of_getElem? (i := 668) (by decide +kernel)) rfl
theorem wd_669 : Cond.selects RX6 yX6_told yX6_told ∈ lw_g := in_g (List.mem_of_getElem? (i := 669) (by decide +kernel)) rfl
theorem wd_670 : Cond.code yX6_told cX6_told 4 (some .int) ∈ lw_g := in_g (List.mem_of_getElem? (i := 670) (by decide +kernel)) rfl
theorem wd_671 : Cond.methodLink RX6 198 yX5_lowest ∈ lw_g := in_g (List.mem_of_getElem? (i := 671) (by decide +kernel)) rfl
theorem wd_672 : Cond.instanceMethod yX5_lowest ∈ lw_g := in_g (List.mem_of_getElem? (i := 672) (by decide +kernel)) rfl
theorem wd_673 : Cond.selects RX5 yX5_lowest yX5_lowest ∈ lw_g := in_g (List.mem_of_getElem? (i := 673) (by decide +kernel)) rfl
theorem wd_674 : Cond.code yX5_lowest cX5_lowest 3 (some .int) ∈ lw_g := in_g (List.mem_of_getElem? (i := 674) (by decide +kernel)) rfl
theorem wd_675 : Cond.methodLink RX5 41 Lib.Math.min.name ∈ lw_g := in_g (List.mem_of_getElem? (i := 675) (by decide +kernel)) rfl
theorem wd_676 : Cond.methodLink RX6 202 yX5_highest ∈ lw_g := in_g (List.mem_of_getElem? (i := 676) (by decide +kernel)) rfl
theorem wd_677 : Cond.instanceMethod yX5_highest ∈ lw_g := in_g (List.mem_of_getElem? (i := 677) (by decide +kernel)) rfl
theorem wd_678 : Cond.selects RX5 yX5_highest yX5_highest ∈ lw_g := in_g (List.mem_of_getElem? (i := 678) (by decide +kernel)) rfl
theorem wd_679 : Cond.code yX5_highest cX5_highest 3 (some .int) ∈ lw_g := in_g (List.mem_of_getElem? (i := 679) (by decide +kernel)) rfl
theorem wd_680 : Cond.methodLink RX5 47 Lib.Math.max.name ∈ lw_g := in_g (List.mem_of_getElem? (i := 680) (by decide +kernel)) rfl
theorem wd_681 : Cond.methodLink RL 104 yX6_count ∈ lw_g := in_g (List.mem_of_getElem? (i := 681) (by decide +kernel)) rfl
theorem wd_682 : Cond.instanceMethod yX6_count ∈ lw_g := in_g (List.mem_of_getElem? (i := 682) (by decide +kernel)) rfl
theorem wd_683 : Cond.selects RX6 yX6_count yX6_count ∈ lw_g := in_g (List.mem_of_getElem? (i := 683) (by decide +kernel)) rfl
theorem wd_684 : Cond.code yX6_count cX6_count 2 (some .int) ∈ lw_g := in_g (List.mem_of_getElem? (i := 684) (by decide +kernel)) rfl
theorem wd_685 : Cond.classLink RL 10 RX7 ∈ lw_g := in_g (List.mem_of_getElem? (i := 685) (by decide +kernel)) rfl
theorem wd_686 : Cond.instantiable RX7 40 ∈ lw_g := in_g (List.mem_of_getElem? (i := 686) (by decide +kernel)) rfl
theorem wd_687 : Cond.methodLink RL 12 yX7_init ∈ lw_g := in_g (List.mem_of_getElem? (i := 687) (by decide +kernel)) rfl
theorem wd_688 : Cond.instanceMethod yX7_init ∈ lw_g := in_g (List.mem_of_getElem? (i := 688) (by decide +kernel)) rfl
theorem wd_689 : Cond.code yX7_init cX7_init 1 none ∈ lw_g := in_g (List.mem_of_getElem? (i := 689) (by decide +kernel)) rfl
theorem wd_690 : Cond.methodLink RX7 1 Lib.objectInit ∈ lw_g := in_g (List.mem_of_getElem? (i := 690) (by decide +kernel)) rfl
theorem wd_691 : Cond.fieldLink RX7 98 "ChimeDrumModel" "bells" "I" ∈ lw_g := in_g (List.mem_of_getElem? (i := 691) (by decide +kernel)) rfl
theorem wd_692 : Cond.fieldLink RX7 105 "ChimeDrumModel" "tracks" "I" ∈ lw_g := in_g (List.mem_of_getElem? (i := 692) (by decide +kernel)) rfl
theorem wd_693 : Cond.fieldLink RX7 7 "ChimeDrumModel" "n" "I" ∈ lw_g := in_g (List.mem_of_getElem? (i := 693) (by decide +kernel)) rfl
theorem wd_694 : Cond.fieldLink RX7 13 "ChimeDrumModel" "\x72" "I" ∈ lw_g := in_g (List.mem_of_getElem? (i := 694) (by decide +kernel)) rfl
theorem wd_695 : Cond.fieldLink RX7 16 "ChimeDrumModel" "f" "I" ∈ lw_g := in_g (List.mem_of_getElem? (i := 695) (by decide +kernel)) rfl
theorem wd_696 : Cond.fieldLink RX7 19 "ChimeDrumModel" "lives" "I" ∈ lw_g := in_g (List.mem_of_getElem? (i := 696) (by decide +kernel)) rfl
theorem wd_697 : Cond.fieldLink RX7 219 "ChimeDrumModel" "movedEver" "I" ∈ lw_g := in_g (List.mem_of_getElem? (i := 697) (by decide +kernel)) rfl
theorem wd_698 : Cond.fieldLink RX7 22 "ChimeDrumModel" "pitch" "[I" ∈ lw_g := in_g (List.mem_of_getElem? (i := 698) (by decide +kernel)) rfl
theorem wd_699 : Cond.fieldLink RX7 26 "ChimeDrumModel" "weight" "[I" ∈ lw_g := in_g (List.mem_of_getElem? (i := 699) (by decide +kernel)) rfl
theorem wd_700 : Cond.fieldLink RX7 29 "ChimeDrumModel" "hammers" "[I" ∈ lw_g := in_g (List.mem_of_getElem? (i := 700) (by decide +kernel)) rfl
theorem wd_701 : Cond.fieldLink RX7 32 "ChimeDrumModel" "first" "[I" ∈ lw_g := in_g (List.mem_of_getElem? (i := 701) (by decide +kernel)) rfl
theorem wd_702 : Cond.fieldLink RX7 35 "ChimeDrumModel" "bellOf" "[I" ∈ lw_g := in_g (List.mem_of_getElem? (i := 702) (by decide +kernel)) rfl
theorem wd_703 : Cond.fieldLink RX7 38 "ChimeDrumModel" "isCracked" "[Z" ∈ lw_g := in_g (List.mem_of_getElem? (i := 703) (by decide +kernel)) rfl
theorem wd_704 : Cond.fieldLink RX7 42 "ChimeDrumModel" "isPin" "[Z" ∈ lw_g := in_g (List.mem_of_getElem? (i := 704) (by decide +kernel)) rfl
theorem wd_705 : Cond.fieldLink RX7 45 "ChimeDrumModel" "strikesOf" "[I" ∈ lw_g := in_g (List.mem_of_getElem? (i := 705) (by decide +kernel)) rfl
theorem wd_706 : Cond.fieldLink RX7 48 "ChimeDrumModel" "tape" "[B" ∈ lw_g := in_g (List.mem_of_getElem? (i := 706) (by decide +kernel)) rfl
theorem wd_707 : Cond.fieldLink RX7 127 "ChimeDrumModel" "taped" "I" ∈ lw_g := in_g (List.mem_of_getElem? (i := 707) (by decide +kernel)) rfl
theorem wd_708 : Cond.fieldLink RX7 134 "ChimeDrumModel" "at" "I" ∈ lw_g := in_g (List.mem_of_getElem? (i := 708) (by decide +kernel)) rfl
theorem wd_709 : Cond.fieldLink RX7 137 "ChimeDrumModel" "size" "I" ∈ lw_g := in_g (List.mem_of_getElem? (i := 709) (by decide +kernel)) rfl
theorem wd_710 : Cond.fieldLink RX7 140 "ChimeDrumModel" "fault" "I" ∈ lw_g := in_g (List.mem_of_getElem? (i := 710) (by decide +kernel)) rfl
theorem wd_711 : Cond.fieldLink RX7 156 "ChimeDrumModel" "saidUnits" "I" ∈ lw_g := in_g (List.mem_of_getElem? (i := 711) (by decide +kernel)) rfl
theorem wd_712 : Cond.fieldLink RX7 153 "ChimeDrumModel" "saidNotes" "I" ∈ lw_g := in_g (List.mem_of_getElem? (i := 712) (by decide +kernel)) rfl
theorem wd_713 : Cond.fieldLink RX7 166 "ChimeDrumModel" "saidLong" "I" ∈ lw_g := in_g (List.mem_of_getElem? (i := 713) (by decide +kernel)) rfl
theorem wd_714 : Cond.fieldLink RX7 52 "ChimeDrumModel" "units" "[I" ∈ lw_g := in_g (List.mem_of_getElem? (i := 714) (by decide +kernel)) rfl
theorem wd_715 : Cond.fieldLink RX7 55 "ChimeDrumModel" "notes" "[I" ∈ lw_g := in_g (List.mem_of_getElem? (i := 715) (by decide +kernel)) rfl
theorem wd_716 : Cond.fieldLink RX7 58 "ChimeDrumModel" "longOf" "[I" ∈ lw_g := in_g (List.mem_of_getElem? (i := 716) (by decide +kernel)) rfl
theorem wd_717 : Cond.fieldLink RX7 61 "ChimeDrumModel" "unitAt" "[I" ∈ lw_g := in_g (List.mem_of_getElem? (i := 717) (by decide +kernel)) rfl
theorem wd_718 : Cond.fieldLink RX7 64 "ChimeDrumModel" "noteUnit" "[I" ∈ lw_g := in_g (List.mem_of_getElem? (i := 718) (by decide +kernel)) rfl
theorem wd_719 : Cond.fieldLink RX7 67 "ChimeDrumModel" "notePitch" "[I" ∈ lw_g := in_g (List.mem_of_getElem? (i := 719) (by decide +kernel)) rfl
theorem wd_720 : Cond.fieldLink RX7 70 "ChimeDrumModel" "readAt" "[I" ∈ lw_g := in_g (List.mem_of_getElem? (i := 720) (by decide +kernel)) rfl
theorem wd_721 : Cond.fieldLink RX7 73 "ChimeDrumModel" "readUnit" "[I" ∈ lw_g := in_g (List.mem_of_getElem? (i := 721) (by decide +kernel)) rfl
theorem wd_722 : Cond.fieldLink RX7 76 "ChimeDrumModel" "readPitch" "[I" ∈ lw_g := in_g (List.mem_of_getElem? (i := 722) (by decide +kernel)) rfl
theorem wd_723 : Cond.fieldLink RX7 79 "ChimeDrumModel" "isWanted" "[Z" ∈ lw_g := in_g (List.mem_of_getElem? (i := 723) (by decide +kernel)) rfl
theorem wd_724 : Cond.fieldLink RX7 82 "ChimeDrumModel" "strokeHole" "[I" ∈ lw_g := in_g (List.mem_of_getElem? (i := 724) (by decide +kernel)) rfl
theorem wd_725 : Cond.fieldLink RX7 85 "ChimeDrumModel" "choice" "[I" ∈ lw_g := in_g (List.mem_of_getElem? (i := 725) (by decide +kernel)) rfl
theorem wd_726 : Cond.fieldLink RX7 88 "ChimeDrumModel" "best" "[I" ∈ lw_g := in_g (List.mem_of_getElem? (i := 726) (by decide +kernel)) rfl
theorem wd_727 : Cond.fieldLink RX7 178 "ChimeDrumModel" "strokes" "I" ∈ lw_g := in_g (List.mem_of_getElem? (i := 727) (by decide +kernel)) rfl
theorem wd_728 : Cond.fieldLink RX7 185 "ChimeDrumModel" "bestLacks" "I" ∈ lw_g := in_g (List.mem_of_getElem? (i := 728) (by decide +kernel)) rfl
theorem wd_729 : Cond.fieldLink RX7 91 "ChimeDrumModel" "said" "[B" ∈ lw_g := in_g (List.mem_of_getElem? (i := 729) (by decide +kernel)) rfl
theorem wd_730 : Cond.fieldLink RX7 225 "ChimeDrumModel" "saidMany" "I" ∈ lw_g := in_g (List.mem_of_getElem? (i := 730) (by decide +kernel)) rfl
theorem wd_812 : Cond.methodLink RL 17 yX7_bell ∈ lw_g := in_g (List.mem_of_getElem? (i := 812) (by decide +kernel)) rfl
theorem wd_813 : Cond.instanceMethod yX7_bell ∈ lw_g := in_g (List.mem_of_getElem? (i := 813) (by decide +kernel)) rfl
theorem wd_814 : Cond.selects RX7 yX7_bell yX7_bell ∈ lw_g := in_g (List.mem_of_getElem? (i := 814) (by decide +kernel)) rfl
theorem wd_815 : Cond.code yX7_bell cX7_bell 5 (some .int) ∈ lw_g := in_g (List.mem_of_getElem? (i := 815) (by decide +kernel)) rfl
theorem wd_816 : Cond.methodLink RX7 94 yX7_in ∈ lw_g := in_g (List.mem_of_getElem? (i := 816) (by decide +kernel)) rfl
theorem wd_817 : Cond.static yX7_in ∈ lw_g := in_g (List.mem_of_getElem? (i := 817) (by decide +kernel)) rfl
theorem wd_818 : Cond.code yX7_in cX7_in 3 (some .boolean) ∈ lw_g := in_g (List.mem_of_getElem? (i := 818) (by decide +kernel)) rfl
theorem wd_819 : Cond.methodLink RX7 101 yX7_bellAt ∈ lw_g := in_g (List.mem_of_getElem? (i := 819) (by decide +kernel)) rfl
theorem wd_821 : Cond.instanceMethod yX7_bellAt ∈ lw_g := in_g (List.mem_of_getElem? (i := 821) (by decide +kernel)) rfl
theorem wd_822 : Cond.code yX7_bellAt cX7_bellAt 3 (some .int) ∈ lw_g := in_g (List.mem_of_getElem? (i := 822) (by decide +kernel)) rfl
theorem wd_823 : Cond.methodLink RL 22 yX7_crack ∈ lw_g := in_g (List.mem_of_getElem? (i := 823) (by decide +kernel)) rfl
theorem wd_824 : Cond.instanceMethod yX7_crack ∈ lw_g := in_g (List.mem_of_getElem? (i := 824) (by decide +kernel)) rfl
theorem wd_825 : Cond.selects RX7 yX7_crack yX7_crack ∈ lw_g := in_g (List.mem_of_getElem? (i := 825) (by decide +kernel)) rfl
theorem wd_826 : Cond.code yX7_crack cX7_crack 3 (some .boolean) ∈ lw_g := in_g (List.mem_of_getElem? (i := 826) (by decide +kernel)) rfl
theorem wd_827 : Cond.methodLink RX7 108 yX7_isBell ∈ lw_g := in_g (List.mem_of_getElem? (i := 827) (by decide +kernel)) rfl
theorem wd_829 : Cond.instanceMethod yX7_isBell ∈ lw_g := in_g (List.mem_of_getElem? (i := 829) (by decide +kernel)) rfl
theorem wd_830 : Cond.code yX7_isBell cX7_isBell 2 (some .boolean) ∈ lw_g := in_g (List.mem_of_getElem? (i := 830) (by decide +kernel)) rfl
theorem wd_831 : Cond.methodLink RL 27 yX7_holes ∈ lw_g := in_g (List.mem_of_getElem? (i := 831) (by decide +kernel)) rfl
theorem wd_832 : Cond.instanceMethod yX7_holes ∈ lw_g := in_g (List.mem_of_getElem? (i := 832) (by decide +kernel)) rfl
theorem wd_833 : Cond.selects RX7 yX7_holes yX7_holes ∈ lw_g := in_g (List.mem_of_getElem? (i := 833) (by decide +kernel)) rfl
theorem wd_834 : Cond.code yX7_holes cX7_holes 3 (some .boolean) ∈ lw_g := in_g (List.mem_of_getElem? (i := 834) (by decide +kernel)) rfl
theorem wd_835 : Cond.methodLink RL 31 yX7_rest ∈ lw_g := in_g (List.mem_of_getElem? (i := 835) (by decide +kernel)) rfl
theorem wd_836 : Cond.instanceMethod yX7_rest ∈ lw_g := in_g (List.mem_of_getElem? (i := 836) (by decide +kernel)) rfl
theorem wd_837 : Cond.selects RX7 yX7_rest yX7_rest ∈ lw_g := in_g (List.mem_of_getElem? (i := 837) (by decide +kernel)) rfl
theorem wd_838 : Cond.code yX7_rest cX7_rest 2 (some .boolean) ∈ lw_g := in_g (List.mem_of_getElem? (i := 838) (by decide +kernel)) rfl
theorem wd_839 : Cond.methodLink RL 35 yX7_force ∈ lw_g := in_g (List.mem_of_getElem? (i := 839) (by decide +kernel)) rfl
theorem wd_840 : Cond.instanceMethod yX7_force ∈ lw_g := in_g (List.mem_of_getElem? (i := 840) (by decide +kernel)) rfl
theorem wd_841 : Cond.selects RX7 yX7_force yX7_force ∈ lw_g := in_g (List.mem_of_getElem? (i := 841) (by decide +kernel)) rfl
theorem wd_842 : Cond.code yX7_force cX7_force 2 (some .boolean) ∈ lw_g := in_g (List.mem_of_getElem? (i := 842) (by decide +kernel)) rfl
theorem wd_843 : Cond.methodLink RL 39 yX7_life ∈ lw_g := in_g (List.mem_of_getElem? (i := 843) (by decide +kernel)) rfl
theorem wd_844 : Cond.instanceMethod yX7_life ∈ lw_g := in_g (List.mem_of_getElem? (i := 844) (by decide +kernel)) rfl
theorem wd_845 : Cond.selects RX7 yX7_life yX7_life ∈ lw_g := in_g (List.mem_of_getElem? (i := 845) (by decide +kernel)) rfl
theorem wd_846 : Cond.code yX7_life cX7_life 2 (some .boolean) ∈ lw_g := in_g (List.mem_of_getElem? (i := 846) (by decide +kernel)) rfl
theorem wd_847 : Cond.methodLink RL 75 yX7_pin ∈ lw_g := in_g (List.mem_of_getElem? (i := 847) (by decide +kernel)) rfl
theorem wd_848 : Cond.instanceMethod yX7_pin ∈ lw_g := in_g (List.mem_of_getElem? (i := 848) (by decide +kernel)) rfl
theorem wd_849 : Cond.selects RX7 yX7_pin yX7_pin ∈ lw_g := in_g (List.mem_of_getElem? (i := 849) (by decide +kernel)) rfl
theorem wd_850 : Cond.code yX7_pin cX7_pin 5 (some .boolean) ∈ lw_g := in_g (List.mem_of_getElem? (i := 850) (by decide +kernel)) rfl
theorem wd_851 : Cond.methodLink RX7 115 yX7_isThere ∈ lw_g := in_g (List.mem_of_getElem? (i := 851) (by decide +kernel)) rfl
theorem wd_853 : Cond.instanceMethod yX7_isThere ∈ lw_g := in_g (List.mem_of_getElem? (i := 853) (by decide +kernel)) rfl
theorem wd_854 : Cond.code yX7_isThere cX7_isThere 3 (some .boolean) ∈ lw_g := in_g (List.mem_of_getElem? (i := 854) (by decide +kernel)) rfl
theorem wd_855 : Cond.methodLink RX7 112 yX7_isHole ∈ lw_g := in_g (List.mem_of_getElem? (i := 855) (by decide +kernel)) rfl
theorem wd_857 : Cond.instanceMethod yX7_isHole ∈ lw_g := in_g (List.mem_of_getElem? (i := 857) (by decide +kernel)) rfl
theorem wd_858 : Cond.code yX7_isHole cX7_isHole 2 (some .boolean) ∈ lw_g := in_g (List.mem_of_getElem? (i := 858) (by decide +kernel)) rfl
theorem wd_859 : Cond.methodLink RX7 119 yX7_apart ∈ lw_g := in_g (List.mem_of_getElem? (i := 859) (by decide +kernel)) rfl
theorem wd_861 : Cond.instanceMethod yX7_apart ∈ lw_g := in_g (List.mem_of_getElem? (i := 861) (by decide +kernel)) rfl
theorem wd_862 : Cond.code yX7_apart cX7_apart 4 (some .int) ∈ lw_g := in_g (List.mem_of_getElem? (i := 862) (by decide +kernel)) rfl
theorem wd_863 : Cond.methodLink RX7 123 yX7_puts ∈ lw_g := in_g (List.mem_of_getElem? (i := 863) (by decide +kernel)) rfl
theorem wd_865 : Cond.instanceMethod yX7_puts ∈ lw_g := in_g (List.mem_of_getElem? (i := 865) (by decide +kernel)) rfl
theorem wd_866 : Cond.code yX7_puts cX7_puts 3 none ∈ lw_g := in_g (List.mem_of_getElem? (i := 866) (by decide +kernel)) rfl
theorem wd_867 : Cond.methodLink RL 79 yX7_mend ∈ lw_g := in_g (List.mem_of_getElem? (i := 867) (by decide +kernel)) rfl
theorem wd_868 : Cond.instanceMethod yX7_mend ∈ lw_g := in_g (List.mem_of_getElem? (i := 868) (by decide +kernel)) rfl
theorem wd_869 : Cond.selects RX7 yX7_mend yX7_mend ∈ lw_g := in_g (List.mem_of_getElem? (i := 869) (by decide +kernel)) rfl
theorem wd_870 : Cond.code yX7_mend cX7_mend 4 (some .int) ∈ lw_g := in_g (List.mem_of_getElem? (i := 870) (by decide +kernel)) rfl
theorem wd_871 : Cond.methodLink RL 95 yX7_strikes ∈ lw_g := in_g (List.mem_of_getElem? (i := 871) (by decide +kernel)) rfl
theorem wd_872 : Cond.instanceMethod yX7_strikes ∈ lw_g := in_g (List.mem_of_getElem? (i := 872) (by decide +kernel)) rfl
theorem wd_873 : Cond.selects RX7 yX7_strikes yX7_strikes ∈ lw_g := in_g (List.mem_of_getElem? (i := 873) (by decide +kernel)) rfl
theorem wd_874 : Cond.code yX7_strikes cX7_strikes 3 (some .int) ∈ lw_g := in_g (List.mem_of_getElem? (i := 874) (by decide +kernel)) rfl
theorem wd_875 : Cond.methodLink RL 44 yX7_feed ∈ lw_g := in_g (List.mem_of_getElem? (i := 875) (by decide +kernel)) rfl
theorem wd_876 : Cond.instanceMethod yX7_feed ∈ lw_g := in_g (List.mem_of_getElem? (i := 876) (by decide +kernel)) rfl
theorem wd_877 : Cond.selects RX7 yX7_feed yX7_feed ∈ lw_g := in_g (List.mem_of_getElem? (i := 877) (by decide +kernel)) rfl
theorem wd_878 : Cond.code yX7_feed cX7_feed 6 (some .int) ∈ lw_g := in_g (List.mem_of_getElem? (i := 878) (by decide +kernel)) rfl
theorem wd_879 : Cond.methodLink RX7 130 yX7_types ∈ lw_g := in_g (List.mem_of_getElem? (i := 879) (by decide +kernel)) rfl
theorem wd_881 : Cond.instanceMethod yX7_types ∈ lw_g := in_g (List.mem_of_getElem? (i := 881) (by decide +kernel)) rfl
theorem wd_882 : Cond.code yX7_types cX7_types 3 none ∈ lw_g := in_g (List.mem_of_getElem? (i := 882) (by decide +kernel)) rfl
theorem wd_883 : Cond.methodLink RL 49 yX7_tune ∈ lw_g := in_g (List.mem_of_getElem? (i := 883) (by decide +kernel)) rfl
theorem wd_884 : Cond.instanceMethod yX7_tune ∈ lw_g := in_g (List.mem_of_getElem? (i := 884) (by decide +kernel)) rfl
theorem wd_885 : Cond.selects RX7 yX7_tune yX7_tune ∈ lw_g := in_g (List.mem_of_getElem? (i := 885) (by decide +kernel)) rfl
theorem wd_886 : Cond.code yX7_tune cX7_tune 5 (some .int) ∈ lw_g := in_g (List.mem_of_getElem? (i := 886) (by decide +kernel)) rfl
theorem wd_887 : Cond.methodLink RX7 169 yX7_readsUnit ∈ lw_g := in_g (List.mem_of_getElem? (i := 887) (by decide +kernel)) rfl
theorem wd_889 : Cond.instanceMethod yX7_readsUnit ∈ lw_g := in_g (List.mem_of_getElem? (i := 889) (by decide +kernel)) rfl
theorem wd_890 : Cond.code yX7_readsUnit cX7_readsUnit 3 (some .boolean) ∈ lw_g := in_g (List.mem_of_getElem? (i := 890) (by decide +kernel)) rfl
theorem wd_891 : Cond.methodLink RX7 143 yX7_sign ∈ lw_g := in_g (List.mem_of_getElem? (i := 891) (by decide +kernel)) rfl
theorem wd_893 : Cond.instanceMethod yX7_sign ∈ lw_g := in_g (List.mem_of_getElem? (i := 893) (by decide +kernel)) rfl
theorem wd_894 : Cond.code yX7_sign cX7_sign 1 (some .int) ∈ lw_g := in_g (List.mem_of_getElem? (i := 894) (by decide +kernel)) rfl
theorem wd_895 : Cond.methodLink RX7 162 yX7_readsChord ∈ lw_g := in_g (List.mem_of_getElem? (i := 895) (by decide +kernel)) rfl
theorem wd_897 : Cond.instanceMethod yX7_readsChord ∈ lw_g := in_g (List.mem_of_getElem? (i := 897) (by decide +kernel)) rfl
theorem wd_898 : Cond.code yX7_readsChord cX7_readsChord 2 (some .boolean) ∈ lw_g := in_g (List.mem_of_getElem? (i := 898) (by decide +kernel)) rfl
theorem wd_899 : Cond.methodLink RX7 147 yX7_stepOf ∈ lw_g := in_g (List.mem_of_getElem? (i := 899) (by decide +kernel)) rfl
theorem wd_900 : Cond.static yX7_stepOf ∈ lw_g := in_g (List.mem_of_getElem? (i := 900) (by decide +kernel)) rfl
theorem wd_901 : Cond.code yX7_stepOf cX7_stepOf 1 (some .int) ∈ lw_g := in_g (List.mem_of_getElem? (i := 901) (by decide +kernel)) rfl
theorem wd_902 : Cond.methodLink RX7 150 yX7_wrong ∈ lw_g := in_g (List.mem_of_getElem? (i := 902) (by decide +kernel)) rfl
theorem wd_904 : Cond.instanceMethod yX7_wrong ∈ lw_g := in_g (List.mem_of_getElem? (i := 904) (by decide +kernel)) rfl
theorem wd_905 : Cond.code yX7_wrong cX7_wrong 3 (some .boolean) ∈ lw_g := in_g (List.mem_of_getElem? (i := 905) (by decide +kernel)) rfl
theorem wd_906 : Cond.methodLink RX7 159 yX7_readsNote ∈ lw_g := in_g (List.mem_of_getElem? (i := 906) (by decide +kernel)) rfl
theorem wd_908 : Cond.instanceMethod yX7_readsNote ∈ lw_g := in_g (List.mem_of_getElem? (i := 908) (by decide +kernel)) rfl
theorem wd_909 : Cond.code yX7_readsNote cX7_readsNote 6 (some .boolean) ∈ lw_g := in_g (List.mem_of_getElem? (i := 909) (by decide +kernel)) rfl
theorem wd_910 : Cond.methodLink RL 54 yX7_shift ∈ lw_g := in_g (List.mem_of_getElem? (i := 910) (by decide +kernel)) rfl
theorem wd_911 : Cond.instanceMethod yX7_shift ∈ lw_g := in_g (List.mem_of_getElem? (i := 911) (by decide +kernel)) rfl
theorem wd_912 : Cond.selects RX7 yX7_shift yX7_shift ∈ lw_g := in_g (List.mem_of_getElem? (i := 912) (by decide +kernel)) rfl
theorem wd_913 : Cond.code yX7_shift cX7_shift 3 (some .int) ∈ lw_g := in_g (List.mem_of_getElem? (i := 913) (by decide +kernel)) rfl
theorem wd_914 : Cond.methodLink RX7 172 yX7_isTune ∈ lw_g := in_g (List.mem_of_getElem? (i := 914) (by decide +kernel)) rfl
theorem wd_916 : Cond.instanceMethod yX7_isTune ∈ lw_g := in_g (List.mem_of_getElem? (i := 916) (by decide +kernel)) rfl
theorem wd_917 : Cond.code yX7_isTune cX7_isTune 2 (some .boolean) ∈ lw_g := in_g (List.mem_of_getElem? (i := 917) (by decide +kernel)) rfl
theorem wd_918 : Cond.methodLink RX7 175 yX7_isGood ∈ lw_g := in_g (List.mem_of_getElem? (i := 918) (by decide +kernel)) rfl
theorem wd_920 : Cond.instanceMethod yX7_isGood ∈ lw_g := in_g (List.mem_of_getElem? (i := 920) (by decide +kernel)) rfl
theorem wd_921 : Cond.code yX7_isGood cX7_isGood 5 (some .boolean) ∈ lw_g := in_g (List.mem_of_getElem? (i := 921) (by decide +kernel)) rfl
theorem wd_922 : Cond.methodLink RL 66 yX7_why ∈ lw_g := in_g (List.mem_of_getElem? (i := 922) (by decide +kernel)) rfl
theorem wd_923 : Cond.instanceMethod yX7_why ∈ lw_g := in_g (List.mem_of_getElem? (i := 923) (by decide +kernel)) rfl
theorem wd_924 : Cond.selects RX7 yX7_why yX7_why ∈ lw_g := in_g (List.mem_of_getElem? (i := 924) (by decide +kernel)) rfl
theorem wd_925 : Cond.code yX7_why cX7_why 3 (some .int) ∈ lw_g := in_g (List.mem_of_getElem? (i := 925) (by decide +kernel)) rfl
theorem wd_926 : Cond.methodLink RX7 207 yX7_tries ∈ lw_g := in_g (List.mem_of_getElem? (i := 926) (by decide +kernel)) rfl
theorem wd_928 : Cond.instanceMethod yX7_tries ∈ lw_g := in_g (List.mem_of_getElem? (i := 928) (by decide +kernel)) rfl
theorem wd_929 : Cond.code yX7_tries cX7_tries 6 (some .int) ∈ lw_g := in_g (List.mem_of_getElem? (i := 929) (by decide +kernel)) rfl
theorem wd_930 : Cond.methodLink RX7 195 yX7_shift ∈ lw_g := in_g (List.mem_of_getElem? (i := 930) (by decide +kernel)) rfl
theorem wd_931 : Cond.methodLink RX7 198 yX7_isTooHeavy ∈ lw_g := in_g (List.mem_of_getElem? (i := 931) (by decide +kernel)) rfl
theorem wd_933 : Cond.instanceMethod yX7_isTooHeavy ∈ lw_g := in_g (List.mem_of_getElem? (i := 933) (by decide +kernel)) rfl
theorem wd_934 : Cond.code yX7_isTooHeavy cX7_isTooHeavy 6 (some .boolean) ∈ lw_g := in_g (List.mem_of_getElem? (i := 934) (by decide +kernel)) rfl
theorem wd_935 : Cond.methodLink RX7 201 yX7_isTooMany ∈ lw_g := in_g (List.mem_of_getElem? (i := 935) (by decide +kernel)) rfl
theorem wd_937 : Cond.instanceMethod yX7_isTooMany ∈ lw_g := in_g (List.mem_of_getElem? (i := 937) (by decide +kernel)) rfl
theorem wd_938 : Cond.code yX7_isTooMany cX7_isTooMany 5 (some .boolean) ∈ lw_g := in_g (List.mem_of_getElem? (i := 938) (by decide +kernel)) rfl
theorem wd_939 : Cond.methodLink RX7 191 yX7_finds ∈ lw_g := in_g (List.mem_of_getElem? (i := 939) (by decide +kernel)) rfl
theorem wd_941 : Cond.instanceMethod yX7_finds ∈ lw_g := in_g (List.mem_of_getElem? (i := 941) (by decide +kernel)) rfl
theorem wd_942 : Cond.code yX7_finds cX7_finds 6 none ∈ lw_g := in_g (List.mem_of_getElem? (i := 942) (by decide +kernel)) rfl
theorem wd_943 : Cond.methodLink RX7 181 yX7_holeOf ∈ lw_g := in_g (List.mem_of_getElem? (i := 943) (by decide +kernel)) rfl
theorem wd_945 : Cond.instanceMethod yX7_holeOf ∈ lw_g := in_g (List.mem_of_getElem? (i := 945) (by decide +kernel)) rfl
theorem wd_946 : Cond.code yX7_holeOf cX7_holeOf 4 (some .int) ∈ lw_g := in_g (List.mem_of_getElem? (i := 946) (by decide +kernel)) rfl
theorem wd_947 : Cond.methodLink RX7 204 yX7_chooses ∈ lw_g := in_g (List.mem_of_getElem? (i := 947) (by decide +kernel)) rfl
theorem wd_949 : Cond.instanceMethod yX7_chooses ∈ lw_g := in_g (List.mem_of_getElem? (i := 949) (by decide +kernel)) rfl
theorem wd_950 : Cond.code yX7_chooses cX7_chooses 7 (some .boolean) ∈ lw_g := in_g (List.mem_of_getElem? (i := 950) (by decide +kernel)) rfl
theorem wd_951 : Cond.methodLink RX7 188 yX7_areApart ∈ lw_g := in_g (List.mem_of_getElem? (i := 951) (by decide +kernel)) rfl
theorem wd_953 : Cond.instanceMethod yX7_areApart ∈ lw_g := in_g (List.mem_of_getElem? (i := 953) (by decide +kernel)) rfl
theorem wd_954 : Cond.code yX7_areApart cX7_areApart 3 (some .boolean) ∈ lw_g := in_g (List.mem_of_getElem? (i := 954) (by decide +kernel)) rfl
theorem wd_955 : Cond.methodLink RL 62 yX7_moves ∈ lw_g := in_g (List.mem_of_getElem? (i := 955) (by decide +kernel)) rfl
theorem wd_956 : Cond.instanceMethod yX7_moves ∈ lw_g := in_g (List.mem_of_getElem? (i := 956) (by decide +kernel)) rfl
theorem wd_957 : Cond.selects RX7 yX7_moves yX7_moves ∈ lw_g := in_g (List.mem_of_getElem? (i := 957) (by decide +kernel)) rfl
theorem wd_958 : Cond.code yX7_moves cX7_moves 3 (some .int) ∈ lw_g := in_g (List.mem_of_getElem? (i := 958) (by decide +kernel)) rfl
theorem wd_959 : Cond.methodLink RX7 210 yX7_why ∈ lw_g := in_g (List.mem_of_getElem? (i := 959) (by decide +kernel)) rfl
theorem wd_960 : Cond.methodLink RX7 213 yX7_moved ∈ lw_g := in_g (List.mem_of_getElem? (i := 960) (by decide +kernel)) rfl
theorem wd_962 : Cond.instanceMethod yX7_moved ∈ lw_g := in_g (List.mem_of_getElem? (i := 962) (by decide +kernel)) rfl
theorem wd_963 : Cond.code yX7_moved cX7_moved 3 (some .int) ∈ lw_g := in_g (List.mem_of_getElem? (i := 963) (by decide +kernel)) rfl
theorem wd_964 : Cond.methodLink RL 58 yX7_set ∈ lw_g := in_g (List.mem_of_getElem? (i := 964) (by decide +kernel)) rfl
theorem wd_965 : Cond.instanceMethod yX7_set ∈ lw_g := in_g (List.mem_of_getElem? (i := 965) (by decide +kernel)) rfl
theorem wd_966 : Cond.selects RX7 yX7_set yX7_set ∈ lw_g := in_g (List.mem_of_getElem? (i := 966) (by decide +kernel)) rfl
theorem wd_967 : Cond.code yX7_set cX7_set 5 (some .int) ∈ lw_g := in_g (List.mem_of_getElem? (i := 967) (by decide +kernel)) rfl
theorem wd_968 : Cond.methodLink RX7 216 yX7_moves ∈ lw_g := in_g (List.mem_of_getElem? (i := 968) (by decide +kernel)) rfl
theorem wd_969 : Cond.methodLink RL 70 yX7_nearest ∈ lw_g := in_g (List.mem_of_getElem? (i := 969) (by decide +kernel)) rfl
theorem wd_970 : Cond.instanceMethod yX7_nearest ∈ lw_g := in_g (List.mem_of_getElem? (i := 970) (by decide +kernel)) rfl
theorem wd_971 : Cond.selects RX7 yX7_nearest yX7_nearest ∈ lw_g := in_g (List.mem_of_getElem? (i := 971) (by decide +kernel)) rfl
theorem wd_972 : Cond.code yX7_nearest cX7_nearest 6 (some .int) ∈ lw_g := in_g (List.mem_of_getElem? (i := 972) (by decide +kernel)) rfl
theorem wd_973 : Cond.methodLink RL 83 yX7_turn ∈ lw_g := in_g (List.mem_of_getElem? (i := 973) (by decide +kernel)) rfl
theorem wd_974 : Cond.instanceMethod yX7_turn ∈ lw_g := in_g (List.mem_of_getElem? (i := 974) (by decide +kernel)) rfl
theorem wd_975 : Cond.selects RX7 yX7_turn yX7_turn ∈ lw_g := in_g (List.mem_of_getElem? (i := 975) (by decide +kernel)) rfl
theorem wd_976 : Cond.code yX7_turn cX7_turn 7 (some .int) ∈ lw_g := in_g (List.mem_of_getElem? (i := 976) (by decide +kernel)) rfl
theorem wd_977 : Cond.methodLink RX7 222 yX7_strikesNow ∈ lw_g := in_g (List.mem_of_getElem? (i := 977) (by decide +kernel)) rfl
theorem wd_979 : Cond.instanceMethod yX7_strikesNow ∈ lw_g := in_g (List.mem_of_getElem? (i := 979) (by decide +kernel)) rfl
theorem wd_980 : Cond.code yX7_strikesNow cX7_strikesNow 3 (some .boolean) ∈ lw_g := in_g (List.mem_of_getElem? (i := 980) (by decide +kernel)) rfl
theorem wd_981 : Cond.methodLink RL 87 yX7_read ∈ lw_g := in_g (List.mem_of_getElem? (i := 981) (by decide +kernel)) rfl
theorem wd_982 : Cond.instanceMethod yX7_read ∈ lw_g := in_g (List.mem_of_getElem? (i := 982) (by decide +kernel)) rfl
theorem wd_983 : Cond.selects RX7 yX7_read yX7_read ∈ lw_g := in_g (List.mem_of_getElem? (i := 983) (by decide +kernel)) rfl
theorem wd_984 : Cond.code yX7_read cX7_read 6 (some .int) ∈ lw_g := in_g (List.mem_of_getElem? (i := 984) (by decide +kernel)) rfl
theorem wd_985 : Cond.methodLink RX7 240 yX7_saysHole ∈ lw_g := in_g (List.mem_of_getElem? (i := 985) (by decide +kernel)) rfl
theorem wd_987 : Cond.instanceMethod yX7_saysHole ∈ lw_g := in_g (List.mem_of_getElem? (i := 987) (by decide +kernel)) rfl
theorem wd_988 : Cond.code yX7_saysHole cX7_saysHole 5 none ∈ lw_g := in_g (List.mem_of_getElem? (i := 988) (by decide +kernel)) rfl
theorem wd_989 : Cond.methodLink RX7 234 yX7_heardIn ∈ lw_g := in_g (List.mem_of_getElem? (i := 989) (by decide +kernel)) rfl
theorem wd_991 : Cond.instanceMethod yX7_heardIn ∈ lw_g := in_g (List.mem_of_getElem? (i := 991) (by decide +kernel)) rfl
theorem wd_992 : Cond.code yX7_heardIn cX7_heardIn 4 (some .int) ∈ lw_g := in_g (List.mem_of_getElem? (i := 992) (by decide +kernel)) rfl
theorem wd_993 : Cond.methodLink RX7 228 yX7_isHeard ∈ lw_g := in_g (List.mem_of_getElem? (i := 993) (by decide +kernel)) rfl
theorem wd_995 : Cond.instanceMethod yX7_isHeard ∈ lw_g := in_g (List.mem_of_getElem? (i := 995) (by decide +kernel)) rfl
theorem wd_996 : Cond.code yX7_isHeard cX7_isHeard 4 (some .boolean) ∈ lw_g := in_g (List.mem_of_getElem? (i := 996) (by decide +kernel)) rfl
theorem wd_997 : Cond.methodLink RX7 231 yX7_says ∈ lw_g := in_g (List.mem_of_getElem? (i := 997) (by decide +kernel)) rfl
theorem wd_999 : Cond.instanceMethod yX7_says ∈ lw_g := in_g (List.mem_of_getElem? (i := 999) (by decide +kernel)) rfl
theorem wd_1000 : Cond.code yX7_says cX7_says 2 none ∈ lw_g := in_g (List.mem_of_getElem? (i := 1000) (by decide +kernel)) rfl
theorem wd_1001 : Cond.methodLink RX7 237 yX7_saysNote ∈ lw_g := in_g (List.mem_of_getElem? (i := 1001) (by decide +kernel)) rfl
theorem wd_1003 : Cond.instanceMethod yX7_saysNote ∈ lw_g := in_g (List.mem_of_getElem? (i := 1003) (by decide +kernel)) rfl
theorem wd_1004 : Cond.code yX7_saysNote cX7_saysNote 3 none ∈ lw_g := in_g (List.mem_of_getElem? (i := 1004) (by decide +kernel)) rfl
theorem wd_1005 : Cond.methodLink RL 91 yX7_octet ∈ lw_g := in_g (List.mem_of_getElem? (i := 1005) (by decide +kernel)) rfl
theorem wd_1006 : Cond.instanceMethod yX7_octet ∈ lw_g := in_g (List.mem_of_getElem? (i := 1006) (by decide +kernel)) rfl
theorem wd_1007 : Cond.selects RX7 yX7_octet yX7_octet ∈ lw_g := in_g (List.mem_of_getElem? (i := 1007) (by decide +kernel)) rfl
theorem wd_1008 : Cond.code yX7_octet cX7_octet 2 (some .int) ∈ lw_g := in_g (List.mem_of_getElem? (i := 1008) (by decide +kernel)) rfl
theorem wd_1009 : Cond.methodLink RL 99 yX7_look ∈ lw_g := in_g (List.mem_of_getElem? (i := 1009) (by decide +kernel)) rfl
theorem wd_1010 : Cond.instanceMethod yX7_look ∈ lw_g := in_g (List.mem_of_getElem? (i := 1010) (by decide +kernel)) rfl
theorem wd_1011 : Cond.selects RX7 yX7_look yX7_look ∈ lw_g := in_g (List.mem_of_getElem? (i := 1011) (by decide +kernel)) rfl
theorem wd_1012 : Cond.code yX7_look cX7_look 3 (some .int) ∈ lw_g := in_g (List.mem_of_getElem? (i := 1012) (by decide +kernel)) rfl
theorem wd_1013 : Cond.methodLink RX7 243 yX7_pinsOf ∈ lw_g := in_g (List.mem_of_getElem? (i := 1013) (by decide +kernel)) rfl
theorem wd_1015 : Cond.instanceMethod yX7_pinsOf ∈ lw_g := in_g (List.mem_of_getElem? (i := 1015) (by decide +kernel)) rfl
theorem wd_1016 : Cond.code yX7_pinsOf cX7_pinsOf 6 (some .int) ∈ lw_g := in_g (List.mem_of_getElem? (i := 1016) (by decide +kernel)) rfl
theorem wd_1017 : Cond.methodLink RL 103 yX7_told ∈ lw_g := in_g (List.mem_of_getElem? (i := 1017) (by decide +kernel)) rfl
theorem wd_1018 : Cond.instanceMethod yX7_told ∈ lw_g := in_g (List.mem_of_getElem? (i := 1018) (by decide +kernel)) rfl
theorem wd_1019 : Cond.selects RX7 yX7_told yX7_told ∈ lw_g := in_g (List.mem_of_getElem? (i := 1019) (by decide +kernel)) rfl
theorem wd_1020 : Cond.code yX7_told cX7_told 6 (some .int) ∈ lw_g := in_g (List.mem_of_getElem? (i := 1020) (by decide +kernel)) rfl
theorem wd_1021 : Cond.methodLink RL 107 yX7_count ∈ lw_g := in_g (List.mem_of_getElem? (i := 1021) (by decide +kernel)) rfl
theorem wd_1022 : Cond.instanceMethod yX7_count ∈ lw_g := in_g (List.mem_of_getElem? (i := 1022) (by decide +kernel)) rfl
theorem wd_1023 : Cond.selects RX7 yX7_count yX7_count ∈ lw_g := in_g (List.mem_of_getElem? (i := 1023) (by decide +kernel)) rfl
theorem wd_1024 : Cond.code yX7_count cX7_count 2 (some .int) ∈ lw_g := in_g (List.mem_of_getElem? (i := 1024) (by decide +kernel)) rfl
set_option maxRecDepth 100000 in
theorem iwX0 : ∀ w ∈ wsX00, w ∈ lw_g := by
  have h : (wsX00.all (fun w => decide (w ∈ lw_tbl) && goodWord w)) = true := by decide +kernel
  intro w hw
  have h1 := List.all_eq_true.mp h w hw
  simp only [Bool.and_eq_true, decide_eq_true_eq] at h1
  exact in_g h1.1 h1.2
theorem dfX0 (G : GX) (ad : Nat → Nat) (j : Nat) (hj : j < 6) : defaultValue (tyX0 j) = vp_V (([vn, vn, vi 0, vi 0, vi 0, vi 0] : List MV).map (em G ad)) j := by
  have e : ([vn, vn, vi 0, vi 0, vi 0, vi 0] : List MV).map (em G ad) = [.null, .null, .int 0, .int 0, .int 0, .int 0] := rfl
  rw [e]
  exact (by decide +kernel : ∀ j, j < 6 → defaultValue (tyX0 j) = vp_V [.null, .null, .int 0, .int 0, .int 0, .int 0] j) j hj
theorem okfX0 (n : Nat) (v : MV) (h : v ∈ ([vn, vn, vi 0, vi 0, vi 0, vi 0] : List MV)) : okV n v := (show ∀ v ∈ ([vn, vn, vi 0, vi 0, vi 0, vi 0] : List MV), okV n v from List.forall_mem_cons.mpr ⟨trivial, List.forall_mem_cons.mpr ⟨trivial, List.forall_mem_cons.mpr ⟨okI_0, List.forall_mem_cons.mpr ⟨okI_0, List.forall_mem_cons.mpr ⟨okI_0, List.forall_mem_cons.mpr ⟨okI_0, fun _ h => absurd h List.not_mem_nil⟩⟩⟩⟩⟩⟩) v h
set_option maxRecDepth 100000 in
theorem iwX1 : ∀ w ∈ wsX10, w ∈ lw_g := by
  have h : (wsX10.all (fun w => decide (w ∈ lw_tbl) && goodWord w)) = true := by decide +kernel
  intro w hw
  have h1 := List.all_eq_true.mp h w hw
  simp only [Bool.and_eq_true, decide_eq_true_eq] at h1
  exact in_g h1.1 h1.2
theorem dfX1 (G : GX) (ad : Nat → Nat) (j : Nat) (hj : j < 9) : defaultValue (tyX1 j) = vp_V (([vn, vn, vn, vn, vn, vn, vn, vi 0, vi 0] : List MV).map (em G ad)) j := by
  have e : ([vn, vn, vn, vn, vn, vn, vn, vi 0, vi 0] : List MV).map (em G ad) = [.null, .null, .null, .null, .null, .null, .null, .int 0, .int 0] := rfl
  rw [e]
  exact (by decide +kernel : ∀ j, j < 9 → defaultValue (tyX1 j) = vp_V [.null, .null, .null, .null, .null, .null, .null, .int 0, .int 0] j) j hj
theorem okfX1 (n : Nat) (v : MV) (h : v ∈ ([vn, vn, vn, vn, vn, vn, vn, vi 0, vi 0] : List MV)) : okV n v := (show ∀ v ∈ ([vn, vn, vn, vn, vn, vn, vn, vi 0, vi 0] : List MV), okV n v from List.forall_mem_cons.mpr ⟨trivial, List.forall_mem_cons.mpr ⟨trivial, List.forall_mem_cons.mpr ⟨trivial, List.forall_mem_cons.mpr ⟨trivial, List.forall_mem_cons.mpr ⟨trivial, List.forall_mem_cons.mpr ⟨trivial, List.forall_mem_cons.mpr ⟨trivial, List.forall_mem_cons.mpr ⟨okI_0, List.forall_mem_cons.mpr ⟨okI_0, fun _ h => absurd h List.not_mem_nil⟩⟩⟩⟩⟩⟩⟩⟩⟩) v h
set_option maxRecDepth 100000 in
theorem iwX2 : ∀ w ∈ wsX20, w ∈ lw_g := by
  have h : (wsX20.all (fun w => decide (w ∈ lw_tbl) && goodWord w)) = true := by decide +kernel
  intro w hw
  have h1 := List.all_eq_true.mp h w hw
  simp only [Bool.and_eq_true, decide_eq_true_eq] at h1
  exact in_g h1.1 h1.2
theorem dfX2 (G : GX) (ad : Nat → Nat) (j : Nat) (hj : j < 8) : defaultValue (tyX2 j) = vp_V (([vn, vi 0, vi 0, vn, vn, vn, vn, vn] : List MV).map (em G ad)) j := by
  have e : ([vn, vi 0, vi 0, vn, vn, vn, vn, vn] : List MV).map (em G ad) = [.null, .int 0, .int 0, .null, .null, .null, .null, .null] := rfl
  rw [e]
  exact (by decide +kernel : ∀ j, j < 8 → defaultValue (tyX2 j) = vp_V [.null, .int 0, .int 0, .null, .null, .null, .null, .null] j) j hj
theorem okfX2 (n : Nat) (v : MV) (h : v ∈ ([vn, vi 0, vi 0, vn, vn, vn, vn, vn] : List MV)) : okV n v := (show ∀ v ∈ ([vn, vi 0, vi 0, vn, vn, vn, vn, vn] : List MV), okV n v from List.forall_mem_cons.mpr ⟨trivial, List.forall_mem_cons.mpr ⟨okI_0, List.forall_mem_cons.mpr ⟨okI_0, List.forall_mem_cons.mpr ⟨trivial, List.forall_mem_cons.mpr ⟨trivial, List.forall_mem_cons.mpr ⟨trivial, List.forall_mem_cons.mpr ⟨trivial, List.forall_mem_cons.mpr ⟨trivial, fun _ h => absurd h List.not_mem_nil⟩⟩⟩⟩⟩⟩⟩⟩) v h
set_option maxRecDepth 100000 in
theorem iwX3 : ∀ w ∈ wsX30, w ∈ lw_g := by
  have h : (wsX30.all (fun w => decide (w ∈ lw_tbl) && goodWord w)) = true := by decide +kernel
  intro w hw
  have h1 := List.all_eq_true.mp h w hw
  simp only [Bool.and_eq_true, decide_eq_true_eq] at h1
  exact in_g h1.1 h1.2
theorem dfX3 (G : GX) (ad : Nat → Nat) (j : Nat) (hj : j < 7) : defaultValue (tyX3 j) = vp_V (([vn, vn, vn, vn, vn, vi 0, vi 0] : List MV).map (em G ad)) j := by
  have e : ([vn, vn, vn, vn, vn, vi 0, vi 0] : List MV).map (em G ad) = [.null, .null, .null, .null, .null, .int 0, .int 0] := rfl
  rw [e]
  exact (by decide +kernel : ∀ j, j < 7 → defaultValue (tyX3 j) = vp_V [.null, .null, .null, .null, .null, .int 0, .int 0] j) j hj
theorem okfX3 (n : Nat) (v : MV) (h : v ∈ ([vn, vn, vn, vn, vn, vi 0, vi 0] : List MV)) : okV n v := (show ∀ v ∈ ([vn, vn, vn, vn, vn, vi 0, vi 0] : List MV), okV n v from List.forall_mem_cons.mpr ⟨trivial, List.forall_mem_cons.mpr ⟨trivial, List.forall_mem_cons.mpr ⟨trivial, List.forall_mem_cons.mpr ⟨trivial, List.forall_mem_cons.mpr ⟨trivial, List.forall_mem_cons.mpr ⟨okI_0, List.forall_mem_cons.mpr ⟨okI_0, fun _ h => absurd h List.not_mem_nil⟩⟩⟩⟩⟩⟩⟩) v h
set_option maxRecDepth 100000 in
theorem iwX4 : ∀ w ∈ wsX40, w ∈ lw_g := by
  have h : (wsX40.all (fun w => decide (w ∈ lw_tbl) && goodWord w)) = true := by decide +kernel
  intro w hw
  have h1 := List.all_eq_true.mp h w hw
  simp only [Bool.and_eq_true, decide_eq_true_eq] at h1
  exact in_g h1.1 h1.2
theorem dfX4 (G : GX) (ad : Nat → Nat) (j : Nat) (hj : j < 2) : defaultValue (tyX4 j) = vp_V (([vn, vi 0] : List MV).map (em G ad)) j := by
  have e : ([vn, vi 0] : List MV).map (em G ad) = [.null, .int 0] := rfl
  rw [e]
  exact (by decide +kernel : ∀ j, j < 2 → defaultValue (tyX4 j) = vp_V [.null, .int 0] j) j hj
theorem okfX4 (n : Nat) (v : MV) (h : v ∈ ([vn, vi 0] : List MV)) : okV n v := (show ∀ v ∈ ([vn, vi 0] : List MV), okV n v from List.forall_mem_cons.mpr ⟨trivial, List.forall_mem_cons.mpr ⟨okI_0, fun _ h => absurd h List.not_mem_nil⟩⟩) v h
set_option maxRecDepth 100000 in
theorem iwX5 : ∀ w ∈ wsX50, w ∈ lw_g := by
  have h : (wsX50.all (fun w => decide (w ∈ lw_tbl) && goodWord w)) = true := by decide +kernel
  intro w hw
  have h1 := List.all_eq_true.mp h w hw
  simp only [Bool.and_eq_true, decide_eq_true_eq] at h1
  exact in_g h1.1 h1.2
theorem dfX5 (G : GX) (ad : Nat → Nat) (j : Nat) (hj : j < 8) : defaultValue (tyX5 j) = vp_V (([vn, vn, vn, vi 0, vi 0, vi 0, vi 0, vi 0] : List MV).map (em G ad)) j := by
  have e : ([vn, vn, vn, vi 0, vi 0, vi 0, vi 0, vi 0] : List MV).map (em G ad) = [.null, .null, .null, .int 0, .int 0, .int 0, .int 0, .int 0] := rfl
  rw [e]
  exact (by decide +kernel : ∀ j, j < 8 → defaultValue (tyX5 j) = vp_V [.null, .null, .null, .int 0, .int 0, .int 0, .int 0, .int 0] j) j hj
theorem okfX5 (n : Nat) (v : MV) (h : v ∈ ([vn, vn, vn, vi 0, vi 0, vi 0, vi 0, vi 0] : List MV)) : okV n v := (show ∀ v ∈ ([vn, vn, vn, vi 0, vi 0, vi 0, vi 0, vi 0] : List MV), okV n v from List.forall_mem_cons.mpr ⟨trivial, List.forall_mem_cons.mpr ⟨trivial, List.forall_mem_cons.mpr ⟨trivial, List.forall_mem_cons.mpr ⟨okI_0, List.forall_mem_cons.mpr ⟨okI_0, List.forall_mem_cons.mpr ⟨okI_0, List.forall_mem_cons.mpr ⟨okI_0, List.forall_mem_cons.mpr ⟨okI_0, fun _ h => absurd h List.not_mem_nil⟩⟩⟩⟩⟩⟩⟩⟩) v h
set_option maxRecDepth 100000 in
theorem iwX6 : ∀ w ∈ wsX60, w ∈ lw_g := by
  have h : (wsX60.all (fun w => decide (w ∈ lw_tbl) && goodWord w)) = true := by decide +kernel
  intro w hw
  have h1 := List.all_eq_true.mp h w hw
  simp only [Bool.and_eq_true, decide_eq_true_eq] at h1
  exact in_g h1.1 h1.2
theorem dfX6 (G : GX) (ad : Nat → Nat) (j : Nat) (hj : j < 10) : defaultValue (tyX6 j) = vp_V (([vn, vn, vn, vn, vn, vn, vn, vi 0, vi 0, vi 0] : List MV).map (em G ad)) j := by
  have e : ([vn, vn, vn, vn, vn, vn, vn, vi 0, vi 0, vi 0] : List MV).map (em G ad) = [.null, .null, .null, .null, .null, .null, .null, .int 0, .int 0, .int 0] := rfl
  rw [e]
  exact (by decide +kernel : ∀ j, j < 10 → defaultValue (tyX6 j) = vp_V [.null, .null, .null, .null, .null, .null, .null, .int 0, .int 0, .int 0] j) j hj
theorem okfX6 (n : Nat) (v : MV) (h : v ∈ ([vn, vn, vn, vn, vn, vn, vn, vi 0, vi 0, vi 0] : List MV)) : okV n v := (show ∀ v ∈ ([vn, vn, vn, vn, vn, vn, vn, vi 0, vi 0, vi 0] : List MV), okV n v from List.forall_mem_cons.mpr ⟨trivial, List.forall_mem_cons.mpr ⟨trivial, List.forall_mem_cons.mpr ⟨trivial, List.forall_mem_cons.mpr ⟨trivial, List.forall_mem_cons.mpr ⟨trivial, List.forall_mem_cons.mpr ⟨trivial, List.forall_mem_cons.mpr ⟨trivial, List.forall_mem_cons.mpr ⟨okI_0, List.forall_mem_cons.mpr ⟨okI_0, List.forall_mem_cons.mpr ⟨okI_0, fun _ h => absurd h List.not_mem_nil⟩⟩⟩⟩⟩⟩⟩⟩⟩⟩) v h
set_option maxRecDepth 100000 in
theorem iwX7 : ∀ w ∈ wsX70, w ∈ lw_g := by
  have h : (wsX70.all (fun w => decide (w ∈ lw_tbl) && goodWord w)) = true := by decide +kernel
  intro w hw
  have h1 := List.all_eq_true.mp h w hw
  simp only [Bool.and_eq_true, decide_eq_true_eq] at h1
  exact in_g h1.1 h1.2
theorem dfX7 (G : GX) (ad : Nat → Nat) (j : Nat) (hj : j < 40) : defaultValue (tyX7 j) = vp_V (([vi 0, vi 0, vi 0, vi 0, vi 0, vi 0, vi 0, vn, vn, vn, vn, vn, vn, vn, vn, vn, vi 0, vi 0, vi 0, vi 0, vi 0, vi 0, vi 0, vn, vn, vn, vn, vn, vn, vn, vn, vn, vn, vn, vn, vn, vi 0, vi 0, vn, vi 0] : List MV).map (em G ad)) j := by
  have e : ([vi 0, vi 0, vi 0, vi 0, vi 0, vi 0, vi 0, vn, vn, vn, vn, vn, vn, vn, vn, vn, vi 0, vi 0, vi 0, vi 0, vi 0, vi 0, vi 0, vn, vn, vn, vn, vn, vn, vn, vn, vn, vn, vn, vn, vn, vi 0, vi 0, vn, vi 0] : List MV).map (em G ad) = [.int 0, .int 0, .int 0, .int 0, .int 0, .int 0, .int 0, .null, .null, .null, .null, .null, .null, .null, .null, .null, .int 0, .int 0, .int 0, .int 0, .int 0, .int 0, .int 0, .null, .null, .null, .null, .null, .null, .null, .null, .null, .null, .null, .null, .null, .int 0, .int 0, .null, .int 0] := rfl
  rw [e]
  exact (by decide +kernel : ∀ j, j < 40 → defaultValue (tyX7 j) = vp_V [.int 0, .int 0, .int 0, .int 0, .int 0, .int 0, .int 0, .null, .null, .null, .null, .null, .null, .null, .null, .null, .int 0, .int 0, .int 0, .int 0, .int 0, .int 0, .int 0, .null, .null, .null, .null, .null, .null, .null, .null, .null, .null, .null, .null, .null, .int 0, .int 0, .null, .int 0] j) j hj
theorem okfX7 (n : Nat) (v : MV) (h : v ∈ ([vi 0, vi 0, vi 0, vi 0, vi 0, vi 0, vi 0, vn, vn, vn, vn, vn, vn, vn, vn, vn, vi 0, vi 0, vi 0, vi 0, vi 0, vi 0, vi 0, vn, vn, vn, vn, vn, vn, vn, vn, vn, vn, vn, vn, vn, vi 0, vi 0, vn, vi 0] : List MV)) : okV n v := (show ∀ v ∈ ([vi 0, vi 0, vi 0, vi 0, vi 0, vi 0, vi 0, vn, vn, vn, vn, vn, vn, vn, vn, vn, vi 0, vi 0, vi 0, vi 0, vi 0, vi 0, vi 0, vn, vn, vn, vn, vn, vn, vn, vn, vn, vn, vn, vn, vn, vi 0, vi 0, vn, vi 0] : List MV), okV n v from List.forall_mem_cons.mpr ⟨okI_0, List.forall_mem_cons.mpr ⟨okI_0, List.forall_mem_cons.mpr ⟨okI_0, List.forall_mem_cons.mpr ⟨okI_0, List.forall_mem_cons.mpr ⟨okI_0, List.forall_mem_cons.mpr ⟨okI_0, List.forall_mem_cons.mpr ⟨okI_0, List.forall_mem_cons.mpr ⟨trivial, List.forall_mem_cons.mpr ⟨trivial, List.forall_mem_cons.mpr ⟨trivial, List.forall_mem_cons.mpr ⟨trivial, List.forall_mem_cons.mpr ⟨trivial, List.forall_mem_cons.mpr ⟨trivial, List.forall_mem_cons.mpr ⟨trivial, List.forall_mem_cons.mpr ⟨trivial, List.forall_mem_cons.mpr ⟨trivial, List.forall_mem_cons.mpr ⟨okI_0, List.forall_mem_cons.mpr ⟨okI_0, List.forall_mem_cons.mpr ⟨okI_0, List.forall_mem_cons.mpr ⟨okI_0, List.forall_mem_cons.mpr ⟨okI_0, List.forall_mem_cons.mpr ⟨okI_0, List.forall_mem_cons.mpr ⟨okI_0, List.forall_mem_cons.mpr ⟨trivial, List.forall_mem_cons.mpr ⟨trivial, List.forall_mem_cons.mpr ⟨trivial, List.forall_mem_cons.mpr ⟨trivial, List.forall_mem_cons.mpr ⟨trivial, List.forall_mem_cons.mpr ⟨trivial, List.forall_mem_cons.mpr ⟨trivial, List.forall_mem_cons.mpr ⟨trivial, List.forall_mem_cons.mpr ⟨trivial, List.forall_mem_cons.mpr ⟨trivial, List.forall_mem_cons.mpr ⟨trivial, List.forall_mem_cons.mpr ⟨trivial, List.forall_mem_cons.mpr ⟨trivial, List.forall_mem_cons.mpr ⟨okI_0, List.forall_mem_cons.mpr ⟨okI_0, List.forall_mem_cons.mpr ⟨trivial, List.forall_mem_cons.mpr ⟨okI_0, fun _ h => absurd h List.not_mem_nil⟩⟩⟩⟩⟩⟩⟩⟩⟩⟩⟩⟩⟩⟩⟩⟩⟩⟩⟩⟩⟩⟩⟩⟩⟩⟩⟩⟩⟩⟩⟩⟩⟩⟩⟩⟩⟩⟩⟩⟩) v h
